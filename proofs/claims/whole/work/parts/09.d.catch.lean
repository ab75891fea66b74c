/-! into a handler: the search for it resolves the classes that the entries name -/
def FT (e : Env) (s : State) (f : JFrame) (a : Addr) (h : Handler) (vm' : Vm) : Prop :=
  ∀ (Q : Handler → Pre) (E : CtlPost) (d : Bool) (acts : List Action), wp (findHandler f a) Q E e d acts s ↔ Q h d acts (s.setVm vm')
section Fh
variable {Q : Handler → Pre} {E : CtlPost} {e : Env} {d : Bool} {acts : List Action} {s : State} {f : JFrame} {a : Addr} {x : ExceptionTableEntry} {t : List ExceptionTableEntry} {c : ClassId} {cell : Cell}
theorem fh_yes (hx : covers x f.pc = true) (h0 : x.catchType ≠ 0) (hl : s.vm.ClassLinks e.platform f.method.cls x.catchType c) (hcell : s.heap[a]? = some cell) (hobj : ∀ k, cell.vm ≠ .statics k)
    (hk : ∃ k, s.vm.classes[cell.cls]? = some k) (hc : ∃ k, s.vm.classes[c]? = some k) (hfit : s.vm.assignable cell.cls c = true) :
    wp (findHandler.go f a (x :: t)) Q E e d acts s ↔ Q (.found x.handlerPc) d acts (s.setVm (s.vm.noted f.method.cls x.catchType (.cls c))) := by
  simp only [covers] at hx
  obtain ⟨ha, hv⟩ := (resolveClass_links e.toSetting hl).op (op := VmOp.resolveClass f.method.cls x.catchType) rfl
  have hal : s.vm.Alike (s.vm.noted f.method.cls x.catchType (.cls c)) := (Vm.Alike.refl s.vm).noted _ _ _
  obtain ⟨k1, hk1⟩ := hk
  obtain ⟨k2, hk2⟩ := hc
  obtain ⟨k3, hk3, -⟩ := hal.2.2 _ _ hk1
  obtain ⟨k4, hk4, -⟩ := hal.2.2 _ _ hk2
  have hf : (s.vm.noted f.method.cls x.catchType (.cls c)).assignable cell.cls c = true := by rw [hal.assignable]; exact hfit
  simp [findHandler.go, hx, h0, ha, hv, hcell, hobj, hk3, hk4, hf, VmOp.dirties, VmOp.acts]
theorem fh_no (hx : covers x f.pc = true) (h0 : x.catchType ≠ 0) (hl : s.vm.ClassLinks e.platform f.method.cls x.catchType c) (hcell : s.heap[a]? = some cell) (hobj : ∀ k, cell.vm ≠ .statics k)
    (hk : ∃ k, s.vm.classes[cell.cls]? = some k) (hc : ∃ k, s.vm.classes[c]? = some k) (hno : s.vm.assignable cell.cls c = false) :
    wp (findHandler.go f a (x :: t)) Q E e d acts s ↔ wp (findHandler.go f a t) Q E e d acts (s.setVm (s.vm.noted f.method.cls x.catchType (.cls c))) := by
  simp only [covers] at hx
  obtain ⟨ha, hv⟩ := (resolveClass_links e.toSetting hl).op (op := VmOp.resolveClass f.method.cls x.catchType) rfl
  have hal : s.vm.Alike (s.vm.noted f.method.cls x.catchType (.cls c)) := (Vm.Alike.refl s.vm).noted _ _ _
  obtain ⟨k1, hk1⟩ := hk
  obtain ⟨k2, hk2⟩ := hc
  obtain ⟨k3, hk3, -⟩ := hal.2.2 _ _ hk1
  obtain ⟨k4, hk4, -⟩ := hal.2.2 _ _ hk2
  have hf : (s.vm.noted f.method.cls x.catchType (.cls c)).assignable cell.cls c = false := by rw [hal.assignable]; exact hno
  simp [findHandler.go, hx, h0, ha, hv, hcell, hobj, hk3, hk4, hf, VmOp.dirties, VmOp.acts]
end Fh
theorem caught_to {tb : Tables} {e : Env} {s target : State} {g : JFrame} {c : Code} {below : List Frame} {a : Addr} (h : At s g.method c below) {pc : Nat} {vm' : Vm}
    (hfind : FT e ((s.setTop g).pushFrame (.throwing a)) g a (.found pc) vm') (hrest : Steps tb e below ((s.setVm vm').setTop { g with pc := pc, stack := [.ref a] }) target) :
    Steps tb e below ((s.setTop g).pushFrame (.throwing a)) target := by
  have hstep : ∀ r : List Frame, (stepThrowing e ((s.setTop g).pushFrame (.throwing a)) a (.java g :: r)).1 = (((s.setTop g).pushFrame (.throwing a)).setVm vm').setFrames (.java { g with pc := pc, stack := [.ref a] } :: r) := by
    intro r
    simp only [stepThrowing, searchFrame, vmDo]
    generalize hr : Sem.go _ e false [] ((s.setTop g).pushFrame (.throwing a)) = res
    obtain ⟨as, rfl, ha⟩ := Sem.eq_ok_of hr (a := Handler.found pc) (s' := ((s.setTop g).pushFrame (.throwing a)).setVm vm') (acts' := []) (by simp [hfind _ _ _ _])
    rfl
  obtain ⟨hgo, hw⟩ := h.throwing a
  refine Steps.head hgo hw ?_
  rw [stepThread_throwing (frames_entered h.top _), hstep]
  obtain ⟨g0, hg⟩ := Option.isSome_iff_exists.mp h.top
  obtain ⟨r, hr⟩ := State.topJava?_eq_some.mp hg
  have hr2 : (s.setVm vm').frames = .java g0 :: r := hr
  have hss : ∀ (u : State) (F K : List Frame), ((u.setFrames F).setVm vm').setFrames K = (u.setVm vm').setFrames K := by
    intro u F K
    have h1 : (u.setFrames F).setVm vm' = (u.setVm vm').setFrames F := rfl
    rw [h1, State.setFrames_setFrames]
  rw [State.setTop_of_frames _ hr2] at hrest
  rw [hr, List.tail_cons, State.pushFrame, hss, State.setTop_of_frames _ hr, hss]
  exact hrest
section Cat
variable {p : Program} {l : Launch} {e : Env} {R : Room} {s : State} {m : MethodId} {args : Array Value} {below : List Frame} {meth : Method} {c : Code} {H H0 : Heap} {locs : List Loc} {cells slots : Nat} {Q : State → Prop}
  {G : GG} {ws : va_W} {A : Nat → Prop} {pc : Nat} {ls : Array Slot} {st0 rest : List Value} {own : String}
/-- what the row behind a catch is given -/
def KK (p : Program) (l : Launch) (e : Env) (R : Room) (s : State) (m : MethodId) (args : Array Value) (below : List Frame) (meth : Method) (c : Code) (H0 : Heap) (cells slots : Nat) (Q : State → Prop) (G : GG) (ws : va_W) (A : Nat → Prop) (ls : Array Slot) (hpc : Nat) : Prop :=
  ∀ (v : Nat) (H1 : Heap) (locs1 : List Loc), va_P G.1 classes ws H1 → va_D A ws → va_S A H0 H1 locs1 → W p l e R s m args below meth c H1 locs1 (cells + 1) (slots + 6) Q (F0 m hpc ls [.ref v])
theorem cat_pre {X : String} {a : Array Value} (hr : RunT p l e R s m args below meth c H locs cells slots 1 6 (F0 m pc ls st0) rest (QT G ws X (va_A ws H.size) a) (va_A ws H.size)) (hD : va_D A ws) (hS : va_S A H0 H locs) (hA : ∀ q, H0.size ≤ q → A q) {hpc : Nat}
    (hfind : ∀ (T : State) (locs2 : List Loc) (v : Addr) (cell : Cell), Stand p l e R s m args below meth c T locs2 (cells + 1) (slots + 6) → T.heap[v]? = some cell → cell.vm.isStatics = false → s.vm.findClass X = some cell.cls → ∃ vm', s.WarmedH vm' ∧ FT e ((T.setTop (F0 m pc ls rest)).pushFrame (.throwing v)) (F0 m pc ls rest) v (.found hpc) vm')
    (kk : KK p l e R s m args below meth c H0 cells slots Q G ws A ls hpc) : W p l e R s m args below meth c H locs cells slots Q (F0 m pc ls st0) := by
  have hF := own_free hD hS hA
  intro T0 hT X0
  obtain ⟨v, st₀, t, T', L, h0, X', hL, e1, e2, ⟨a1, ha1, ⟨cell, hc1, hc2, hc3⟩, hP1, hK1, hD1, hF1, hF2⟩, st⟩ := hr T0 hT X0
  cases ha1
  rw [h0] at hF1 hF2
  obtain ⟨vm', hW', hft⟩ := hfind T' _ v cell X' (by rw [e1]; exact hc1) hc2 (by rw [← X'.warmed.alike.findClass, e2]; exact hc3)
  have X2 := X'.noted hW'
  obtain ⟨t2, s2, q2⟩ := kk v T'.heap (locs ++ L) (by rw [e1]; exact hP1) hD ⟨Nat.le_trans hS.1 (by rw [e1]; exact hF1), fun q h1 h2 => by rw [e1, hF2 q (Nat.lt_of_lt_of_le h1 hS.1) (fun z => h2 (hF q z))]; exact hS.2.1 q h1 h2, fun q hq => by
      rcases List.mem_append.mp hq with h | h
      · exact hS.2.2 q h
      · exact hF _ (hL q h)⟩ (T'.setVm vm') rfl X2
  exact ⟨t2, st.trans (caught_to X'.here hft s2), q2⟩
/-- the first entry takes it -/
theorem cat_1 {X : String} {a : Array Value} (hr : RunT p l e R s m args below meth c H locs cells slots 1 6 (F0 m pc ls st0) rest (QT G ws X (va_A ws H.size) a) (va_A ws H.size)) (hD : va_D A ws) (hS : va_S A H0 H locs) (hA : ∀ q, H0.size ≤ q → A q) (hown : s.vm.findClass own = some m.cls)
    {x : ExceptionTableEntry} {t : List ExceptionTableEntry} (htb : c.exceptionTable.toList = x :: t) (hx : covers x pc = true) (h0 : x.catchType ≠ 0) (hlink : (Cond.classLink own x.catchType X).before args s = true) (hself : ∀ c1, s.vm.findClass X = some c1 → s.vm.assignable c1 c1 = true)
    (kk : KK p l e R s m args below meth c H0 cells slots Q G ws A ls x.handlerPc) : W p l e R s m args below meth c H locs cells slots Q (F0 m pc ls st0) := by
  refine cat_pre hr hD hS hA (fun T locs2 v cell X1 hcell hobj hfc => ?_) kk
  have hpl : e.platform.magicAccessors = ({} : Platform).magicAccessors := by rw [X1.admits.platform]
  obtain ⟨c', hc', hcl⟩ := Cond.classLink_spec hown hlink e.platform hpl
  cases hfc.symm.trans hc'
  obtain ⟨dk, _, _, kt, hd, _, _, _, _, hkt, _, hopen⟩ := hcl.here
  have hW' : s.WarmedH (T.vm.noted m.cls x.catchType (.cls cell.cls)) := X1.warmed.noted hd hopen (State.rightAt_cls hcl)
  obtain ⟨kt', hkt', -⟩ := X1.warmed.alike.2.2 _ _ hkt
  refine ⟨_, hW', fun Q E d acts => ?_⟩
  rw [W.findHandler_eq (meth := meth) (code := c) X1.method' X1.code, htb]
  exact fh_yes (s := (T.setTop (F0 m pc ls rest)).pushFrame (.throwing v)) hx h0 (X1.warmed.classLinks hcl) hcell (VmData.ne_statics_of hobj) ⟨kt', hkt'⟩ ⟨kt', hkt'⟩ (by show T.vm.assignable _ _ = true; rw [X1.warmed.alike.assignable]; exact hself _ hfc)
/-- the first entry doesn't, the second does -/
theorem cat_2 {X Y : String} {a : Array Value} (hr : RunT p l e R s m args below meth c H locs cells slots 1 6 (F0 m pc ls st0) rest (QT G ws X (va_A ws H.size) a) (va_A ws H.size)) (hD : va_D A ws) (hS : va_S A H0 H locs) (hA : ∀ q, H0.size ≤ q → A q) (hown : s.vm.findClass own = some m.cls)
    {x x2 : ExceptionTableEntry} {t : List ExceptionTableEntry} (htb : c.exceptionTable.toList = x :: x2 :: t) (hx : covers x pc = true) (h0 : x.catchType ≠ 0) (hlink : (Cond.classLink own x.catchType Y).before args s = true) (hx2 : covers x2 pc = true) (h02 : x2.catchType ≠ 0) (hlink2 : (Cond.classLink own x2.catchType X).before args s = true)
    (hself : ∀ c1, s.vm.findClass X = some c1 → s.vm.assignable c1 c1 = true) (hother : ∀ c1 c2, s.vm.findClass X = some c1 → s.vm.findClass Y = some c2 → s.vm.assignable c1 c2 = false)
    (kk : KK p l e R s m args below meth c H0 cells slots Q G ws A ls x2.handlerPc) : W p l e R s m args below meth c H locs cells slots Q (F0 m pc ls st0) := by
  refine cat_pre hr hD hS hA (fun T locs2 v cell X1 hcell hobj hfc => ?_) kk
  have hpl : e.platform.magicAccessors = ({} : Platform).magicAccessors := by rw [X1.admits.platform]
  obtain ⟨cy, hcy, hcly⟩ := Cond.classLink_spec hown hlink e.platform hpl
  obtain ⟨c', hc', hcl⟩ := Cond.classLink_spec hown hlink2 e.platform hpl
  cases hfc.symm.trans hc'
  obtain ⟨dky, _, _, kty, hdy, _, _, _, _, hkty, _, hopeny⟩ := hcly.here
  obtain ⟨dk, _, _, kt, hd, _, _, _, _, hkt, _, hopen⟩ := hcl.here
  have hW1 : s.WarmedH (T.vm.noted m.cls x.catchType (.cls cy)) := X1.warmed.noted hdy hopeny (State.rightAt_cls hcly)
  have hW2 : s.WarmedH ((T.vm.noted m.cls x.catchType (.cls cy)).noted m.cls x2.catchType (.cls cell.cls)) := hW1.noted hd hopen (State.rightAt_cls hcl)
  obtain ⟨kt', hkt', -⟩ := X1.warmed.alike.2.2 _ _ hkt
  obtain ⟨kty', hkty', -⟩ := X1.warmed.alike.2.2 _ _ hkty
  obtain ⟨kt2, hkt2, -⟩ := hW1.alike.2.2 _ _ hkt
  refine ⟨_, hW2, fun Q E d acts => ?_⟩
  rw [W.findHandler_eq (meth := meth) (code := c) X1.method' X1.code, htb]
  rw [fh_no (s := (T.setTop (F0 m pc ls rest)).pushFrame (.throwing v)) hx h0 (X1.warmed.classLinks hcly) hcell (VmData.ne_statics_of hobj) ⟨kt', hkt'⟩ ⟨kty', hkty'⟩ (by show T.vm.assignable _ _ = false; rw [X1.warmed.alike.assignable]; exact hother _ _ hfc hcy)]
  exact fh_yes (s := ((T.setTop (F0 m pc ls rest)).pushFrame (.throwing v)).setVm (T.vm.noted m.cls x.catchType (.cls cy))) hx2 h02 (hW1.classLinks hcl) hcell (VmData.ne_statics_of hobj) ⟨kt2, hkt2⟩ ⟨kt2, hkt2⟩ (by show (T.vm.noted m.cls x.catchType (.cls cy)).assignable _ _ = true; rw [hW1.alike.assignable]; exact hself _ hfc)
end Cat
