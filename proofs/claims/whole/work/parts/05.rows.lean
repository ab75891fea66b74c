/-! rows of this work's own, over the kit's: one list of words for all methods; contracts whose world stays one list of cells; calls and returns in that form -/
def lw_ws (y : MethodName) (b : ByteArray) (n : Nat) (r : Option FieldType) : List Cond := Cond.code y b n r :: lw_g
theorem lw_gi {y : MethodName} {b : ByteArray} {n : Nat} {r : Option FieldType} (h : Cond.code y b n r ∈ lw_g) : GoodIn lw_g (lw_ws y b n r) := by
  intro w hw
  have hm : w ∈ lw_g := by
    rcases List.mem_cons.mp hw with h1 | h1
    · rw [h1]; exact h
    · exact h1
  exact ⟨hm, good_of_word (lw_g_good w hm)⟩
abbrev GG : Type := va_G × (Nat → ClassId)
abbrev tysG (G : GG) : List (ClassId × FieldType) := [(G.2 0, .int), (G.2 1, .boolean), (G.2 2, .byte), (G.2 3, .long)]
def Wp (G : GG) (ws : va_W) (sz : Nat) : State → Prop := fun U => U.heap.size = sz ∧ va_P G.1 classes ws U.heap ∧ va_K G.1 classes (tysG G) U ∧ va_D (fun _ => True) ws
def Wb (G : GG) (A : Nat → Prop) {S : Type} (w1 : S → va_W) : S → State → Prop := fun u t => va_P G.1 classes (w1 u) t.heap ∧ va_K G.1 classes (tysG G) t ∧ va_D A (w1 u)
theorem Wp_blind {G : GG} {ws : va_W} {sz : Nat} {av : List Value} : FrameBlind (va_Pc av (Wp G ws sz)) := by
  intro a U g mk q
  obtain ⟨q0, q1, qP, qK, qD⟩ := q
  exact ⟨q0, q1, qP, va_K.moved (u := U) (U := U.calling g mk a) (Vm.Alike.refl U.vm) qK, qD⟩
def isB (v : Int32) : Prop := narrow .boolean (.int v) = .int v
theorem isB_0 : isB 0 := rfl
theorem isB_1 : isB 1 := rfl
/-! contracts: int (and boolean), long, void -/
def CtI (l : Launch) (y : MethodName) (b : ByteArray) (maxL : Nat) (ret : Option FieldType) (rm : Room) (G : GG) (ws : va_W) (sz : Nat) (av : List Value) {S : Type} (post : Int32 → S → Prop) (w1 : S → va_W) : Prop :=
  Met l y (lw_ws y b maxL ret) rm (va_Pc av (Wp G ws sz)) (va_Qi post (Wb G (va_A ws sz) w1) (va_A ws sz)) 0 0 (va_A ws sz)
def CtL (l : Launch) (y : MethodName) (b : ByteArray) (maxL : Nat) (ret : Option FieldType) (rm : Room) (G : GG) (ws : va_W) (sz : Nat) (av : List Value) {S : Type} (post : Int64 → S → Prop) (w1 : S → va_W) : Prop :=
  Met l y (lw_ws y b maxL ret) rm (va_Pc av (Wp G ws sz)) (va_Ql post (Wb G (va_A ws sz) w1) (va_A ws sz)) 0 0 (va_A ws sz)
def CtV (l : Launch) (y : MethodName) (b : ByteArray) (maxL : Nat) (ret : Option FieldType) (rm : Room) (G : GG) (ws : va_W) (sz : Nat) (av : List Value) {S : Type} (post : S → Prop) (w1 : S → va_W) : Prop :=
  Met l y (lw_ws y b maxL ret) rm (va_Pc av (Wp G ws sz)) (va_Qv post (Wb G (va_A ws sz) w1) (va_A ws sz)) 0 0 (va_A ws sz)
section Start
variable {l : Launch} {y : MethodName} {b : ByteArray} {maxL : Nat} {ret : Option FieldType} {rm : Room} {G : GG} {ws : va_W} {sz : Nat} {av : List Value}
/-- a method's start, in the words of the walk -/
def Body (l : Launch) (y : MethodName) (b : ByteArray) (maxL : Nat) (ret : Option FieldType) (rm : Room) (G : GG) (ws : va_W) (av : List Value) (Qc : (Nat → Prop) → Array Value → State → Outcome → State → Prop) : Prop :=
  ∀ (p : Program) (e : Env) (s : State) (m : MethodId) (below : List Frame) (meth : Method) (c : Code), l.admits e → p.tables.exec = Jvm.exec → c.code = b → meth.sig.returnType = ret → c.maxLocals = maxL → s.vm.findClass y.cls = some m.cls → meth.locks = false →
    (∀ w ∈ lw_g, w.before av.toArray s = true) → va_K G.1 classes (tysG G) s → ∀ A : Nat → Prop, (∀ q, s.heap.size ≤ q → A q) → va_P G.1 classes ws s.heap → va_D A ws → va_S A s.heap s.heap [] →
    ∀ ls : Array Slot, lv_has ls maxL (lv_args 0 av) → W p l e rm s m av.toArray below meth c s.heap [] 0 0 (MQ below (Qc A) av.toArray s 0 0 A) (F0 m 0 ls [])
theorem Met_of (hy : plainName y.cls = true) (hlen : (lg_sl av).length ≤ maxL) {Qc : (Nat → Prop) → Array Value → State → Outcome → State → Prop} (body : Body l y b maxL ret rm G ws av Qc) :
    Met l y (lw_ws y b maxL ret) rm (va_Pc av (Wp G ws sz)) (Qc (va_A ws sz)) 0 0 (va_A ws sz) := by
  refine Met.ofW (cc := b) (maxL := maxL) (ret := ret) hy rfl ?_
  intro p e s m args below meth c s₁ B hml hv
  obtain ⟨rfl, hsz, hP, hK, hD0⟩ := hv
  have hts := atoms_spec (ws := lw_ws y b maxL ret) B.pre
  subst hsz
  rw [lg_entry_eq]
  exact body p e s m below meth c B.admits B.exec B.bytes B.returns hml (findClass_of_methodNamed B.named) B.notSynchronized (fun w h => hts w (List.mem_cons_of_mem _ h)) hK (va_A ws s.heap.size) (fun q h => Or.inr h) hP hD0.self va_S.rf _ (lv_entry av hlen)
end Start
section Calls
variable {p : Program} {l : Launch} {e : Env} {R : Room} {s : State} {m : MethodId} {args : Array Value} {below : List Frame} {meth : Method} {c : Code} {H H0 : Heap} {locs : List Loc} {cells slots : Nat} {Q : State → Prop}
  {G : GG} {ws : va_W} {A : Nat → Prop} {pc : Nat} {ls : Array Slot} {st0 rest : List Value} {cc bytes : ByteArray} {nL maxL index n : Nat} {own C : String} {y : MethodName} {ret : Option FieldType} {rm : Room} {b ci q0 N : Nat} {T : u_T} {fs As : List Value} {S : Type}
theorem own_free (hD : va_D A ws) (hS : va_S A H0 H locs) (hA : ∀ q, H0.size ≤ q → A q) : ∀ q, va_A ws H.size q → A q := by
  intro q h
  rcases h with ⟨k, e, h⟩ | h
  · exact hD.2 k (q, e) h
  · exact hA q (Nat.le_trans hS.1 h)
theorem cw_V (ht : ∀ w ∈ lw_g, w.before args s = true) (hl : Cond.methodLink own index y ∈ lw_g) (hi : Cond.instanceMethod y ∈ lw_g) (hsel : Cond.selects y.cls y y ∈ lw_g) (hini : Cond.initialized y.cls ∈ lw_g) (hc : Cond.code y bytes maxL ret ∈ lw_g)
    (hd : y.cls ≠ "java/lang/invoke/MethodHandle" ∧ y.cls ≠ "java/lang/invoke/VarHandle" ∧ (parseMethodDescriptor y.desc).map (fun d => d.parameters.length) = some n) (hR : rm.frames + 1 ≤ R.frames ∧ 8 + (maxL + 11) + rm.locals ≤ R.locals) {mc ms : Nat} (hrc : rm.cells = mc) (hrs : rm.slots = ms) :
    CallW R s args own y.cls index y bytes maxL ret (lw_ws y bytes maxL ret) rm mc ms n := ⟨callB_of n ht (lw_gi hc) rfl hrc hrs (ht _ hini) (ht _ hl) hd hR, ht _ hi, ht _ hsel⟩
theorem cw_S (ht : ∀ w ∈ lw_g, w.before args s = true) (hl : Cond.methodLink own index y ∈ lw_g) (hi : Cond.static y ∈ lw_g) (hini : Cond.initialized y.cls ∈ lw_g) (hc : Cond.code y bytes maxL ret ∈ lw_g)
    (hd : y.cls ≠ "java/lang/invoke/MethodHandle" ∧ y.cls ≠ "java/lang/invoke/VarHandle" ∧ (parseMethodDescriptor y.desc).map (fun d => d.parameters.length) = some n) (hR : rm.frames + 1 ≤ R.frames ∧ 8 + (maxL + 11) + rm.locals ≤ R.locals) {mc ms : Nat} (hrc : rm.cells = mc) (hrs : rm.slots = ms) :
    CallB R s args own index y bytes maxL ret (lw_ws y bytes maxL ret) rm mc ms n ∧ (Cond.static y).before args s = true := ⟨callB_of n ht (lw_gi hc) rfl hrc hrs (ht _ hini) (ht _ hl) hd hR, ht _ hi⟩
theorem run_V {Qc : Array Value → State → Outcome → State → Prop} {free : Addr → Prop} {mc ms : Nat} (hx : p.tables.exec = Jvm.exec) (hb : c.code = cc) (hml : c.maxLocals = nL) (hown : s.vm.findClass own = some m.cls) (ht : ∀ w ∈ lw_g, w.before args s = true) (hK : va_K G.1 classes (tysG G) s) (hP : va_P G.1 classes ws H) (hD : va_D A ws)
    (hM : Met l y (lw_ws y bytes maxL ret) rm (va_Pc (.ref b :: As) (Wp G ws H.size)) Qc mc ms free) (cw : CallW R s args own y.cls index y bytes maxL ret (lw_ws y bytes maxL ret) rm mc ms n) (he : ws[q0]? = some (b, .inr (ci, fs))) (hc : classes[ci]? = some (y.cls, T, N))
    (hn : As.length = n) (hsize : ls.size = nL) (hstack : st0 = As.reverse ++ .ref b :: rest) (hW : (rest.map fun v => v.category).sum ≤ 8) (hdg : decode cc pc = .ok (.invokevirtual index, 3)) (hf : cells + mc ≤ R.cells ∧ slots + ms ≤ R.slots) :
    va_Run p l e R s m args below meth c H locs cells slots mc ms (F0 m pc ls st0) rest (Qc (Value.ref b :: As).toArray) free :=
  va_runV ⟨hx, hb, hml, hown, ht⟩ hM cw ⟨Wp_blind, va_recv hK hP hc he, fun U hU hW => ⟨rfl, by rw [hU], by rw [hU]; exact hP, va_K.moved hW.alike hK, hD.weaken (fun _ _ _ _ => trivial)⟩⟩ rfl hn hsize hstack (lv_room hW) hdg hf
theorem run_S {Qc : Array Value → State → Outcome → State → Prop} {free : Addr → Prop} {mc ms : Nat} (hx : p.tables.exec = Jvm.exec) (hb : c.code = cc) (hml : c.maxLocals = nL) (hown : s.vm.findClass own = some m.cls) (ht : ∀ w ∈ lw_g, w.before args s = true) (hK : va_K G.1 classes (tysG G) s) (hP : va_P G.1 classes ws H) (hD : va_D A ws)
    (hM : Met l y (lw_ws y bytes maxL ret) rm (va_Pc As (Wp G ws H.size)) Qc mc ms free) (cw : CallB R s args own index y bytes maxL ret (lw_ws y bytes maxL ret) rm mc ms n ∧ (Cond.static y).before args s = true)
    (hn : As.length = n) (hsize : ls.size = nL) (hstack : st0 = As.reverse ++ rest) (hW : (rest.map fun v => v.category).sum ≤ 8) (hdg : decode cc pc = .ok (.invokestatic index, 3)) (hf : cells + mc ≤ R.cells ∧ slots + ms ≤ R.slots) :
    va_Run p l e R s m args below meth c H locs cells slots mc ms (F0 m pc ls st0) rest (Qc As.toArray) free :=
  va_runS ⟨hx, hb, hml, hown, ht⟩ hM cw ⟨Wp_blind, fun U hU hW => ⟨rfl, by rw [hU], by rw [hU]; exact hP, va_K.moved hW.alike hK, hD.weaken (fun _ _ _ _ => trivial)⟩⟩ rfl hn hsize hstack (lv_room hW) hdg hf
theorem go_i {post : Int32 → S → Prop} {w1 : S → va_W} {a : Array Value} (hr : va_Run p l e R s m args below meth c H locs cells slots 0 0 (F0 m pc ls st0) rest (va_Qi post (Wb G (va_A ws H.size) w1) (va_A ws H.size) a) (va_A ws H.size)) (hD : va_D A ws) (hS : va_S A H0 H locs) (hA : ∀ q, H0.size ≤ q → A q)
    (kk : ∀ (r : Int32) (u : S) (H1 : Heap) (locs1 : List Loc), post r u → va_P G.1 classes (w1 u) H1 → va_D A (w1 u) → va_S A H0 H1 locs1 → W p l e R s m args below meth c H1 locs1 cells slots Q (F0 m (pc + 3) ls (.int r :: rest))) : W p l e R s m args below meth c H locs cells slots Q (F0 m pc ls st0) := by
  have hF := own_free hD hS hA
  refine va_calli hr hS (fun q _ h => hF q h) hF (fun r u t H1 locs1 ht hvm hw hB hz hk hS1 => ?_)
  obtain ⟨hP1, hK1, hD1⟩ := hB
  rw [ht] at hP1
  exact kk r u H1 locs1 hw hP1 (hD1.weaken (fun k q _ h => hF q.1 h)) hS1
theorem go_l {post : Int64 → S → Prop} {w1 : S → va_W} {a : Array Value} (hr : va_Run p l e R s m args below meth c H locs cells slots 0 0 (F0 m pc ls st0) rest (va_Ql post (Wb G (va_A ws H.size) w1) (va_A ws H.size) a) (va_A ws H.size)) (hD : va_D A ws) (hS : va_S A H0 H locs) (hA : ∀ q, H0.size ≤ q → A q)
    (kk : ∀ (r : Int64) (u : S) (H1 : Heap) (locs1 : List Loc), post r u → va_P G.1 classes (w1 u) H1 → va_D A (w1 u) → va_S A H0 H1 locs1 → W p l e R s m args below meth c H1 locs1 cells slots Q (F0 m (pc + 3) ls (.long r :: rest))) : W p l e R s m args below meth c H locs cells slots Q (F0 m pc ls st0) := by
  have hF := own_free hD hS hA
  refine va_calll hr hS (fun q _ h => hF q h) hF (fun r u t H1 locs1 ht hvm hw hB hz hk hS1 => ?_)
  obtain ⟨hP1, hK1, hD1⟩ := hB
  rw [ht] at hP1
  exact kk r u H1 locs1 hw hP1 (hD1.weaken (fun k q _ h => hF q.1 h)) hS1
theorem go_v {post : S → Prop} {w1 : S → va_W} {a : Array Value} (hr : va_Run p l e R s m args below meth c H locs cells slots 0 0 (F0 m pc ls st0) rest (va_Qv post (Wb G (va_A ws H.size) w1) (va_A ws H.size) a) (va_A ws H.size)) (hD : va_D A ws) (hS : va_S A H0 H locs) (hA : ∀ q, H0.size ≤ q → A q)
    (kk : ∀ (u : S) (H1 : Heap) (locs1 : List Loc), post u → va_P G.1 classes (w1 u) H1 → va_D A (w1 u) → va_S A H0 H1 locs1 → W p l e R s m args below meth c H1 locs1 cells slots Q (F0 m (pc + 3) ls rest)) : W p l e R s m args below meth c H locs cells slots Q (F0 m pc ls st0) := by
  have hF := own_free hD hS hA
  refine va_callv hr hS (fun q _ h => hF q h) hF (fun u t H1 locs1 ht hvm hw hB hz hk hS1 => ?_)
  obtain ⟨hP1, hK1, hD1⟩ := hB
  rw [ht] at hP1
  exact kk u H1 locs1 hw hP1 (hD1.weaken (fun k q _ h => hF q.1 h)) hS1
theorem en_i {post : Int32 → S → Prop} {w1 : S → va_W} {v : Int32} (u : S) (hx : p.tables.exec = Jvm.exec) (hb : c.code = cc) (hr : meth.sig.returnType = some .int) (hlocks : meth.locks = false) (hK : va_K G.1 classes (tysG G) s) (hP : va_P G.1 classes (w1 u) H) (hD : va_D A (w1 u)) (hS : va_S A s.heap H locs) (hp : post v u) (hdg : decode cc pc = .ok (.ireturn, 1)) :
    W p l e R s m args below meth c H locs cells slots (MQ below (va_Qi post (Wb G A w1) A) args s cells slots A) (F0 m pc ls [.int v]) :=
  W.iret hx hb hr (fun t ht hW => ⟨⟨v, u, rfl, hp, by rw [ht]; exact hP, va_K.moved hW.alike hK, hD⟩, hS.F ht⟩) hS.2.2 hdg hlocks
theorem en_z {post : Int32 → S → Prop} {w1 : S → va_W} {v : Int32} (u : S) (hx : p.tables.exec = Jvm.exec) (hb : c.code = cc) (hr : meth.sig.returnType = some .boolean) (hlocks : meth.locks = false) (hK : va_K G.1 classes (tysG G) s) (hP : va_P G.1 classes (w1 u) H) (hD : va_D A (w1 u)) (hS : va_S A s.heap H locs) (hp : post v u) (hz : isB v) (hdg : decode cc pc = .ok (.ireturn, 1)) :
    W p l e R s m args below meth c H locs cells slots (MQ below (va_Qi post (Wb G A w1) A) args s cells slots A) (F0 m pc ls [.int v]) :=
  W.zret hx hb hr hz (fun t ht hW => ⟨⟨v, u, rfl, hp, by rw [ht]; exact hP, va_K.moved hW.alike hK, hD⟩, hS.F ht⟩) hS.2.2 hdg hlocks
theorem en_l {post : Int64 → S → Prop} {w1 : S → va_W} {v : Int64} (u : S) (hx : p.tables.exec = Jvm.exec) (hb : c.code = cc) (hr : meth.sig.returnType = some .long) (hlocks : meth.locks = false) (hK : va_K G.1 classes (tysG G) s) (hP : va_P G.1 classes (w1 u) H) (hD : va_D A (w1 u)) (hS : va_S A s.heap H locs) (hp : post v u) (hdg : decode cc pc = .ok (.lreturn, 1)) :
    W p l e R s m args below meth c H locs cells slots (MQ below (va_Ql post (Wb G A w1) A) args s cells slots A) (F0 m pc ls [.long v]) :=
  W.lret hx hb hr (fun t ht hW => ⟨⟨v, u, rfl, hp, by rw [ht]; exact hP, va_K.moved hW.alike hK, hD⟩, hS.F ht⟩) hS.2.2 hdg hlocks
theorem en_v {post : S → Prop} {w1 : S → va_W} (u : S) (hx : p.tables.exec = Jvm.exec) (hb : c.code = cc) (hr : meth.sig.returnType = none) (hlocks : meth.locks = false) (hK : va_K G.1 classes (tysG G) s) (hP : va_P G.1 classes (w1 u) H) (hD : va_D A (w1 u)) (hS : va_S A s.heap H locs) (hp : post u) (hdg : decode cc pc = .ok (.return_, 1)) :
    W p l e R s m args below meth c H locs cells slots (MQ below (va_Qv post (Wb G A w1) A) args s cells slots A) (F0 m pc ls []) :=
  W.vret hx hb hr (fun t ht hW => ⟨⟨u, rfl, hp, by rw [ht]; exact hP, va_K.moved hW.alike hK, hD⟩, hS.F ht⟩) hS.2.2 hdg hlocks
end Calls
