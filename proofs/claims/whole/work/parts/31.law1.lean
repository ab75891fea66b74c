/-! worlds side by side; methods with handlers; calls over a part of the world -/
section Side
variable {D : va_G} {cl : List vw_C} {A : Nat → Prop} {wc wr w1 : va_W} {H H1 : Heap}
theorem P_left (hP : va_P D cl (wc ++ wr) H) : va_P D cl wc H := fun k q h => hP k q (by rw [List.getElem?_append_left (List.getElem?_eq_some_iff.mp h).1]; exact h)
theorem P_right (hP : va_P D cl (wc ++ wr) H) : va_P D cl wr H := fun k q h => hP (wc.length + k) q (by rw [List.getElem?_append_right (Nat.le_add_right _ _), Nat.add_sub_cancel_left]; exact h)
theorem D_left (hD : va_D A (wc ++ wr)) : va_D A wc := ⟨fun i j p q h1 h2 e => hD.1 i j p q (by rw [List.getElem?_append_left (List.getElem?_eq_some_iff.mp h1).1]; exact h1) (by rw [List.getElem?_append_left (List.getElem?_eq_some_iff.mp h2).1]; exact h2) e, fun k q h => hD.2 k q (by rw [List.getElem?_append_left (List.getElem?_eq_some_iff.mp h).1]; exact h)⟩
theorem D_right (hD : va_D A (wc ++ wr)) : va_D A wr := ⟨fun i j p q h1 h2 e => by
    have := hD.1 (wc.length + i) (wc.length + j) p q (by rw [List.getElem?_append_right (Nat.le_add_right _ _), Nat.add_sub_cancel_left]; exact h1) (by rw [List.getElem?_append_right (Nat.le_add_right _ _), Nat.add_sub_cancel_left]; exact h2) e
    omega, fun k q h => hD.2 (wc.length + k) q (by rw [List.getElem?_append_right (Nat.le_add_right _ _), Nat.add_sub_cancel_left]; exact h)⟩
theorem D_apart (hD : va_D A (wc ++ wr)) : ∀ (i j : Nat) (p q : Nat × va_E), wc[i]? = some p → wr[j]? = some q → p.1 ≠ q.1 := fun i j p q h1 h2 e => by
  have hi := (List.getElem?_eq_some_iff.mp h1).1
  have := hD.1 i (wc.length + j) p q (by rw [List.getElem?_append_left hi]; exact h1) (by rw [List.getElem?_append_right (Nat.le_add_right _ _), Nat.add_sub_cancel_left]; exact h2) e
  omega
theorem P_swap (hP : va_P D cl (wc ++ wr) H) : va_P D cl (wr ++ wc) H := (P_right hP).app (P_left hP)
theorem D_swap (hD : va_D A (wc ++ wr)) : va_D A (wr ++ wc) := (D_right hD).app (D_left hD) (fun i j p q h1 h2 e => D_apart hD j i q p h2 h1 e.symm)
theorem join_r (hP : va_P D cl (wc ++ wr) H) (hD : va_D A (wc ++ wr)) (hk : ∀ q : Nat, q < H.size → ¬ va_A wc H.size q → H1[q]? = H[q]?) (hF : ∀ q, va_A wc H.size q → A q) (hP1 : va_P D cl w1 H1) (hD1 : va_D (va_A wc H.size) w1) : va_P D cl (w1 ++ wr) H1 ∧ va_D A (w1 ++ wr) := by
  have apart : ∀ (k : Nat) (q : Nat × va_E), wr[k]? = some q → q.1 < H.size ∧ ¬ va_A wc H.size q.1 := by
    intro k q hq
    have hl := (P_right hP k q hq).lt
    refine ⟨hl, fun h => ?_⟩
    rcases h with ⟨k2, e, h⟩ | h
    · exact D_apart hD k2 k (q.1, e) q h hq rfl
    · omega
  refine ⟨va_P.app hP1 (fun k q hq => (P_right hP k q hq).kept (hk q.1 (apart k q hq).1 (apart k q hq).2)), va_D.app (hD1.weaken (fun k q _ h => hF q.1 h)) (D_right hD) (fun i j x y hx hy hxy => ?_)⟩
  exact (apart j y hy).2 (by rw [← hxy]; exact hD1.2 i x hx)
end Side
section LawRows
variable {p : Program} {l : Launch} {e : Env} {R : Room} {s : State} {m : MethodId} {args : Array Value} {below : List Frame} {meth : Method} {c : Code} {H H0 : Heap} {locs : List Loc} {cells slots : Nat} {Q : State → Prop}
  {G : GG} {ws wr : va_W} {A : Nat → Prop} {pc : Nat} {ls : Array Slot} {st0 rest : List Value} {S : Type} {mc ms : Nat}
theorem go_ir {F : Int32 × S} {w1 : S → va_W} {a : Array Value} (hr : va_Run p l e R s m args below meth c H locs cells slots mc ms (F0 m pc ls st0) rest (va_Qi (eqP F) (Wb G (va_A ws H.size) w1) (va_A ws H.size) a) (va_A ws H.size)) (hP : va_P G.1 classes (ws ++ wr) H) (hD : va_D A (ws ++ wr)) (hS : va_S A H0 H locs) (hA : ∀ q, H0.size ≤ q → A q)
    (kk : ∀ (z : Int32 × S) (H1 : Heap) (locs1 : List Loc), z = F → va_P G.1 classes (w1 z.2 ++ wr) H1 → va_D A (w1 z.2 ++ wr) → va_S A H0 H1 locs1 → W p l e R s m args below meth c H1 locs1 (cells + mc) (slots + ms) Q (F0 m (pc + 3) ls (.int z.1 :: rest))) : W p l e R s m args below meth c H locs cells slots Q (F0 m pc ls st0) := by
  have hF := own_free (D_left hD) hS hA
  refine va_calli hr hS (fun q _ h => hF q h) hF (fun r u t H1 locs1 ht hvm hw hB hz hk hS1 => ?_)
  obtain ⟨hP1, hK1, hD1⟩ := hB
  rw [ht] at hP1
  obtain ⟨hP2, hD2⟩ := join_r hP hD hk hF hP1 hD1
  exact kk (r, u) H1 locs1 hw hP2 hD2 hS1
theorem go_lr {F : Int64 × S} {w1 : S → va_W} {a : Array Value} (hr : va_Run p l e R s m args below meth c H locs cells slots mc ms (F0 m pc ls st0) rest (va_Ql (eqP F) (Wb G (va_A ws H.size) w1) (va_A ws H.size) a) (va_A ws H.size)) (hP : va_P G.1 classes (ws ++ wr) H) (hD : va_D A (ws ++ wr)) (hS : va_S A H0 H locs) (hA : ∀ q, H0.size ≤ q → A q)
    (kk : ∀ (z : Int64 × S) (H1 : Heap) (locs1 : List Loc), z = F → va_P G.1 classes (w1 z.2 ++ wr) H1 → va_D A (w1 z.2 ++ wr) → va_S A H0 H1 locs1 → W p l e R s m args below meth c H1 locs1 (cells + mc) (slots + ms) Q (F0 m (pc + 3) ls (.long z.1 :: rest))) : W p l e R s m args below meth c H locs cells slots Q (F0 m pc ls st0) := by
  have hF := own_free (D_left hD) hS hA
  refine va_calll hr hS (fun q _ h => hF q h) hF (fun r u t H1 locs1 ht hvm hw hB hz hk hS1 => ?_)
  obtain ⟨hP1, hK1, hD1⟩ := hB
  rw [ht] at hP1
  obtain ⟨hP2, hD2⟩ := join_r hP hD hk hF hP1 hD1
  exact kk (r, u) H1 locs1 hw hP2 hD2 hS1
theorem go_vr {F : S} {w1 : S → va_W} {a : Array Value} (hr : va_Run p l e R s m args below meth c H locs cells slots mc ms (F0 m pc ls st0) rest (va_Qv (eqV F) (Wb G (va_A ws H.size) w1) (va_A ws H.size) a) (va_A ws H.size)) (hP : va_P G.1 classes (ws ++ wr) H) (hD : va_D A (ws ++ wr)) (hS : va_S A H0 H locs) (hA : ∀ q, H0.size ≤ q → A q)
    (kk : ∀ (z : S) (H1 : Heap) (locs1 : List Loc), z = F → va_P G.1 classes (w1 z ++ wr) H1 → va_D A (w1 z ++ wr) → va_S A H0 H1 locs1 → W p l e R s m args below meth c H1 locs1 (cells + mc) (slots + ms) Q (F0 m (pc + 3) ls rest)) : W p l e R s m args below meth c H locs cells slots Q (F0 m pc ls st0) := by
  have hF := own_free (D_left hD) hS hA
  refine va_callv hr hS (fun q _ h => hF q h) hF (fun u t H1 locs1 ht hvm hw hB hz hk hS1 => ?_)
  obtain ⟨hP1, hK1, hD1⟩ := hB
  rw [ht] at hP1
  obtain ⟨hP2, hD2⟩ := join_r hP hD hk hF hP1 hD1
  exact kk u H1 locs1 hw hP2 hD2 hS1
theorem cat_prer {X : String} {a : Array Value} (hr : RunT p l e R s m args below meth c H locs cells slots 1 6 (F0 m pc ls st0) rest (QT G ws X (va_A ws H.size) a) (va_A ws H.size)) (hP : va_P G.1 classes (ws ++ wr) H) (hD : va_D A (ws ++ wr)) (hS : va_S A H0 H locs) (hA : ∀ q, H0.size ≤ q → A q) {hpc : Nat}
    (hfind : ∀ (T : State) (locs2 : List Loc) (v : Addr) (cell : Cell), Stand p l e R s m args below meth c T locs2 (cells + 1) (slots + 6) → T.heap[v]? = some cell → cell.vm.isStatics = false → s.vm.findClass X = some cell.cls → ∃ vm', s.WarmedH vm' ∧ FT e ((T.setTop (F0 m pc ls rest)).pushFrame (.throwing v)) (F0 m pc ls rest) v (.found hpc) vm')
    (kk : KK p l e R s m args below meth c H0 cells slots Q G (ws ++ wr) A ls hpc) : W p l e R s m args below meth c H locs cells slots Q (F0 m pc ls st0) := by
  have hF := own_free (D_left hD) hS hA
  intro T0 hT X0
  obtain ⟨v, st₀, t, T', L, h0, X', hL, e1, e2, ⟨a1, ha1, ⟨cell, hc1, hc2, hc3⟩, hP1, hK1, hD1, hF1, hF2⟩, st⟩ := hr T0 hT X0
  cases ha1
  rw [h0] at hF1 hF2
  obtain ⟨hP2, hD2⟩ := join_r hP hD hF2 hF hP1 hD1
  obtain ⟨vm', hW', hft⟩ := hfind T' _ v cell X' (by rw [e1]; exact hc1) hc2 (by rw [← X'.warmed.alike.findClass, e2]; exact hc3)
  have X2 := X'.noted hW'
  obtain ⟨t2, s2, q2⟩ := kk v T'.heap (locs ++ L) (by rw [e1]; exact hP2) hD2 ⟨Nat.le_trans hS.1 (by rw [e1]; exact hF1), fun q h1 h2 => by rw [e1, hF2 q (Nat.lt_of_lt_of_le h1 hS.1) (fun z => h2 (hF q z))]; exact hS.2.1 q h1 h2, fun q hq => by
      rcases List.mem_append.mp hq with h | h
      · exact hS.2.2 q h
      · exact hF _ (hL q h)⟩ (T'.setVm vm') rfl X2
  exact ⟨t2, st.trans (caught_to X'.here hft s2), q2⟩
theorem cat_1r {X own : String} {a : Array Value} (hr : RunT p l e R s m args below meth c H locs cells slots 1 6 (F0 m pc ls st0) rest (QT G ws X (va_A ws H.size) a) (va_A ws H.size)) (hP : va_P G.1 classes (ws ++ wr) H) (hD : va_D A (ws ++ wr)) (hS : va_S A H0 H locs) (hA : ∀ q, H0.size ≤ q → A q) (hown : s.vm.findClass own = some m.cls)
    {x : ExceptionTableEntry} {t : List ExceptionTableEntry} (htb : c.exceptionTable.toList = x :: t) (hx : covers x pc = true) (h0 : x.catchType ≠ 0) (hlink : (Cond.classLink own x.catchType X).before args s = true) (hself : ∀ c1, s.vm.findClass X = some c1 → s.vm.assignable c1 c1 = true)
    (kk : KK p l e R s m args below meth c H0 cells slots Q G (ws ++ wr) A ls x.handlerPc) : W p l e R s m args below meth c H locs cells slots Q (F0 m pc ls st0) := by
  refine cat_prer hr hP hD hS hA (fun T locs2 v cell X1 hcell hobj hfc => ?_) kk
  have hpl : e.platform.magicAccessors = ({} : Platform).magicAccessors := by rw [X1.admits.platform]
  obtain ⟨c', hc', hcl⟩ := Cond.classLink_spec hown hlink e.platform hpl
  cases hfc.symm.trans hc'
  obtain ⟨dk, _, _, kt, hd, _, _, _, _, hkt, _, hopen⟩ := hcl.here
  have hW' : s.WarmedH (T.vm.noted m.cls x.catchType (.cls cell.cls)) := X1.warmed.noted hd hopen (State.rightAt_cls hcl)
  obtain ⟨kt', hkt', -⟩ := X1.warmed.alike.2.2 _ _ hkt
  refine ⟨_, hW', fun Q E d acts => ?_⟩
  rw [W.findHandler_eq (meth := meth) (code := c) X1.method' X1.code, htb]
  exact fh_yes (s := (T.setTop (F0 m pc ls rest)).pushFrame (.throwing v)) hx h0 (X1.warmed.classLinks hcl) hcell (VmData.ne_statics_of hobj) ⟨kt', hkt'⟩ ⟨kt', hkt'⟩ (by show T.vm.assignable _ _ = true; rw [X1.warmed.alike.assignable]; exact hself _ hfc)
theorem cat_2r {X Y own : String} {a : Array Value} (hr : RunT p l e R s m args below meth c H locs cells slots 1 6 (F0 m pc ls st0) rest (QT G ws X (va_A ws H.size) a) (va_A ws H.size)) (hP : va_P G.1 classes (ws ++ wr) H) (hD : va_D A (ws ++ wr)) (hS : va_S A H0 H locs) (hA : ∀ q, H0.size ≤ q → A q) (hown : s.vm.findClass own = some m.cls)
    {x x2 : ExceptionTableEntry} {t : List ExceptionTableEntry} (htb : c.exceptionTable.toList = x :: x2 :: t) (hx : covers x pc = true) (h0 : x.catchType ≠ 0) (hlink : (Cond.classLink own x.catchType Y).before args s = true) (hx2 : covers x2 pc = true) (h02 : x2.catchType ≠ 0) (hlink2 : (Cond.classLink own x2.catchType X).before args s = true)
    (hself : ∀ c1, s.vm.findClass X = some c1 → s.vm.assignable c1 c1 = true) (hother : ∀ c1 c2, s.vm.findClass X = some c1 → s.vm.findClass Y = some c2 → s.vm.assignable c1 c2 = false)
    (kk : KK p l e R s m args below meth c H0 cells slots Q G (ws ++ wr) A ls x2.handlerPc) : W p l e R s m args below meth c H locs cells slots Q (F0 m pc ls st0) := by
  refine cat_prer hr hP hD hS hA (fun T locs2 v cell X1 hcell hobj hfc => ?_) kk
  have hpl : e.platform.magicAccessors = ({} : Platform).magicAccessors := by rw [X1.admits.platform]
  obtain ⟨cy, hcy, hcly⟩ := Cond.classLink_spec hown hlink e.platform hpl
  obtain ⟨c', hc', hcl⟩ := Cond.classLink_spec hown hlink2 e.platform hpl
  cases hfc.symm.trans hc'
  obtain ⟨dky, _, _, kty, hdy, _, _, _, _, hkty, _, hopeny⟩ := hcly.here
  obtain ⟨dk, _, _, kt, hd, _, _, _, _, hkt, _, hopen⟩ := hcl.here
  have hW1 : s.WarmedH (T.vm.noted m.cls x.catchType (.cls cy)) := X1.warmed.noted hdy hopeny (State.rightAt_cls hcly)
  have hW2 : s.WarmedH ((T.vm.noted m.cls x.catchType (.cls cy)).noted m.cls x2.catchType (.cls cell.cls)) := hW1.noted hd hopen (State.rightAt_cls hcl)
  obtain ⟨kt', hkt', -⟩ := X1.warmed.alike.2.2 _ _ hkt
  obtain ⟨kty', hkty', -⟩ := X1.warmed.alike.2.2 _ _ hkty
  obtain ⟨kt2, hkt2, -⟩ := hW1.alike.2.2 _ _ hkt
  refine ⟨_, hW2, fun Q E d acts => ?_⟩
  rw [W.findHandler_eq (meth := meth) (code := c) X1.method' X1.code, htb]
  rw [fh_no (s := (T.setTop (F0 m pc ls rest)).pushFrame (.throwing v)) hx h0 (X1.warmed.classLinks hcly) hcell (VmData.ne_statics_of hobj) ⟨kt', hkt'⟩ ⟨kty', hkty'⟩ (by show T.vm.assignable _ _ = false; rw [X1.warmed.alike.assignable]; exact hother _ _ hfc hcy)]
  exact fh_yes (s := ((T.setTop (F0 m pc ls rest)).pushFrame (.throwing v)).setVm (T.vm.noted m.cls x.catchType (.cls cy))) hx2 h02 (hW1.classLinks hcl) hcell (VmData.ne_statics_of hobj) ⟨kt2, hkt2⟩ ⟨kt2, hkt2⟩ (by show (T.vm.noted m.cls x.catchType (.cls cy)).assignable _ _ = true; rw [hW1.alike.assignable]; exact hself _ hfc)
end LawRows
/-! methods with handlers -/
def lx_ws (y : MethodName) (b : ByteArray) (n : Nat) (r : Option FieldType) (hh : List (Nat × Nat × Nat × Nat)) : List Cond := Cond.codeWith y b n r hh :: lw_g
theorem lx_gi {y : MethodName} {b : ByteArray} {n : Nat} {r : Option FieldType} {hh : List (Nat × Nat × Nat × Nat)} (h : Cond.codeWith y b n r hh ∈ lw_g) : GoodIn lw_g (lx_ws y b n r hh) := by
  intro w hw
  have hm : w ∈ lw_g := by
    rcases List.mem_cons.mp hw with h1 | h1
    · rw [h1]; exact h
    · exact h1
  exact ⟨hm, good_of_word (lw_g_good w hm)⟩
def CtX (l : Launch) (y : MethodName) (b : ByteArray) (maxL : Nat) (hh : List (Nat × Nat × Nat × Nat)) (rm : Room) (G : GG) (ws : va_W) (sz : Nat) (av : List Value) {S : Type} (F : Int32 × S) (w1 : S → va_W) : Prop :=
  Met l y (lx_ws y b maxL (some .int) hh) rm (va_Pc av (WpT G ws sz)) (va_Qi (eqP F) (Wb G (va_A ws sz) w1) (va_A ws sz)) 1 6 (va_A ws sz)
theorem MetX_of {l : Launch} {y : MethodName} {b : ByteArray} {maxL : Nat} {hh : List (Nat × Nat × Nat × Nat)} {rm : Room} {G : GG} {ws : va_W} {sz : Nat} {av : List Value} {S : Type} {F : Int32 × S} {w1 : S → va_W} (hy : plainName y.cls = true) (hlen : (lg_sl av).length ≤ maxL)
    (body : ∀ (p : Program) (e : Env) (s : State) (m : MethodId) (below : List Frame) (meth : Method) (c : Code), l.admits e → p.tables.exec = Jvm.exec → c.code = b → meth.sig.returnType = some .int → c.maxLocals = maxL → s.vm.findClass y.cls = some m.cls → meth.locks = false → c.exceptionTable.toList = tableOf hh →
    (∀ w ∈ lw_g, w.before av.toArray s = true) → va_K G.1 classes (tysG G) s → ∀ A : Nat → Prop, (∀ q, s.heap.size ≤ q → A q) → TZ A s s.heap → va_P G.1 classes ws s.heap → va_D A ws → va_S A s.heap s.heap [] →
    ∀ ls : Array Slot, lv_has ls maxL (lv_args 0 av) → W p l e rm s m av.toArray below meth c s.heap [] 0 0 (MQ below (va_Qi (eqP F) (Wb G A w1) A) av.toArray s 1 6 A) (F0 m 0 ls [])) : CtX l y b maxL hh rm G ws sz av F w1 := by
  refine va_MetW (cc := b) (maxL := maxL) (ret := some .int) (hh := hh) hy rfl ?_
  intro p e s m args below meth c s₁ B hml hv
  obtain ⟨rfl, ⟨hsz, hP, hK, hD0⟩, hZ⟩ := hv
  have hts := atoms_spec (ws := lx_ws y b maxL (some .int) hh) B.pre
  subst hsz
  have hex : c.exceptionTable.toList = tableOf hh := by
    obtain ⟨m', meth', c', h0, h1, h2, -, -, h5, -, -, -⟩ := Cond.codeWith_spec (hts _ List.mem_cons_self)
    cases B.named.symm.trans h0
    cases B.method.symm.trans h1
    cases ((Stand.of_body B).code).symm.trans h2
    rw [← h5]; exact (table_eq _).symm
  rw [lg_entry_eq]
  exact body p e s m below meth c B.admits B.exec B.bytes B.returns hml (findClass_of_methodNamed B.named) B.notSynchronized hex (fun w h => hts w (List.mem_cons_of_mem _ h)) hK (va_A ws s.heap.size) (fun q h => Or.inr h) (hZ.self hP) hP hD0.self va_S.rf _ (lv_entry av hlen)
theorem AS_self1 {U : State} (h : AS U) : ∀ c1, U.vm.findClass IAE = some c1 → U.vm.assignable c1 c1 = true := by
  obtain ⟨c1, c2, h1, h2, h3, h4, h5⟩ := h
  intro x hx
  cases h1.symm.trans hx
  exact h3
theorem AS_self2 {U : State} (h : AS U) : ∀ c1, U.vm.findClass ISE = some c1 → U.vm.assignable c1 c1 = true := by
  obtain ⟨c1, c2, h1, h2, h3, h4, h5⟩ := h
  intro x hx
  cases h2.symm.trans hx
  exact h4
theorem AS_other {U : State} (h : AS U) : ∀ x y, U.vm.findClass ISE = some x → U.vm.findClass IAE = some y → U.vm.assignable x y = false := by
  obtain ⟨c1, c2, h1, h2, h3, h4, h5⟩ := h
  intro x y hx hy
  cases h2.symm.trans hx
  cases h1.symm.trans hy
  exact h5
