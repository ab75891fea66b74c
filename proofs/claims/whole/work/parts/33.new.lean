/-! makers: rows for new cells and for constructors -/
section New
variable {p : Program} {l : Launch} {e : Env} {R : Room} {s : State} {m : MethodId} {args : Array Value} {below : List Frame} {meth : Method} {c : Code} {H H0 : Heap} {locs : List Loc} {cells slots : Nat} {Q : State → Prop}
  {G : GG} {ws wr : va_W} {A : Nat → Prop} {pc : Nat} {ls : Array Slot} {st0 rest : List Value} {cc bytes : ByteArray} {nL maxL index n : Nat} {own : String} {y : MethodName} {rm : Room} {b mc ms : Nat} {As : List Value} {S : Type}
theorem K_same {ty : FieldType} {t0 : Nat} {cA : ClassId} (hra : ∀ z, va_RA s z ty = (s.vm.findClass ("[" ++ ty.toString) = some z)) (ht : (tysG G)[t0]? = some (G.2 t0, ty)) (hK : va_K G.1 classes (tysG G ++ [(cA, ty)]) s) : cA = G.2 t0 := by
  have h1 := (hK.2 4 (cA, ty) rfl).2
  have h2 := (hK.2 t0 (G.2 t0, ty) (by rw [List.getElem?_append_left (List.getElem?_eq_some_iff.mp ht).1]; exact ht)).2
  have h3 : s.vm.findClass ("[" ++ ty.toString) = some cA := by rw [← hra]; exact h1
  have h4 : s.vm.findClass ("[" ++ ty.toString) = some (G.2 t0) := by rw [← hra]; exact h2
  exact Option.some.inj (h3.symm.trans h4)
theorem na_row (hx : p.tables.exec = Jvm.exec) (hb : c.code = cc) {atype : ArrayType} {ty : FieldType} (t0 : Nat) (harr : (Cond.arrayClass (newarray.typeOf atype)).before args s = true) (hty : newarray.typeOf atype = ty) (hra : ∀ z, va_RA s z ty = (s.vm.findClass ("[" ++ ty.toString) = some z)) (htt : (tysG G)[t0]? = some (G.2 t0, ty))
    (hK : va_K G.1 classes (tysG G) s) (hP : va_P G.1 classes ws H) (hD : va_D A ws) (hS : va_S A H0 H locs) (hA : ∀ q, H0.size ≤ q → A q) {n : Int32} {N' : Nat} {a0 : vp_A} (ha : ∀ cA : ClassId, vp_cell cA a0 = arrV cA N' (fun _ => defaultValue ty)) (hn : ¬ n < 0) (hN : n.toNatClampNeg = N') (hbytes : N' * componentBytes ty ≤ 536870912) (hcells : cells + 1 ≤ R.cells) (hslots : slots + N' ≤ R.slots) (hdg : decode cc pc = .ok (.newarray atype, 2))
    (kk : ∀ (q : Nat) (H1 : Heap), va_P G.1 classes (ws ++ [(q, .inl (G.2 t0, a0))]) H1 → va_D A (ws ++ [(q, .inl (G.2 t0, a0))]) → va_S A H0 H1 locs → W p l e R s m args below meth c H1 locs (cells + 1) (slots + N') Q (F0 m (pc + 2) ls (.ref q :: rest))) : W p l e R s m args below meth c H locs cells slots Q (F0 m pc ls (.int n :: rest)) := by
  refine va_newa hx hb harr hty hK hP hD hS hA ha hn hN hbytes hcells hslots hdg (fun q cA H1 hK1 hP1 hD1 hS1 => ?_)
  have e := K_same hra htt hK1
  subst e
  exact kk q H1 hP1 hD1 hS1
theorem cw_I (ht : ∀ w ∈ lw_g, w.before args s = true) (hl : Cond.methodLink own index y ∈ lw_g) (hi : Cond.instanceMethod y ∈ lw_g) (hini : Cond.initialized y.cls ∈ lw_g) (hc : Cond.code y bytes maxL none ∈ lw_g) (hy : y.name = "<init>")
    (hd : y.cls ≠ "java/lang/invoke/MethodHandle" ∧ y.cls ≠ "java/lang/invoke/VarHandle" ∧ (parseMethodDescriptor y.desc).map (fun d => d.parameters.length) = some n) (hR : rm.frames + 1 ≤ R.frames ∧ 8 + (maxL + 11) + rm.locals ≤ R.locals) (hrc : rm.cells = mc) (hrs : rm.slots = ms) :
    CallB R s args own index y bytes maxL none (lw_ws y bytes maxL none) rm mc ms n ∧ y.name = "<init>" ∧ (Cond.instanceMethod y).before args s = true := ⟨callB_of n ht (lw_gi hc) rfl hrc hrs (ht _ hini) (ht _ hl) hd hR, hy, ht _ hi⟩
theorem run_I {Qc : Array Value → State → Outcome → State → Prop} {free : Addr → Prop} (hx : p.tables.exec = Jvm.exec) (hb : c.code = cc) (hml : c.maxLocals = nL) (hown : s.vm.findClass own = some m.cls) (ht : ∀ w ∈ lw_g, w.before args s = true) (hK : va_K G.1 classes (tysG G) s) (hP : va_P G.1 classes ws H) (hD : va_D A ws)
    (hM : Met l y (lw_ws y bytes maxL none) rm (va_Pc (.ref b :: As) (Wp G ws H.size)) Qc mc ms free) (cw : CallB R s args own index y bytes maxL none (lw_ws y bytes maxL none) rm mc ms n ∧ y.name = "<init>" ∧ (Cond.instanceMethod y).before args s = true)
    (hn : As.length = n) (hsize : ls.size = nL) (hstack : st0 = As.reverse ++ .ref b :: rest) (hW : (rest.map fun v => v.category).sum ≤ 8) (hdg : decode cc pc = .ok (.invokespecial index, 3)) (hf : cells + mc ≤ R.cells ∧ slots + ms ≤ R.slots) :
    va_Run p l e R s m args below meth c H locs cells slots mc ms (F0 m pc ls st0) rest (Qc (Value.ref b :: As).toArray) free :=
  va_runI ⟨hx, hb, hml, hown, ht⟩ hM cw ⟨Wp_blind, fun U hU hW => ⟨rfl, by rw [hU], by rw [hU]; exact hP, va_K.moved hW.alike hK, hD.weaken (fun _ _ _ _ => trivial)⟩⟩ rfl hn hsize hstack (lv_room hW) hdg hf
theorem run_N {host : String} {Qc : Array Value → State → Outcome → State → Prop} {free : Addr → Prop} (hx : p.tables.exec = Jvm.exec) (hb : c.code = cc) (hml : c.maxLocals = nL) (hown : s.vm.findClass own = some m.cls) (ht : ∀ w ∈ lw_g, w.before args s = true) (hK : va_K G.1 classes (tysG G) s) (hP : va_P G.1 classes ws H) (hD : va_D A ws)
    (hM : Met l y (lw_ws y bytes maxL none) rm (va_Pc (.ref b :: As) (Wp G ws H.size)) Qc mc ms free) (hl : va_Nw (.methodLinkNest own index y host) s) (hi : Cond.instanceMethod y ∈ lw_g) (hini : Cond.initialized y.cls ∈ lw_g) (hc : Cond.code y bytes maxL none ∈ lw_g) (hy : y.name = "<init>")
    (hd : y.cls ≠ "java/lang/invoke/MethodHandle" ∧ y.cls ≠ "java/lang/invoke/VarHandle" ∧ (parseMethodDescriptor y.desc).map (fun d => d.parameters.length) = some n) (hR : rm.frames + 1 ≤ R.frames ∧ 8 + (maxL + 11) + rm.locals ≤ R.locals) (hrc : rm.cells = mc) (hrs : rm.slots = ms)
    (hn : As.length = n) (hsize : ls.size = nL) (hstack : st0 = As.reverse ++ .ref b :: rest) (hW : (rest.map fun v => v.category).sum ≤ 8) (hdg : decode cc pc = .ok (.invokespecial index, 3)) (hf : cells + mc ≤ R.cells ∧ slots + ms ≤ R.slots) :
    va_Run p l e R s m args below meth c H locs cells slots mc ms (F0 m pc ls st0) rest (Qc (Value.ref b :: As).toArray) free :=
  va_runIN ⟨hx, hb, hml, hown, ht⟩ hM ⟨va_cnB n ht (lw_gi hc) rfl hrc hrs hl (ht _ hini) hd hR, hy, ht _ hi⟩ ⟨Wp_blind, fun U hU hW => ⟨rfl, by rw [hU], by rw [hU]; exact hP, va_K.moved hW.alike hK, hD.weaken (fun _ _ _ _ => trivial)⟩⟩ rfl hn hsize hstack (lv_room hW) hdg hf
theorem go_vn {post : S → Prop} {w1 : S → va_W} {a : Array Value} (hr : va_Run p l e R s m args below meth c H locs cells slots mc ms (F0 m pc ls st0) rest (va_Qv post (Wb G (va_A ws H.size) w1) (va_A ws H.size) a) (va_A ws H.size)) (hP : va_P G.1 classes (ws ++ wr) H) (hD : va_D A (ws ++ wr)) (hS : va_S A H0 H locs) (hA : ∀ q, H0.size ≤ q → A q)
    (kk : ∀ (z : S) (H1 : Heap) (locs1 : List Loc), post z → va_P G.1 classes (w1 z ++ wr) H1 → va_D A (w1 z ++ wr) → va_S A H0 H1 locs1 → W p l e R s m args below meth c H1 locs1 (cells + mc) (slots + ms) Q (F0 m (pc + 3) ls rest)) : W p l e R s m args below meth c H locs cells slots Q (F0 m pc ls st0) := by
  have hF := own_free (D_left hD) hS hA
  refine va_callv hr hS (fun q _ h => hF q h) hF (fun u t H1 locs1 ht hvm hw hB hz hk hS1 => ?_)
  obtain ⟨hP1, hK1, hD1⟩ := hB
  rw [ht] at hP1
  obtain ⟨hP2, hD2⟩ := join_r hP hD hk hF hP1 hD1
  exact kk u H1 locs1 hw hP2 hD2 hS1
end New
/-- a constructor's contract; Ex: what else it asks of the state it begins in -/
def CtN (l : Launch) (y : MethodName) (b : ByteArray) (maxL : Nat) (rm : Room) (G : GG) (ws : va_W) (sz : Nat) (av : List Value) {S : Type} (post : S → Prop) (w1 : S → va_W) (mc ms : Nat) : Prop :=
  Met l y (lw_ws y b maxL none) rm (va_Pc av (Wp G ws sz)) (va_Qv post (Wb G (va_A ws sz) w1) (va_A ws sz)) mc ms (va_A ws sz)
theorem MetN_of {l : Launch} {y : MethodName} {b : ByteArray} {maxL : Nat} {rm : Room} {G : GG} {ws : va_W} {sz mc ms : Nat} {av : List Value} {S : Type} {post : S → Prop} {w1 : S → va_W} {Ex : State → Prop} (hy : plainName y.cls = true) (hyn : y.name = "<init>") (hlen : (lg_sl av).length ≤ maxL)
    (body : ∀ (p : Program) (e : Env) (s : State) (m : MethodId) (below : List Frame) (meth : Method) (c : Code), l.admits e → p.tables.exec = Jvm.exec → c.code = b → meth.sig.returnType = none → c.maxLocals = maxL → s.vm.findClass y.cls = some m.cls → meth.locks = false → meth.name = "<init>" → Ex s →
    (∀ w ∈ lw_g, w.before av.toArray s = true) → va_K G.1 classes (tysG G) s → ∀ A : Nat → Prop, (∀ q, s.heap.size ≤ q → A q) → va_P G.1 classes ws s.heap → va_D A ws → va_S A s.heap s.heap [] →
    ∀ ls : Array Slot, lv_has ls maxL (lv_args 0 av) → W p l e rm s m av.toArray below meth c s.heap [] 0 0 (MQ below (va_Qv post (Wb G A w1) A) av.toArray s mc ms A) (F0 m 0 ls [])) :
    Met l y (lw_ws y b maxL none) rm (va_Pc av (fun U => Wp G ws sz U ∧ Ex U)) (va_Qv post (Wb G (va_A ws sz) w1) (va_A ws sz)) mc ms (va_A ws sz) := by
  refine Met.ofW (cc := b) (maxL := maxL) (ret := none) hy rfl ?_
  intro p e s m args below meth c s₁ B hml hv
  obtain ⟨rfl, ⟨hsz, hP, hK, hD0⟩, hE⟩ := hv
  have hts := atoms_spec (ws := lw_ws y b maxL none) B.pre
  subst hsz
  rw [lg_entry_eq]
  exact body p e s m below meth c B.admits B.exec B.bytes B.returns hml (findClass_of_methodNamed B.named) B.notSynchronized ((name_of_methodNamed B.named B.method).1.trans hyn) hE (fun w h => hts w (List.mem_cons_of_mem _ h)) hK (va_A ws s.heap.size) (fun q h => Or.inr h) hP hD0.self va_S.rf _ (lv_entry av hlen)
theorem CtN_of {l : Launch} {y : MethodName} {b : ByteArray} {maxL : Nat} {rm : Room} {G : GG} {ws : va_W} {sz mc ms : Nat} {av : List Value} {S : Type} {post : S → Prop} {w1 : S → va_W} (h : Met l y (lw_ws y b maxL none) rm (va_Pc av (fun U => Wp G ws sz U ∧ True)) (va_Qv post (Wb G (va_A ws sz) w1) (va_A ws sz)) mc ms (va_A ws sz)) : CtN l y b maxL rm G ws sz av post w1 mc ms := by
  intro p e ha hc hk s m args below hf happ hP hK
  exact h p e ha hc hk s m args below hf happ ⟨hP.1, hP.2, trivial⟩ hK
theorem clamp_ok (w : Int32) : ∃ N : Nat, 16 ≤ N ∧ N ≤ 200 ∧ (if (16 : Int32) < (if w < (200 : Int32) then w else (200 : Int32)) then (if w < (200 : Int32) then w else (200 : Int32)) else (16 : Int32)) = nI N ∧ (if (16 : Int32) ≤ w then (if w ≤ (200 : Int32) then w else (200 : Int32)) else (16 : Int32)) = nI N := by
  have k16 : (16 : Int32).toInt = 16 := by decide
  have k200 : (200 : Int32).toInt = 200 := by decide
  by_cases h1 : (16 : Int32) ≤ w
  · by_cases h2 : w ≤ (200 : Int32)
    · have a1 := Int32.le_iff_toInt_le.mp h1
      have a2 := Int32.le_iff_toInt_le.mp h2
      rw [k16] at a1; rw [k200] at a2
      have hw : w = nI w.toInt.toNat := Int32.toInt_inj.mp (by rw [nI_toInt (by omega)]; omega)
      refine ⟨w.toInt.toNat, by omega, by omega, ?_, ?_⟩
      · by_cases h3 : w < (200 : Int32)
        · rw [if_pos h3]
          by_cases h4 : (16 : Int32) < w
          · rw [if_pos h4]; exact hw
          · rw [if_neg h4]
            have a4 : ¬ (16 : Int32).toInt < w.toInt := fun z => h4 (Int32.lt_iff_toInt_lt.mpr z)
            rw [k16] at a4
            exact Int32.toInt_inj.mp (by rw [nI_toInt (by omega), k16]; omega)
        · rw [if_neg h3, if_pos (by decide)]
          have a4 : ¬ w.toInt < (200 : Int32).toInt := fun z => h3 (Int32.lt_iff_toInt_lt.mpr z)
          rw [k200] at a4
          exact Int32.toInt_inj.mp (by rw [nI_toInt (by omega), k200]; omega)
      · rw [if_pos h1, if_pos h2]; exact hw
    · have a2 : ¬ w.toInt ≤ (200 : Int32).toInt := fun z => h2 (Int32.le_iff_toInt_le.mpr z)
      rw [k200] at a2
      have h3 : ¬ w < (200 : Int32) := fun z => by have := Int32.lt_iff_toInt_lt.mp z; rw [k200] at this; omega
      exact ⟨200, by omega, by omega, by rw [if_neg h3, if_pos (by decide)]; rfl, by rw [if_pos h1, if_neg h2]; rfl⟩
  · have a1 : ¬ (16 : Int32).toInt ≤ w.toInt := fun z => h1 (Int32.le_iff_toInt_le.mpr z)
    rw [k16] at a1
    have h3 : w < (200 : Int32) := Int32.lt_iff_toInt_lt.mpr (by rw [k200]; omega)
    have h4 : ¬ (16 : Int32) < w := fun z => by have := Int32.lt_iff_toInt_lt.mp z; rw [k16] at this; omega
    exact ⟨16, by omega, by omega, by rw [if_pos h3, if_neg h4]; rfl, by rw [if_neg h1]; rfl⟩
