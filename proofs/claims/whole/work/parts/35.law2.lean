/-! calls out of the law's own body -/
section LawCall
variable {p : Program} {l : Launch} {e : Env} {R : Room} {s : State} {m : MethodId} {args : Array Value} {below : List Frame} {meth : Method} {c : Code} {H H0 : Heap} {locs : List Loc} {cells slots : Nat} {Q : State → Prop}
  {G : GG} {ws wr : va_W} {A : Nat → Prop} {pc : Nat} {ls : Array Slot} {st0 rest : List Value} {cc bytes : ByteArray} {nL maxL index n : Nat} {own : String} {y : MethodName} {rm : Room} {b mc ms : Nat} {As : List Value} {hh : List (Nat × Nat × Nat × Nat)}
theorem run_SX {Qc : Array Value → State → Outcome → State → Prop} {free : Addr → Prop} (hx : p.tables.exec = Jvm.exec) (hb : c.code = cc) (hml : c.maxLocals = nL) (hown : s.vm.findClass own = some m.cls) (ht : ∀ w ∈ lw_g, w.before args s = true) (hK : va_K G.1 classes (tysG G) s) (hP : va_P G.1 classes ws H) (hD : va_D A ws) (hZ : TZ A s H)
    (hM : Met l y (lx_ws y bytes maxL (some .int) hh) rm (va_Pc As (WpT G ws H.size)) Qc mc ms free) (hl : Cond.methodLink own index y ∈ lw_g) (hst : Cond.static y ∈ lw_g) (hini : Cond.initialized y.cls ∈ lw_g) (hc : Cond.codeWith y bytes maxL (some .int) hh ∈ lw_g)
    (hd : y.cls ≠ "java/lang/invoke/MethodHandle" ∧ y.cls ≠ "java/lang/invoke/VarHandle" ∧ (parseMethodDescriptor y.desc).map (fun d => d.parameters.length) = some n) (hR : rm.frames + 1 ≤ R.frames ∧ 8 + (maxL + 11) + rm.locals ≤ R.locals) (hrc : rm.cells = mc) (hrs : rm.slots = ms)
    (hn : As.length = n) (hsize : ls.size = nL) (hstack : st0 = As.reverse ++ rest) (hW : (rest.map fun v => v.category).sum ≤ 8) (hdg : decode cc pc = .ok (.invokestatic index, 3)) (hf : cells + mc ≤ R.cells ∧ slots + ms ≤ R.slots) :
    va_Run p l e R s m args below meth c H locs cells slots mc ms (F0 m pc ls st0) rest (Qc As.toArray) free := by
  have hBk : Back l R p e below s args y 3 8 (PreOf R mc ms (va_Pc As (WpT G ws H.size))) (PostOf Qc mc ms free) :=
    va_backW (hh := hh) (bytes := bytes) (maxL := maxL) (ret := some .int) hM WpT_blind hrc hrs hR.1 hR.2 (pay_in ht (lx_gi hc)) List.mem_cons_self (fun a' U hV => word_at hV (Or.inl (by first | rfl | simp [Cond.onTables, Cond.keeps, Cond.steady])) (ht _ hini))
  intro T hT X
  obtain ⟨mk, methM, cM, hnamed, hmethM, -, -, -, -, -, -, hsigM⟩ := Cond.codeWith_spec (ht _ hc)
  have hstatic : methM.isStatic = true := Cond.static_spec hnamed hmethM (ht _ hst)
  obtain ⟨kP, hkP, -⟩ := className_of_methodNamed hnamed
  have hinitP : kP.init = .initialized := Cond.initialized_spec (findClass_of_methodNamed hnamed) hkP (ht _ hini)
  have hlen : As.length = methM.sig.parameters.length := by
    have h2 := hd.2.2
    rw [hsigM] at h2
    exact hn.trans (Option.some.inj h2).symm
  obtain ⟨vm₁, X₁, hstep₁⟩ := X.invokestatic hx hown (ht _ hl) hnamed hmethM hstatic hkP hinitP ⟨hd.1, hd.2.1⟩ (g := F0 m pc ls st0) rfl (argsL := As) (rest := rest) hlen hstack (by rw [hb]; exact hdg)
  obtain ⟨v, ⟨U', l2, c2, s2⟩, X', ⟨g', mk', t, L, e1, e2, hq, h1, hL, h2, h3⟩, hsteps⟩ := hBk m meth c ⟨T.setVm vm₁, locs, cells, slots⟩ { F0 m pc ls st0 with stack := rest } (.invokestatic index) mk As.toArray X₁ rfl (hsize.trans hml.symm) (by rw [hb]; exact hdg) (lv_room hW) (X₁.named hnamed)
    ⟨hf.1, hf.2, rfl, ⟨by show T.heap.size = _; rw [hT], by show va_P _ _ _ T.heap; rw [hT]; exact hP, va_K.moved X₁.warmed.alike hK, hD.weaken (fun _ _ _ _ => trivial)⟩, by show TZ _ _ T.heap; rw [hT]; exact (hZ.weak (fun _ z => z.elim)).warm X₁.warmed⟩
  dsimp only [Pt.U, Pt.locs, Pt.cells, Pt.slots] at X' e1 e2 h1 h2 h3 hsteps
  subst h1; subst h2; subst h3
  exact ⟨v, (T.setVm vm₁).calling g' mk' As.toArray, t, U', L, hT, X', hL, e1, e2, hq, fun target h => hstep₁ _ fun acts => by rw [doInvoke_state]; exact hsteps.trans h⟩
end LawCall
def f_cell (L : Nat) (xs : Nat → Int32) (k : Int32) : Int32 := if nI L ≤ k then 0 else xs k.toNatClampNeg
abbrev rm_LA_cell : Room := { frames := 0, cells := 0, slots := 0, locals := 0 }
set_option maxHeartbeats 4000000 in
set_option maxRecDepth 100000 in
theorem c_LA_cell {l : Launch} {b L : Nat} {xs : Nat → Int32} {k : Int32} (hk : ¬ nI L ≤ k → vp_in k L) : Met l y_LA_cell (lw_ws y_LA_cell b_LA_cell 2 (some .int)) rm_LA_cell (va_Pc [.ref b, .int k] (fun U => va_X b L xs U U.heap)) (QcRead (f_cell L xs k)) 0 0 (fun _ => False) := by
  refine Met.ofW (cc := b_LA_cell) (maxL := 2) (ret := some .int) (by decide) rfl ?_
  intro p e s m args below meth c s₁ B hml hv
  obtain ⟨rfl, hX⟩ := hv
  have hx := B.exec
  have hb := B.bytes
  have hbl : b < s.heap.size := by
    obtain ⟨scr, h1, -⟩ := hX
    exact (Array.getElem?_eq_some_iff.mp h1).1
  have hbA : ¬ (fun q : Nat => s.heap.size ≤ q) b := Nat.not_le.mpr hbl
  have hS : va_S (fun q : Nat => s.heap.size ≤ q) s.heap s.heap [] := va_S.rf
  rw [lg_entry_eq]
  have hl := lv_entry ([.ref b, .int k]) (n := 2) (Nat.le_of_ble_eq_true rfl)
  generalize (lg_sl ([.ref b, .int k]) ++ List.replicate (2 - (lg_sl ([.ref b, .int k])).length) Slot.unset).toArray = ls at hl ⊢
  have hl : lv_has ls 2 [(0, .ref b), (1, .int k)] := hl
  refine lv_iload_n hx hb d_LA_cell_0 rfl (lv_at hl 1 rfl) ?_
  refine lv_aload_n hx hb d_LA_cell_1 rfl (lv_at hl 0 rfl) ?_
  refine va_slen hx hb hX hbl hbA hS d_LA_cell_2 ?_
  refine lv_icmp_ge (tgt := 12) hx hb d_LA_cell_3 (by decide) (fun c_3 => ?_) (fun c_3 => ?_)
  · refine lv_iconst (v := (0 : Int32)) hx hb d_LA_cell_12 (by decide) ?_
    exact W.iret hx hb B.returns (fun t ht hW => ⟨by rw [f_cell, if_pos (show nI L ≤ k from c_3)], ht⟩) (fun q h => by cases h) d_LA_cell_13 B.notSynchronized
  · refine lv_aload_n hx hb d_LA_cell_6 rfl (lv_at hl 0 rfl) ?_
    refine lv_iload_n hx hb d_LA_cell_7 rfl (lv_at hl 1 rfl) ?_
    refine va_sld hx hb hX hbl hbA hS (hk c_3) d_LA_cell_8 ?_
    refine lv_goto (tgt := 13) hx hb d_LA_cell_9 (by decide) ?_
    exact W.iret hx hb B.returns (fun t ht hW => ⟨by rw [f_cell, if_neg (show ¬ nI L ≤ k from c_3)], ht⟩) (fun q h => by cases h) d_LA_cell_13 B.notSynchronized
theorem Xp_blind {b L : Nat} {xs : Nat → Int32} {av : List Value} : FrameBlind (va_Pc av (fun U => va_X b L xs U U.heap)) := by
  intro a U g mk q
  exact ⟨q.1, va_X.moved (u := U) (U := U.calling g mk a) (Vm.Alike.refl U.vm) q.2⟩
theorem tb_out17 {x : Int32} (h0 : ¬ x = (0 : Int32)) (h1 : ¬ x = (1 : Int32)) (h2 : ¬ x = (2 : Int32)) (h3 : ¬ x = (3 : Int32)) (h4 : ¬ x = (4 : Int32)) (h5 : ¬ x = (5 : Int32)) (h6 : ¬ x = (6 : Int32)) (h7 : ¬ x = (7 : Int32)) (h8 : ¬ x = (8 : Int32)) (h9 : ¬ x = (9 : Int32)) (h10 : ¬ x = (10 : Int32)) (h11 : ¬ x = (11 : Int32)) (h12 : ¬ x = (12 : Int32)) (h13 : ¬ x = (13 : Int32)) (h14 : ¬ x = (14 : Int32)) (h15 : ¬ x = (15 : Int32)) (h16 : ¬ x = (16 : Int32)) : x.toInt < 0 ∨ 16 < x.toInt := by
  have key : ∀ (k : Nat), k < 17 → ¬ x = nI k → ¬ x.toInt = (k : Int) := fun k hk hx he => hx (Int32.toInt_inj.mp (by rw [he, nI_toInt (by omega)]))
  have a0 := key 0 (by omega) h0
  have a1 := key 1 (by omega) h1
  have a2 := key 2 (by omega) h2
  have a3 := key 3 (by omega) h3
  have a4 := key 4 (by omega) h4
  have a5 := key 5 (by omega) h5
  have a6 := key 6 (by omega) h6
  have a7 := key 7 (by omega) h7
  have a8 := key 8 (by omega) h8
  have a9 := key 9 (by omega) h9
  have a10 := key 10 (by omega) h10
  have a11 := key 11 (by omega) h11
  have a12 := key 12 (by omega) h12
  have a13 := key 13 (by omega) h13
  have a14 := key 14 (by omega) h14
  have a15 := key 15 (by omega) h15
  have a16 := key 16 (by omega) h16
  omega
