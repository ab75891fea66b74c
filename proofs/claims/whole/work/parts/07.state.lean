/-! the worlds of the class and of the model; words of the walks that a program lays -/
def eqP {α S : Type} (F : α × S) (r : α) (u : S) : Prop := (r, u) = F
def eqV {S : Type} (F : S) (u : S) : Prop := u = F
def bindc {α β : Type} (x : α) (k : α → β) : β := k x
def bindp {α : Type} (x : α) (k : α → Prop) : Prop := ∀ z, z = x → k z
theorem bindc_eq {α β : Type} {x z : α} {k : α → β} {res : β} (hz : z = x) (h : bindc x k = res) : k z = res := by rw [hz]; exact h
theorem bindp_eq {α : Type} {x z : α} {k : α → Prop} (hz : z = x) (h : bindp x k) : k z := h z hz
theorem it_t {C : Prop} {inst : Decidable C} {α : Type} {a b res : α} (c : C) (h : @ite α C inst a b = res) : a = res := by rw [if_pos c] at h; exact h
theorem it_f {C : Prop} {inst : Decidable C} {α : Type} {a b res : α} (c : ¬ C) (h : @ite α C inst a b = res) : b = res := by rw [if_neg c] at h; exact h
def cpOk (f : Nat → Int32) (n0 n1 : Nat) (sp dp n : Int32) : Prop := ¬ sp < 0 ∧ ¬ dp < 0 ∧ ¬ n < 0 ∧ sp.toNatClampNeg + n.toNatClampNeg ≤ n0 ∧ dp.toNatClampNeg + n.toNatClampNeg ≤ n1 ∧ ∀ i, i < n.toNatClampNeg → fits .byte (.int (f (sp.toNatClampNeg + i))) = true
theorem isB_fit {v : Int32} (h : isB v) : fits .boolean (.int v) = true := by
  have h1 : narrow .boolean (.int v) = .int v := h
  obtain ⟨j, hj, e⟩ := pk_andE v (m := 1) 1 (by decide)
  rw [← h1]
  simp only [narrow, fits]
  have e2 : v &&& 1 = 0 ∨ v &&& 1 = 1 := by
    rcases (show j = 0 ∨ j = 1 by omega) with rfl | rfl
    · exact Or.inl (by rw [e]; rfl)
    · exact Or.inr (by rw [e]; rfl)
  simpa using e2
theorem tb_out4 {x : Int32} (h0 : ¬ x = (0 : Int32)) (h1 : ¬ x = (1 : Int32)) (h2 : ¬ x = (2 : Int32)) (h3 : ¬ x = (3 : Int32)) : x.toInt < 0 ∨ 3 < x.toInt := by
  by_cases h : x.toInt < 0
  · exact Or.inl h
  · refine Or.inr (Classical.byContradiction fun hc => ?_)
    have e : x.toInt = 0 ∨ x.toInt = 1 ∨ x.toInt = 2 ∨ x.toInt = 3 := by omega
    rcases e with e | e | e | e
    · exact h0 (Int32.toInt_inj.mp (e.trans (by decide)))
    · exact h1 (Int32.toInt_inj.mp (e.trans (by decide)))
    · exact h2 (Int32.toInt_inj.mp (e.trans (by decide)))
    · exact h3 (Int32.toInt_inj.mp (e.trans (by decide)))
/-- what stands through a method's walk -/
def Cx (p : Program) (l : Launch) (e : Env) (s : State) (m : MethodId) (args : Array Value) (meth : Method) (c : Code) (y : MethodName) (b : ByteArray) (maxL : Nat) (ret : Option FieldType) (own : String) (G : GG) (A : Nat → Prop) : Prop :=
  p.tables.exec = Jvm.exec ∧ c.code = b ∧ meth.sig.returnType = ret ∧ c.maxLocals = maxL ∧ s.vm.findClass own = some m.cls ∧ meth.locks = false ∧ (∀ w ∈ lw_g, w.before args s = true) ∧ va_K G.1 classes (tysG G) s ∧ (∀ q, s.heap.size ≤ q → A q)
section Go
variable {p : Program} {l : Launch} {e : Env} {R : Room} {s : State} {m : MethodId} {args : Array Value} {below : List Frame} {meth : Method} {c : Code} {H H0 : Heap} {locs : List Loc} {cells slots : Nat} {Q : State → Prop}
  {G : GG} {ws : va_W} {A : Nat → Prop} {pc : Nat} {ls : Array Slot} {st0 rest : List Value} {S : Type}
theorem go_iz {F : Int32 × S} {w1 : S → va_W} {a : Array Value} (hr : va_Run p l e R s m args below meth c H locs cells slots 0 0 (F0 m pc ls st0) rest (va_Qi (eqP F) (Wb G (va_A ws H.size) w1) (va_A ws H.size) a) (va_A ws H.size)) (hD : va_D A ws) (hS : va_S A H0 H locs) (hA : ∀ q, H0.size ≤ q → A q)
    (kk : ∀ (z : Int32 × S) (H1 : Heap) (locs1 : List Loc), z = F → va_P G.1 classes (w1 z.2) H1 → va_D A (w1 z.2) → va_S A H0 H1 locs1 → W p l e R s m args below meth c H1 locs1 cells slots Q (F0 m (pc + 3) ls (.int z.1 :: rest))) : W p l e R s m args below meth c H locs cells slots Q (F0 m pc ls st0) :=
  go_i hr hD hS hA (fun r u H1 locs1 hp => kk (r, u) H1 locs1 hp)
theorem go_lz {F : Int64 × S} {w1 : S → va_W} {a : Array Value} (hr : va_Run p l e R s m args below meth c H locs cells slots 0 0 (F0 m pc ls st0) rest (va_Ql (eqP F) (Wb G (va_A ws H.size) w1) (va_A ws H.size) a) (va_A ws H.size)) (hD : va_D A ws) (hS : va_S A H0 H locs) (hA : ∀ q, H0.size ≤ q → A q)
    (kk : ∀ (z : Int64 × S) (H1 : Heap) (locs1 : List Loc), z = F → va_P G.1 classes (w1 z.2) H1 → va_D A (w1 z.2) → va_S A H0 H1 locs1 → W p l e R s m args below meth c H1 locs1 cells slots Q (F0 m (pc + 3) ls (.long z.1 :: rest))) : W p l e R s m args below meth c H locs cells slots Q (F0 m pc ls st0) :=
  go_l hr hD hS hA (fun r u H1 locs1 hp => kk (r, u) H1 locs1 hp)
theorem go_vz {F : S} {w1 : S → va_W} {a : Array Value} (hr : va_Run p l e R s m args below meth c H locs cells slots 0 0 (F0 m pc ls st0) rest (va_Qv (eqV F) (Wb G (va_A ws H.size) w1) (va_A ws H.size) a) (va_A ws H.size)) (hD : va_D A ws) (hS : va_S A H0 H locs) (hA : ∀ q, H0.size ≤ q → A q)
    (kk : ∀ (z : S) (H1 : Heap) (locs1 : List Loc), z = F → va_P G.1 classes (w1 z) H1 → va_D A (w1 z) → va_S A H0 H1 locs1 → W p l e R s m args below meth c H1 locs1 cells slots Q (F0 m (pc + 3) ls rest)) : W p l e R s m args below meth c H locs cells slots Q (F0 m pc ls st0) :=
  go_v hr hD hS hA (fun u H1 locs1 hp => kk u H1 locs1 hp)
end Go
theorem Met_ofF {l : Launch} {y : MethodName} {b : ByteArray} {maxL : Nat} {ret : Option FieldType} {rm : Room} {G : GG} {ws : va_W} {sz : Nat} {av : List Value} (hy : plainFor y = true) (hlen : (lg_sl av).length ≤ maxL) {Qc : (Nat → Prop) → Array Value → State → Outcome → State → Prop} (body : Body l y b maxL ret rm G ws av Qc) :
    Met l y (lw_ws y b maxL ret) rm (va_Pc av (Wp G ws sz)) (Qc (va_A ws sz)) 0 0 (va_A ws sz) := by
  refine va_MetF (cc := b) (maxL := maxL) (ret := ret) hy rfl ?_
  intro p e s m args below meth c s₁ B hml hv
  obtain ⟨rfl, hsz, hP, hK, hD0⟩ := hv
  have hts := atoms_spec (ws := lw_ws y b maxL ret) B.pre
  subst hsz
  rw [lg_entry_eq]
  exact body p e s m below meth c B.admits B.exec B.bytes B.returns hml (findClass_of_methodNamed B.named) B.notSynchronized (fun w h => hts w (List.mem_cons_of_mem _ h)) hK (va_A ws s.heap.size) (fun q h => Or.inr h) hP hD0.self va_S.rf _ (lv_entry av hlen)
def cC (G : GG) (ad : Nat → Nat) (nb : Nat) (nt : Nat) (cfa : Int32) (cle : Int32) (cwr : Int32) (csl : Int32) (cst : Int32) (cen : Int32) (cby : Nat → Int32) (cto : Nat → Int32) (csh : Nat → Int32) (cdz : Int32) (cch : Nat → Int32) (cva : Nat → Int32) (css : Int32) (cve : Nat → Int32) (cro : Nat → Int32) (crc : Int32) (cma : Nat → Int32) (cbi : Nat → Int32) (ces : Nat → Int32) (cbl : Nat → Int32) (crt : Nat → Int32) : va_W :=
  [(ad 0, .inr (0, [.ref (ad 1), .ref (ad 2), .ref (ad 6), .ref (ad 9), .ref (ad 12)])),
   (ad 1, .inr (1, [.int cfa, .int cle, .int cwr])),
   (ad 2, .inr (2, [.ref (ad 1), .int csl, .ref (ad 3), .ref (ad 4), .ref (ad 5), .int cst, .int cen])),
   (ad 3, .inl (G.2 2, nb, .inl cby)),
   (ad 4, .inl (G.2 1, nt, .inl cto)),
   (ad 5, .inl (G.2 2, 64, .inl csh)),
   (ad 6, .inr (3, [.ref (ad 7), .ref (ad 8), .int cdz])),
   (ad 7, .inl (G.2 0, 512, .inl cch)),
   (ad 8, .inl (G.2 0, 512, .inl cva)),
   (ad 9, .inr (4, [.ref (ad 10), .ref (ad 11), .int css])),
   (ad 10, .inl (G.2 0, 200, .inl cve)),
   (ad 11, .inl (G.2 0, 200, .inl cro)),
   (ad 12, .inr (5, [.ref (ad 13), .ref (ad 14), .ref (ad 15), .ref (ad 16), .ref (ad 17), .int crc])),
   (ad 13, .inl (G.2 1, 73, .inl cma)),
   (ad 14, .inl (G.2 0, 73, .inl cbi)),
   (ad 15, .inl (G.2 0, 584, .inl ces)),
   (ad 16, .inl (G.2 0, 73, .inl cbl)),
   (ad 17, .inl (G.2 0, 8, .inl crt))]
def cM (G : GG) (ad : Nat → Nat) (mrf : Int32) (msl : Int32) (mst : Int32) (men : Int32) (mnw : Int32) (mdn : Int32) (mpw : Int32) (mwr : Int32) (mrs : Int32) (mdr : Int32) (mtb : Int32) (mrc : Int32) (mnx : Int32) (mro : Nat → Int32) (mit : Nat → Int32) (mve : Nat → Int32) (mrb : Nat → Int32) (mch : Nat → Int32) (mva : Nat → Int32) (mic : Nat → Int32) (mlb : Nat → Int32) (mrw : Nat → Int32) (mnb : Nat → Int32) (mlk : Nat → Int32) (mnk : Nat → Int32) (mmd : Nat → Int32) : va_W :=
  [(ad 0, .inr (6, [.int mrf, .int msl, .ref (ad 1), .ref (ad 2), .int mst, .int men, .int mnw, .int mdn, .int mpw, .int mwr, .int mrs, .ref (ad 3), .ref (ad 4), .int mdr, .ref (ad 5), .ref (ad 6), .ref (ad 7), .ref (ad 8), .ref (ad 9), .ref (ad 10), .ref (ad 11), .int mtb, .ref (ad 12), .int mrc, .ref (ad 13), .int mnx])),
   (ad 1, .inl (G.2 0, 12800, .inl mro)),
   (ad 2, .inl (G.2 1, 200, .inl mit)),
   (ad 3, .inl (G.2 0, 4000, .inl mve)),
   (ad 4, .inl (G.2 0, 4000, .inl mrb)),
   (ad 5, .inl (G.2 0, 512, .inl mch)),
   (ad 6, .inl (G.2 0, 512, .inl mva)),
   (ad 7, .inl (G.2 1, 64, .inl mic)),
   (ad 8, .inl (G.2 0, 64, .inl mlb)),
   (ad 9, .inl (G.2 0, 512, .inl mrw)),
   (ad 10, .inl (G.2 0, 8, .inl mnb)),
   (ad 11, .inl (G.2 0, 64, .inl mlk)),
   (ad 12, .inl (G.2 0, 8, .inl mnk)),
   (ad 13, .inl (G.2 0, 64, .inl mmd))]
