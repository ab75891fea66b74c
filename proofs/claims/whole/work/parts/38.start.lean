/-! the law from its entry, over SIM_ and a first state -/
/-! THE CLAIM OUT OF ONE WALK OF THE LAW'S BODY. Your part is whole_start (and what it stands on); all else here is the same for every law, but numbers. -/
def R_law : String := "BookTreesLaw"
def lw_P (b : Addr) (xs : List Int32) (args : Array Value) (s : State) : Prop := args = #[.ref b] ∧ s.IntsAt b xs ∧ xs.length ≤ 2049 ∧ (Jvm.Cond.and given_1 narrow_1).before args s = true
def lw_Q (_ : Array Value) (s : State) (o : Outcome) (t : State) : Prop := o = .returned (some (.int 1)) ∧ Framed s o t [] 601024 7293000
def lw_Z (below : List Frame) (a : Array Value) (s : State) : State → Prop := fun t => ∃ o, t.status = .running ∧ Ended t below o ∧ lw_Q a s o t
/-- the law's own end, with 1 on the stack, nothing written that was there before, its room as the claim has it -/
theorem lw_ret {p : Program} {l : Launch} {e : Env} {s : State} {m : MethodId} {below : List Frame} {meth : Method} {c : Code} {b : Nat} (hx : p.tables.exec = Jvm.exec) (hb : c.code = code) (hr : meth.sig.returnType = ret) (hlocks : meth.locks = false) {pc : Nat} {H : Heap} {ls : Array Slot} (hdg : decode code pc = .ok (.ireturn, 1)) : W p l e room_1 s m #[Value.ref b] below meth c H [] 601024 7293000 (lw_Z below #[Value.ref b] s) (F0 m pc ls [.int 1]) := by
  intro T hT X
  obtain ⟨fs, hret, hrun, hended, hW, hframe⟩ := X.leave (v := some (.int 1)) (hlocks := hlocks) (fun h => by rw [hr] at h; cases h)
  have hmeth' : T.vm.method? m = some meth := X.method'
  refine ⟨T.setFrames fs, ?_, .returned (some (.int 1)), hrun, hended, rfl, ⟨_, rfl⟩, hW, hframe⟩
  jvm_step X.here [X.here.top, hx, hb, hdg, hmeth', hr, ret, narrow_b1]
  (try refine ⟨rfl, ?_⟩); (try refine ⟨rfl, ?_⟩)
  first | (intro acts; rw [hret _ acts rfl rfl rfl]) | rw [hret _ _ rfl rfl rfl]
  exact Steps.refl _
/-- what holds at the law's entry: the machine, the code, the tables' words (any of lw_tbl by 'hts w (by decide +kernel)'), the script of L ints xs at the cell b, what the Statement gives of the start (any of its parts by flat_of_before) -/
def lw_At (p : Program) (s : State) (m : MethodId) (meth : Method) (c : Code) (b L : Nat) (xs : Nat → Int32) : Prop :=
  p.tables.exec = Jvm.exec ∧ c.code = code ∧ meth.sig.returnType = ret ∧ c.maxLocals = 8 ∧ s.vm.findClass R_law = some m.cls ∧ (∀ w ∈ lw_tbl, w.before #[Value.ref b] s = true) ∧ va_X b L xs s s.heap ∧ b < s.heap.size ∧ meth.locks = false ∧ (Jvm.Cond.and given_1 narrow_1).before #[Value.ref b] s = true
theorem wt_ls1 : Cond.laysStatic Bundle.tN "UNASSIGNED_STACK" Bundle.steD ∈ lw_tbl := List.mem_of_getElem? (i := 350) (by decide +kernel)
theorem wt_ls2 : Cond.laysStatic Bundle.tN "SUPPRESSED_SENTINEL" Bundle.listD ∈ lw_tbl := List.mem_of_getElem? (i := 352) (by decide +kernel)
theorem wt_sr1 : Cond.stringRef "BookTrees" 197 TX1 ∈ lw_tbl := List.mem_of_getElem? (i := 363) (by decide +kernel)
theorem wt_sr2 : Cond.stringRef "BookTrees" 204 TX2 ∈ lw_tbl := List.mem_of_getElem? (i := 402) (by decide +kernel)
theorem wt_dc : ∀ y ∈ dcW, Cond.declares y ∈ lw_tbl := by decide +kernel
theorem wt_cs : ∀ q ∈ csW, Cond.castable q.1 q.2 ∈ lw_tbl := by decide +kernel
theorem nw_ir1 : Cond.isRef (.static Bundle.tN "UNASSIGNED_STACK" Bundle.steD) ∈ flatC (Jvm.Cond.and given_1 narrow_1) := by decide +kernel
theorem nw_ir2 : Cond.isRef (.static Bundle.tN "SUPPRESSED_SENTINEL" Bundle.listD) ∈ flatC (Jvm.Cond.and given_1 narrow_1) := by decide +kernel
theorem nw_ex1 : Cond.exactly (.string "BookTrees" 197) "java/lang/String" ∈ flatC (Jvm.Cond.and given_1 narrow_1) := by decide +kernel
theorem nw_ex2 : Cond.exactly (.string "BookTrees" 204) "java/lang/String" ∈ flatC (Jvm.Cond.and given_1 narrow_1) := by decide +kernel
theorem nw_nc : Cond.not (.castable ISE IAE) ∈ flatC (Jvm.Cond.and given_1 narrow_1) := by decide +kernel
theorem st_TZs {n d : String} {args : Array Value} {s : State} (h1 : (Cond.laysStatic Bundle.tN n d).before args s = true) (h2 : (Cond.isRef (.static Bundle.tN n d)).before args s = true) : TZs n d (fun q => s.heap.size ≤ q) s s.heap := by
  obtain ⟨c, k, i, f, a, cell, hc, hi, hst, ha, hcell, hs, hcls, hlt, hty⟩ := Cond.laysStatic_spec h1
  refine ⟨c, k, i, f, a, cell, hc, hi, hst, ha, hcell, hs, hcls, hlt, hty, ?_, Nat.not_le.mpr (Array.getElem?_eq_some_iff.mp hcell).1⟩
  refine ⟨cell.slots[f.slot], Array.getElem?_eq_getElem hlt, ?_⟩
  have e : cell.slots[f.slot]? = some cell.slots[f.slot] := Array.getElem?_eq_getElem hlt
  generalize cell.slots[f.slot] = v at e
  cases v with
  | null => exact Or.inl rfl
  | ref r => exact Or.inr ⟨r, rfl⟩
  | _ => simp [Cond.before, Cond.holds, Cond.value, Term.eval, State.fieldNamed?, hi, hst, ha, hcell, hs, e] at h2
theorem st_TZ {b : Nat} {s : State} (hts : ∀ w ∈ lw_tbl, w.before #[Value.ref b] s = true) (hgv : (Jvm.Cond.and given_1 narrow_1).before #[Value.ref b] s = true) : TZ (fun q => s.heap.size ≤ q) s s.heap := by
  have hs := flat_of_before _ hgv
  have str : ∀ (k : Nat) (tx : String), Cond.stringRef "BookTrees" k tx ∈ lw_tbl → Cond.exactly (.string "BookTrees" k) "java/lang/String" ∈ flatC (Jvm.Cond.and given_1 narrow_1) → ∃ q, vk_R "BookTrees" k tx q s := by
    intro k tx h1 h2
    obtain ⟨a, c, cA, kA, q1, -⟩ := Cond.exactly_spec (hs _ h2)
    exact ⟨a, hts _ h1, by simp only [Term.eval] at q1 ⊢; exact q1⟩
  refine ⟨⟨st_TZs (hts _ wt_ls1) (hs _ nw_ir1), st_TZs (hts _ wt_ls2) (hs _ nw_ir2)⟩, ⟨str 197 TX1 wt_sr1 nw_ex1, str 204 TX2 wt_sr2 nw_ex2⟩, ⟨fun y hy => ?_, fun q hq => ?_⟩, ?_⟩
  · exact va_tabs rfl rfl (hts _ (wt_dc y hy))
  · exact va_tabs rfl rfl (hts _ (wt_cs q hq))
  · obtain ⟨c1, t1, h1, h1', h1a⟩ := Cond.castable_spec (hts _ (wt_cs (IAE, IAE) (by decide)))
    obtain ⟨c2, t2, h2, h2', h2a⟩ := Cond.castable_spec (hts _ (wt_cs (ISE, ISE) (by decide)))
    cases h1.symm.trans h1'
    cases h2.symm.trans h2'
    refine ⟨c1, c2, h1, h2, h1a, h2a, ?_⟩
    have hn := hs _ nw_nc
    cases hz : s.vm.assignable c2 c1 with
    | false => rfl
    | true =>
      simp [Cond.before, Cond.holds, Cond.value, h1, h2, hz] at hn
theorem st_arr {ty : FieldType} {args : Array Value} {s : State} (h : (Cond.arrayClass ty).before args s = true) : ∃ cA : ClassId, ArrOfT s cA ty ∧ s.vm.findClass ("[" ++ ty.toString) = some cA := by
  obtain ⟨c, k, comp, h1, h2, h3⟩ := Cond.arrayClass_spec h
  exact ⟨c, fun n z => ⟨fun k h => (by cases h), k, h2, comp, h3⟩, h1⟩
theorem st_G {args : Array Value} {s : State} (ht : ∀ w ∈ lw_g, w.before args s = true) : ∃ G : GG, va_K G.1 classes (tysG G) s := by
  obtain ⟨c0, i0, h0⟩ := u_known (C := R_BT) (T := F_BT) (N := 5) (n := 5) ht in_BT (ht _ kj_BT)
  obtain ⟨c1, i1, h1⟩ := u_known (C := R_PW) (T := F_PW) (N := 3) (n := 3) ht in_PW (ht _ kj_PW)
  obtain ⟨c2, i2, h2⟩ := u_known (C := R_RL) (T := F_RL) (N := 7) (n := 7) ht in_RL (ht _ kj_RL)
  obtain ⟨c3, i3, h3⟩ := u_known (C := R_DR) (T := F_DR) (N := 3) (n := 3) ht in_DR (ht _ kj_DR)
  obtain ⟨c4, i4, h4⟩ := u_known (C := R_SH) (T := F_SH) (N := 3) (n := 3) ht in_SH (ht _ kj_SH)
  obtain ⟨c5, i5, h5⟩ := u_known (C := R_PG) (T := F_PG) (N := 6) (n := 6) ht in_PG (ht _ kj_PG)
  obtain ⟨c6, i6, h6⟩ := u_known (C := R_MO) (T := F_MO) (N := 26) (n := 26) ht in_MO (ht _ kj_MO)
  obtain ⟨a0, b0, r0⟩ := st_arr (ht _ ac_int)
  obtain ⟨a1, b1, r1⟩ := st_arr (ht _ ac_boolean)
  obtain ⟨a2, b2, r2⟩ := st_arr (ht _ ac_byte)
  obtain ⟨a3, b3, r3⟩ := st_arr (ht _ ac_long)
  refine ⟨((fun k => [c0, c1, c2, c3, c4, c5, c6].getD k c0, fun k => [i0, i1, i2, i3, i4, i5, i6].getD k i0), fun k => [a0, a1, a2, a3].getD k a0), ?_, ?_⟩
  · intro k q hq
    match k, hq with
    | 0, hq => cases hq; exact h0
    | 1, hq => cases hq; exact h1
    | 2, hq => cases hq; exact h2
    | 3, hq => cases hq; exact h3
    | 4, hq => cases hq; exact h4
    | 5, hq => cases hq; exact h5
    | 6, hq => cases hq; exact h6
    | k + 7, hq => simp [classes] at hq
  · intro k q hq
    match k, hq with
    | 0, hq => cases hq; exact ⟨b0, r0⟩
    | 1, hq => cases hq; exact ⟨b1, r1⟩
    | 2, hq => cases hq; exact ⟨b2, r2⟩
    | 3, hq => cases hq; exact ⟨b3, r3⟩
    | k + 4, hq => simp at hq
theorem i_room {i L : Nat} (h : ¬ (nI L - (4 : Int32) < nI i)) (hL : L ≤ 2049) (hi : i ≤ 3000) : i + 4 ≤ L := by
  rcases Nat.lt_or_ge L (i + 4) with q | q
  · refine absurd ?_ h
    have e : (nI L - nI 4).toInt = (L : Int) - (4 : Nat) := pk_sub_toInt (by omega) (by omega)
    have e2 : (nI L - (4 : Int32)).toInt = (L : Int) - (4 : Nat) := e
    rw [Int32.lt_iff_toInt_lt, e2, nI_toInt (by omega)]
    omega
  · exact q
def MONO (INV : INVT) : Prop := ∀ (j N : Nat) (cfa : Int32) (cle : Int32) (cwr : Int32) (csl : Int32) (cst : Int32) (cen : Int32) (cby : (Nat → Int32)) (cto : (Nat → Int32)) (csh : (Nat → Int32)) (cdz : Int32) (cch : (Nat → Int32)) (cva : (Nat → Int32)) (css : Int32) (cve : (Nat → Int32)) (cro : (Nat → Int32)) (crc : Int32) (cma : (Nat → Int32)) (cbi : (Nat → Int32)) (ces : (Nat → Int32)) (cbl : (Nat → Int32)) (crt : (Nat → Int32)) (mrf : Int32) (msl : Int32) (mst : Int32) (men : Int32) (mnw : Int32) (mdn : Int32) (mpw : Int32) (mwr : Int32) (mrs : Int32) (mdr : Int32) (mtb : Int32) (mrc : Int32) (mnx : Int32) (mro : (Nat → Int32)) (mit : (Nat → Int32)) (mve : (Nat → Int32)) (mrb : (Nat → Int32)) (mch : (Nat → Int32)) (mva : (Nat → Int32)) (mic : (Nat → Int32)) (mlb : (Nat → Int32)) (mrw : (Nat → Int32)) (mnb : (Nat → Int32)) (mlk : (Nat → Int32)) (mnk : (Nat → Int32)) (mmd : (Nat → Int32)), INV j N cfa cle cwr csl cst cen cby cto csh cdz cch cva css cve cro crc cma cbi ces cbl crt mrf msl mst men mnw mdn mpw mwr mrs mdr mtb mrc mnx mro mit mve mrb mch mva mic mlb mrw mnb mlk mnk mmd → INV (j + 1) N cfa cle cwr csl cst cen cby cto csh cdz cch cva css cve cro crc cma cbi ces cbl crt mrf msl mst men mnw mdn mpw mwr mrs mdr mtb mrc mnx mro mit mve mrb mch mva mic mlb mrw mnb mlk mnk mmd
set_option maxHeartbeats 4000000 in
set_option maxRecDepth 100000 in
theorem law_loop {p : Program} {l : Launch} {e : Env} {s : State} {m : MethodId} {below : List Frame} {meth : Method} {c : Code} {b L : Nat} {xs : Nat → Int32} {G : GG} {ad bd : Nat → Nat} {ao N : Nat} {INV : INVT} (hr : meth.sig.returnType = ret) (hlocks : meth.locks = false) (hX0 : LX p l s m meth c b L xs G) (h_mono : MONO INV) (h_put : SIM_put INV) (h_drop : SIM_drop INV) (h_undo : SIM_undo INV) (h_get : SIM_get INV) (h_commit : SIM_commit INV) (h_copy : SIM_copy INV) (h_find : SIM_find INV) (h_next : SIM_next INV) (h_rows : SIM_rows INV) (h_kept : SIM_kept INV) (h_crash : SIM_crash INV) (h_reopen : SIM_reopen INV) (h_isDown : SIM_isDown INV) (h_byteAt : SIM_byteAt INV) (h_poke : SIM_poke INV) (h_badAt : SIM_badAt INV) (h_told : SIM_told INV) : ∀ (n i j : Nat), i = 1 + 4 * j → j ≤ 512 → L + 1 ≤ i + n → ∀ (cfa : Int32) (cle : Int32) (cwr : Int32) (csl : Int32) (cst : Int32) (cen : Int32) (cby : (Nat → Int32)) (cto : (Nat → Int32)) (csh : (Nat → Int32)) (cdz : Int32) (cch : (Nat → Int32)) (cva : (Nat → Int32)) (css : Int32) (cve : (Nat → Int32)) (cro : (Nat → Int32)) (crc : Int32) (cma : (Nat → Int32)) (cbi : (Nat → Int32)) (ces : (Nat → Int32)) (cbl : (Nat → Int32)) (crt : (Nat → Int32)) (mrf : Int32) (msl : Int32) (mst : Int32) (men : Int32) (mnw : Int32) (mdn : Int32) (mpw : Int32) (mwr : Int32) (mrs : Int32) (mdr : Int32) (mtb : Int32) (mrc : Int32) (mnx : Int32) (mro : (Nat → Int32)) (mit : (Nat → Int32)) (mve : (Nat → Int32)) (mrb : (Nat → Int32)) (mch : (Nat → Int32)) (mva : (Nat → Int32)) (mic : (Nat → Int32)) (mlb : (Nat → Int32)) (mrw : (Nat → Int32)) (mnb : (Nat → Int32)) (mlk : (Nat → Int32)) (mnk : (Nat → Int32)) (mmd : (Nat → Int32)) (lou : Nat → Int64) (H : Heap) (locs : List Loc) (ls : Array Slot), INV j N cfa cle cwr csl cst cen cby cto csh cdz cch cva css cve cro crc cma cbi ces cbl crt mrf msl mst men mnw mdn mpw mwr mrs mdr mtb mrc mnx mro mit mve mrb mch mva mic mlb mrw mnb mlk mnk mmd → va_P G.1 classes (((cC G ad (N * 64) N cfa cle cwr csl cst cen cby cto csh cdz cch cva css cve cro crc cma cbi ces cbl crt) ++ [(ao, .inl (G.2 3, 1, .inr (.inl lou)))]) ++ (cM G bd mrf msl mst men mnw mdn mpw mwr mrs mdr mtb mrc mnx mro mit mve mrb mch mva mic mlb mrw mnb mlk mnk mmd)) H → va_D (fun q : Nat => s.heap.size ≤ q) (((cC G ad (N * 64) N cfa cle cwr csl cst cen cby cto csh cdz cch cva css cve cro crc cma cbi ces cbl crt) ++ [(ao, .inl (G.2 3, 1, .inr (.inl lou)))]) ++ (cM G bd mrf msl mst men mnw mdn mpw mwr mrs mdr mtb mrc mnx mro mit mve mrb mch mva mic mlb mrw mnb mlk mnk mmd)) → va_S (fun q : Nat => s.heap.size ≤ q) s.heap H locs → lv_has ls 8 [(0, .ref b), (1, .ref (ad 0)), (2, .ref (bd 0)), (3, .ref ao), (4, .int (nI i))] → W p l e room_1 s m #[Value.ref b] below meth c H locs (33 + j) (38161 + 6 * j) (lw_Z below #[Value.ref b] s) (F0 m 33 ls []) := by
  have hX1 := hX0
  obtain ⟨hfl, hx, hb, hml, hown, ht, hK, hX, hbl, hZ, hL⟩ := hX0
  have hbA : ¬ (fun q : Nat => s.heap.size ≤ q) b := Nat.not_le.mpr hbl
  intro n
  induction n with
  | zero =>
    intro i j hij hj hn cfa cle cwr csl cst cen cby cto csh cdz cch cva css cve cro crc cma cbi ces cbl crt mrf msl mst men mnw mdn mpw mwr mrs mdr mtb mrc mnx mro mit mve mrb mch mva mic mlb mrw mnb mlk mnk mmd lou H locs ls hinv hP hD hS hl
    refine lv_iload hx hb d_LA_law_33 (lv_at hl 4 rfl) ?_
    refine lv_aload_n hx hb d_LA_law_35 rfl (lv_at hl 0 rfl) ?_
    refine va_slen hx hb hX hbl hbA hS d_LA_law_36 ?_
    refine lv_iconst (v := (4 : Int32)) hx hb d_LA_law_37 (by decide) ?_
    refine lv_isub hx hb d_LA_law_38 ?_
    refine lv_icmp_gt (tgt := 1018) hx hb d_LA_law_39 (by decide) (fun c_39 => ?_) (fun c_39 => ?_)
    · refine lv_iconst (v := (1 : Int32)) hx hb d_LA_law_1018 (by decide) ?_
      refine va_forget (fun q hq => hS.2.2 q hq) ?_
      refine W.widen (k := 601024) (n := 7293000) (by omega) (by omega) ?_
      exact lw_ret hx hb hr hlocks d_LA_law_1019
    · exact absurd (i_room c_39 hL (by omega)) (by omega)
  | succ n ih =>
    intro i j hij hj hn cfa cle cwr csl cst cen cby cto csh cdz cch cva css cve cro crc cma cbi ces cbl crt mrf msl mst men mnw mdn mpw mwr mrs mdr mtb mrc mnx mro mit mve mrb mch mva mic mlb mrw mnb mlk mnk mmd lou H locs ls hinv hP hD hS hl
    refine lv_iload hx hb d_LA_law_33 (lv_at hl 4 rfl) ?_
    refine lv_aload_n hx hb d_LA_law_35 rfl (lv_at hl 0 rfl) ?_
    refine va_slen hx hb hX hbl hbA hS d_LA_law_36 ?_
    refine lv_iconst (v := (4 : Int32)) hx hb d_LA_law_37 (by decide) ?_
    refine lv_isub hx hb d_LA_law_38 ?_
    refine lv_icmp_gt (tgt := 1018) hx hb d_LA_law_39 (by decide) (fun c_39 => ?_) (fun c_39 => ?_)
    · refine lv_iconst (v := (1 : Int32)) hx hb d_LA_law_1018 (by decide) ?_
      refine va_forget (fun q hq => hS.2.2 q hq) ?_
      refine W.widen (k := 601024) (n := 7293000) (by omega) (by omega) ?_
      exact lw_ret hx hb hr hlocks d_LA_law_1019
    · have hi4 : i + 4 ≤ L := i_room c_39 hL (by omega)
      refine lv_aload_n hx hb d_LA_law_42 rfl (lv_at hl 0 rfl) ?_
      refine lv_iload hx hb d_LA_law_43 (lv_at hl 4 rfl) ?_
      refine va_sld hx hb hX hbl hbA hS (vp_in_nI (by omega) (by omega)) d_LA_law_45 ?_
      refine lv_bipush (v := (31 : Int32)) hx hb d_LA_law_46 (by decide) ?_
      refine lv_iand hx hb d_LA_law_48 ?_
      refine lv_topi (fun sw esw => ?_)
      have kk : ∀ (cfa : Int32) (cle : Int32) (cwr : Int32) (csl : Int32) (cst : Int32) (cen : Int32) (cby : (Nat → Int32)) (cto : (Nat → Int32)) (csh : (Nat → Int32)) (cdz : Int32) (cch : (Nat → Int32)) (cva : (Nat → Int32)) (css : Int32) (cve : (Nat → Int32)) (cro : (Nat → Int32)) (crc : Int32) (cma : (Nat → Int32)) (cbi : (Nat → Int32)) (ces : (Nat → Int32)) (cbl : (Nat → Int32)) (crt : (Nat → Int32)) (mrf : Int32) (msl : Int32) (mst : Int32) (men : Int32) (mnw : Int32) (mdn : Int32) (mpw : Int32) (mwr : Int32) (mrs : Int32) (mdr : Int32) (mtb : Int32) (mrc : Int32) (mnx : Int32) (mro : (Nat → Int32)) (mit : (Nat → Int32)) (mve : (Nat → Int32)) (mrb : (Nat → Int32)) (mch : (Nat → Int32)) (mva : (Nat → Int32)) (mic : (Nat → Int32)) (mlb : (Nat → Int32)) (mrw : (Nat → Int32)) (mnb : (Nat → Int32)) (mlk : (Nat → Int32)) (mnk : (Nat → Int32)) (mmd : (Nat → Int32)) (lou : Nat → Int64) (H : Heap) (locs : List Loc) (ls : Array Slot), INV (j + 1) N cfa cle cwr csl cst cen cby cto csh cdz cch cva css cve cro crc cma cbi ces cbl crt mrf msl mst men mnw mdn mpw mwr mrs mdr mtb mrc mnx mro mit mve mrb mch mva mic mlb mrw mnb mlk mnk mmd → va_P G.1 classes (((cC G ad (N * 64) N cfa cle cwr csl cst cen cby cto csh cdz cch cva css cve cro crc cma cbi ces cbl crt) ++ [(ao, .inl (G.2 3, 1, .inr (.inl lou)))]) ++ (cM G bd mrf msl mst men mnw mdn mpw mwr mrs mdr mtb mrc mnx mro mit mve mrb mch mva mic mlb mrw mnb mlk mnk mmd)) H → va_D (fun q : Nat => s.heap.size ≤ q) (((cC G ad (N * 64) N cfa cle cwr csl cst cen cby cto csh cdz cch cva css cve cro crc cma cbi ces cbl crt) ++ [(ao, .inl (G.2 3, 1, .inr (.inl lou)))]) ++ (cM G bd mrf msl mst men mnw mdn mpw mwr mrs mdr mtb mrc mnx mro mit mve mrb mch mva mic mlb mrw mnb mlk mnk mmd)) → va_S (fun q : Nat => s.heap.size ≤ q) s.heap H locs → lv_has ls 8 [(0, .ref b), (1, .ref (ad 0)), (2, .ref (bd 0)), (3, .ref ao), (4, .int (nI i))] → W p l e room_1 s m #[Value.ref b] below meth c H locs ((33 + j) + 1) ((38161 + 6 * j) + 6) (lw_Z below #[Value.ref b] s) (F0 m 1012 ls []) := by
        intro cfa cle cwr csl cst cen cby cto csh cdz cch cva css cve cro crc cma cbi ces cbl crt mrf msl mst men mnw mdn mpw mwr mrs mdr mtb mrc mnx mro mit mve mrb mch mva mic mlb mrw mnb mlk mnk mmd lou H locs ls hinv hP hD hS hl
        refine lv_iinc (v := nI (i + 4)) (lv' := [(4, .int (nI (i + 4))), (0, .ref b), (1, .ref (ad 0)), (2, .ref (bd 0)), (3, .ref ao)]) hx hb d_LA_law_1012 hl (k := 4) rfl (nI_add i 4) (by decide) rfl (fun ls hl => ?_)
        refine lv_goto (tgt := 33) hx hb d_LA_law_1015 (by decide) ?_
        exact ih (i + 4) (j + 1) (by omega) (by omega) (by omega) cfa cle cwr csl cst cen cby cto csh cdz cch cva css cve cro crc cma cbi ces cbl crt mrf msl mst men mnw mdn mpw mwr mrs mdr mtb mrc mnx mro mit mve mrb mch mva mic mlb mrw mnb mlk mnk mmd lou H locs ls hinv hP hD hS (lv_sub hl [1, 2, 3, 4, 0] rfl)
      by_cases c0 : sw = (0 : Int32)
      · refine lv_tableIn (off := 83) (tgt := 132) hx hb d_LA_law_49 (by rw [c0]; decide) (by rw [c0]; decide) (by rw [c0]; rfl) (by decide) ?_
        exact law_put (show j < 512 by omega) h_put hX1 (by omega) (by omega) (by omega) hinv hP hD hS hl kk
      by_cases c1 : sw = (1 : Int32)
      · refine lv_tableIn (off := 151) (tgt := 200) hx hb d_LA_law_49 (by rw [c1]; decide) (by rw [c1]; decide) (by rw [c1]; rfl) (by decide) ?_
        exact law_drop (show j < 512 by omega) h_drop hX1 (by omega) (by omega) (by omega) hinv hP hD hS hl kk
      by_cases c2 : sw = (2 : Int32)
      · refine lv_tableIn (off := 207) (tgt := 256) hx hb d_LA_law_49 (by rw [c2]; decide) (by rw [c2]; decide) (by rw [c2]; rfl) (by decide) ?_
        exact law_undo (show j < 512 by omega) h_undo hX1 (by omega) (by omega) (by omega) hinv hP hD hS hl kk
      by_cases c3 : sw = (3 : Int32)
      · refine lv_tableIn (off := 251) (tgt := 300) hx hb d_LA_law_49 (by rw [c3]; decide) (by rw [c3]; decide) (by rw [c3]; rfl) (by decide) ?_
        exact law_get (show j < 512 by omega) h_get hX1 (by omega) (by omega) (by omega) hinv hP hD hS hl kk
      by_cases c4 : sw = (4 : Int32)
      · refine lv_tableIn (off := 306) (tgt := 355) hx hb d_LA_law_49 (by rw [c4]; decide) (by rw [c4]; decide) (by rw [c4]; rfl) (by decide) ?_
        exact law_commit (show j < 512 by omega) h_commit hX1 (by omega) (by omega) (by omega) hinv hP hD hS hl kk
      by_cases c5 : sw = (5 : Int32)
      · refine lv_tableIn (off := 350) (tgt := 399) hx hb d_LA_law_49 (by rw [c5]; decide) (by rw [c5]; decide) (by rw [c5]; rfl) (by decide) ?_
        exact law_copy (show j < 512 by omega) h_copy hX1 (by omega) (by omega) (by omega) hinv hP hD hS hl kk
      by_cases c6 : sw = (6 : Int32)
      · refine lv_tableIn (off := 394) (tgt := 443) hx hb d_LA_law_49 (by rw [c6]; decide) (by rw [c6]; decide) (by rw [c6]; rfl) (by decide) ?_
        exact law_find (show j < 512 by omega) h_find hX1 (by omega) (by omega) (by omega) hinv hP hD hS hl kk
      by_cases c7 : sw = (7 : Int32)
      · refine lv_tableIn (off := 461) (tgt := 510) hx hb d_LA_law_49 (by rw [c7]; decide) (by rw [c7]; decide) (by rw [c7]; rfl) (by decide) ?_
        exact law_next (show j < 512 by omega) h_next hX1 (by omega) (by omega) (by omega) hinv hP hD hS hl kk
      by_cases c8 : sw = (8 : Int32)
      · refine lv_tableIn (off := 529) (tgt := 578) hx hb d_LA_law_49 (by rw [c8]; decide) (by rw [c8]; decide) (by rw [c8]; rfl) (by decide) ?_
        exact law_rows (show j < 512 by omega) h_rows hX1 (by omega) (by omega) (by omega) hinv hP hD hS hl kk
      by_cases c9 : sw = (9 : Int32)
      · refine lv_tableIn (off := 585) (tgt := 634) hx hb d_LA_law_49 (by rw [c9]; decide) (by rw [c9]; decide) (by rw [c9]; rfl) (by decide) ?_
        exact law_kept (show j < 512 by omega) h_kept hX1 (by omega) (by omega) (by omega) hinv hP hD hS hl kk
      by_cases c10 : sw = (10 : Int32)
      · refine lv_tableIn (off := 641) (tgt := 690) hx hb d_LA_law_49 (by rw [c10]; decide) (by rw [c10]; decide) (by rw [c10]; rfl) (by decide) ?_
        exact law_crash (show j < 512 by omega) h_crash hX1 (by omega) (by omega) (by omega) hinv hP hD hS hl kk
      by_cases c11 : sw = (11 : Int32)
      · refine lv_tableIn (off := 677) (tgt := 726) hx hb d_LA_law_49 (by rw [c11]; decide) (by rw [c11]; decide) (by rw [c11]; rfl) (by decide) ?_
        exact law_reopen (show j < 512 by omega) h_reopen hX1 (by omega) (by omega) (by omega) hinv hP hD hS hl kk
      by_cases c12 : sw = (12 : Int32)
      · refine lv_tableIn (off := 690) (tgt := 739) hx hb d_LA_law_49 (by rw [c12]; decide) (by rw [c12]; decide) (by rw [c12]; rfl) (by decide) ?_
        exact law_isDown (show j < 512 by omega) h_isDown hX1 (by omega) (by omega) (by omega) hinv hP hD hS hl kk
      by_cases c13 : sw = (13 : Int32)
      · refine lv_tableIn (off := 703) (tgt := 752) hx hb d_LA_law_49 (by rw [c13]; decide) (by rw [c13]; decide) (by rw [c13]; rfl) (by decide) ?_
        exact law_byteAt (show j < 512 by omega) h_byteAt hX1 (by omega) (by omega) (by omega) hinv hP hD hS hl kk
      by_cases c14 : sw = (14 : Int32)
      · refine lv_tableIn (off := 771) (tgt := 820) hx hb d_LA_law_49 (by rw [c14]; decide) (by rw [c14]; decide) (by rw [c14]; rfl) (by decide) ?_
        exact law_poke (show j < 512 by omega) h_poke hX1 (by omega) (by omega) (by omega) hinv hP hD hS hl kk
      by_cases c15 : sw = (15 : Int32)
      · refine lv_tableIn (off := 851) (tgt := 900) hx hb d_LA_law_49 (by rw [c15]; decide) (by rw [c15]; decide) (by rw [c15]; rfl) (by decide) ?_
        exact law_badAt (show j < 512 by omega) h_badAt hX1 (by omega) (by omega) (by omega) hinv hP hD hS hl kk
      by_cases c16 : sw = (16 : Int32)
      · refine lv_tableIn (off := 907) (tgt := 956) hx hb d_LA_law_49 (by rw [c16]; decide) (by rw [c16]; decide) (by rw [c16]; rfl) (by decide) ?_
        exact law_told (show j < 512 by omega) h_told hX1 (by omega) (by omega) (by omega) hinv hP hD hS hl kk
      refine lv_tableOut hx hb d_LA_law_49 (tb_out17 c0 c1 c2 c3 c4 c5 c6 c7 c8 c9 c10 c11 c12 c13 c14 c15 c16) (tgt := 1012) (by decide) ?_
      refine W.widen (k := (33 + j) + 1) (n := (38161 + 6 * j) + 6) (by omega) (by omega) ?_
      exact kk cfa cle cwr csl cst cen cby cto csh cdz cch cva css cve cro crc cma cbi ces cbl crt mrf msl mst men mnw mdn mpw mwr mrs mdr mtb mrc mnx mro mit mve mrb mch mva mic mlb mrw mnb mlk mnk mmd lou H locs ls (h_mono j N cfa cle cwr csl cst cen cby cto csh cdz cch cva css cve cro crc cma cbi ces cbl crt mrf msl mst men mnw mdn mpw mwr mrs mdr mtb mrc mnx mro mit mve mrb mch mva mic mlb mrw mnb mlk mnk mmd hinv) hP hD hS hl
def INV0 (INV : INVT) : Prop := ∀ N : Nat, 16 ≤ N → N ≤ 200 → INV 0 N 0 (-1) 0 (nI N) 0 0 (fun _ => 0) (fun _ => 0) (fun _ => 0) 0 (fun _ => 0) (fun _ => 0) 0 (fun _ => 0) (fun _ => 0) 0 (fun _ => 0) (fun _ => 0) (fun _ => 0) (fun _ => 0) (fun _ => 0) 0 (nI N) 0 0 0 0 (-1) 0 0 0 0 0 0 (fun _ => 0) (fun _ => 0) (fun _ => 0) (fun _ => 0) (fun _ => 0) (fun _ => 0) (fun _ => 0) (fun _ => 0) (fun _ => 0) (fun _ => 0) (fun _ => 0) (fun _ => 0) (fun _ => 0)
theorem NW3_blind {G : GG} {ws : va_W} {sz : Nat} {av : List Value} : FrameBlind (va_Pc av (fun U => Wp G ws sz U ∧ NW3 U)) := by
  intro a U g mk q
  obtain ⟨q0, ⟨q1, qP, qK, qD⟩, qN⟩ := q
  exact ⟨q0, ⟨q1, qP, va_K.moved (u := U) (U := U.calling g mk a) (Vm.Alike.refl U.vm) qK, qD⟩, va_Nw.same rfl (u := U) (U := U.calling g mk a) rfl qN.1, va_Nw.same rfl (u := U) (U := U.calling g mk a) rfl qN.2.1, va_Nw.same rfl (u := U) (U := U.calling g mk a) rfl qN.2.2⟩
set_option maxHeartbeats 4000000 in
set_option maxRecDepth 100000 in
theorem start_open {INV : INVT} (h_0 : INV0 INV) (h_mono : MONO INV) (h_put : SIM_put INV) (h_drop : SIM_drop INV) (h_undo : SIM_undo INV) (h_get : SIM_get INV) (h_commit : SIM_commit INV) (h_copy : SIM_copy INV) (h_find : SIM_find INV) (h_next : SIM_next INV) (h_rows : SIM_rows INV) (h_kept : SIM_kept INV) (h_crash : SIM_crash INV) (h_reopen : SIM_reopen INV) (h_isDown : SIM_isDown INV) (h_byteAt : SIM_byteAt INV) (h_poke : SIM_poke INV) (h_badAt : SIM_badAt INV) (h_told : SIM_told INV) {p : Program} {e : Env} {s : State} {m : MethodId} {below : List Frame} {meth : Method} {c : Code} (l : Launch) (hfl : l.flags = flags0) {b L : Nat} {xs : Nat → Int32} (hL : L ≤ 2049) (C0 : lw_At p s m meth c b L xs) : W p l e room_1 s m #[Value.ref b] below meth c s.heap [] 0 0 (lw_Z below #[Value.ref b] s) (entryFrame m ([Value.ref b] : List Value).toArray 8) := by
  obtain ⟨hx, hb, hr, hml, hown, hts, hX, hbl, hlocks, hgv⟩ := id C0
  have hown : s.vm.findClass "BookTreesLaw" = some m.cls := hown
  have ht : ∀ w ∈ lw_g, w.before #[Value.ref b] s = true := fun w h => hts w (lw_g_tbl w h)
  have hZ := st_TZ hts hgv
  obtain ⟨G, hK⟩ := st_G ht
  have hA : ∀ q : Nat, s.heap.size ≤ q → (fun q : Nat => s.heap.size ≤ q) q := fun _ h => h
  have hbA : ¬ (fun q : Nat => s.heap.size ≤ q) b := Nat.not_le.mpr hbl
  have hX1 : LX p l s m meth c b L xs G := ⟨hfl, hx, hb, hml, hown, ht, hK, hX, hbl, hZ, hL⟩
  have hN3 : NW3 s := ⟨va_Nw.of rfl (hts _ kn_BT_27), va_Nw.of rfl (hts _ kn_BT_34), va_Nw.of rfl (hts _ kn_BT_41)⟩
  have hS : va_S (fun q : Nat => s.heap.size ≤ q) s.heap s.heap [] := va_S.rf
  have hP : va_P G.1 classes [] s.heap := fun k q h => by simp at h
  have hD : va_D (fun q : Nat => s.heap.size ≤ q) [] := ⟨fun i j p q h => by simp at h, fun k q h => by simp at h⟩
  have hl := lv_entry ([.ref b]) (n := 8) (Nat.le_of_ble_eq_true rfl)
  rw [lg_entry_eq]
  generalize (lg_sl ([.ref b]) ++ List.replicate (8 - (lg_sl ([.ref b])).length) Slot.unset).toArray = ls at hl ⊢
  have hl : lv_has ls 8 [(0, .ref b)] := hl
  have hc0 : ¬ nI L ≤ (0 : Int32) → vp_in (0 : Int32) L := fun h => (Nat.eq_zero_or_pos L).elim (fun q => absurd (by rw [q]; decide) h) (fun q => vp_in_nI (n := 0) q (by omega))
  obtain ⟨N, h16, h200, hN1, hN2⟩ := clamp_ok (f_cell L xs (0 : Int32))
  refine va_new (ci := 0) (fs := [.null, .null, .null, .null, .null]) (C := R_BT) (T := F_BT) (N := 5) hx hb ht in_BT t_BT to_BT hown (ht _ kc_LA_8) (ht _ kj_BT) (ht _ ini_BT) hK hP hD hS hA rfl (fun j hj => by match j, hj with | 0, _ => rfl | 1, _ => rfl | 2, _ => rfl | 3, _ => rfl | 4, _ => rfl | z + 5, hz => exact absurd hz (by omega)) (by decide) (by decide) d_LA_law_0 (fun q0 H hP hD hS => ?_)
  have hP : va_P G.1 classes ([(q0, .inr (0, [.null, .null, .null, .null, .null]))] ++ []) H := hP
  have hD : va_D (fun q : Nat => s.heap.size ≤ q) ([(q0, .inr (0, [.null, .null, .null, .null, .null]))] ++ []) := hD
  refine lv_dup hx hb d_LA_law_3 rfl ?_
  refine lv_aload_n hx hb d_LA_law_4 rfl (lv_at hl 0 rfl) ?_
  refine lv_iconst (v := (0 : Int32)) hx hb d_LA_law_5 (by decide) ?_
  refine W.callR (r := f_cell L xs (0 : Int32)) (W.runS (As := [.ref b, .int (0 : Int32)]) (rest := [.ref q0, .ref q0]) (g := F0 m 6 ls [.int (0 : Int32), .ref b, .ref q0, .ref q0]) ⟨hx, hb, hml, hown, ht⟩ (c_LA_cell (l := l) (b := b) (L := L) (xs := xs) hc0) (cw_S ht km_LA_65 kt_LA_cell ini_LA kd_LA_cell kh_LA_cell ⟨Nat.le_of_ble_eq_true rfl, Nat.le_of_ble_eq_true rfl⟩ rfl rfl) ⟨Xp_blind, fun U hU hW => ⟨rfl, by show va_X b L xs U U.heap; rw [hU]; exact (hX.kept (hS.2.1 b hbl hbA)).moved hW.alike⟩⟩ rfl rfl hl.1 rfl (lv_room (Nat.le_of_ble_eq_true rfl)) d_LA_law_6 ⟨by decide, by decide⟩) ?_
  refine W.eq (g2 := F0 m 9 ls [.int (f_cell L xs (0 : Int32)), .ref q0, .ref q0]) rfl ?_
  refine go_vn (va_runI (As := [.int (f_cell L xs (0 : Int32))]) (rest := [.ref q0]) (g := F0 m 9 ls [.int (f_cell L xs (0 : Int32)), .ref q0, .ref q0]) ⟨hx, hb, hml, hown, ht⟩ (c_BT_init (sz := H.size) hN1 h16 h200) (cw_I ht km_LA_71 ki_BT_init ini_BT kd_BT_init rfl kh_BT_init ⟨Nat.le_of_ble_eq_true rfl, Nat.le_of_ble_eq_true rfl⟩ rfl rfl) ⟨NW3_blind, fun U hU hW => ⟨rfl, ⟨by rw [hU], by rw [hU]; exact P_left hP, va_K.moved hW.alike hK, (D_left hD).weaken (fun _ _ _ _ => trivial)⟩, hN3.1.warmM hW, hN3.2.1.warmM hW, hN3.2.2.warmM hW⟩⟩ rfl rfl hl.1 rfl (lv_room (Nat.le_of_ble_eq_true rfl)) d_LA_law_9 ⟨by decide, by decide⟩) hP hD hS hA (fun ad H locs had hP hD hS => ?_)
  rw [← had]
  have hP : va_P G.1 classes (cC G ad (N * 64) N 0 (-1) 0 (nI N) 0 0 (fun _ => 0) (fun _ => 0) (fun _ => 0) 0 (fun _ => 0) (fun _ => 0) 0 (fun _ => 0) (fun _ => 0) 0 (fun _ => 0) (fun _ => 0) (fun _ => 0) (fun _ => 0) (fun _ => 0)) H := P_left hP
  have hD : va_D (fun q : Nat => s.heap.size ≤ q) (cC G ad (N * 64) N 0 (-1) 0 (nI N) 0 0 (fun _ => 0) (fun _ => 0) (fun _ => 0) 0 (fun _ => 0) (fun _ => 0) 0 (fun _ => 0) (fun _ => 0) 0 (fun _ => 0) (fun _ => 0) (fun _ => 0) (fun _ => 0) (fun _ => 0)) := D_left hD
  refine lv_astore_n (lv' := [(1, .ref (ad 0)), (0, .ref b)]) hx hb d_LA_law_12 rfl hl (by decide) rfl (fun ls hl => ?_)
  refine va_new (ci := 6) (fs := [.int 0, .int 0, .null, .null, .int 0, .int 0, .int 0, .int 0, .int 0, .int 0, .int 0, .null, .null, .int 0, .null, .null, .null, .null, .null, .null, .null, .int 0, .null, .int 0, .null, .int 0]) (C := R_MO) (T := F_MO) (N := 26) hx hb ht in_MO t_MO to_MO hown (ht _ kc_LA_73) (ht _ kj_MO) (ht _ ini_MO) hK hP hD hS hA rfl (fun j hj => by match j, hj with | 0, _ => rfl | 1, _ => rfl | 2, _ => rfl | 3, _ => rfl | 4, _ => rfl | 5, _ => rfl | 6, _ => rfl | 7, _ => rfl | 8, _ => rfl | 9, _ => rfl | 10, _ => rfl | 11, _ => rfl | 12, _ => rfl | 13, _ => rfl | 14, _ => rfl | 15, _ => rfl | 16, _ => rfl | 17, _ => rfl | 18, _ => rfl | 19, _ => rfl | 20, _ => rfl | 21, _ => rfl | 22, _ => rfl | 23, _ => rfl | 24, _ => rfl | 25, _ => rfl | z + 26, hz => exact absurd hz (by omega)) (by decide) (by decide) d_LA_law_13 (fun q13 H hP hD hS => ?_)
  have hP : va_P G.1 classes ([(q13, .inr (6, [.int 0, .int 0, .null, .null, .int 0, .int 0, .int 0, .int 0, .int 0, .int 0, .int 0, .null, .null, .int 0, .null, .null, .null, .null, .null, .null, .null, .int 0, .null, .int 0, .null, .int 0]))] ++ (cC G ad (N * 64) N 0 (-1) 0 (nI N) 0 0 (fun _ => 0) (fun _ => 0) (fun _ => 0) 0 (fun _ => 0) (fun _ => 0) 0 (fun _ => 0) (fun _ => 0) 0 (fun _ => 0) (fun _ => 0) (fun _ => 0) (fun _ => 0) (fun _ => 0))) H := P_swap hP
  have hD : va_D (fun q : Nat => s.heap.size ≤ q) ([(q13, .inr (6, [.int 0, .int 0, .null, .null, .int 0, .int 0, .int 0, .int 0, .int 0, .int 0, .int 0, .null, .null, .int 0, .null, .null, .null, .null, .null, .null, .null, .int 0, .null, .int 0, .null, .int 0]))] ++ (cC G ad (N * 64) N 0 (-1) 0 (nI N) 0 0 (fun _ => 0) (fun _ => 0) (fun _ => 0) 0 (fun _ => 0) (fun _ => 0) 0 (fun _ => 0) (fun _ => 0) 0 (fun _ => 0) (fun _ => 0) (fun _ => 0) (fun _ => 0) (fun _ => 0))) := D_swap hD
  refine lv_dup hx hb d_LA_law_16 rfl ?_
  refine lv_aload_n hx hb d_LA_law_17 rfl (lv_at hl 1 rfl) ?_
  refine lv_iconst (v := (0 : Int32)) hx hb d_LA_law_18 (by decide) ?_
  refine W.callR (r := f_cell L xs (0 : Int32)) (W.runS (As := [.ref b, .int (0 : Int32)]) (rest := [.ref q13, .ref q13]) (g := F0 m 19 ls [.int (0 : Int32), .ref b, .ref q13, .ref q13]) ⟨hx, hb, hml, hown, ht⟩ (c_LA_cell (l := l) (b := b) (L := L) (xs := xs) hc0) (cw_S ht km_LA_65 kt_LA_cell ini_LA kd_LA_cell kh_LA_cell ⟨Nat.le_of_ble_eq_true rfl, Nat.le_of_ble_eq_true rfl⟩ rfl rfl) ⟨Xp_blind, fun U hU hW => ⟨rfl, by show va_X b L xs U U.heap; rw [hU]; exact (hX.kept (hS.2.1 b hbl hbA)).moved hW.alike⟩⟩ rfl rfl hl.1 rfl (lv_room (Nat.le_of_ble_eq_true rfl)) d_LA_law_19 ⟨by decide, by decide⟩) ?_
  refine W.eq (g2 := F0 m 22 ls [.int (f_cell L xs (0 : Int32)), .ref q13, .ref q13]) rfl ?_
  refine go_vn (run_I hx hb hml hown ht hK (P_left hP) (D_left hD) (c_MO_init hN2) (cw_I ht km_LA_75 ki_MO_init ini_MO kd_MO_init rfl kh_MO_init ⟨Nat.le_of_ble_eq_true rfl, Nat.le_of_ble_eq_true rfl⟩ rfl rfl) (As := [.int (f_cell L xs (0 : Int32))]) (rest := [.ref q13]) rfl hl.1 rfl (Nat.le_of_ble_eq_true rfl) d_LA_law_22 ⟨by decide, by decide⟩) hP hD hS hA (fun bd H locs hbd hP hD hS => ?_)
  rw [← hbd]
  have hP : va_P G.1 classes ((cM G bd 0 (nI N) 0 0 0 0 (-1) 0 0 0 0 0 0 (fun _ => 0) (fun _ => 0) (fun _ => 0) (fun _ => 0) (fun _ => 0) (fun _ => 0) (fun _ => 0) (fun _ => 0) (fun _ => 0) (fun _ => 0) (fun _ => 0) (fun _ => 0) (fun _ => 0)) ++ (cC G ad (N * 64) N 0 (-1) 0 (nI N) 0 0 (fun _ => 0) (fun _ => 0) (fun _ => 0) 0 (fun _ => 0) (fun _ => 0) 0 (fun _ => 0) (fun _ => 0) 0 (fun _ => 0) (fun _ => 0) (fun _ => 0) (fun _ => 0) (fun _ => 0))) H := hP
  have hD : va_D (fun q : Nat => s.heap.size ≤ q) ((cM G bd 0 (nI N) 0 0 0 0 (-1) 0 0 0 0 0 0 (fun _ => 0) (fun _ => 0) (fun _ => 0) (fun _ => 0) (fun _ => 0) (fun _ => 0) (fun _ => 0) (fun _ => 0) (fun _ => 0) (fun _ => 0) (fun _ => 0) (fun _ => 0) (fun _ => 0)) ++ (cC G ad (N * 64) N 0 (-1) 0 (nI N) 0 0 (fun _ => 0) (fun _ => 0) (fun _ => 0) 0 (fun _ => 0) (fun _ => 0) 0 (fun _ => 0) (fun _ => 0) 0 (fun _ => 0) (fun _ => 0) (fun _ => 0) (fun _ => 0) (fun _ => 0))) := hD
  refine lv_astore_n (lv' := [(2, .ref (bd 0)), (1, .ref (ad 0)), (0, .ref b)]) hx hb d_LA_law_25 rfl hl (by decide) rfl (fun ls hl => ?_)
  refine lv_iconst (v := (1 : Int32)) hx hb d_LA_law_26 (by decide) ?_
  refine na_row (atype := .long) (ty := .long) (N' := 1) (a0 := (1, .inr (.inl (fun _ => 0)))) hx hb 3 (ht _ ac_long) rfl (fun _ => rfl) rfl hK hP hD hS hA (az_long _) (by decide +kernel) (by decide +kernel) (by decide +kernel) (by decide) (by decide) d_LA_law_27 (fun ao H hP hD hS => ?_)
  have hP : va_P G.1 classes (((cC G ad (N * 64) N 0 (-1) 0 (nI N) 0 0 (fun _ => 0) (fun _ => 0) (fun _ => 0) 0 (fun _ => 0) (fun _ => 0) 0 (fun _ => 0) (fun _ => 0) 0 (fun _ => 0) (fun _ => 0) (fun _ => 0) (fun _ => 0) (fun _ => 0)) ++ [(ao, .inl (G.2 3, 1, .inr (.inl (fun _ => 0))))]) ++ (cM G bd 0 (nI N) 0 0 0 0 (-1) 0 0 0 0 0 0 (fun _ => 0) (fun _ => 0) (fun _ => 0) (fun _ => 0) (fun _ => 0) (fun _ => 0) (fun _ => 0) (fun _ => 0) (fun _ => 0) (fun _ => 0) (fun _ => 0) (fun _ => 0) (fun _ => 0))) H := by rw [List.append_assoc] at hP; exact P_swap hP
  have hD : va_D (fun q : Nat => s.heap.size ≤ q) (((cC G ad (N * 64) N 0 (-1) 0 (nI N) 0 0 (fun _ => 0) (fun _ => 0) (fun _ => 0) 0 (fun _ => 0) (fun _ => 0) 0 (fun _ => 0) (fun _ => 0) 0 (fun _ => 0) (fun _ => 0) (fun _ => 0) (fun _ => 0) (fun _ => 0)) ++ [(ao, .inl (G.2 3, 1, .inr (.inl (fun _ => 0))))]) ++ (cM G bd 0 (nI N) 0 0 0 0 (-1) 0 0 0 0 0 0 (fun _ => 0) (fun _ => 0) (fun _ => 0) (fun _ => 0) (fun _ => 0) (fun _ => 0) (fun _ => 0) (fun _ => 0) (fun _ => 0) (fun _ => 0) (fun _ => 0) (fun _ => 0) (fun _ => 0))) := by rw [List.append_assoc] at hD; exact D_swap hD
  refine lv_astore_n (lv' := [(3, .ref ao), (2, .ref (bd 0)), (1, .ref (ad 0)), (0, .ref b)]) hx hb d_LA_law_29 rfl hl (by decide) rfl (fun ls hl => ?_)
  refine lv_iconst (v := (1 : Int32)) hx hb d_LA_law_30 (by decide) ?_
  refine lv_istore (lv' := [(4, .int (1 : Int32)), (3, .ref ao), (2, .ref (bd 0)), (1, .ref (ad 0)), (0, .ref b)]) hx hb d_LA_law_31 hl (by decide) rfl (fun ls hl => ?_)
  exact law_loop hr hlocks hX1 h_mono h_put h_drop h_undo h_get h_commit h_copy h_find h_next h_rows h_kept h_crash h_reopen h_isDown h_byteAt h_poke h_badAt h_told (L + 1) 1 0 rfl (Nat.zero_le _) (by omega) 0 (-1) 0 (nI N) 0 0 (fun _ => 0) (fun _ => 0) (fun _ => 0) 0 (fun _ => 0) (fun _ => 0) 0 (fun _ => 0) (fun _ => 0) 0 (fun _ => 0) (fun _ => 0) (fun _ => 0) (fun _ => 0) (fun _ => 0) 0 (nI N) 0 0 0 0 (-1) 0 0 0 0 0 0 (fun _ => 0) (fun _ => 0) (fun _ => 0) (fun _ => 0) (fun _ => 0) (fun _ => 0) (fun _ => 0) (fun _ => 0) (fun _ => 0) (fun _ => 0) (fun _ => 0) (fun _ => 0) (fun _ => 0) (fun _ => 0) H locs ls (h_0 N h16 h200) hP hD hS (lv_sub hl [4, 3, 2, 1, 0] rfl)
