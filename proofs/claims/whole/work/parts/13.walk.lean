/-! ===== BookTrees$Roll.setInt(II)V ===== -/
abbrev rm_RL_setInt : Room := { frames := 0, cells := 0, slots := 0, locals := 0 }
def f_RL_setInt (p0 : Int32) (p1 : Int32) (csh : (Nat → Int32)) : (Nat → Int32) := upd (upd (upd (upd csh p0.toNatClampNeg (vp_nar .byte (((p1.toUInt32 >>> ((24 : Int32).toUInt32 &&& Int32.toUInt32 31)).toInt32).toInt8.toInt32))) (p0 + (1 : Int32)).toNatClampNeg (vp_nar .byte (((p1.toUInt32 >>> ((16 : Int32).toUInt32 &&& Int32.toUInt32 31)).toInt32).toInt8.toInt32))) (p0 + (2 : Int32)).toNatClampNeg (vp_nar .byte (((p1.toUInt32 >>> ((8 : Int32).toUInt32 &&& Int32.toUInt32 31)).toInt32).toInt8.toInt32))) (p0 + (3 : Int32)).toNatClampNeg (vp_nar .byte p1.toInt8.toInt32)
def ok_RL_setInt (nb : Nat) (nt : Nat) (p0 : Int32) (p1 : Int32) (csh : (Nat → Int32)) : Prop := vp_in p0 64 ∧ (vp_in (p0 + (1 : Int32)) 64 ∧ (vp_in (p0 + (2 : Int32)) 64 ∧ (vp_in (p0 + (3 : Int32)) 64)))
set_option maxHeartbeats 4000000 in
set_option maxRecDepth 100000 in
theorem c_RL_setInt {l : Launch} {G : GG} {ad : Nat → Nat} {nb : Nat} {nt : Nat} {sz : Nat} {cfa : Int32} {cle : Int32} {cwr : Int32} {csl : Int32} {cst : Int32} {cen : Int32} {cby : (Nat → Int32)} {cto : (Nat → Int32)} {csh : (Nat → Int32)} {cdz : Int32} {cch : (Nat → Int32)} {cva : (Nat → Int32)} {css : Int32} {cve : (Nat → Int32)} {cro : (Nat → Int32)} {crc : Int32} {cma : (Nat → Int32)} {cbi : (Nat → Int32)} {ces : (Nat → Int32)} {cbl : (Nat → Int32)} {crt : (Nat → Int32)} {p0 : Int32} {p1 : Int32} (hok : ok_RL_setInt nb nt p0 p1 csh) : CtV l y_RL_setInt b_RL_setInt 3 none rm_RL_setInt G (cC G ad nb nt cfa cle cwr csl cst cen cby cto csh cdz cch cva css cve cro crc cma cbi ces cbl crt) sz [.ref (ad 2), .int p0, .int p1] (eqV (f_RL_setInt p0 p1 csh)) (fun u : (Nat → Int32) => (cC G ad nb nt cfa cle cwr csl cst cen cby cto u cdz cch cva css cve cro crc cma cbi ces cbl crt)) := by
  generalize hres : f_RL_setInt p0 p1 csh = res
  refine Met_of (Qc := fun A => va_Qv (eqV res) (Wb G A (fun u : (Nat → Int32) => (cC G ad nb nt cfa cle cwr csl cst cen cby cto u cdz cch cva css cve cro crc cma cbi ces cbl crt))) A) (by decide) (Nat.le_of_ble_eq_true rfl) ?_
  intro p e s m below meth c hadm hx hb hr hml hown hlocks ht hK A hA hP hD hS ls hl
  have hC : Cx p l e s m (([.ref (ad 2), .int p0, .int p1] : List Value)).toArray meth c y_RL_setInt b_RL_setInt 3 none "BookTrees$Roll" G A := ⟨hx, hb, hr, hml, hown, hlocks, ht, hK, hA⟩
  have hown : s.vm.findClass "BookTrees$Roll" = some m.cls := hown
  have hl : lv_has ls 3 [(0, .ref (ad 2)), (1, .int p0), (2, .int p1)] := hl
  rw [f_RL_setInt] at hres
  rw [ok_RL_setInt] at hok
  refine lv_aload_n hx hb d_RL_setInt_0 rfl (lv_at hl 0 rfl) ?_
  refine va_get (D := G.1) (ci := 2) (C := R_RL) (T := F_RL) (N := 7) hx hb ht in_RL hown hK hP 2 rfl rfl 4 (by decide) (ht _ kf_RL_11) (fun _ h9 => h9) rfl d_RL_setInt_1 ?_
  refine lv_iload_n hx hb d_RL_setInt_4 rfl (lv_at hl 1 rfl) ?_
  refine lv_iload_n hx hb d_RL_setInt_5 rfl (lv_at hl 2 rfl) ?_
  refine lv_bipush (v := (24 : Int32)) hx hb d_RL_setInt_6 (by decide) ?_
  refine lv_iushr hx hb d_RL_setInt_8 rfl ?_
  refine lv_i2b hx hb d_RL_setInt_9 rfl ?_
  obtain ⟨hi_10, hok⟩ := hok
  refine va_bast hx hb hK hP hD hS 5 2 rfl rfl hi_10 d_RL_setInt_10 (fun H locs hP hD hS => ?_)
  have hP : va_P G.1 classes (cC G ad nb nt cfa cle cwr csl cst cen cby cto (upd csh p0.toNatClampNeg (vp_nar .byte (((p1.toUInt32 >>> ((24 : Int32).toUInt32 &&& Int32.toUInt32 31)).toInt32).toInt8.toInt32))) cdz cch cva css cve cro crc cma cbi ces cbl crt) H := hP
  have hD : va_D A (cC G ad nb nt cfa cle cwr csl cst cen cby cto (upd csh p0.toNatClampNeg (vp_nar .byte (((p1.toUInt32 >>> ((24 : Int32).toUInt32 &&& Int32.toUInt32 31)).toInt32).toInt8.toInt32))) cdz cch cva css cve cro crc cma cbi ces cbl crt) := hD
  refine lv_aload_n hx hb d_RL_setInt_11 rfl (lv_at hl 0 rfl) ?_
  refine va_get (D := G.1) (ci := 2) (C := R_RL) (T := F_RL) (N := 7) hx hb ht in_RL hown hK hP 2 rfl rfl 4 (by decide) (ht _ kf_RL_11) (fun _ h9 => h9) rfl d_RL_setInt_12 ?_
  refine lv_iload_n hx hb d_RL_setInt_15 rfl (lv_at hl 1 rfl) ?_
  refine lv_iconst (v := (1 : Int32)) hx hb d_RL_setInt_16 (by decide) ?_
  refine lv_iadd hx hb d_RL_setInt_17 ?_
  refine lv_iload_n hx hb d_RL_setInt_18 rfl (lv_at hl 2 rfl) ?_
  refine lv_bipush (v := (16 : Int32)) hx hb d_RL_setInt_19 (by decide) ?_
  refine lv_iushr hx hb d_RL_setInt_21 rfl ?_
  refine lv_i2b hx hb d_RL_setInt_22 rfl ?_
  obtain ⟨hi_23, hok⟩ := hok
  refine va_bast hx hb hK hP hD hS 5 2 rfl rfl hi_23 d_RL_setInt_23 (fun H locs hP hD hS => ?_)
  have hP : va_P G.1 classes (cC G ad nb nt cfa cle cwr csl cst cen cby cto (upd (upd csh p0.toNatClampNeg (vp_nar .byte (((p1.toUInt32 >>> ((24 : Int32).toUInt32 &&& Int32.toUInt32 31)).toInt32).toInt8.toInt32))) (p0 + (1 : Int32)).toNatClampNeg (vp_nar .byte (((p1.toUInt32 >>> ((16 : Int32).toUInt32 &&& Int32.toUInt32 31)).toInt32).toInt8.toInt32))) cdz cch cva css cve cro crc cma cbi ces cbl crt) H := hP
  have hD : va_D A (cC G ad nb nt cfa cle cwr csl cst cen cby cto (upd (upd csh p0.toNatClampNeg (vp_nar .byte (((p1.toUInt32 >>> ((24 : Int32).toUInt32 &&& Int32.toUInt32 31)).toInt32).toInt8.toInt32))) (p0 + (1 : Int32)).toNatClampNeg (vp_nar .byte (((p1.toUInt32 >>> ((16 : Int32).toUInt32 &&& Int32.toUInt32 31)).toInt32).toInt8.toInt32))) cdz cch cva css cve cro crc cma cbi ces cbl crt) := hD
  refine lv_aload_n hx hb d_RL_setInt_24 rfl (lv_at hl 0 rfl) ?_
  refine va_get (D := G.1) (ci := 2) (C := R_RL) (T := F_RL) (N := 7) hx hb ht in_RL hown hK hP 2 rfl rfl 4 (by decide) (ht _ kf_RL_11) (fun _ h9 => h9) rfl d_RL_setInt_25 ?_
  refine lv_iload_n hx hb d_RL_setInt_28 rfl (lv_at hl 1 rfl) ?_
  refine lv_iconst (v := (2 : Int32)) hx hb d_RL_setInt_29 (by decide) ?_
  refine lv_iadd hx hb d_RL_setInt_30 ?_
  refine lv_iload_n hx hb d_RL_setInt_31 rfl (lv_at hl 2 rfl) ?_
  refine lv_bipush (v := (8 : Int32)) hx hb d_RL_setInt_32 (by decide) ?_
  refine lv_iushr hx hb d_RL_setInt_34 rfl ?_
  refine lv_i2b hx hb d_RL_setInt_35 rfl ?_
  obtain ⟨hi_36, hok⟩ := hok
  refine va_bast hx hb hK hP hD hS 5 2 rfl rfl hi_36 d_RL_setInt_36 (fun H locs hP hD hS => ?_)
  have hP : va_P G.1 classes (cC G ad nb nt cfa cle cwr csl cst cen cby cto (upd (upd (upd csh p0.toNatClampNeg (vp_nar .byte (((p1.toUInt32 >>> ((24 : Int32).toUInt32 &&& Int32.toUInt32 31)).toInt32).toInt8.toInt32))) (p0 + (1 : Int32)).toNatClampNeg (vp_nar .byte (((p1.toUInt32 >>> ((16 : Int32).toUInt32 &&& Int32.toUInt32 31)).toInt32).toInt8.toInt32))) (p0 + (2 : Int32)).toNatClampNeg (vp_nar .byte (((p1.toUInt32 >>> ((8 : Int32).toUInt32 &&& Int32.toUInt32 31)).toInt32).toInt8.toInt32))) cdz cch cva css cve cro crc cma cbi ces cbl crt) H := hP
  have hD : va_D A (cC G ad nb nt cfa cle cwr csl cst cen cby cto (upd (upd (upd csh p0.toNatClampNeg (vp_nar .byte (((p1.toUInt32 >>> ((24 : Int32).toUInt32 &&& Int32.toUInt32 31)).toInt32).toInt8.toInt32))) (p0 + (1 : Int32)).toNatClampNeg (vp_nar .byte (((p1.toUInt32 >>> ((16 : Int32).toUInt32 &&& Int32.toUInt32 31)).toInt32).toInt8.toInt32))) (p0 + (2 : Int32)).toNatClampNeg (vp_nar .byte (((p1.toUInt32 >>> ((8 : Int32).toUInt32 &&& Int32.toUInt32 31)).toInt32).toInt8.toInt32))) cdz cch cva css cve cro crc cma cbi ces cbl crt) := hD
  refine lv_aload_n hx hb d_RL_setInt_37 rfl (lv_at hl 0 rfl) ?_
  refine va_get (D := G.1) (ci := 2) (C := R_RL) (T := F_RL) (N := 7) hx hb ht in_RL hown hK hP 2 rfl rfl 4 (by decide) (ht _ kf_RL_11) (fun _ h9 => h9) rfl d_RL_setInt_38 ?_
  refine lv_iload_n hx hb d_RL_setInt_41 rfl (lv_at hl 1 rfl) ?_
  refine lv_iconst (v := (3 : Int32)) hx hb d_RL_setInt_42 (by decide) ?_
  refine lv_iadd hx hb d_RL_setInt_43 ?_
  refine lv_iload_n hx hb d_RL_setInt_44 rfl (lv_at hl 2 rfl) ?_
  refine lv_i2b hx hb d_RL_setInt_45 rfl ?_
  have hi_46 := hok
  refine va_bast hx hb hK hP hD hS 5 2 rfl rfl hi_46 d_RL_setInt_46 (fun H locs hP hD hS => ?_)
  have hP : va_P G.1 classes (cC G ad nb nt cfa cle cwr csl cst cen cby cto (upd (upd (upd (upd csh p0.toNatClampNeg (vp_nar .byte (((p1.toUInt32 >>> ((24 : Int32).toUInt32 &&& Int32.toUInt32 31)).toInt32).toInt8.toInt32))) (p0 + (1 : Int32)).toNatClampNeg (vp_nar .byte (((p1.toUInt32 >>> ((16 : Int32).toUInt32 &&& Int32.toUInt32 31)).toInt32).toInt8.toInt32))) (p0 + (2 : Int32)).toNatClampNeg (vp_nar .byte (((p1.toUInt32 >>> ((8 : Int32).toUInt32 &&& Int32.toUInt32 31)).toInt32).toInt8.toInt32))) (p0 + (3 : Int32)).toNatClampNeg (vp_nar .byte p1.toInt8.toInt32)) cdz cch cva css cve cro crc cma cbi ces cbl crt) H := hP
  have hD : va_D A (cC G ad nb nt cfa cle cwr csl cst cen cby cto (upd (upd (upd (upd csh p0.toNatClampNeg (vp_nar .byte (((p1.toUInt32 >>> ((24 : Int32).toUInt32 &&& Int32.toUInt32 31)).toInt32).toInt8.toInt32))) (p0 + (1 : Int32)).toNatClampNeg (vp_nar .byte (((p1.toUInt32 >>> ((16 : Int32).toUInt32 &&& Int32.toUInt32 31)).toInt32).toInt8.toInt32))) (p0 + (2 : Int32)).toNatClampNeg (vp_nar .byte (((p1.toUInt32 >>> ((8 : Int32).toUInt32 &&& Int32.toUInt32 31)).toInt32).toInt8.toInt32))) (p0 + (3 : Int32)).toNatClampNeg (vp_nar .byte p1.toInt8.toInt32)) cdz cch cva css cve cro crc cma cbi ces cbl crt) := hD
  exact en_v (w1 := (fun u : (Nat → Int32) => (cC G ad nb nt cfa cle cwr csl cst cen cby cto u cdz cch cva css cve cro crc cma cbi ces cbl crt))) (upd (upd (upd (upd csh p0.toNatClampNeg (vp_nar .byte (((p1.toUInt32 >>> ((24 : Int32).toUInt32 &&& Int32.toUInt32 31)).toInt32).toInt8.toInt32))) (p0 + (1 : Int32)).toNatClampNeg (vp_nar .byte (((p1.toUInt32 >>> ((16 : Int32).toUInt32 &&& Int32.toUInt32 31)).toInt32).toInt8.toInt32))) (p0 + (2 : Int32)).toNatClampNeg (vp_nar .byte (((p1.toUInt32 >>> ((8 : Int32).toUInt32 &&& Int32.toUInt32 31)).toInt32).toInt8.toInt32))) (p0 + (3 : Int32)).toNatClampNeg (vp_nar .byte p1.toInt8.toInt32)) hx hb hr hlocks hK hP hD hS hres d_RL_setInt_47
/-! ===== BookTrees$Roll.sumOf([BI)J ===== -/
abbrev rm_RL_sumOf_v2 : Room := { frames := 0, cells := 0, slots := 0, locals := 0 }
def f_RL_sumOf_v2_5 : Nat → Int32 → Int64 → Int32 → (Nat → Int32) → Int64 × Unit
  | 0, x1, x2, x4, csh => (0, ())
  | n + 1, x1, x2, x4, csh => if (56 : Int32) ≤ x4 then (x2, ()) else f_RL_sumOf_v2_5 n x1 ((((x2 ^^^ (((csh (x1 + x4).toNatClampNeg) &&& (255 : Int32)).toInt64)) <<< ((47 : Int32).toInt64 &&& 63)) ||| (((x2 ^^^ (((csh (x1 + x4).toNatClampNeg) &&& (255 : Int32)).toInt64)).toUInt64 >>> ((17 : Int32).toInt64.toUInt64 &&& Int64.toUInt64 63)).toInt64)) * (-4417276706812531889 : Int64)) (x4 + (1 : Int32)) csh
def ok_RL_sumOf_v2_5 (nb : Nat) (nt : Nat) : Nat → Int32 → Int64 → Int32 → (Nat → Int32) → Prop
  | 0, _, _, _, _ => False
  | n + 1, x1, x2, x4, csh => ((56 : Int32) ≤ x4 → True) ∧ (¬ (56 : Int32) ≤ x4 → vp_in (x1 + x4) 64 ∧ (ok_RL_sumOf_v2_5 nb nt  n x1 ((((x2 ^^^ (((csh (x1 + x4).toNatClampNeg) &&& (255 : Int32)).toInt64)) <<< ((47 : Int32).toInt64 &&& 63)) ||| (((x2 ^^^ (((csh (x1 + x4).toNatClampNeg) &&& (255 : Int32)).toInt64)).toUInt64 >>> ((17 : Int32).toInt64.toUInt64 &&& Int64.toUInt64 63)).toInt64)) * (-4417276706812531889 : Int64)) (x4 + (1 : Int32)) csh))
set_option maxHeartbeats 4000000 in
set_option maxRecDepth 100000 in
theorem w_RL_sumOf_v2_5 {p : Program} {l : Launch} {e : Env} {s : State} {m : MethodId} {args : Array Value} {below : List Frame} {meth : Method} {c : Code} {A : Nat → Prop} {G : GG} {ad : Nat → Nat} {nb : Nat} {nt : Nat} {cfa : Int32} {cle : Int32} {cwr : Int32} {csl : Int32} {cst : Int32} {cen : Int32} {cby : (Nat → Int32)} {cto : (Nat → Int32)} {csh : (Nat → Int32)} {cdz : Int32} {cch : (Nat → Int32)} {cva : (Nat → Int32)} {css : Int32} {cve : (Nat → Int32)} {cro : (Nat → Int32)} {crc : Int32} {cma : (Nat → Int32)} {cbi : (Nat → Int32)} {ces : (Nat → Int32)} {cbl : (Nat → Int32)} {crt : (Nat → Int32)} {res : Int64 × Unit} (hC : Cx p l e s m args meth c y_RL_sumOf b_RL_sumOf 7 (some .long) "BookTrees$Roll" G A) : ∀ (n : Nat) (x1 : Int32) (x2 : Int64) (x4 : Int32)  (H : Heap) (locs : List Loc) (ls : Array Slot), ok_RL_sumOf_v2_5 nb nt n x1 x2 x4 csh → f_RL_sumOf_v2_5 n x1 x2 x4 csh = res → va_P G.1 classes (cC G ad nb nt cfa cle cwr csl cst cen cby cto csh cdz cch cva css cve cro crc cma cbi ces cbl crt) H → va_D A (cC G ad nb nt cfa cle cwr csl cst cen cby cto csh cdz cch cva css cve cro crc cma cbi ces cbl crt) → va_S A s.heap H locs → lv_has ls 7 [(0, .ref (ad 5)), (1, .int x1), (2, .long x2), (4, .int x4)] → W p l e rm_RL_sumOf_v2 s m args below meth c H locs 0 0 (MQ below (va_Ql (eqP res) (Wb G A (fun _ : Unit => (cC G ad nb nt cfa cle cwr csl cst cen cby cto csh cdz cch cva css cve cro crc cma cbi ces cbl crt))) A) args s 0 0 A) (F0 m 5 ls []) := by
  obtain ⟨hx, hb, hr, hml, hown, hlocks, ht, hK, hA⟩ := id hC
  intro n
  induction n with
  | zero => intro x1 x2 x4 H locs ls hok; exact hok.elim
  | succ n ih =>
    intro x1 x2 x4 H locs ls hok hres hP hD hS hl
    rw [f_RL_sumOf_v2_5] at hres
    rw [ok_RL_sumOf_v2_5] at hok
    refine lv_iload hx hb d_RL_sumOf_5 (lv_at hl 3 rfl) ?_
    refine lv_bipush (v := (56 : Int32)) hx hb d_RL_sumOf_7 (by decide) ?_
    refine lv_icmp_ge (tgt := 49) hx hb d_RL_sumOf_9 (by decide) (fun c_9 => ?_) (fun c_9 => ?_)
    · have hres := it_t c_9 hres
      refine lv_lload_n hx hb d_RL_sumOf_49 rfl (lv_at hl 2 rfl) ?_
      exact en_l (w1 := (fun _ : Unit => (cC G ad nb nt cfa cle cwr csl cst cen cby cto csh cdz cch cva css cve cro crc cma cbi ces cbl crt))) () hx hb hr hlocks hK hP hD hS hres d_RL_sumOf_50
    · have hres := it_f c_9 hres
      have hok := hok.2 c_9
      refine lv_lload_n hx hb d_RL_sumOf_12 rfl (lv_at hl 2 rfl) ?_
      refine lv_aload_n hx hb d_RL_sumOf_13 rfl (lv_at hl 0 rfl) ?_
      refine lv_iload_n hx hb d_RL_sumOf_14 rfl (lv_at hl 1 rfl) ?_
      refine lv_iload hx hb d_RL_sumOf_15 (lv_at hl 3 rfl) ?_
      refine lv_iadd hx hb d_RL_sumOf_17 ?_
      obtain ⟨hi_18, hok⟩ := hok
      refine va_bald hx hb hK hP 5 2 rfl rfl hi_18 d_RL_sumOf_18 ?_
      refine lv_sipush (v := (255 : Int32)) hx hb d_RL_sumOf_19 (by decide) ?_
      refine lv_iand hx hb d_RL_sumOf_22 ?_
      refine lv_i2l hx hb d_RL_sumOf_23 rfl ?_
      refine lv_lxor hx hb d_RL_sumOf_24 ?_
      refine lv_lstore (lv' := [(5, .long (x2 ^^^ (((csh (x1 + x4).toNatClampNeg) &&& (255 : Int32)).toInt64))), (0, .ref (ad 5)), (1, .int x1), (2, .long x2), (4, .int x4)]) hx hb d_RL_sumOf_25 hl (by decide) rfl (fun ls hl => ?_)
      refine lv_lload hx hb d_RL_sumOf_27 (lv_at hl 0 rfl) ?_
      refine lv_bipush (v := (47 : Int32)) hx hb d_RL_sumOf_29 (by decide) ?_
      refine lv_lshl hx hb d_RL_sumOf_31 rfl ?_
      refine lv_lload hx hb d_RL_sumOf_32 (lv_at hl 0 rfl) ?_
      refine lv_bipush (v := (17 : Int32)) hx hb d_RL_sumOf_34 (by decide) ?_
      refine lv_lushr hx hb d_RL_sumOf_36 rfl ?_
      refine lv_lor hx hb d_RL_sumOf_37 ?_
      refine lv_ldc2 hx hb hown (ht _ kl_RL_116) d_RL_sumOf_38 ?_
      refine lv_lmul hx hb d_RL_sumOf_41 ?_
      refine lv_lstore_n (lv' := [(2, .long ((((x2 ^^^ (((csh (x1 + x4).toNatClampNeg) &&& (255 : Int32)).toInt64)) <<< ((47 : Int32).toInt64 &&& 63)) ||| (((x2 ^^^ (((csh (x1 + x4).toNatClampNeg) &&& (255 : Int32)).toInt64)).toUInt64 >>> ((17 : Int32).toInt64.toUInt64 &&& Int64.toUInt64 63)).toInt64)) * (-4417276706812531889 : Int64))), (5, .long (x2 ^^^ (((csh (x1 + x4).toNatClampNeg) &&& (255 : Int32)).toInt64))), (0, .ref (ad 5)), (1, .int x1), (4, .int x4)]) hx hb d_RL_sumOf_42 rfl hl (by decide) rfl (fun ls hl => ?_)
      refine lv_iinc (v := x4 + (1 : Int32)) (lv' := [(4, .int (x4 + (1 : Int32))), (2, .long ((((x2 ^^^ (((csh (x1 + x4).toNatClampNeg) &&& (255 : Int32)).toInt64)) <<< ((47 : Int32).toInt64 &&& 63)) ||| (((x2 ^^^ (((csh (x1 + x4).toNatClampNeg) &&& (255 : Int32)).toInt64)).toUInt64 >>> ((17 : Int32).toInt64.toUInt64 &&& Int64.toUInt64 63)).toInt64)) * (-4417276706812531889 : Int64))), (5, .long (x2 ^^^ (((csh (x1 + x4).toNatClampNeg) &&& (255 : Int32)).toInt64))), (0, .ref (ad 5)), (1, .int x1)]) hx hb d_RL_sumOf_43 hl (k := 4) rfl rfl (by decide) rfl (fun ls hl => ?_)
      refine lv_goto (tgt := 5) hx hb d_RL_sumOf_46 (by decide) ?_
      exact ih x1 ((((x2 ^^^ (((csh (x1 + x4).toNatClampNeg) &&& (255 : Int32)).toInt64)) <<< ((47 : Int32).toInt64 &&& 63)) ||| (((x2 ^^^ (((csh (x1 + x4).toNatClampNeg) &&& (255 : Int32)).toInt64)).toUInt64 >>> ((17 : Int32).toInt64.toUInt64 &&& Int64.toUInt64 63)).toInt64)) * (-4417276706812531889 : Int64)) (x4 + (1 : Int32)) _ _ _ hok hres hP hD hS (lv_sub hl [3, 4, 1, 0] rfl)
def f_RL_sumOf_v2 (p0 : Int32) (csh : (Nat → Int32)) : Int64 × Unit := f_RL_sumOf_v2_5 1024 p0 (0 : Int64) (0 : Int32) csh
def ok_RL_sumOf_v2 (nb : Nat) (nt : Nat) (p0 : Int32) (csh : (Nat → Int32)) : Prop := ok_RL_sumOf_v2_5 nb nt  1024 p0 (0 : Int64) (0 : Int32) csh
set_option maxHeartbeats 4000000 in
set_option maxRecDepth 100000 in
theorem c_RL_sumOf_v2 {l : Launch} {G : GG} {ad : Nat → Nat} {nb : Nat} {nt : Nat} {sz : Nat} {cfa : Int32} {cle : Int32} {cwr : Int32} {csl : Int32} {cst : Int32} {cen : Int32} {cby : (Nat → Int32)} {cto : (Nat → Int32)} {csh : (Nat → Int32)} {cdz : Int32} {cch : (Nat → Int32)} {cva : (Nat → Int32)} {css : Int32} {cve : (Nat → Int32)} {cro : (Nat → Int32)} {crc : Int32} {cma : (Nat → Int32)} {cbi : (Nat → Int32)} {ces : (Nat → Int32)} {cbl : (Nat → Int32)} {crt : (Nat → Int32)} {p0 : Int32} (hok : ok_RL_sumOf_v2 nb nt p0 csh) : CtL l y_RL_sumOf b_RL_sumOf 7 (some .long) rm_RL_sumOf_v2 G (cC G ad nb nt cfa cle cwr csl cst cen cby cto csh cdz cch cva css cve cro crc cma cbi ces cbl crt) sz [.ref (ad 5), .int p0] (eqP (f_RL_sumOf_v2 p0 csh)) (fun _ : Unit => (cC G ad nb nt cfa cle cwr csl cst cen cby cto csh cdz cch cva css cve cro crc cma cbi ces cbl crt)) := by
  generalize hres : f_RL_sumOf_v2 p0 csh = res
  refine Met_of (Qc := fun A => va_Ql (eqP res) (Wb G A (fun _ : Unit => (cC G ad nb nt cfa cle cwr csl cst cen cby cto csh cdz cch cva css cve cro crc cma cbi ces cbl crt))) A) (by decide) (Nat.le_of_ble_eq_true rfl) ?_
  intro p e s m below meth c hadm hx hb hr hml hown hlocks ht hK A hA hP hD hS ls hl
  have hC : Cx p l e s m (([.ref (ad 5), .int p0] : List Value)).toArray meth c y_RL_sumOf b_RL_sumOf 7 (some .long) "BookTrees$Roll" G A := ⟨hx, hb, hr, hml, hown, hlocks, ht, hK, hA⟩
  have hown : s.vm.findClass "BookTrees$Roll" = some m.cls := hown
  have hl : lv_has ls 7 [(0, .ref (ad 5)), (1, .int p0)] := hl
  rw [f_RL_sumOf_v2] at hres
  rw [ok_RL_sumOf_v2] at hok
  refine lv_lconst (v := (0 : Int64)) hx hb d_RL_sumOf_0 (by decide) ?_
  refine lv_lstore_n (lv' := [(2, .long (0 : Int64)), (0, .ref (ad 5)), (1, .int p0)]) hx hb d_RL_sumOf_1 rfl hl (by decide) rfl (fun ls hl => ?_)
  refine lv_iconst (v := (0 : Int32)) hx hb d_RL_sumOf_2 (by decide) ?_
  refine lv_istore (lv' := [(4, .int (0 : Int32)), (2, .long (0 : Int64)), (0, .ref (ad 5)), (1, .int p0)]) hx hb d_RL_sumOf_3 hl (by decide) rfl (fun ls hl => ?_)
  exact w_RL_sumOf_v2_5 hC 1024 p0 (0 : Int64) (0 : Int32) _ _ _ hok hres hP hD hS (lv_sub hl [2, 3, 1, 0] rfl)
/-! ===== BookTrees$Roll.makeUp(IIII[II)V ===== -/
abbrev rm_RL_makeUp : Room := { frames := 1, cells := 0, slots := 0, locals := 26 }
def f_RL_makeUp_26 : Nat → Int32 → Int32 → Int32 → (Nat → Int32) → (Nat → Int32) → (Nat → Int32)
  | 0, x1, x6, x7, csh, ces => csh
  | n + 1, x1, x6, x7, csh, ces => if (8 : Int32) ≤ x7 then bindc (f_RL_setInt (40 : Int32) x1 csh) (fun z_62 => bindc (f_RL_sumOf_v2 (0 : Int32) z_62) (fun z_70 => bindc (f_RL_setInt (56 : Int32) (((z_70.1.toUInt64 >>> ((32 : Int32).toInt64.toUInt64 &&& Int64.toUInt64 63)).toInt64).toInt32) z_62) (fun z_84 => bindc (f_RL_setInt (60 : Int32) z_70.1.toInt32 z_84) (fun z_93 => z_93)))) else bindc (f_RL_setInt ((8 : Int32) + ((4 : Int32) * x7)) (ces (x6 + x7).toNatClampNeg) csh) (fun z_49 => f_RL_makeUp_26 n x1 x6 (x7 + (1 : Int32)) z_49 ces)
def ok_RL_makeUp_26 (nb : Nat) (nt : Nat) : Nat → Int32 → Int32 → Int32 → (Nat → Int32) → (Nat → Int32) → Prop
  | 0, _, _, _, _, _ => False
  | n + 1, x1, x6, x7, csh, ces => ((8 : Int32) ≤ x7 → ok_RL_setInt nb nt (40 : Int32) x1 csh ∧ bindp (f_RL_setInt (40 : Int32) x1 csh) (fun z_62 => ok_RL_sumOf_v2 nb nt (0 : Int32) z_62 ∧ bindp (f_RL_sumOf_v2 (0 : Int32) z_62) (fun z_70 => ok_RL_setInt nb nt (56 : Int32) (((z_70.1.toUInt64 >>> ((32 : Int32).toInt64.toUInt64 &&& Int64.toUInt64 63)).toInt64).toInt32) z_62 ∧ bindp (f_RL_setInt (56 : Int32) (((z_70.1.toUInt64 >>> ((32 : Int32).toInt64.toUInt64 &&& Int64.toUInt64 63)).toInt64).toInt32) z_62) (fun z_84 => ok_RL_setInt nb nt (60 : Int32) z_70.1.toInt32 z_84)))) ∧ (¬ (8 : Int32) ≤ x7 → vp_in (x6 + x7) 584 ∧ (ok_RL_setInt nb nt ((8 : Int32) + ((4 : Int32) * x7)) (ces (x6 + x7).toNatClampNeg) csh ∧ bindp (f_RL_setInt ((8 : Int32) + ((4 : Int32) * x7)) (ces (x6 + x7).toNatClampNeg) csh) (fun z_49 => ok_RL_makeUp_26 nb nt  n x1 x6 (x7 + (1 : Int32)) z_49 ces)))
set_option maxHeartbeats 4000000 in
set_option maxRecDepth 100000 in
theorem w_RL_makeUp_26 {p : Program} {l : Launch} {e : Env} {s : State} {m : MethodId} {args : Array Value} {below : List Frame} {meth : Method} {c : Code} {A : Nat → Prop} {G : GG} {ad : Nat → Nat} {nb : Nat} {nt : Nat} {cfa : Int32} {cle : Int32} {cwr : Int32} {csl : Int32} {cst : Int32} {cen : Int32} {cby : (Nat → Int32)} {cto : (Nat → Int32)} {cdz : Int32} {cch : (Nat → Int32)} {cva : (Nat → Int32)} {css : Int32} {cve : (Nat → Int32)} {cro : (Nat → Int32)} {crc : Int32} {cma : (Nat → Int32)} {cbi : (Nat → Int32)} {ces : (Nat → Int32)} {cbl : (Nat → Int32)} {crt : (Nat → Int32)} {res : (Nat → Int32)} (hC : Cx p l e s m args meth c y_RL_makeUp b_RL_makeUp 9 none "BookTrees$Roll" G A) : ∀ (n : Nat) (x1 : Int32) (x6 : Int32) (x7 : Int32) (csh : (Nat → Int32)) (H : Heap) (locs : List Loc) (ls : Array Slot), ok_RL_makeUp_26 nb nt n x1 x6 x7 csh ces → f_RL_makeUp_26 n x1 x6 x7 csh ces = res → va_P G.1 classes (cC G ad nb nt cfa cle cwr csl cst cen cby cto csh cdz cch cva css cve cro crc cma cbi ces cbl crt) H → va_D A (cC G ad nb nt cfa cle cwr csl cst cen cby cto csh cdz cch cva css cve cro crc cma cbi ces cbl crt) → va_S A s.heap H locs → lv_has ls 9 [(0, .ref (ad 2)), (1, .int x1), (5, .ref (ad 15)), (6, .int x6), (7, .int x7)] → W p l e rm_RL_makeUp s m args below meth c H locs 0 0 (MQ below (va_Qv (eqV res) (Wb G A (fun u : (Nat → Int32) => (cC G ad nb nt cfa cle cwr csl cst cen cby cto u cdz cch cva css cve cro crc cma cbi ces cbl crt))) A) args s 0 0 A) (F0 m 26 ls []) := by
  obtain ⟨hx, hb, hr, hml, hown, hlocks, ht, hK, hA⟩ := id hC
  intro n
  induction n with
  | zero => intro x1 x6 x7 csh H locs ls hok; exact hok.elim
  | succ n ih =>
    intro x1 x6 x7 csh H locs ls hok hres hP hD hS hl
    rw [f_RL_makeUp_26] at hres
    rw [ok_RL_makeUp_26] at hok
    refine lv_iload hx hb d_RL_makeUp_26 (lv_at hl 4 rfl) ?_
    refine lv_bipush (v := (8 : Int32)) hx hb d_RL_makeUp_28 (by decide) ?_
    refine lv_icmp_ge (tgt := 58) hx hb d_RL_makeUp_30 (by decide) (fun c_30 => ?_) (fun c_30 => ?_)
    · have hres := it_t c_30 hres
      have hok := hok.1 c_30
      refine lv_aload_n hx hb d_RL_makeUp_58 rfl (lv_at hl 0 rfl) ?_
      refine lv_bipush (v := (40 : Int32)) hx hb d_RL_makeUp_59 (by decide) ?_
      refine lv_iload_n hx hb d_RL_makeUp_61 rfl (lv_at hl 1 rfl) ?_
      obtain ⟨hk_62, hok⟩ := hok
      refine go_vz (run_V hx hb hml hown ht hK hP hD (c_RL_setInt hk_62) (cw_V ht km_RL_105 ki_RL_setInt ks_RL_setInt ini_RL kd_RL_setInt kh_RL_setInt ⟨Nat.le_of_ble_eq_true rfl, Nat.le_of_ble_eq_true rfl⟩ rfl rfl) (q0 := 2) (ci := 2) (As := [.int (40 : Int32), .int x1]) (rest := []) rfl rfl rfl hl.1 rfl (Nat.le_of_ble_eq_true rfl) d_RL_makeUp_62 ⟨Nat.zero_le _, Nat.zero_le _⟩) hD hS hA (fun z_62 H locs hz_62 hP hD hS => ?_)
      have hres := bindc_eq hz_62 hres
      have hok := bindp_eq hz_62 hok
      have hP : va_P G.1 classes (cC G ad nb nt cfa cle cwr csl cst cen cby cto z_62 cdz cch cva css cve cro crc cma cbi ces cbl crt) H := hP
      have hD : va_D A (cC G ad nb nt cfa cle cwr csl cst cen cby cto z_62 cdz cch cva css cve cro crc cma cbi ces cbl crt) := hD
      refine lv_aload_n hx hb d_RL_makeUp_65 rfl (lv_at hl 0 rfl) ?_
      refine va_get (D := G.1) (ci := 2) (C := R_RL) (T := F_RL) (N := 7) hx hb ht in_RL hown hK hP 2 rfl rfl 4 (by decide) (ht _ kf_RL_11) (fun _ h9 => h9) rfl d_RL_makeUp_66 ?_
      refine lv_iconst (v := (0 : Int32)) hx hb d_RL_makeUp_69 (by decide) ?_
      obtain ⟨hk_70, hok⟩ := hok
      refine go_lz (run_S hx hb hml hown ht hK hP hD (c_RL_sumOf_v2 hk_70) (cw_S ht km_RL_109 kt_RL_sumOf ini_RL kd_RL_sumOf kh_RL_sumOf ⟨Nat.le_of_ble_eq_true rfl, Nat.le_of_ble_eq_true rfl⟩ rfl rfl) (As := [.ref (ad 5), .int (0 : Int32)]) (rest := []) rfl hl.1 rfl (Nat.le_of_ble_eq_true rfl) d_RL_makeUp_70 ⟨Nat.zero_le _, Nat.zero_le _⟩) hD hS hA (fun z_70 H locs hz_70 hP hD hS => ?_)
      have hres := bindc_eq hz_70 hres
      have hok := bindp_eq hz_70 hok
      have hP : va_P G.1 classes (cC G ad nb nt cfa cle cwr csl cst cen cby cto z_62 cdz cch cva css cve cro crc cma cbi ces cbl crt) H := hP
      have hD : va_D A (cC G ad nb nt cfa cle cwr csl cst cen cby cto z_62 cdz cch cva css cve cro crc cma cbi ces cbl crt) := hD
      refine lv_lstore (lv' := [(7, .long z_70.1), (0, .ref (ad 2)), (1, .int x1), (5, .ref (ad 15)), (6, .int x6)]) hx hb d_RL_makeUp_73 hl (by decide) rfl (fun ls hl => ?_)
      refine lv_aload_n hx hb d_RL_makeUp_75 rfl (lv_at hl 1 rfl) ?_
      refine lv_bipush (v := (56 : Int32)) hx hb d_RL_makeUp_76 (by decide) ?_
      refine lv_lload hx hb d_RL_makeUp_78 (lv_at hl 0 rfl) ?_
      refine lv_bipush (v := (32 : Int32)) hx hb d_RL_makeUp_80 (by decide) ?_
      refine lv_lushr hx hb d_RL_makeUp_82 rfl ?_
      refine lv_l2i hx hb d_RL_makeUp_83 rfl ?_
      obtain ⟨hk_84, hok⟩ := hok
      refine go_vz (run_V hx hb hml hown ht hK hP hD (c_RL_setInt hk_84) (cw_V ht km_RL_105 ki_RL_setInt ks_RL_setInt ini_RL kd_RL_setInt kh_RL_setInt ⟨Nat.le_of_ble_eq_true rfl, Nat.le_of_ble_eq_true rfl⟩ rfl rfl) (q0 := 2) (ci := 2) (As := [.int (56 : Int32), .int (((z_70.1.toUInt64 >>> ((32 : Int32).toInt64.toUInt64 &&& Int64.toUInt64 63)).toInt64).toInt32)]) (rest := []) rfl rfl rfl hl.1 rfl (Nat.le_of_ble_eq_true rfl) d_RL_makeUp_84 ⟨Nat.zero_le _, Nat.zero_le _⟩) hD hS hA (fun z_84 H locs hz_84 hP hD hS => ?_)
      have hres := bindc_eq hz_84 hres
      have hok := bindp_eq hz_84 hok
      have hP : va_P G.1 classes (cC G ad nb nt cfa cle cwr csl cst cen cby cto z_84 cdz cch cva css cve cro crc cma cbi ces cbl crt) H := hP
      have hD : va_D A (cC G ad nb nt cfa cle cwr csl cst cen cby cto z_84 cdz cch cva css cve cro crc cma cbi ces cbl crt) := hD
      refine lv_aload_n hx hb d_RL_makeUp_87 rfl (lv_at hl 1 rfl) ?_
      refine lv_bipush (v := (60 : Int32)) hx hb d_RL_makeUp_88 (by decide) ?_
      refine lv_lload hx hb d_RL_makeUp_90 (lv_at hl 0 rfl) ?_
      refine lv_l2i hx hb d_RL_makeUp_92 rfl ?_
      have hk_93 := hok
      refine go_vz (run_V hx hb hml hown ht hK hP hD (c_RL_setInt hk_93) (cw_V ht km_RL_105 ki_RL_setInt ks_RL_setInt ini_RL kd_RL_setInt kh_RL_setInt ⟨Nat.le_of_ble_eq_true rfl, Nat.le_of_ble_eq_true rfl⟩ rfl rfl) (q0 := 2) (ci := 2) (As := [.int (60 : Int32), .int z_70.1.toInt32]) (rest := []) rfl rfl rfl hl.1 rfl (Nat.le_of_ble_eq_true rfl) d_RL_makeUp_93 ⟨Nat.zero_le _, Nat.zero_le _⟩) hD hS hA (fun z_93 H locs hz_93 hP hD hS => ?_)
      have hres := bindc_eq hz_93 hres
      have hP : va_P G.1 classes (cC G ad nb nt cfa cle cwr csl cst cen cby cto z_93 cdz cch cva css cve cro crc cma cbi ces cbl crt) H := hP
      have hD : va_D A (cC G ad nb nt cfa cle cwr csl cst cen cby cto z_93 cdz cch cva css cve cro crc cma cbi ces cbl crt) := hD
      exact en_v (w1 := (fun u : (Nat → Int32) => (cC G ad nb nt cfa cle cwr csl cst cen cby cto u cdz cch cva css cve cro crc cma cbi ces cbl crt))) z_93 hx hb hr hlocks hK hP hD hS hres d_RL_makeUp_96
    · have hres := it_f c_30 hres
      have hok := hok.2 c_30
      refine lv_aload_n hx hb d_RL_makeUp_33 rfl (lv_at hl 0 rfl) ?_
      refine lv_bipush (v := (8 : Int32)) hx hb d_RL_makeUp_34 (by decide) ?_
      refine lv_iconst (v := (4 : Int32)) hx hb d_RL_makeUp_36 (by decide) ?_
      refine lv_iload hx hb d_RL_makeUp_37 (lv_at hl 4 rfl) ?_
      refine lv_imul hx hb d_RL_makeUp_39 ?_
      refine lv_iadd hx hb d_RL_makeUp_40 ?_
      refine lv_aload hx hb d_RL_makeUp_41 (lv_at hl 2 rfl) ?_
      refine lv_iload hx hb d_RL_makeUp_43 (lv_at hl 3 rfl) ?_
      refine lv_iload hx hb d_RL_makeUp_45 (lv_at hl 4 rfl) ?_
      refine lv_iadd hx hb d_RL_makeUp_47 ?_
      obtain ⟨hi_48, hok⟩ := hok
      refine va_iald hx hb hK hP 15 0 rfl rfl hi_48 d_RL_makeUp_48 ?_
      obtain ⟨hk_49, hok⟩ := hok
      refine go_vz (run_V hx hb hml hown ht hK hP hD (c_RL_setInt hk_49) (cw_V ht km_RL_105 ki_RL_setInt ks_RL_setInt ini_RL kd_RL_setInt kh_RL_setInt ⟨Nat.le_of_ble_eq_true rfl, Nat.le_of_ble_eq_true rfl⟩ rfl rfl) (q0 := 2) (ci := 2) (As := [.int ((8 : Int32) + ((4 : Int32) * x7)), .int (ces (x6 + x7).toNatClampNeg)]) (rest := []) rfl rfl rfl hl.1 rfl (Nat.le_of_ble_eq_true rfl) d_RL_makeUp_49 ⟨Nat.zero_le _, Nat.zero_le _⟩) hD hS hA (fun z_49 H locs hz_49 hP hD hS => ?_)
      have hres := bindc_eq hz_49 hres
      have hok := bindp_eq hz_49 hok
      have hP : va_P G.1 classes (cC G ad nb nt cfa cle cwr csl cst cen cby cto z_49 cdz cch cva css cve cro crc cma cbi ces cbl crt) H := hP
      have hD : va_D A (cC G ad nb nt cfa cle cwr csl cst cen cby cto z_49 cdz cch cva css cve cro crc cma cbi ces cbl crt) := hD
      refine lv_iinc (v := x7 + (1 : Int32)) (lv' := [(7, .int (x7 + (1 : Int32))), (0, .ref (ad 2)), (1, .int x1), (5, .ref (ad 15)), (6, .int x6)]) hx hb d_RL_makeUp_52 hl (k := 4) rfl rfl (by decide) rfl (fun ls hl => ?_)
      refine lv_goto (tgt := 26) hx hb d_RL_makeUp_55 (by decide) ?_
      exact ih x1 x6 (x7 + (1 : Int32)) z_49 _ _ _ hok hres hP hD hS (lv_sub hl [1, 2, 3, 4, 0] rfl)
def f_RL_makeUp (p0 : Int32) (p1 : Int32) (p2 : Int32) (p3 : Int32) (p4 : Int32) (csh : (Nat → Int32)) (ces : (Nat → Int32)) : (Nat → Int32) := bindc (f_RL_setInt (4 : Int32) p3 (upd (upd csh (0 : Int32).toNatClampNeg (vp_nar .byte p1.toInt8.toInt32)) (1 : Int32).toNatClampNeg (vp_nar .byte p2.toInt8.toInt32))) (fun z_20 => f_RL_makeUp_26 1024 p0 p4 (0 : Int32) z_20 ces)
def ok_RL_makeUp (nb : Nat) (nt : Nat) (p0 : Int32) (p1 : Int32) (p2 : Int32) (p3 : Int32) (p4 : Int32) (csh : (Nat → Int32)) (ces : (Nat → Int32)) : Prop := vp_in (0 : Int32) 64 ∧ (vp_in (1 : Int32) 64 ∧ (ok_RL_setInt nb nt (4 : Int32) p3 (upd (upd csh (0 : Int32).toNatClampNeg (vp_nar .byte p1.toInt8.toInt32)) (1 : Int32).toNatClampNeg (vp_nar .byte p2.toInt8.toInt32)) ∧ bindp (f_RL_setInt (4 : Int32) p3 (upd (upd csh (0 : Int32).toNatClampNeg (vp_nar .byte p1.toInt8.toInt32)) (1 : Int32).toNatClampNeg (vp_nar .byte p2.toInt8.toInt32))) (fun z_20 => ok_RL_makeUp_26 nb nt  1024 p0 p4 (0 : Int32) z_20 ces)))
set_option maxHeartbeats 4000000 in
set_option maxRecDepth 100000 in
theorem c_RL_makeUp {l : Launch} {G : GG} {ad : Nat → Nat} {nb : Nat} {nt : Nat} {sz : Nat} {cfa : Int32} {cle : Int32} {cwr : Int32} {csl : Int32} {cst : Int32} {cen : Int32} {cby : (Nat → Int32)} {cto : (Nat → Int32)} {csh : (Nat → Int32)} {cdz : Int32} {cch : (Nat → Int32)} {cva : (Nat → Int32)} {css : Int32} {cve : (Nat → Int32)} {cro : (Nat → Int32)} {crc : Int32} {cma : (Nat → Int32)} {cbi : (Nat → Int32)} {ces : (Nat → Int32)} {cbl : (Nat → Int32)} {crt : (Nat → Int32)} {p0 : Int32} {p1 : Int32} {p2 : Int32} {p3 : Int32} {p4 : Int32} (hok : ok_RL_makeUp nb nt p0 p1 p2 p3 p4 csh ces) : CtV l y_RL_makeUp b_RL_makeUp 9 none rm_RL_makeUp G (cC G ad nb nt cfa cle cwr csl cst cen cby cto csh cdz cch cva css cve cro crc cma cbi ces cbl crt) sz [.ref (ad 2), .int p0, .int p1, .int p2, .int p3, .ref (ad 15), .int p4] (eqV (f_RL_makeUp p0 p1 p2 p3 p4 csh ces)) (fun u : (Nat → Int32) => (cC G ad nb nt cfa cle cwr csl cst cen cby cto u cdz cch cva css cve cro crc cma cbi ces cbl crt)) := by
  generalize hres : f_RL_makeUp p0 p1 p2 p3 p4 csh ces = res
  refine Met_of (Qc := fun A => va_Qv (eqV res) (Wb G A (fun u : (Nat → Int32) => (cC G ad nb nt cfa cle cwr csl cst cen cby cto u cdz cch cva css cve cro crc cma cbi ces cbl crt))) A) (by decide) (Nat.le_of_ble_eq_true rfl) ?_
  intro p e s m below meth c hadm hx hb hr hml hown hlocks ht hK A hA hP hD hS ls hl
  have hC : Cx p l e s m (([.ref (ad 2), .int p0, .int p1, .int p2, .int p3, .ref (ad 15), .int p4] : List Value)).toArray meth c y_RL_makeUp b_RL_makeUp 9 none "BookTrees$Roll" G A := ⟨hx, hb, hr, hml, hown, hlocks, ht, hK, hA⟩
  have hown : s.vm.findClass "BookTrees$Roll" = some m.cls := hown
  have hl : lv_has ls 9 [(0, .ref (ad 2)), (1, .int p0), (2, .int p1), (3, .int p2), (4, .int p3), (5, .ref (ad 15)), (6, .int p4)] := hl
  rw [f_RL_makeUp] at hres
  rw [ok_RL_makeUp] at hok
  refine lv_aload_n hx hb d_RL_makeUp_0 rfl (lv_at hl 0 rfl) ?_
  refine va_get (D := G.1) (ci := 2) (C := R_RL) (T := F_RL) (N := 7) hx hb ht in_RL hown hK hP 2 rfl rfl 4 (by decide) (ht _ kf_RL_11) (fun _ h9 => h9) rfl d_RL_makeUp_1 ?_
  refine lv_iconst (v := (0 : Int32)) hx hb d_RL_makeUp_4 (by decide) ?_
  refine lv_iload_n hx hb d_RL_makeUp_5 rfl (lv_at hl 2 rfl) ?_
  refine lv_i2b hx hb d_RL_makeUp_6 rfl ?_
  obtain ⟨hi_7, hok⟩ := hok
  refine va_bast hx hb hK hP hD hS 5 2 rfl rfl hi_7 d_RL_makeUp_7 (fun H locs hP hD hS => ?_)
  have hP : va_P G.1 classes (cC G ad nb nt cfa cle cwr csl cst cen cby cto (upd csh (0 : Int32).toNatClampNeg (vp_nar .byte p1.toInt8.toInt32)) cdz cch cva css cve cro crc cma cbi ces cbl crt) H := hP
  have hD : va_D A (cC G ad nb nt cfa cle cwr csl cst cen cby cto (upd csh (0 : Int32).toNatClampNeg (vp_nar .byte p1.toInt8.toInt32)) cdz cch cva css cve cro crc cma cbi ces cbl crt) := hD
  refine lv_aload_n hx hb d_RL_makeUp_8 rfl (lv_at hl 0 rfl) ?_
  refine va_get (D := G.1) (ci := 2) (C := R_RL) (T := F_RL) (N := 7) hx hb ht in_RL hown hK hP 2 rfl rfl 4 (by decide) (ht _ kf_RL_11) (fun _ h9 => h9) rfl d_RL_makeUp_9 ?_
  refine lv_iconst (v := (1 : Int32)) hx hb d_RL_makeUp_12 (by decide) ?_
  refine lv_iload_n hx hb d_RL_makeUp_13 rfl (lv_at hl 3 rfl) ?_
  refine lv_i2b hx hb d_RL_makeUp_14 rfl ?_
  obtain ⟨hi_15, hok⟩ := hok
  refine va_bast hx hb hK hP hD hS 5 2 rfl rfl hi_15 d_RL_makeUp_15 (fun H locs hP hD hS => ?_)
  have hP : va_P G.1 classes (cC G ad nb nt cfa cle cwr csl cst cen cby cto (upd (upd csh (0 : Int32).toNatClampNeg (vp_nar .byte p1.toInt8.toInt32)) (1 : Int32).toNatClampNeg (vp_nar .byte p2.toInt8.toInt32)) cdz cch cva css cve cro crc cma cbi ces cbl crt) H := hP
  have hD : va_D A (cC G ad nb nt cfa cle cwr csl cst cen cby cto (upd (upd csh (0 : Int32).toNatClampNeg (vp_nar .byte p1.toInt8.toInt32)) (1 : Int32).toNatClampNeg (vp_nar .byte p2.toInt8.toInt32)) cdz cch cva css cve cro crc cma cbi ces cbl crt) := hD
  refine lv_aload_n hx hb d_RL_makeUp_16 rfl (lv_at hl 0 rfl) ?_
  refine lv_iconst (v := (4 : Int32)) hx hb d_RL_makeUp_17 (by decide) ?_
  refine lv_iload hx hb d_RL_makeUp_18 (lv_at hl 4 rfl) ?_
  obtain ⟨hk_20, hok⟩ := hok
  refine go_vz (run_V hx hb hml hown ht hK hP hD (c_RL_setInt hk_20) (cw_V ht km_RL_105 ki_RL_setInt ks_RL_setInt ini_RL kd_RL_setInt kh_RL_setInt ⟨Nat.le_of_ble_eq_true rfl, Nat.le_of_ble_eq_true rfl⟩ rfl rfl) (q0 := 2) (ci := 2) (As := [.int (4 : Int32), .int p3]) (rest := []) rfl rfl rfl hl.1 rfl (Nat.le_of_ble_eq_true rfl) d_RL_makeUp_20 ⟨Nat.zero_le _, Nat.zero_le _⟩) hD hS hA (fun z_20 H locs hz_20 hP hD hS => ?_)
  have hres := bindc_eq hz_20 hres
  have hok := bindp_eq hz_20 hok
  have hP : va_P G.1 classes (cC G ad nb nt cfa cle cwr csl cst cen cby cto z_20 cdz cch cva css cve cro crc cma cbi ces cbl crt) H := hP
  have hD : va_D A (cC G ad nb nt cfa cle cwr csl cst cen cby cto z_20 cdz cch cva css cve cro crc cma cbi ces cbl crt) := hD
  refine lv_iconst (v := (0 : Int32)) hx hb d_RL_makeUp_23 (by decide) ?_
  refine lv_istore (lv' := [(7, .int (0 : Int32)), (0, .ref (ad 2)), (1, .int p0), (2, .int p1), (3, .int p2), (4, .int p3), (5, .ref (ad 15)), (6, .int p4)]) hx hb d_RL_makeUp_24 hl (by decide) rfl (fun ls hl => ?_)
  exact w_RL_makeUp_26 hC 1024 p0 p4 (0 : Int32) z_20 _ _ _ hok hres hP hD hS (lv_sub hl [1, 2, 6, 7, 0] rfl)
/-! ===== BookTrees$Power.spend(I)I ===== -/
abbrev rm_PW_spend : Room := { frames := 1, cells := 0, slots := 0, locals := 21 }
def f_PW_spend_20 (y0 : Int32) (cfa : Int32) (cle : Int32) (cwr : Int32) : Int32 × Int32 × Int32 × Int32 := if cle = (-1 : Int32) then (y0, (cfa, cle, cwr + y0)) else if (cle - y0) = 0 then (y0, ((1 : Int32), cle - y0, cwr + y0)) else (y0, ((0 : Int32), cle - y0, cwr + y0))
def ok_PW_spend_20 (nb : Nat) (nt : Nat) (y0 : Int32) (cfa : Int32) (cle : Int32) (cwr : Int32) : Prop := True
set_option maxHeartbeats 4000000 in
set_option maxRecDepth 100000 in
theorem w_PW_spend_20 {p : Program} {l : Launch} {e : Env} {s : State} {m : MethodId} {args : Array Value} {below : List Frame} {meth : Method} {c : Code} {A : Nat → Prop} {G : GG} {ad : Nat → Nat} {nb : Nat} {nt : Nat} {csl : Int32} {cst : Int32} {cen : Int32} {cby : (Nat → Int32)} {cto : (Nat → Int32)} {csh : (Nat → Int32)} {cdz : Int32} {cch : (Nat → Int32)} {cva : (Nat → Int32)} {css : Int32} {cve : (Nat → Int32)} {cro : (Nat → Int32)} {crc : Int32} {cma : (Nat → Int32)} {cbi : (Nat → Int32)} {ces : (Nat → Int32)} {cbl : (Nat → Int32)} {crt : (Nat → Int32)} {res : Int32 × Int32 × Int32 × Int32} (hC : Cx p l e s m args meth c y_PW_spend b_PW_spend 3 (some .int) "BookTrees$Power" G A) : ∀ (y0 : Int32) (cfa : Int32) (cle : Int32) (cwr : Int32) (H : Heap) (locs : List Loc) (ls : Array Slot), ok_PW_spend_20 nb nt y0 cfa cle cwr → f_PW_spend_20 y0 cfa cle cwr = res → va_P G.1 classes (cC G ad nb nt cfa cle cwr csl cst cen cby cto csh cdz cch cva css cve cro crc cma cbi ces cbl crt) H → va_D A (cC G ad nb nt cfa cle cwr csl cst cen cby cto csh cdz cch cva css cve cro crc cma cbi ces cbl crt) → va_S A s.heap H locs → lv_has ls 3 [(0, .ref (ad 1))] → W p l e rm_PW_spend s m args below meth c H locs 0 0 (MQ below (va_Qi (eqP res) (Wb G A (fun u : Int32 × Int32 × Int32 => (cC G ad nb nt u.1 u.2.1 u.2.2 csl cst cen cby cto csh cdz cch cva css cve cro crc cma cbi ces cbl crt))) A) args s 0 0 A) (F0 m 20 ls [.int y0]) := by
  obtain ⟨hx, hb, hr, hml, hown, hlocks, ht, hK, hA⟩ := id hC
  intro y0 cfa cle cwr H locs ls hok hres hP hD hS hl
  rw [f_PW_spend_20] at hres
  rw [ok_PW_spend_20] at hok
  refine lv_istore_n (lv' := [(2, .int y0), (0, .ref (ad 1))]) hx hb d_PW_spend_20 rfl hl (by decide) rfl (fun ls hl => ?_)
  refine lv_aload_n hx hb d_PW_spend_21 rfl (lv_at hl 1 rfl) ?_
  refine lv_dup hx hb d_PW_spend_22 rfl ?_
  refine va_get (D := G.1) (ci := 1) (C := R_PW) (T := F_PW) (N := 3) hx hb ht in_PW hown hK hP 1 rfl rfl 2 (by decide) (ht _ kf_PW_19) (fun _ h9 => h9) rfl d_PW_spend_23 ?_
  refine lv_iload_n hx hb d_PW_spend_26 rfl (lv_at hl 0 rfl) ?_
  refine lv_iadd hx hb d_PW_spend_27 ?_
  refine va_put (D := G.1) (ci := 1) (v := .int (cwr + y0)) (ty := .int) (C := R_PW) (T := F_PW) (N := 3) hx hb ht in_PW t_PW to_PW nm_PW hown hK hP hD hS 1 rfl rfl 2 (by decide) (ht _ kf_PW_19) (fun _ h9 => h9) rfl (to_PW 2 (by decide)) rfl rfl (Nat.le_of_ble_eq_true rfl) d_PW_spend_28 (fun H locs hP hD hS => ?_)
  have hP : va_P G.1 classes (cC G ad nb nt cfa cle (cwr + y0) csl cst cen cby cto csh cdz cch cva css cve cro crc cma cbi ces cbl crt) H := hP
  have hD : va_D A (cC G ad nb nt cfa cle (cwr + y0) csl cst cen cby cto csh cdz cch cva css cve cro crc cma cbi ces cbl crt) := hD
  refine lv_aload_n hx hb d_PW_spend_31 rfl (lv_at hl 1 rfl) ?_
  refine va_get (D := G.1) (ci := 1) (C := R_PW) (T := F_PW) (N := 3) hx hb ht in_PW hown hK hP 1 rfl rfl 1 (by decide) (ht _ kf_PW_9) (fun _ h9 => h9) rfl d_PW_spend_32 ?_
  refine lv_iconst (v := (-1 : Int32)) hx hb d_PW_spend_35 (by decide) ?_
  refine lv_icmp_eq (tgt := 65) hx hb d_PW_spend_36 (by decide) (fun c_36 => ?_) (fun c_36 => ?_)
  · have hres := it_t c_36 hres
    refine lv_iload_n hx hb d_PW_spend_65 rfl (lv_at hl 0 rfl) ?_
    exact en_i (w1 := (fun u : Int32 × Int32 × Int32 => (cC G ad nb nt u.1 u.2.1 u.2.2 csl cst cen cby cto csh cdz cch cva css cve cro crc cma cbi ces cbl crt))) (cfa, cle, cwr + y0) hx hb hr hlocks hK hP hD hS hres d_PW_spend_66
  · have hres := it_f c_36 hres
    refine lv_aload_n hx hb d_PW_spend_39 rfl (lv_at hl 1 rfl) ?_
    refine lv_dup hx hb d_PW_spend_40 rfl ?_
    refine va_get (D := G.1) (ci := 1) (C := R_PW) (T := F_PW) (N := 3) hx hb ht in_PW hown hK hP 1 rfl rfl 1 (by decide) (ht _ kf_PW_9) (fun _ h9 => h9) rfl d_PW_spend_41 ?_
    refine lv_iload_n hx hb d_PW_spend_44 rfl (lv_at hl 0 rfl) ?_
    refine lv_isub hx hb d_PW_spend_45 ?_
    refine va_put (D := G.1) (ci := 1) (v := .int (cle - y0)) (ty := .int) (C := R_PW) (T := F_PW) (N := 3) hx hb ht in_PW t_PW to_PW nm_PW hown hK hP hD hS 1 rfl rfl 1 (by decide) (ht _ kf_PW_9) (fun _ h9 => h9) rfl (to_PW 1 (by decide)) rfl rfl (Nat.le_of_ble_eq_true rfl) d_PW_spend_46 (fun H locs hP hD hS => ?_)
    have hP : va_P G.1 classes (cC G ad nb nt cfa (cle - y0) (cwr + y0) csl cst cen cby cto csh cdz cch cva css cve cro crc cma cbi ces cbl crt) H := hP
    have hD : va_D A (cC G ad nb nt cfa (cle - y0) (cwr + y0) csl cst cen cby cto csh cdz cch cva css cve cro crc cma cbi ces cbl crt) := hD
    refine lv_aload_n hx hb d_PW_spend_49 rfl (lv_at hl 1 rfl) ?_
    refine lv_aload_n hx hb d_PW_spend_50 rfl (lv_at hl 1 rfl) ?_
    refine va_get (D := G.1) (ci := 1) (C := R_PW) (T := F_PW) (N := 3) hx hb ht in_PW hown hK hP 1 rfl rfl 1 (by decide) (ht _ kf_PW_9) (fun _ h9 => h9) rfl d_PW_spend_51 ?_
    refine lv_if_ne (tgt := 61) hx hb d_PW_spend_54 (by decide) (fun c_54 => ?_) (fun c_54 => ?_)
    · have hres := it_f c_54 hres
      refine lv_iconst (v := (0 : Int32)) hx hb d_PW_spend_61 (by decide) ?_
      refine va_put (D := G.1) (ci := 1) (v := .int (0 : Int32)) (ty := .boolean) (C := R_PW) (T := F_PW) (N := 3) hx hb ht in_PW t_PW to_PW nm_PW hown hK hP hD hS 1 rfl rfl 0 (by decide) (ht _ kf_PW_15) (fun _ h9 => h9) rfl (to_PW 0 (by decide)) rfl rfl (Nat.le_of_ble_eq_true rfl) d_PW_spend_62 (fun H locs hP hD hS => ?_)
      have hP : va_P G.1 classes (cC G ad nb nt (0 : Int32) (cle - y0) (cwr + y0) csl cst cen cby cto csh cdz cch cva css cve cro crc cma cbi ces cbl crt) H := hP
      have hD : va_D A (cC G ad nb nt (0 : Int32) (cle - y0) (cwr + y0) csl cst cen cby cto csh cdz cch cva css cve cro crc cma cbi ces cbl crt) := hD
      refine lv_iload_n hx hb d_PW_spend_65 rfl (lv_at hl 0 rfl) ?_
      exact en_i (w1 := (fun u : Int32 × Int32 × Int32 => (cC G ad nb nt u.1 u.2.1 u.2.2 csl cst cen cby cto csh cdz cch cva css cve cro crc cma cbi ces cbl crt))) ((0 : Int32), cle - y0, cwr + y0) hx hb hr hlocks hK hP hD hS hres d_PW_spend_66
    · have hres := it_t c_54 hres
      refine lv_iconst (v := (1 : Int32)) hx hb d_PW_spend_57 (by decide) ?_
      refine lv_goto (tgt := 62) hx hb d_PW_spend_58 (by decide) ?_
      refine va_put (D := G.1) (ci := 1) (v := .int (1 : Int32)) (ty := .boolean) (C := R_PW) (T := F_PW) (N := 3) hx hb ht in_PW t_PW to_PW nm_PW hown hK hP hD hS 1 rfl rfl 0 (by decide) (ht _ kf_PW_15) (fun _ h9 => h9) rfl (to_PW 0 (by decide)) rfl rfl (Nat.le_of_ble_eq_true rfl) d_PW_spend_62 (fun H locs hP hD hS => ?_)
      have hP : va_P G.1 classes (cC G ad nb nt (1 : Int32) (cle - y0) (cwr + y0) csl cst cen cby cto csh cdz cch cva css cve cro crc cma cbi ces cbl crt) H := hP
      have hD : va_D A (cC G ad nb nt (1 : Int32) (cle - y0) (cwr + y0) csl cst cen cby cto csh cdz cch cva css cve cro crc cma cbi ces cbl crt) := hD
      refine lv_iload_n hx hb d_PW_spend_65 rfl (lv_at hl 0 rfl) ?_
      exact en_i (w1 := (fun u : Int32 × Int32 × Int32 => (cC G ad nb nt u.1 u.2.1 u.2.2 csl cst cen cby cto csh cdz cch cva css cve cro crc cma cbi ces cbl crt))) ((1 : Int32), cle - y0, cwr + y0) hx hb hr hlocks hK hP hD hS hres d_PW_spend_66
def f_PW_spend (p0 : Int32) (cfa : Int32) (cle : Int32) (cwr : Int32) : Int32 × Int32 × Int32 × Int32 := if cle = (-1 : Int32) then f_PW_spend_20 p0 cfa cle cwr else f_PW_spend_20 (if p0 < cle then p0 else cle) cfa cle cwr
def ok_PW_spend (nb : Nat) (nt : Nat) (p0 : Int32) (cfa : Int32) (cle : Int32) (cwr : Int32) : Prop := (cle = (-1 : Int32) → ok_PW_spend_20 nb nt  p0 cfa cle cwr) ∧ (¬ cle = (-1 : Int32) → ok_PW_spend_20 nb nt  (if p0 < cle then p0 else cle) cfa cle cwr)
set_option maxHeartbeats 4000000 in
set_option maxRecDepth 100000 in
theorem c_PW_spend {l : Launch} {G : GG} {ad : Nat → Nat} {nb : Nat} {nt : Nat} {sz : Nat} {cfa : Int32} {cle : Int32} {cwr : Int32} {csl : Int32} {cst : Int32} {cen : Int32} {cby : (Nat → Int32)} {cto : (Nat → Int32)} {csh : (Nat → Int32)} {cdz : Int32} {cch : (Nat → Int32)} {cva : (Nat → Int32)} {css : Int32} {cve : (Nat → Int32)} {cro : (Nat → Int32)} {crc : Int32} {cma : (Nat → Int32)} {cbi : (Nat → Int32)} {ces : (Nat → Int32)} {cbl : (Nat → Int32)} {crt : (Nat → Int32)} {p0 : Int32} (hok : ok_PW_spend nb nt p0 cfa cle cwr) : CtI l y_PW_spend b_PW_spend 3 (some .int) rm_PW_spend G (cC G ad nb nt cfa cle cwr csl cst cen cby cto csh cdz cch cva css cve cro crc cma cbi ces cbl crt) sz [.ref (ad 1), .int p0] (eqP (f_PW_spend p0 cfa cle cwr)) (fun u : Int32 × Int32 × Int32 => (cC G ad nb nt u.1 u.2.1 u.2.2 csl cst cen cby cto csh cdz cch cva css cve cro crc cma cbi ces cbl crt)) := by
  generalize hres : f_PW_spend p0 cfa cle cwr = res
  refine Met_of (Qc := fun A => va_Qi (eqP res) (Wb G A (fun u : Int32 × Int32 × Int32 => (cC G ad nb nt u.1 u.2.1 u.2.2 csl cst cen cby cto csh cdz cch cva css cve cro crc cma cbi ces cbl crt))) A) (by decide) (Nat.le_of_ble_eq_true rfl) ?_
  intro p e s m below meth c hadm hx hb hr hml hown hlocks ht hK A hA hP hD hS ls hl
  have hC : Cx p l e s m (([.ref (ad 1), .int p0] : List Value)).toArray meth c y_PW_spend b_PW_spend 3 (some .int) "BookTrees$Power" G A := ⟨hx, hb, hr, hml, hown, hlocks, ht, hK, hA⟩
  have hown : s.vm.findClass "BookTrees$Power" = some m.cls := hown
  have hl : lv_has ls 3 [(0, .ref (ad 1)), (1, .int p0)] := hl
  rw [f_PW_spend] at hres
  rw [ok_PW_spend] at hok
  refine lv_aload_n hx hb d_PW_spend_0 rfl (lv_at hl 0 rfl) ?_
  refine va_get (D := G.1) (ci := 1) (C := R_PW) (T := F_PW) (N := 3) hx hb ht in_PW hown hK hP 1 rfl rfl 1 (by decide) (ht _ kf_PW_9) (fun _ h9 => h9) rfl d_PW_spend_1 ?_
  refine lv_iconst (v := (-1 : Int32)) hx hb d_PW_spend_4 (by decide) ?_
  refine lv_icmp_ne (tgt := 12) hx hb d_PW_spend_5 (by decide) (fun c_5 => ?_) (fun c_5 => ?_)
  · have hres := it_f c_5 hres
    have hok := hok.2 c_5
    refine lv_aload_n hx hb d_PW_spend_12 rfl (lv_at hl 0 rfl) ?_
    refine va_get (D := G.1) (ci := 1) (C := R_PW) (T := F_PW) (N := 3) hx hb ht in_PW hown hK hP 1 rfl rfl 1 (by decide) (ht _ kf_PW_9) (fun _ h9 => h9) rfl d_PW_spend_13 ?_
    refine lv_iload_n hx hb d_PW_spend_16 rfl (lv_at hl 1 rfl) ?_
    refine va_mmin hx hb (hml.trans hl.1.symm) hown (ht _ km_PW_22) (ht _ kt_JM_min) (ht _ ini_JM) (ht _ kd_JM_min) (Nat.le_of_ble_eq_true rfl) (Nat.le_of_ble_eq_true rfl) (Nat.zero_le _) (Nat.zero_le _) d_PW_spend_17 ?_
    exact w_PW_spend_20 hC (if p0 < cle then p0 else cle) cfa cle cwr _ _ _ hok hres hP hD hS (lv_sub hl [0] rfl)
  · have hres := it_t c_5 hres
    have hok := hok.1 c_5
    refine lv_iload_n hx hb d_PW_spend_8 rfl (lv_at hl 1 rfl) ?_
    refine lv_goto (tgt := 20) hx hb d_PW_spend_9 (by decide) ?_
    exact w_PW_spend_20 hC p0 cfa cle cwr _ _ _ hok hres hP hD hS (lv_sub hl [0] rfl)
/-! ===== BookTrees$Roll.write(IIII[II)Z ===== -/
abbrev rm_RL_write : Room := { frames := 2, cells := 0, slots := 0, locals := 60 }
def f_RL_write (p0 : Int32) (p1 : Int32) (p2 : Int32) (p3 : Int32) (p4 : Int32) (cfa : Int32) (cle : Int32) (cwr : Int32) (csl : Int32) (cby : (Nat → Int32)) (cto : (Nat → Int32)) (csh : (Nat → Int32)) (ces : (Nat → Int32)) : Int32 × Int32 × Int32 × Int32 × (Nat → Int32) × (Nat → Int32) × (Nat → Int32) := bindc (f_RL_makeUp p0 p1 p2 p3 p4 csh ces) (fun z_10 => bindc (f_RL_offsetOf p0 csl) (fun z_15 => bindc (f_PW_spend (64 : Int32) cfa cle cwr) (fun z_26 => if z_26.1 ≤ 0 then bindc (f_PW_hasFailed z_26.2.1) (fun z_78 => if z_78.1 = 0 then ((1 : Int32), (z_26.2.1, z_26.2.2.1, z_26.2.2.2, va_cpy z_10 cby (0 : Int32).toNatClampNeg z_15.1.toNatClampNeg z_26.1.toNatClampNeg, cto, z_10)) else ((0 : Int32), (z_26.2.1, z_26.2.2.1, z_26.2.2.2, va_cpy z_10 cby (0 : Int32).toNatClampNeg z_15.1.toNatClampNeg z_26.1.toNatClampNeg, cto, z_10))) else if (64 : Int32) ≤ z_26.1 then bindc (f_PW_hasFailed z_26.2.1) (fun z_78 => if z_78.1 = 0 then ((1 : Int32), (z_26.2.1, z_26.2.2.1, z_26.2.2.2, va_cpy z_10 cby (0 : Int32).toNatClampNeg z_15.1.toNatClampNeg z_26.1.toNatClampNeg, upd cto (z_15.1 / (64 : Int32)).toNatClampNeg (vp_nar .boolean (0 : Int32)), z_10)) else ((0 : Int32), (z_26.2.1, z_26.2.2.1, z_26.2.2.2, va_cpy z_10 cby (0 : Int32).toNatClampNeg z_15.1.toNatClampNeg z_26.1.toNatClampNeg, upd cto (z_15.1 / (64 : Int32)).toNatClampNeg (vp_nar .boolean (0 : Int32)), z_10))) else bindc (f_PW_hasFailed z_26.2.1) (fun z_78 => if z_78.1 = 0 then ((1 : Int32), (z_26.2.1, z_26.2.2.1, z_26.2.2.2, va_cpy z_10 cby (0 : Int32).toNatClampNeg z_15.1.toNatClampNeg z_26.1.toNatClampNeg, upd cto (z_15.1 / (64 : Int32)).toNatClampNeg (vp_nar .boolean (1 : Int32)), z_10)) else ((0 : Int32), (z_26.2.1, z_26.2.2.1, z_26.2.2.2, va_cpy z_10 cby (0 : Int32).toNatClampNeg z_15.1.toNatClampNeg z_26.1.toNatClampNeg, upd cto (z_15.1 / (64 : Int32)).toNatClampNeg (vp_nar .boolean (1 : Int32)), z_10))))))
def ok_RL_write (nb : Nat) (nt : Nat) (p0 : Int32) (p1 : Int32) (p2 : Int32) (p3 : Int32) (p4 : Int32) (cfa : Int32) (cle : Int32) (cwr : Int32) (csl : Int32) (cby : (Nat → Int32)) (cto : (Nat → Int32)) (csh : (Nat → Int32)) (ces : (Nat → Int32)) : Prop := ok_RL_makeUp nb nt p0 p1 p2 p3 p4 csh ces ∧ bindp (f_RL_makeUp p0 p1 p2 p3 p4 csh ces) (fun z_10 => ok_RL_offsetOf nb nt p0 csl ∧ bindp (f_RL_offsetOf p0 csl) (fun z_15 => ok_PW_spend nb nt (64 : Int32) cfa cle cwr ∧ bindp (f_PW_spend (64 : Int32) cfa cle cwr) (fun z_26 => cpOk z_10 64 nb (0 : Int32) z_15.1 z_26.1 ∧ ((z_26.1 ≤ 0 → ok_PW_hasFailed nb nt z_26.2.1) ∧ (¬ z_26.1 ≤ 0 → ((64 : Int32) ≤ z_26.1 → vp_in (z_15.1 / (64 : Int32)) nt ∧ (ok_PW_hasFailed nb nt z_26.2.1)) ∧ (¬ (64 : Int32) ≤ z_26.1 → vp_in (z_15.1 / (64 : Int32)) nt ∧ (ok_PW_hasFailed nb nt z_26.2.1)))))))
set_option maxHeartbeats 4000000 in
set_option maxRecDepth 100000 in
theorem c_RL_write {l : Launch} {G : GG} {ad : Nat → Nat} {nb : Nat} {nt : Nat} {sz : Nat} {cfa : Int32} {cle : Int32} {cwr : Int32} {csl : Int32} {cst : Int32} {cen : Int32} {cby : (Nat → Int32)} {cto : (Nat → Int32)} {csh : (Nat → Int32)} {cdz : Int32} {cch : (Nat → Int32)} {cva : (Nat → Int32)} {css : Int32} {cve : (Nat → Int32)} {cro : (Nat → Int32)} {crc : Int32} {cma : (Nat → Int32)} {cbi : (Nat → Int32)} {ces : (Nat → Int32)} {cbl : (Nat → Int32)} {crt : (Nat → Int32)} {p0 : Int32} {p1 : Int32} {p2 : Int32} {p3 : Int32} {p4 : Int32} (hok : ok_RL_write nb nt p0 p1 p2 p3 p4 cfa cle cwr csl cby cto csh ces) : CtI l y_RL_write b_RL_write 9 (some .boolean) rm_RL_write G (cC G ad nb nt cfa cle cwr csl cst cen cby cto csh cdz cch cva css cve cro crc cma cbi ces cbl crt) sz [.ref (ad 2), .int p0, .int p1, .int p2, .int p3, .ref (ad 15), .int p4] (eqP (f_RL_write p0 p1 p2 p3 p4 cfa cle cwr csl cby cto csh ces)) (fun u : Int32 × Int32 × Int32 × (Nat → Int32) × (Nat → Int32) × (Nat → Int32) => (cC G ad nb nt u.1 u.2.1 u.2.2.1 csl cst cen u.2.2.2.1 u.2.2.2.2.1 u.2.2.2.2.2 cdz cch cva css cve cro crc cma cbi ces cbl crt)) := by
  generalize hres : f_RL_write p0 p1 p2 p3 p4 cfa cle cwr csl cby cto csh ces = res
  refine Met_of (Qc := fun A => va_Qi (eqP res) (Wb G A (fun u : Int32 × Int32 × Int32 × (Nat → Int32) × (Nat → Int32) × (Nat → Int32) => (cC G ad nb nt u.1 u.2.1 u.2.2.1 csl cst cen u.2.2.2.1 u.2.2.2.2.1 u.2.2.2.2.2 cdz cch cva css cve cro crc cma cbi ces cbl crt))) A) (by decide) (Nat.le_of_ble_eq_true rfl) ?_
  intro p e s m below meth c hadm hx hb hr hml hown hlocks ht hK A hA hP hD hS ls hl
  have hC : Cx p l e s m (([.ref (ad 2), .int p0, .int p1, .int p2, .int p3, .ref (ad 15), .int p4] : List Value)).toArray meth c y_RL_write b_RL_write 9 (some .boolean) "BookTrees$Roll" G A := ⟨hx, hb, hr, hml, hown, hlocks, ht, hK, hA⟩
  have hown : s.vm.findClass "BookTrees$Roll" = some m.cls := hown
  have hl : lv_has ls 9 [(0, .ref (ad 2)), (1, .int p0), (2, .int p1), (3, .int p2), (4, .int p3), (5, .ref (ad 15)), (6, .int p4)] := hl
  rw [f_RL_write] at hres
  rw [ok_RL_write] at hok
  refine lv_aload_n hx hb d_RL_write_0 rfl (lv_at hl 0 rfl) ?_
  refine lv_iload_n hx hb d_RL_write_1 rfl (lv_at hl 1 rfl) ?_
  refine lv_iload_n hx hb d_RL_write_2 rfl (lv_at hl 2 rfl) ?_
  refine lv_iload_n hx hb d_RL_write_3 rfl (lv_at hl 3 rfl) ?_
  refine lv_iload hx hb d_RL_write_4 (lv_at hl 4 rfl) ?_
  refine lv_aload hx hb d_RL_write_6 (lv_at hl 5 rfl) ?_
  refine lv_iload hx hb d_RL_write_8 (lv_at hl 6 rfl) ?_
  obtain ⟨hk_10, hok⟩ := hok
  refine go_vz (run_V hx hb hml hown ht hK hP hD (c_RL_makeUp hk_10) (cw_V ht km_RL_86 ki_RL_makeUp ks_RL_makeUp ini_RL kd_RL_makeUp kh_RL_makeUp ⟨Nat.le_of_ble_eq_true rfl, Nat.le_of_ble_eq_true rfl⟩ rfl rfl) (q0 := 2) (ci := 2) (As := [.int p0, .int p1, .int p2, .int p3, .ref (ad 15), .int p4]) (rest := []) rfl rfl rfl hl.1 rfl (Nat.le_of_ble_eq_true rfl) d_RL_write_10 ⟨Nat.zero_le _, Nat.zero_le _⟩) hD hS hA (fun z_10 H locs hz_10 hP hD hS => ?_)
  have hres := bindc_eq hz_10 hres
  have hok := bindp_eq hz_10 hok
  have hP : va_P G.1 classes (cC G ad nb nt cfa cle cwr csl cst cen cby cto z_10 cdz cch cva css cve cro crc cma cbi ces cbl crt) H := hP
  have hD : va_D A (cC G ad nb nt cfa cle cwr csl cst cen cby cto z_10 cdz cch cva css cve cro crc cma cbi ces cbl crt) := hD
  refine lv_aload_n hx hb d_RL_write_13 rfl (lv_at hl 0 rfl) ?_
  refine lv_iload_n hx hb d_RL_write_14 rfl (lv_at hl 1 rfl) ?_
  obtain ⟨hk_15, hok⟩ := hok
  refine go_iz (run_V hx hb hml hown ht hK hP hD (c_RL_offsetOf hk_15) (cw_V ht km_RL_45 ki_RL_offsetOf ks_RL_offsetOf ini_RL kd_RL_offsetOf kh_RL_offsetOf ⟨Nat.le_of_ble_eq_true rfl, Nat.le_of_ble_eq_true rfl⟩ rfl rfl) (q0 := 2) (ci := 2) (As := [.int p0]) (rest := []) rfl rfl rfl hl.1 rfl (Nat.le_of_ble_eq_true rfl) d_RL_write_15 ⟨Nat.zero_le _, Nat.zero_le _⟩) hD hS hA (fun z_15 H locs hz_15 hP hD hS => ?_)
  have hres := bindc_eq hz_15 hres
  have hok := bindp_eq hz_15 hok
  have hP : va_P G.1 classes (cC G ad nb nt cfa cle cwr csl cst cen cby cto z_10 cdz cch cva css cve cro crc cma cbi ces cbl crt) H := hP
  have hD : va_D A (cC G ad nb nt cfa cle cwr csl cst cen cby cto z_10 cdz cch cva css cve cro crc cma cbi ces cbl crt) := hD
  refine lv_istore (lv' := [(7, .int z_15.1), (0, .ref (ad 2)), (1, .int p0), (2, .int p1), (3, .int p2), (4, .int p3), (5, .ref (ad 15)), (6, .int p4)]) hx hb d_RL_write_18 hl (by decide) rfl (fun ls hl => ?_)
  refine lv_aload_n hx hb d_RL_write_20 rfl (lv_at hl 1 rfl) ?_
  refine va_get (D := G.1) (ci := 2) (C := R_RL) (T := F_RL) (N := 7) hx hb ht in_RL hown hK hP 2 rfl rfl 0 (by decide) (ht _ kf_RL_15) (fun _ h9 => h9) rfl d_RL_write_21 ?_
  refine lv_bipush (v := (64 : Int32)) hx hb d_RL_write_24 (by decide) ?_
  obtain ⟨hk_26, hok⟩ := hok
  refine go_iz (run_V hx hb hml hown ht hK hP hD (c_PW_spend hk_26) (cw_V ht km_RL_90 ki_PW_spend ks_PW_spend ini_PW kd_PW_spend kh_PW_spend ⟨Nat.le_of_ble_eq_true rfl, Nat.le_of_ble_eq_true rfl⟩ rfl rfl) (q0 := 1) (ci := 1) (As := [.int (64 : Int32)]) (rest := []) rfl rfl rfl hl.1 rfl (Nat.le_of_ble_eq_true rfl) d_RL_write_26 ⟨Nat.zero_le _, Nat.zero_le _⟩) hD hS hA (fun z_26 H locs hz_26 hP hD hS => ?_)
  have hres := bindc_eq hz_26 hres
  have hok := bindp_eq hz_26 hok
  have hP : va_P G.1 classes (cC G ad nb nt z_26.2.1 z_26.2.2.1 z_26.2.2.2 csl cst cen cby cto z_10 cdz cch cva css cve cro crc cma cbi ces cbl crt) H := hP
  have hD : va_D A (cC G ad nb nt z_26.2.1 z_26.2.2.1 z_26.2.2.2 csl cst cen cby cto z_10 cdz cch cva css cve cro crc cma cbi ces cbl crt) := hD
  refine lv_istore (lv' := [(8, .int z_26.1), (7, .int z_15.1), (0, .ref (ad 2)), (1, .int p0), (2, .int p1), (3, .int p2), (4, .int p3), (5, .ref (ad 15)), (6, .int p4)]) hx hb d_RL_write_29 hl (by decide) rfl (fun ls hl => ?_)
  refine lv_aload_n hx hb d_RL_write_31 rfl (lv_at hl 2 rfl) ?_
  refine va_get (D := G.1) (ci := 2) (C := R_RL) (T := F_RL) (N := 7) hx hb ht in_RL hown hK hP 2 rfl rfl 4 (by decide) (ht _ kf_RL_11) (fun _ h9 => h9) rfl d_RL_write_32 ?_
  refine lv_iconst (v := (0 : Int32)) hx hb d_RL_write_35 (by decide) ?_
  refine lv_aload_n hx hb d_RL_write_36 rfl (lv_at hl 2 rfl) ?_
  refine va_get (D := G.1) (ci := 2) (C := R_RL) (T := F_RL) (N := 7) hx hb ht in_RL hown hK hP 2 rfl rfl 2 (by decide) (ht _ kf_RL_32) (fun _ h9 => h9) rfl d_RL_write_37 ?_
  refine lv_iload hx hb d_RL_write_40 (lv_at hl 1 rfl) ?_
  refine lv_iload hx hb d_RL_write_42 (lv_at hl 0 rfl) ?_
  obtain ⟨hi_44, hok⟩ := hok
  refine va_copyi hx hb (hml.trans hl.1.symm) hown (ht _ km_RL_95) (ht _ kn_JS_ac) (ht _ kt_JS_ac) (ht _ ini_JS) hK hP hD hS 5 3 2 2 rfl rfl rfl rfl rfl hi_44.1 hi_44.2.1 hi_44.2.2.1 hi_44.2.2.2.1 hi_44.2.2.2.2.1 hi_44.2.2.2.2.2 (Nat.le_of_ble_eq_true rfl) (by decide) d_RL_write_44 (fun H locs hP hD hS => ?_)
  have hP : va_P G.1 classes (cC G ad nb nt z_26.2.1 z_26.2.2.1 z_26.2.2.2 csl cst cen (va_cpy z_10 cby (0 : Int32).toNatClampNeg z_15.1.toNatClampNeg z_26.1.toNatClampNeg) cto z_10 cdz cch cva css cve cro crc cma cbi ces cbl crt) H := hP
  have hD : va_D A (cC G ad nb nt z_26.2.1 z_26.2.2.1 z_26.2.2.2 csl cst cen (va_cpy z_10 cby (0 : Int32).toNatClampNeg z_15.1.toNatClampNeg z_26.1.toNatClampNeg) cto z_10 cdz cch cva css cve cro crc cma cbi ces cbl crt) := hD
  refine lv_iload hx hb d_RL_write_47 (lv_at hl 0 rfl) ?_
  refine lv_if_le (tgt := 74) hx hb d_RL_write_49 (by decide) (fun c_49 => ?_) (fun c_49 => ?_)
  · have hres := it_t c_49 hres
    have hok := hok.1 c_49
    refine lv_aload_n hx hb d_RL_write_74 rfl (lv_at hl 2 rfl) ?_
    refine va_get (D := G.1) (ci := 2) (C := R_RL) (T := F_RL) (N := 7) hx hb ht in_RL hown hK hP 2 rfl rfl 0 (by decide) (ht _ kf_RL_15) (fun _ h9 => h9) rfl d_RL_write_75 ?_
    have hk_78 := hok
    refine go_iz (run_V hx hb hml hown ht hK hP hD (c_PW_hasFailed hk_78) (cw_V ht km_RL_101 ki_PW_hasFailed ks_PW_hasFailed ini_PW kd_PW_hasFailed kh_PW_hasFailed ⟨Nat.le_of_ble_eq_true rfl, Nat.le_of_ble_eq_true rfl⟩ rfl rfl) (q0 := 1) (ci := 1) (As := []) (rest := []) rfl rfl rfl hl.1 rfl (Nat.le_of_ble_eq_true rfl) d_RL_write_78 ⟨Nat.zero_le _, Nat.zero_le _⟩) hD hS hA (fun z_78 H locs hz_78 hP hD hS => ?_)
    have hres := bindc_eq hz_78 hres
    have hP : va_P G.1 classes (cC G ad nb nt z_26.2.1 z_26.2.2.1 z_26.2.2.2 csl cst cen (va_cpy z_10 cby (0 : Int32).toNatClampNeg z_15.1.toNatClampNeg z_26.1.toNatClampNeg) cto z_10 cdz cch cva css cve cro crc cma cbi ces cbl crt) H := hP
    have hD : va_D A (cC G ad nb nt z_26.2.1 z_26.2.2.1 z_26.2.2.2 csl cst cen (va_cpy z_10 cby (0 : Int32).toNatClampNeg z_15.1.toNatClampNeg z_26.1.toNatClampNeg) cto z_10 cdz cch cva css cve cro crc cma cbi ces cbl crt) := hD
    refine lv_if_ne (tgt := 88) hx hb d_RL_write_81 (by decide) (fun c_81 => ?_) (fun c_81 => ?_)
    · have hres := it_f c_81 hres
      refine lv_iconst (v := (0 : Int32)) hx hb d_RL_write_88 (by decide) ?_
      exact en_z (w1 := (fun u : Int32 × Int32 × Int32 × (Nat → Int32) × (Nat → Int32) × (Nat → Int32) => (cC G ad nb nt u.1 u.2.1 u.2.2.1 csl cst cen u.2.2.2.1 u.2.2.2.2.1 u.2.2.2.2.2 cdz cch cva css cve cro crc cma cbi ces cbl crt))) (z_26.2.1, z_26.2.2.1, z_26.2.2.2, va_cpy z_10 cby (0 : Int32).toNatClampNeg z_15.1.toNatClampNeg z_26.1.toNatClampNeg, cto, z_10) hx hb hr hlocks hK hP hD hS hres isB_0 d_RL_write_89
    · have hres := it_t c_81 hres
      refine lv_iconst (v := (1 : Int32)) hx hb d_RL_write_84 (by decide) ?_
      refine lv_goto (tgt := 89) hx hb d_RL_write_85 (by decide) ?_
      exact en_z (w1 := (fun u : Int32 × Int32 × Int32 × (Nat → Int32) × (Nat → Int32) × (Nat → Int32) => (cC G ad nb nt u.1 u.2.1 u.2.2.1 csl cst cen u.2.2.2.1 u.2.2.2.2.1 u.2.2.2.2.2 cdz cch cva css cve cro crc cma cbi ces cbl crt))) (z_26.2.1, z_26.2.2.1, z_26.2.2.2, va_cpy z_10 cby (0 : Int32).toNatClampNeg z_15.1.toNatClampNeg z_26.1.toNatClampNeg, cto, z_10) hx hb hr hlocks hK hP hD hS hres isB_1 d_RL_write_89
  · have hres := it_f c_49 hres
    have hok := hok.2 c_49
    refine lv_aload_n hx hb d_RL_write_52 rfl (lv_at hl 2 rfl) ?_
    refine va_get (D := G.1) (ci := 2) (C := R_RL) (T := F_RL) (N := 7) hx hb ht in_RL hown hK hP 2 rfl rfl 3 (by decide) (ht _ kf_RL_35) (fun _ h9 => h9) rfl d_RL_write_53 ?_
    refine lv_iload hx hb d_RL_write_56 (lv_at hl 1 rfl) ?_
    refine lv_bipush (v := (64 : Int32)) hx hb d_RL_write_58 (by decide) ?_
    refine lv_idiv hx hb d_RL_write_60 (by decide) ?_
    refine lv_iload hx hb d_RL_write_61 (lv_at hl 0 rfl) ?_
    refine lv_bipush (v := (64 : Int32)) hx hb d_RL_write_63 (by decide) ?_
    refine lv_icmp_ge (tgt := 72) hx hb d_RL_write_65 (by decide) (fun c_65 => ?_) (fun c_65 => ?_)
    · have hres := it_t c_65 hres
      have hok := hok.1 c_65
      refine lv_iconst (v := (0 : Int32)) hx hb d_RL_write_72 (by decide) ?_
      obtain ⟨hi_73, hok⟩ := hok
      refine va_zast hx hb hK hP hD hS 4 1 rfl rfl hi_73 d_RL_write_73 (fun H locs hP hD hS => ?_)
      have hP : va_P G.1 classes (cC G ad nb nt z_26.2.1 z_26.2.2.1 z_26.2.2.2 csl cst cen (va_cpy z_10 cby (0 : Int32).toNatClampNeg z_15.1.toNatClampNeg z_26.1.toNatClampNeg) (upd cto (z_15.1 / (64 : Int32)).toNatClampNeg (vp_nar .boolean (0 : Int32))) z_10 cdz cch cva css cve cro crc cma cbi ces cbl crt) H := hP
      have hD : va_D A (cC G ad nb nt z_26.2.1 z_26.2.2.1 z_26.2.2.2 csl cst cen (va_cpy z_10 cby (0 : Int32).toNatClampNeg z_15.1.toNatClampNeg z_26.1.toNatClampNeg) (upd cto (z_15.1 / (64 : Int32)).toNatClampNeg (vp_nar .boolean (0 : Int32))) z_10 cdz cch cva css cve cro crc cma cbi ces cbl crt) := hD
      refine lv_aload_n hx hb d_RL_write_74 rfl (lv_at hl 2 rfl) ?_
      refine va_get (D := G.1) (ci := 2) (C := R_RL) (T := F_RL) (N := 7) hx hb ht in_RL hown hK hP 2 rfl rfl 0 (by decide) (ht _ kf_RL_15) (fun _ h9 => h9) rfl d_RL_write_75 ?_
      have hk_78 := hok
      refine go_iz (run_V hx hb hml hown ht hK hP hD (c_PW_hasFailed hk_78) (cw_V ht km_RL_101 ki_PW_hasFailed ks_PW_hasFailed ini_PW kd_PW_hasFailed kh_PW_hasFailed ⟨Nat.le_of_ble_eq_true rfl, Nat.le_of_ble_eq_true rfl⟩ rfl rfl) (q0 := 1) (ci := 1) (As := []) (rest := []) rfl rfl rfl hl.1 rfl (Nat.le_of_ble_eq_true rfl) d_RL_write_78 ⟨Nat.zero_le _, Nat.zero_le _⟩) hD hS hA (fun z_78 H locs hz_78 hP hD hS => ?_)
      have hres := bindc_eq hz_78 hres
      have hP : va_P G.1 classes (cC G ad nb nt z_26.2.1 z_26.2.2.1 z_26.2.2.2 csl cst cen (va_cpy z_10 cby (0 : Int32).toNatClampNeg z_15.1.toNatClampNeg z_26.1.toNatClampNeg) (upd cto (z_15.1 / (64 : Int32)).toNatClampNeg (vp_nar .boolean (0 : Int32))) z_10 cdz cch cva css cve cro crc cma cbi ces cbl crt) H := hP
      have hD : va_D A (cC G ad nb nt z_26.2.1 z_26.2.2.1 z_26.2.2.2 csl cst cen (va_cpy z_10 cby (0 : Int32).toNatClampNeg z_15.1.toNatClampNeg z_26.1.toNatClampNeg) (upd cto (z_15.1 / (64 : Int32)).toNatClampNeg (vp_nar .boolean (0 : Int32))) z_10 cdz cch cva css cve cro crc cma cbi ces cbl crt) := hD
      refine lv_if_ne (tgt := 88) hx hb d_RL_write_81 (by decide) (fun c_81 => ?_) (fun c_81 => ?_)
      · have hres := it_f c_81 hres
        refine lv_iconst (v := (0 : Int32)) hx hb d_RL_write_88 (by decide) ?_
        exact en_z (w1 := (fun u : Int32 × Int32 × Int32 × (Nat → Int32) × (Nat → Int32) × (Nat → Int32) => (cC G ad nb nt u.1 u.2.1 u.2.2.1 csl cst cen u.2.2.2.1 u.2.2.2.2.1 u.2.2.2.2.2 cdz cch cva css cve cro crc cma cbi ces cbl crt))) (z_26.2.1, z_26.2.2.1, z_26.2.2.2, va_cpy z_10 cby (0 : Int32).toNatClampNeg z_15.1.toNatClampNeg z_26.1.toNatClampNeg, upd cto (z_15.1 / (64 : Int32)).toNatClampNeg (vp_nar .boolean (0 : Int32)), z_10) hx hb hr hlocks hK hP hD hS hres isB_0 d_RL_write_89
      · have hres := it_t c_81 hres
        refine lv_iconst (v := (1 : Int32)) hx hb d_RL_write_84 (by decide) ?_
        refine lv_goto (tgt := 89) hx hb d_RL_write_85 (by decide) ?_
        exact en_z (w1 := (fun u : Int32 × Int32 × Int32 × (Nat → Int32) × (Nat → Int32) × (Nat → Int32) => (cC G ad nb nt u.1 u.2.1 u.2.2.1 csl cst cen u.2.2.2.1 u.2.2.2.2.1 u.2.2.2.2.2 cdz cch cva css cve cro crc cma cbi ces cbl crt))) (z_26.2.1, z_26.2.2.1, z_26.2.2.2, va_cpy z_10 cby (0 : Int32).toNatClampNeg z_15.1.toNatClampNeg z_26.1.toNatClampNeg, upd cto (z_15.1 / (64 : Int32)).toNatClampNeg (vp_nar .boolean (0 : Int32)), z_10) hx hb hr hlocks hK hP hD hS hres isB_1 d_RL_write_89
    · have hres := it_f c_65 hres
      have hok := hok.2 c_65
      refine lv_iconst (v := (1 : Int32)) hx hb d_RL_write_68 (by decide) ?_
      refine lv_goto (tgt := 73) hx hb d_RL_write_69 (by decide) ?_
      obtain ⟨hi_73, hok⟩ := hok
      refine va_zast hx hb hK hP hD hS 4 1 rfl rfl hi_73 d_RL_write_73 (fun H locs hP hD hS => ?_)
      have hP : va_P G.1 classes (cC G ad nb nt z_26.2.1 z_26.2.2.1 z_26.2.2.2 csl cst cen (va_cpy z_10 cby (0 : Int32).toNatClampNeg z_15.1.toNatClampNeg z_26.1.toNatClampNeg) (upd cto (z_15.1 / (64 : Int32)).toNatClampNeg (vp_nar .boolean (1 : Int32))) z_10 cdz cch cva css cve cro crc cma cbi ces cbl crt) H := hP
      have hD : va_D A (cC G ad nb nt z_26.2.1 z_26.2.2.1 z_26.2.2.2 csl cst cen (va_cpy z_10 cby (0 : Int32).toNatClampNeg z_15.1.toNatClampNeg z_26.1.toNatClampNeg) (upd cto (z_15.1 / (64 : Int32)).toNatClampNeg (vp_nar .boolean (1 : Int32))) z_10 cdz cch cva css cve cro crc cma cbi ces cbl crt) := hD
      refine lv_aload_n hx hb d_RL_write_74 rfl (lv_at hl 2 rfl) ?_
      refine va_get (D := G.1) (ci := 2) (C := R_RL) (T := F_RL) (N := 7) hx hb ht in_RL hown hK hP 2 rfl rfl 0 (by decide) (ht _ kf_RL_15) (fun _ h9 => h9) rfl d_RL_write_75 ?_
      have hk_78 := hok
      refine go_iz (run_V hx hb hml hown ht hK hP hD (c_PW_hasFailed hk_78) (cw_V ht km_RL_101 ki_PW_hasFailed ks_PW_hasFailed ini_PW kd_PW_hasFailed kh_PW_hasFailed ⟨Nat.le_of_ble_eq_true rfl, Nat.le_of_ble_eq_true rfl⟩ rfl rfl) (q0 := 1) (ci := 1) (As := []) (rest := []) rfl rfl rfl hl.1 rfl (Nat.le_of_ble_eq_true rfl) d_RL_write_78 ⟨Nat.zero_le _, Nat.zero_le _⟩) hD hS hA (fun z_78 H locs hz_78 hP hD hS => ?_)
      have hres := bindc_eq hz_78 hres
      have hP : va_P G.1 classes (cC G ad nb nt z_26.2.1 z_26.2.2.1 z_26.2.2.2 csl cst cen (va_cpy z_10 cby (0 : Int32).toNatClampNeg z_15.1.toNatClampNeg z_26.1.toNatClampNeg) (upd cto (z_15.1 / (64 : Int32)).toNatClampNeg (vp_nar .boolean (1 : Int32))) z_10 cdz cch cva css cve cro crc cma cbi ces cbl crt) H := hP
      have hD : va_D A (cC G ad nb nt z_26.2.1 z_26.2.2.1 z_26.2.2.2 csl cst cen (va_cpy z_10 cby (0 : Int32).toNatClampNeg z_15.1.toNatClampNeg z_26.1.toNatClampNeg) (upd cto (z_15.1 / (64 : Int32)).toNatClampNeg (vp_nar .boolean (1 : Int32))) z_10 cdz cch cva css cve cro crc cma cbi ces cbl crt) := hD
      refine lv_if_ne (tgt := 88) hx hb d_RL_write_81 (by decide) (fun c_81 => ?_) (fun c_81 => ?_)
      · have hres := it_f c_81 hres
        refine lv_iconst (v := (0 : Int32)) hx hb d_RL_write_88 (by decide) ?_
        exact en_z (w1 := (fun u : Int32 × Int32 × Int32 × (Nat → Int32) × (Nat → Int32) × (Nat → Int32) => (cC G ad nb nt u.1 u.2.1 u.2.2.1 csl cst cen u.2.2.2.1 u.2.2.2.2.1 u.2.2.2.2.2 cdz cch cva css cve cro crc cma cbi ces cbl crt))) (z_26.2.1, z_26.2.2.1, z_26.2.2.2, va_cpy z_10 cby (0 : Int32).toNatClampNeg z_15.1.toNatClampNeg z_26.1.toNatClampNeg, upd cto (z_15.1 / (64 : Int32)).toNatClampNeg (vp_nar .boolean (1 : Int32)), z_10) hx hb hr hlocks hK hP hD hS hres isB_0 d_RL_write_89
      · have hres := it_t c_81 hres
        refine lv_iconst (v := (1 : Int32)) hx hb d_RL_write_84 (by decide) ?_
        refine lv_goto (tgt := 89) hx hb d_RL_write_85 (by decide) ?_
        exact en_z (w1 := (fun u : Int32 × Int32 × Int32 × (Nat → Int32) × (Nat → Int32) × (Nat → Int32) => (cC G ad nb nt u.1 u.2.1 u.2.2.1 csl cst cen u.2.2.2.1 u.2.2.2.2.1 u.2.2.2.2.2 cdz cch cva css cve cro crc cma cbi ces cbl crt))) (z_26.2.1, z_26.2.2.1, z_26.2.2.2, va_cpy z_10 cby (0 : Int32).toNatClampNeg z_15.1.toNatClampNeg z_26.1.toNatClampNeg, upd cto (z_15.1 / (64 : Int32)).toNatClampNeg (vp_nar .boolean (1 : Int32)), z_10) hx hb hr hlocks hK hP hD hS hres isB_1 d_RL_write_89
/-! ===== BookTrees$Pages.writeTree(LBookTrees$Roll;I)Z ===== -/
abbrev rm_PG_writeTree : Room := { frames := 3, cells := 0, slots := 0, locals := 88 }
def f_PG_writeTree_2 : Nat → Int32 → Int32 → Int32 → Int32 → Int32 → Int32 → (Nat → Int32) → (Nat → Int32) → (Nat → Int32) → (Nat → Int32) → (Nat → Int32) → (Nat → Int32) → (Nat → Int32) → Int32 × Int32 × Int32 × Int32 × (Nat → Int32) × (Nat → Int32) × (Nat → Int32)
  | 0, x2, x3, cfa, cle, cwr, csl, cby, cto, csh, cma, cbi, ces, cbl => (0, (cfa, cle, cwr, cby, cto, csh))
  | n + 1, x2, x3, cfa, cle, cwr, csl, cby, cto, csh, cma, cbi, ces, cbl => if (73 : Int32) ≤ x3 then ((1 : Int32), (cfa, cle, cwr, cby, cto, csh)) else if (cma x3.toNatClampNeg) = 0 then f_PG_writeTree_2 n x2 (x3 + (1 : Int32)) cfa cle cwr csl cby cto csh cma cbi ces cbl else if (cbi x3.toNatClampNeg) = 0 then f_PG_writeTree_2 n x2 (x3 + (1 : Int32)) cfa cle cwr csl cby cto csh cma cbi ces cbl else bindc (f_PG_kindOf x3) (fun z_34 => bindc (f_RL_write (cbl x3.toNatClampNeg) z_34.1 (cbi x3.toNatClampNeg) x2 (x3 * (8 : Int32)) cfa cle cwr csl cby cto csh ces) (fun z_52 => if z_52.1 = 0 then ((0 : Int32), (z_52.2.1, z_52.2.2.1, z_52.2.2.2.1, z_52.2.2.2.2.1, z_52.2.2.2.2.2.1, z_52.2.2.2.2.2.2)) else f_PG_writeTree_2 n x2 (x3 + (1 : Int32)) z_52.2.1 z_52.2.2.1 z_52.2.2.2.1 csl z_52.2.2.2.2.1 z_52.2.2.2.2.2.1 z_52.2.2.2.2.2.2 cma cbi ces cbl))
def ok_PG_writeTree_2 (nb : Nat) (nt : Nat) : Nat → Int32 → Int32 → Int32 → Int32 → Int32 → Int32 → (Nat → Int32) → (Nat → Int32) → (Nat → Int32) → (Nat → Int32) → (Nat → Int32) → (Nat → Int32) → (Nat → Int32) → Prop
  | 0, _, _, _, _, _, _, _, _, _, _, _, _, _ => False
  | n + 1, x2, x3, cfa, cle, cwr, csl, cby, cto, csh, cma, cbi, ces, cbl => ((73 : Int32) ≤ x3 → True) ∧ (¬ (73 : Int32) ≤ x3 → vp_in x3 73 ∧ (((cma x3.toNatClampNeg) = 0 → ok_PG_writeTree_2 nb nt  n x2 (x3 + (1 : Int32)) cfa cle cwr csl cby cto csh cma cbi ces cbl) ∧ (¬ (cma x3.toNatClampNeg) = 0 → vp_in x3 73 ∧ (((cbi x3.toNatClampNeg) = 0 → ok_PG_writeTree_2 nb nt  n x2 (x3 + (1 : Int32)) cfa cle cwr csl cby cto csh cma cbi ces cbl) ∧ (¬ (cbi x3.toNatClampNeg) = 0 → vp_in x3 73 ∧ (bindp (f_PG_kindOf x3) (fun z_34 => vp_in x3 73 ∧ (ok_RL_write nb nt (cbl x3.toNatClampNeg) z_34.1 (cbi x3.toNatClampNeg) x2 (x3 * (8 : Int32)) cfa cle cwr csl cby cto csh ces ∧ bindp (f_RL_write (cbl x3.toNatClampNeg) z_34.1 (cbi x3.toNatClampNeg) x2 (x3 * (8 : Int32)) cfa cle cwr csl cby cto csh ces) (fun z_52 => (z_52.1 = 0 → True) ∧ (¬ z_52.1 = 0 → ok_PG_writeTree_2 nb nt  n x2 (x3 + (1 : Int32)) z_52.2.1 z_52.2.2.1 z_52.2.2.2.1 csl z_52.2.2.2.2.1 z_52.2.2.2.2.2.1 z_52.2.2.2.2.2.2 cma cbi ces cbl))))))))))
set_option maxHeartbeats 4000000 in
set_option maxRecDepth 100000 in
theorem w_PG_writeTree_2 {p : Program} {l : Launch} {e : Env} {s : State} {m : MethodId} {args : Array Value} {below : List Frame} {meth : Method} {c : Code} {A : Nat → Prop} {G : GG} {ad : Nat → Nat} {nb : Nat} {nt : Nat} {csl : Int32} {cst : Int32} {cen : Int32} {cdz : Int32} {cch : (Nat → Int32)} {cva : (Nat → Int32)} {css : Int32} {cve : (Nat → Int32)} {cro : (Nat → Int32)} {crc : Int32} {cma : (Nat → Int32)} {cbi : (Nat → Int32)} {ces : (Nat → Int32)} {cbl : (Nat → Int32)} {crt : (Nat → Int32)} {res : Int32 × Int32 × Int32 × Int32 × (Nat → Int32) × (Nat → Int32) × (Nat → Int32)} (hC : Cx p l e s m args meth c y_PG_writeTree b_PG_writeTree 4 (some .boolean) "BookTrees$Pages" G A) : ∀ (n : Nat) (x2 : Int32) (x3 : Int32) (cfa : Int32) (cle : Int32) (cwr : Int32) (cby : (Nat → Int32)) (cto : (Nat → Int32)) (csh : (Nat → Int32)) (H : Heap) (locs : List Loc) (ls : Array Slot), ok_PG_writeTree_2 nb nt n x2 x3 cfa cle cwr csl cby cto csh cma cbi ces cbl → f_PG_writeTree_2 n x2 x3 cfa cle cwr csl cby cto csh cma cbi ces cbl = res → va_P G.1 classes (cC G ad nb nt cfa cle cwr csl cst cen cby cto csh cdz cch cva css cve cro crc cma cbi ces cbl crt) H → va_D A (cC G ad nb nt cfa cle cwr csl cst cen cby cto csh cdz cch cva css cve cro crc cma cbi ces cbl crt) → va_S A s.heap H locs → lv_has ls 4 [(0, .ref (ad 12)), (1, .ref (ad 2)), (2, .int x2), (3, .int x3)] → W p l e rm_PG_writeTree s m args below meth c H locs 0 0 (MQ below (va_Qi (eqP res) (Wb G A (fun u : Int32 × Int32 × Int32 × (Nat → Int32) × (Nat → Int32) × (Nat → Int32) => (cC G ad nb nt u.1 u.2.1 u.2.2.1 csl cst cen u.2.2.2.1 u.2.2.2.2.1 u.2.2.2.2.2 cdz cch cva css cve cro crc cma cbi ces cbl crt))) A) args s 0 0 A) (F0 m 2 ls []) := by
  obtain ⟨hx, hb, hr, hml, hown, hlocks, ht, hK, hA⟩ := id hC
  intro n
  induction n with
  | zero => intro x2 x3 cfa cle cwr cby cto csh H locs ls hok; exact hok.elim
  | succ n ih =>
    intro x2 x3 cfa cle cwr cby cto csh H locs ls hok hres hP hD hS hl
    rw [f_PG_writeTree_2] at hres
    rw [ok_PG_writeTree_2] at hok
    refine lv_iload_n hx hb d_PG_writeTree_2 rfl (lv_at hl 3 rfl) ?_
    refine lv_bipush (v := (73 : Int32)) hx hb d_PG_writeTree_3 (by decide) ?_
    refine lv_icmp_ge (tgt := 66) hx hb d_PG_writeTree_5 (by decide) (fun c_5 => ?_) (fun c_5 => ?_)
    · have hres := it_t c_5 hres
      refine lv_iconst (v := (1 : Int32)) hx hb d_PG_writeTree_66 (by decide) ?_
      exact en_z (w1 := (fun u : Int32 × Int32 × Int32 × (Nat → Int32) × (Nat → Int32) × (Nat → Int32) => (cC G ad nb nt u.1 u.2.1 u.2.2.1 csl cst cen u.2.2.2.1 u.2.2.2.2.1 u.2.2.2.2.2 cdz cch cva css cve cro crc cma cbi ces cbl crt))) (cfa, cle, cwr, cby, cto, csh) hx hb hr hlocks hK hP hD hS hres isB_1 d_PG_writeTree_67
    · have hres := it_f c_5 hres
      have hok := hok.2 c_5
      refine lv_aload_n hx hb d_PG_writeTree_8 rfl (lv_at hl 0 rfl) ?_
      refine va_get (D := G.1) (ci := 5) (C := R_PG) (T := F_PG) (N := 6) hx hb ht in_PG hown hK hP 12 rfl rfl 0 (by decide) (ht _ kf_PG_11) (fun _ h9 => h9) rfl d_PG_writeTree_9 ?_
      refine lv_iload_n hx hb d_PG_writeTree_12 rfl (lv_at hl 3 rfl) ?_
      obtain ⟨hi_13, hok⟩ := hok
      refine va_zald hx hb hK hP 13 1 rfl rfl hi_13 d_PG_writeTree_13 ?_
      refine lv_if_eq (tgt := 60) hx hb d_PG_writeTree_14 (by decide) (fun c_14 => ?_) (fun c_14 => ?_)
      · have hres := it_t c_14 hres
        have hok := hok.1 c_14
        refine lv_iinc (v := x3 + (1 : Int32)) (lv' := [(3, .int (x3 + (1 : Int32))), (0, .ref (ad 12)), (1, .ref (ad 2)), (2, .int x2)]) hx hb d_PG_writeTree_60 hl (k := 3) rfl rfl (by decide) rfl (fun ls hl => ?_)
        refine lv_goto (tgt := 2) hx hb d_PG_writeTree_63 (by decide) ?_
        exact ih x2 (x3 + (1 : Int32)) cfa cle cwr cby cto csh _ _ _ hok hres hP hD hS (lv_sub hl [1, 2, 3, 0] rfl)
      · have hres := it_f c_14 hres
        have hok := hok.2 c_14
        refine lv_aload_n hx hb d_PG_writeTree_17 rfl (lv_at hl 0 rfl) ?_
        refine va_get (D := G.1) (ci := 5) (C := R_PG) (T := F_PG) (N := 6) hx hb ht in_PG hown hK hP 12 rfl rfl 1 (by decide) (ht _ kf_PG_15) (fun _ h9 => h9) rfl d_PG_writeTree_18 ?_
        refine lv_iload_n hx hb d_PG_writeTree_21 rfl (lv_at hl 3 rfl) ?_
        obtain ⟨hi_22, hok⟩ := hok
        refine va_iald hx hb hK hP 14 0 rfl rfl hi_22 d_PG_writeTree_22 ?_
        refine lv_if_eq (tgt := 60) hx hb d_PG_writeTree_23 (by decide) (fun c_23 => ?_) (fun c_23 => ?_)
        · have hres := it_t c_23 hres
          have hok := hok.1 c_23
          refine lv_iinc (v := x3 + (1 : Int32)) (lv' := [(3, .int (x3 + (1 : Int32))), (0, .ref (ad 12)), (1, .ref (ad 2)), (2, .int x2)]) hx hb d_PG_writeTree_60 hl (k := 3) rfl rfl (by decide) rfl (fun ls hl => ?_)
          refine lv_goto (tgt := 2) hx hb d_PG_writeTree_63 (by decide) ?_
          exact ih x2 (x3 + (1 : Int32)) cfa cle cwr cby cto csh _ _ _ hok hres hP hD hS (lv_sub hl [1, 2, 3, 0] rfl)
        · have hres := it_f c_23 hres
          have hok := hok.2 c_23
          refine lv_aload_n hx hb d_PG_writeTree_26 rfl (lv_at hl 1 rfl) ?_
          refine lv_aload_n hx hb d_PG_writeTree_27 rfl (lv_at hl 0 rfl) ?_
          refine va_get (D := G.1) (ci := 5) (C := R_PG) (T := F_PG) (N := 6) hx hb ht in_PG hown hK hP 12 rfl rfl 3 (by decide) (ht _ kf_PG_22) (fun _ h9 => h9) rfl d_PG_writeTree_28 ?_
          refine lv_iload_n hx hb d_PG_writeTree_31 rfl (lv_at hl 3 rfl) ?_
          obtain ⟨hi_32, hok⟩ := hok
          refine va_iald hx hb hK hP 16 0 rfl rfl hi_32 d_PG_writeTree_32 ?_
          refine lv_iload_n hx hb d_PG_writeTree_33 rfl (lv_at hl 3 rfl) ?_
          refine go_iz (run_S hx hb hml hown ht hK hP hD (c_PG_kindOf) (cw_S ht km_PG_78 kt_PG_kindOf ini_PG kd_PG_kindOf kh_PG_kindOf ⟨Nat.le_of_ble_eq_true rfl, Nat.le_of_ble_eq_true rfl⟩ rfl rfl) (As := [.int x3]) (rest := [.int (cbl x3.toNatClampNeg), .ref (ad 2)]) rfl hl.1 rfl (Nat.le_of_ble_eq_true rfl) d_PG_writeTree_34 ⟨Nat.zero_le _, Nat.zero_le _⟩) hD hS hA (fun z_34 H locs hz_34 hP hD hS => ?_)
          have hres := bindc_eq hz_34 hres
          have hok := bindp_eq hz_34 hok
          have hP : va_P G.1 classes (cC G ad nb nt cfa cle cwr csl cst cen cby cto csh cdz cch cva css cve cro crc cma cbi ces cbl crt) H := hP
          have hD : va_D A (cC G ad nb nt cfa cle cwr csl cst cen cby cto csh cdz cch cva css cve cro crc cma cbi ces cbl crt) := hD
          refine lv_aload_n hx hb d_PG_writeTree_37 rfl (lv_at hl 0 rfl) ?_
          refine va_get (D := G.1) (ci := 5) (C := R_PG) (T := F_PG) (N := 6) hx hb ht in_PG hown hK hP 12 rfl rfl 1 (by decide) (ht _ kf_PG_15) (fun _ h9 => h9) rfl d_PG_writeTree_38 ?_
          refine lv_iload_n hx hb d_PG_writeTree_41 rfl (lv_at hl 3 rfl) ?_
          obtain ⟨hi_42, hok⟩ := hok
          refine va_iald hx hb hK hP 14 0 rfl rfl hi_42 d_PG_writeTree_42 ?_
          refine lv_iload_n hx hb d_PG_writeTree_43 rfl (lv_at hl 2 rfl) ?_
          refine lv_aload_n hx hb d_PG_writeTree_44 rfl (lv_at hl 0 rfl) ?_
          refine va_get (D := G.1) (ci := 5) (C := R_PG) (T := F_PG) (N := 6) hx hb ht in_PG hown hK hP 12 rfl rfl 2 (by decide) (ht _ kf_PG_19) (fun _ h9 => h9) rfl d_PG_writeTree_45 ?_
          refine lv_iload_n hx hb d_PG_writeTree_48 rfl (lv_at hl 3 rfl) ?_
          refine lv_bipush (v := (8 : Int32)) hx hb d_PG_writeTree_49 (by decide) ?_
          refine lv_imul hx hb d_PG_writeTree_51 ?_
          obtain ⟨hk_52, hok⟩ := hok
          refine go_iz (run_V hx hb hml hown ht hK hP hD (c_RL_write hk_52) (cw_V ht km_PG_81 ki_RL_write ks_RL_write ini_RL kd_RL_write kh_RL_write ⟨Nat.le_of_ble_eq_true rfl, Nat.le_of_ble_eq_true rfl⟩ rfl rfl) (q0 := 2) (ci := 2) (As := [.int (cbl x3.toNatClampNeg), .int z_34.1, .int (cbi x3.toNatClampNeg), .int x2, .ref (ad 15), .int (x3 * (8 : Int32))]) (rest := []) rfl rfl rfl hl.1 rfl (Nat.le_of_ble_eq_true rfl) d_PG_writeTree_52 ⟨Nat.zero_le _, Nat.zero_le _⟩) hD hS hA (fun z_52 H locs hz_52 hP hD hS => ?_)
          have hres := bindc_eq hz_52 hres
          have hok := bindp_eq hz_52 hok
          have hP : va_P G.1 classes (cC G ad nb nt z_52.2.1 z_52.2.2.1 z_52.2.2.2.1 csl cst cen z_52.2.2.2.2.1 z_52.2.2.2.2.2.1 z_52.2.2.2.2.2.2 cdz cch cva css cve cro crc cma cbi ces cbl crt) H := hP
          have hD : va_D A (cC G ad nb nt z_52.2.1 z_52.2.2.1 z_52.2.2.2.1 csl cst cen z_52.2.2.2.2.1 z_52.2.2.2.2.2.1 z_52.2.2.2.2.2.2 cdz cch cva css cve cro crc cma cbi ces cbl crt) := hD
          refine lv_if_ne (tgt := 60) hx hb d_PG_writeTree_55 (by decide) (fun c_55 => ?_) (fun c_55 => ?_)
          · have hres := it_f c_55 hres
            have hok := hok.2 c_55
            refine lv_iinc (v := x3 + (1 : Int32)) (lv' := [(3, .int (x3 + (1 : Int32))), (0, .ref (ad 12)), (1, .ref (ad 2)), (2, .int x2)]) hx hb d_PG_writeTree_60 hl (k := 3) rfl rfl (by decide) rfl (fun ls hl => ?_)
            refine lv_goto (tgt := 2) hx hb d_PG_writeTree_63 (by decide) ?_
            exact ih x2 (x3 + (1 : Int32)) z_52.2.1 z_52.2.2.1 z_52.2.2.2.1 z_52.2.2.2.2.1 z_52.2.2.2.2.2.1 z_52.2.2.2.2.2.2 _ _ _ hok hres hP hD hS (lv_sub hl [1, 2, 3, 0] rfl)
          · have hres := it_t c_55 hres
            refine lv_iconst (v := (0 : Int32)) hx hb d_PG_writeTree_58 (by decide) ?_
            exact en_z (w1 := (fun u : Int32 × Int32 × Int32 × (Nat → Int32) × (Nat → Int32) × (Nat → Int32) => (cC G ad nb nt u.1 u.2.1 u.2.2.1 csl cst cen u.2.2.2.1 u.2.2.2.2.1 u.2.2.2.2.2 cdz cch cva css cve cro crc cma cbi ces cbl crt))) (z_52.2.1, z_52.2.2.1, z_52.2.2.2.1, z_52.2.2.2.2.1, z_52.2.2.2.2.2.1, z_52.2.2.2.2.2.2) hx hb hr hlocks hK hP hD hS hres isB_0 d_PG_writeTree_59
def f_PG_writeTree (p0 : Int32) (cfa : Int32) (cle : Int32) (cwr : Int32) (csl : Int32) (cby : (Nat → Int32)) (cto : (Nat → Int32)) (csh : (Nat → Int32)) (cma : (Nat → Int32)) (cbi : (Nat → Int32)) (ces : (Nat → Int32)) (cbl : (Nat → Int32)) : Int32 × Int32 × Int32 × Int32 × (Nat → Int32) × (Nat → Int32) × (Nat → Int32) := f_PG_writeTree_2 1024 p0 (0 : Int32) cfa cle cwr csl cby cto csh cma cbi ces cbl
def ok_PG_writeTree (nb : Nat) (nt : Nat) (p0 : Int32) (cfa : Int32) (cle : Int32) (cwr : Int32) (csl : Int32) (cby : (Nat → Int32)) (cto : (Nat → Int32)) (csh : (Nat → Int32)) (cma : (Nat → Int32)) (cbi : (Nat → Int32)) (ces : (Nat → Int32)) (cbl : (Nat → Int32)) : Prop := ok_PG_writeTree_2 nb nt  1024 p0 (0 : Int32) cfa cle cwr csl cby cto csh cma cbi ces cbl
set_option maxHeartbeats 4000000 in
set_option maxRecDepth 100000 in
theorem c_PG_writeTree {l : Launch} {G : GG} {ad : Nat → Nat} {nb : Nat} {nt : Nat} {sz : Nat} {cfa : Int32} {cle : Int32} {cwr : Int32} {csl : Int32} {cst : Int32} {cen : Int32} {cby : (Nat → Int32)} {cto : (Nat → Int32)} {csh : (Nat → Int32)} {cdz : Int32} {cch : (Nat → Int32)} {cva : (Nat → Int32)} {css : Int32} {cve : (Nat → Int32)} {cro : (Nat → Int32)} {crc : Int32} {cma : (Nat → Int32)} {cbi : (Nat → Int32)} {ces : (Nat → Int32)} {cbl : (Nat → Int32)} {crt : (Nat → Int32)} {p0 : Int32} (hok : ok_PG_writeTree nb nt p0 cfa cle cwr csl cby cto csh cma cbi ces cbl) : CtI l y_PG_writeTree b_PG_writeTree 4 (some .boolean) rm_PG_writeTree G (cC G ad nb nt cfa cle cwr csl cst cen cby cto csh cdz cch cva css cve cro crc cma cbi ces cbl crt) sz [.ref (ad 12), .ref (ad 2), .int p0] (eqP (f_PG_writeTree p0 cfa cle cwr csl cby cto csh cma cbi ces cbl)) (fun u : Int32 × Int32 × Int32 × (Nat → Int32) × (Nat → Int32) × (Nat → Int32) => (cC G ad nb nt u.1 u.2.1 u.2.2.1 csl cst cen u.2.2.2.1 u.2.2.2.2.1 u.2.2.2.2.2 cdz cch cva css cve cro crc cma cbi ces cbl crt)) := by
  generalize hres : f_PG_writeTree p0 cfa cle cwr csl cby cto csh cma cbi ces cbl = res
  refine Met_of (Qc := fun A => va_Qi (eqP res) (Wb G A (fun u : Int32 × Int32 × Int32 × (Nat → Int32) × (Nat → Int32) × (Nat → Int32) => (cC G ad nb nt u.1 u.2.1 u.2.2.1 csl cst cen u.2.2.2.1 u.2.2.2.2.1 u.2.2.2.2.2 cdz cch cva css cve cro crc cma cbi ces cbl crt))) A) (by decide) (Nat.le_of_ble_eq_true rfl) ?_
  intro p e s m below meth c hadm hx hb hr hml hown hlocks ht hK A hA hP hD hS ls hl
  have hC : Cx p l e s m (([.ref (ad 12), .ref (ad 2), .int p0] : List Value)).toArray meth c y_PG_writeTree b_PG_writeTree 4 (some .boolean) "BookTrees$Pages" G A := ⟨hx, hb, hr, hml, hown, hlocks, ht, hK, hA⟩
  have hown : s.vm.findClass "BookTrees$Pages" = some m.cls := hown
  have hl : lv_has ls 4 [(0, .ref (ad 12)), (1, .ref (ad 2)), (2, .int p0)] := hl
  rw [f_PG_writeTree] at hres
  rw [ok_PG_writeTree] at hok
  refine lv_iconst (v := (0 : Int32)) hx hb d_PG_writeTree_0 (by decide) ?_
  refine lv_istore_n (lv' := [(3, .int (0 : Int32)), (0, .ref (ad 12)), (1, .ref (ad 2)), (2, .int p0)]) hx hb d_PG_writeTree_1 rfl hl (by decide) rfl (fun ls hl => ?_)
  exact w_PG_writeTree_2 hC 1024 p0 (0 : Int32) cfa cle cwr cby cto csh _ _ _ hok hres hP hD hS (lv_sub hl [1, 2, 3, 0] rfl)
/-! ===== BookTrees$Roll.makeUp(IIII[II)V ===== -/
abbrev rm_RL_makeUp_v2 : Room := { frames := 1, cells := 0, slots := 0, locals := 26 }
def f_RL_makeUp_v2_26 : Nat → Int32 → Int32 → Int32 → (Nat → Int32) → (Nat → Int32) → (Nat → Int32)
  | 0, x1, x6, x7, csh, crt => csh
  | n + 1, x1, x6, x7, csh, crt => if (8 : Int32) ≤ x7 then bindc (f_RL_setInt (40 : Int32) x1 csh) (fun z_62 => bindc (f_RL_sumOf_v2 (0 : Int32) z_62) (fun z_70 => bindc (f_RL_setInt (56 : Int32) (((z_70.1.toUInt64 >>> ((32 : Int32).toInt64.toUInt64 &&& Int64.toUInt64 63)).toInt64).toInt32) z_62) (fun z_84 => bindc (f_RL_setInt (60 : Int32) z_70.1.toInt32 z_84) (fun z_93 => z_93)))) else bindc (f_RL_setInt ((8 : Int32) + ((4 : Int32) * x7)) (crt (x6 + x7).toNatClampNeg) csh) (fun z_49 => f_RL_makeUp_v2_26 n x1 x6 (x7 + (1 : Int32)) z_49 crt)
def ok_RL_makeUp_v2_26 (nb : Nat) (nt : Nat) : Nat → Int32 → Int32 → Int32 → (Nat → Int32) → (Nat → Int32) → Prop
  | 0, _, _, _, _, _ => False
  | n + 1, x1, x6, x7, csh, crt => ((8 : Int32) ≤ x7 → ok_RL_setInt nb nt (40 : Int32) x1 csh ∧ bindp (f_RL_setInt (40 : Int32) x1 csh) (fun z_62 => ok_RL_sumOf_v2 nb nt (0 : Int32) z_62 ∧ bindp (f_RL_sumOf_v2 (0 : Int32) z_62) (fun z_70 => ok_RL_setInt nb nt (56 : Int32) (((z_70.1.toUInt64 >>> ((32 : Int32).toInt64.toUInt64 &&& Int64.toUInt64 63)).toInt64).toInt32) z_62 ∧ bindp (f_RL_setInt (56 : Int32) (((z_70.1.toUInt64 >>> ((32 : Int32).toInt64.toUInt64 &&& Int64.toUInt64 63)).toInt64).toInt32) z_62) (fun z_84 => ok_RL_setInt nb nt (60 : Int32) z_70.1.toInt32 z_84)))) ∧ (¬ (8 : Int32) ≤ x7 → vp_in (x6 + x7) 8 ∧ (ok_RL_setInt nb nt ((8 : Int32) + ((4 : Int32) * x7)) (crt (x6 + x7).toNatClampNeg) csh ∧ bindp (f_RL_setInt ((8 : Int32) + ((4 : Int32) * x7)) (crt (x6 + x7).toNatClampNeg) csh) (fun z_49 => ok_RL_makeUp_v2_26 nb nt  n x1 x6 (x7 + (1 : Int32)) z_49 crt)))
set_option maxHeartbeats 4000000 in
set_option maxRecDepth 100000 in
theorem w_RL_makeUp_v2_26 {p : Program} {l : Launch} {e : Env} {s : State} {m : MethodId} {args : Array Value} {below : List Frame} {meth : Method} {c : Code} {A : Nat → Prop} {G : GG} {ad : Nat → Nat} {nb : Nat} {nt : Nat} {cfa : Int32} {cle : Int32} {cwr : Int32} {csl : Int32} {cst : Int32} {cen : Int32} {cby : (Nat → Int32)} {cto : (Nat → Int32)} {cdz : Int32} {cch : (Nat → Int32)} {cva : (Nat → Int32)} {css : Int32} {cve : (Nat → Int32)} {cro : (Nat → Int32)} {crc : Int32} {cma : (Nat → Int32)} {cbi : (Nat → Int32)} {ces : (Nat → Int32)} {cbl : (Nat → Int32)} {crt : (Nat → Int32)} {res : (Nat → Int32)} (hC : Cx p l e s m args meth c y_RL_makeUp b_RL_makeUp 9 none "BookTrees$Roll" G A) : ∀ (n : Nat) (x1 : Int32) (x6 : Int32) (x7 : Int32) (csh : (Nat → Int32)) (H : Heap) (locs : List Loc) (ls : Array Slot), ok_RL_makeUp_v2_26 nb nt n x1 x6 x7 csh crt → f_RL_makeUp_v2_26 n x1 x6 x7 csh crt = res → va_P G.1 classes (cC G ad nb nt cfa cle cwr csl cst cen cby cto csh cdz cch cva css cve cro crc cma cbi ces cbl crt) H → va_D A (cC G ad nb nt cfa cle cwr csl cst cen cby cto csh cdz cch cva css cve cro crc cma cbi ces cbl crt) → va_S A s.heap H locs → lv_has ls 9 [(0, .ref (ad 2)), (1, .int x1), (5, .ref (ad 17)), (6, .int x6), (7, .int x7)] → W p l e rm_RL_makeUp_v2 s m args below meth c H locs 0 0 (MQ below (va_Qv (eqV res) (Wb G A (fun u : (Nat → Int32) => (cC G ad nb nt cfa cle cwr csl cst cen cby cto u cdz cch cva css cve cro crc cma cbi ces cbl crt))) A) args s 0 0 A) (F0 m 26 ls []) := by
  obtain ⟨hx, hb, hr, hml, hown, hlocks, ht, hK, hA⟩ := id hC
  intro n
  induction n with
  | zero => intro x1 x6 x7 csh H locs ls hok; exact hok.elim
  | succ n ih =>
    intro x1 x6 x7 csh H locs ls hok hres hP hD hS hl
    rw [f_RL_makeUp_v2_26] at hres
    rw [ok_RL_makeUp_v2_26] at hok
    refine lv_iload hx hb d_RL_makeUp_26 (lv_at hl 4 rfl) ?_
    refine lv_bipush (v := (8 : Int32)) hx hb d_RL_makeUp_28 (by decide) ?_
    refine lv_icmp_ge (tgt := 58) hx hb d_RL_makeUp_30 (by decide) (fun c_30 => ?_) (fun c_30 => ?_)
    · have hres := it_t c_30 hres
      have hok := hok.1 c_30
      refine lv_aload_n hx hb d_RL_makeUp_58 rfl (lv_at hl 0 rfl) ?_
      refine lv_bipush (v := (40 : Int32)) hx hb d_RL_makeUp_59 (by decide) ?_
      refine lv_iload_n hx hb d_RL_makeUp_61 rfl (lv_at hl 1 rfl) ?_
      obtain ⟨hk_62, hok⟩ := hok
      refine go_vz (run_V hx hb hml hown ht hK hP hD (c_RL_setInt hk_62) (cw_V ht km_RL_105 ki_RL_setInt ks_RL_setInt ini_RL kd_RL_setInt kh_RL_setInt ⟨Nat.le_of_ble_eq_true rfl, Nat.le_of_ble_eq_true rfl⟩ rfl rfl) (q0 := 2) (ci := 2) (As := [.int (40 : Int32), .int x1]) (rest := []) rfl rfl rfl hl.1 rfl (Nat.le_of_ble_eq_true rfl) d_RL_makeUp_62 ⟨Nat.zero_le _, Nat.zero_le _⟩) hD hS hA (fun z_62 H locs hz_62 hP hD hS => ?_)
      have hres := bindc_eq hz_62 hres
      have hok := bindp_eq hz_62 hok
      have hP : va_P G.1 classes (cC G ad nb nt cfa cle cwr csl cst cen cby cto z_62 cdz cch cva css cve cro crc cma cbi ces cbl crt) H := hP
      have hD : va_D A (cC G ad nb nt cfa cle cwr csl cst cen cby cto z_62 cdz cch cva css cve cro crc cma cbi ces cbl crt) := hD
      refine lv_aload_n hx hb d_RL_makeUp_65 rfl (lv_at hl 0 rfl) ?_
      refine va_get (D := G.1) (ci := 2) (C := R_RL) (T := F_RL) (N := 7) hx hb ht in_RL hown hK hP 2 rfl rfl 4 (by decide) (ht _ kf_RL_11) (fun _ h9 => h9) rfl d_RL_makeUp_66 ?_
      refine lv_iconst (v := (0 : Int32)) hx hb d_RL_makeUp_69 (by decide) ?_
      obtain ⟨hk_70, hok⟩ := hok
      refine go_lz (run_S hx hb hml hown ht hK hP hD (c_RL_sumOf_v2 hk_70) (cw_S ht km_RL_109 kt_RL_sumOf ini_RL kd_RL_sumOf kh_RL_sumOf ⟨Nat.le_of_ble_eq_true rfl, Nat.le_of_ble_eq_true rfl⟩ rfl rfl) (As := [.ref (ad 5), .int (0 : Int32)]) (rest := []) rfl hl.1 rfl (Nat.le_of_ble_eq_true rfl) d_RL_makeUp_70 ⟨Nat.zero_le _, Nat.zero_le _⟩) hD hS hA (fun z_70 H locs hz_70 hP hD hS => ?_)
      have hres := bindc_eq hz_70 hres
      have hok := bindp_eq hz_70 hok
      have hP : va_P G.1 classes (cC G ad nb nt cfa cle cwr csl cst cen cby cto z_62 cdz cch cva css cve cro crc cma cbi ces cbl crt) H := hP
      have hD : va_D A (cC G ad nb nt cfa cle cwr csl cst cen cby cto z_62 cdz cch cva css cve cro crc cma cbi ces cbl crt) := hD
      refine lv_lstore (lv' := [(7, .long z_70.1), (0, .ref (ad 2)), (1, .int x1), (5, .ref (ad 17)), (6, .int x6)]) hx hb d_RL_makeUp_73 hl (by decide) rfl (fun ls hl => ?_)
      refine lv_aload_n hx hb d_RL_makeUp_75 rfl (lv_at hl 1 rfl) ?_
      refine lv_bipush (v := (56 : Int32)) hx hb d_RL_makeUp_76 (by decide) ?_
      refine lv_lload hx hb d_RL_makeUp_78 (lv_at hl 0 rfl) ?_
      refine lv_bipush (v := (32 : Int32)) hx hb d_RL_makeUp_80 (by decide) ?_
      refine lv_lushr hx hb d_RL_makeUp_82 rfl ?_
      refine lv_l2i hx hb d_RL_makeUp_83 rfl ?_
      obtain ⟨hk_84, hok⟩ := hok
      refine go_vz (run_V hx hb hml hown ht hK hP hD (c_RL_setInt hk_84) (cw_V ht km_RL_105 ki_RL_setInt ks_RL_setInt ini_RL kd_RL_setInt kh_RL_setInt ⟨Nat.le_of_ble_eq_true rfl, Nat.le_of_ble_eq_true rfl⟩ rfl rfl) (q0 := 2) (ci := 2) (As := [.int (56 : Int32), .int (((z_70.1.toUInt64 >>> ((32 : Int32).toInt64.toUInt64 &&& Int64.toUInt64 63)).toInt64).toInt32)]) (rest := []) rfl rfl rfl hl.1 rfl (Nat.le_of_ble_eq_true rfl) d_RL_makeUp_84 ⟨Nat.zero_le _, Nat.zero_le _⟩) hD hS hA (fun z_84 H locs hz_84 hP hD hS => ?_)
      have hres := bindc_eq hz_84 hres
      have hok := bindp_eq hz_84 hok
      have hP : va_P G.1 classes (cC G ad nb nt cfa cle cwr csl cst cen cby cto z_84 cdz cch cva css cve cro crc cma cbi ces cbl crt) H := hP
      have hD : va_D A (cC G ad nb nt cfa cle cwr csl cst cen cby cto z_84 cdz cch cva css cve cro crc cma cbi ces cbl crt) := hD
      refine lv_aload_n hx hb d_RL_makeUp_87 rfl (lv_at hl 1 rfl) ?_
      refine lv_bipush (v := (60 : Int32)) hx hb d_RL_makeUp_88 (by decide) ?_
      refine lv_lload hx hb d_RL_makeUp_90 (lv_at hl 0 rfl) ?_
      refine lv_l2i hx hb d_RL_makeUp_92 rfl ?_
      have hk_93 := hok
      refine go_vz (run_V hx hb hml hown ht hK hP hD (c_RL_setInt hk_93) (cw_V ht km_RL_105 ki_RL_setInt ks_RL_setInt ini_RL kd_RL_setInt kh_RL_setInt ⟨Nat.le_of_ble_eq_true rfl, Nat.le_of_ble_eq_true rfl⟩ rfl rfl) (q0 := 2) (ci := 2) (As := [.int (60 : Int32), .int z_70.1.toInt32]) (rest := []) rfl rfl rfl hl.1 rfl (Nat.le_of_ble_eq_true rfl) d_RL_makeUp_93 ⟨Nat.zero_le _, Nat.zero_le _⟩) hD hS hA (fun z_93 H locs hz_93 hP hD hS => ?_)
      have hres := bindc_eq hz_93 hres
      have hP : va_P G.1 classes (cC G ad nb nt cfa cle cwr csl cst cen cby cto z_93 cdz cch cva css cve cro crc cma cbi ces cbl crt) H := hP
      have hD : va_D A (cC G ad nb nt cfa cle cwr csl cst cen cby cto z_93 cdz cch cva css cve cro crc cma cbi ces cbl crt) := hD
      exact en_v (w1 := (fun u : (Nat → Int32) => (cC G ad nb nt cfa cle cwr csl cst cen cby cto u cdz cch cva css cve cro crc cma cbi ces cbl crt))) z_93 hx hb hr hlocks hK hP hD hS hres d_RL_makeUp_96
    · have hres := it_f c_30 hres
      have hok := hok.2 c_30
      refine lv_aload_n hx hb d_RL_makeUp_33 rfl (lv_at hl 0 rfl) ?_
      refine lv_bipush (v := (8 : Int32)) hx hb d_RL_makeUp_34 (by decide) ?_
      refine lv_iconst (v := (4 : Int32)) hx hb d_RL_makeUp_36 (by decide) ?_
      refine lv_iload hx hb d_RL_makeUp_37 (lv_at hl 4 rfl) ?_
      refine lv_imul hx hb d_RL_makeUp_39 ?_
      refine lv_iadd hx hb d_RL_makeUp_40 ?_
      refine lv_aload hx hb d_RL_makeUp_41 (lv_at hl 2 rfl) ?_
      refine lv_iload hx hb d_RL_makeUp_43 (lv_at hl 3 rfl) ?_
      refine lv_iload hx hb d_RL_makeUp_45 (lv_at hl 4 rfl) ?_
      refine lv_iadd hx hb d_RL_makeUp_47 ?_
      obtain ⟨hi_48, hok⟩ := hok
      refine va_iald hx hb hK hP 17 0 rfl rfl hi_48 d_RL_makeUp_48 ?_
      obtain ⟨hk_49, hok⟩ := hok
      refine go_vz (run_V hx hb hml hown ht hK hP hD (c_RL_setInt hk_49) (cw_V ht km_RL_105 ki_RL_setInt ks_RL_setInt ini_RL kd_RL_setInt kh_RL_setInt ⟨Nat.le_of_ble_eq_true rfl, Nat.le_of_ble_eq_true rfl⟩ rfl rfl) (q0 := 2) (ci := 2) (As := [.int ((8 : Int32) + ((4 : Int32) * x7)), .int (crt (x6 + x7).toNatClampNeg)]) (rest := []) rfl rfl rfl hl.1 rfl (Nat.le_of_ble_eq_true rfl) d_RL_makeUp_49 ⟨Nat.zero_le _, Nat.zero_le _⟩) hD hS hA (fun z_49 H locs hz_49 hP hD hS => ?_)
      have hres := bindc_eq hz_49 hres
      have hok := bindp_eq hz_49 hok
      have hP : va_P G.1 classes (cC G ad nb nt cfa cle cwr csl cst cen cby cto z_49 cdz cch cva css cve cro crc cma cbi ces cbl crt) H := hP
      have hD : va_D A (cC G ad nb nt cfa cle cwr csl cst cen cby cto z_49 cdz cch cva css cve cro crc cma cbi ces cbl crt) := hD
      refine lv_iinc (v := x7 + (1 : Int32)) (lv' := [(7, .int (x7 + (1 : Int32))), (0, .ref (ad 2)), (1, .int x1), (5, .ref (ad 17)), (6, .int x6)]) hx hb d_RL_makeUp_52 hl (k := 4) rfl rfl (by decide) rfl (fun ls hl => ?_)
      refine lv_goto (tgt := 26) hx hb d_RL_makeUp_55 (by decide) ?_
      exact ih x1 x6 (x7 + (1 : Int32)) z_49 _ _ _ hok hres hP hD hS (lv_sub hl [1, 2, 3, 4, 0] rfl)
def f_RL_makeUp_v2 (p0 : Int32) (p1 : Int32) (p2 : Int32) (p3 : Int32) (p4 : Int32) (csh : (Nat → Int32)) (crt : (Nat → Int32)) : (Nat → Int32) := bindc (f_RL_setInt (4 : Int32) p3 (upd (upd csh (0 : Int32).toNatClampNeg (vp_nar .byte p1.toInt8.toInt32)) (1 : Int32).toNatClampNeg (vp_nar .byte p2.toInt8.toInt32))) (fun z_20 => f_RL_makeUp_v2_26 1024 p0 p4 (0 : Int32) z_20 crt)
def ok_RL_makeUp_v2 (nb : Nat) (nt : Nat) (p0 : Int32) (p1 : Int32) (p2 : Int32) (p3 : Int32) (p4 : Int32) (csh : (Nat → Int32)) (crt : (Nat → Int32)) : Prop := vp_in (0 : Int32) 64 ∧ (vp_in (1 : Int32) 64 ∧ (ok_RL_setInt nb nt (4 : Int32) p3 (upd (upd csh (0 : Int32).toNatClampNeg (vp_nar .byte p1.toInt8.toInt32)) (1 : Int32).toNatClampNeg (vp_nar .byte p2.toInt8.toInt32)) ∧ bindp (f_RL_setInt (4 : Int32) p3 (upd (upd csh (0 : Int32).toNatClampNeg (vp_nar .byte p1.toInt8.toInt32)) (1 : Int32).toNatClampNeg (vp_nar .byte p2.toInt8.toInt32))) (fun z_20 => ok_RL_makeUp_v2_26 nb nt  1024 p0 p4 (0 : Int32) z_20 crt)))
set_option maxHeartbeats 4000000 in
set_option maxRecDepth 100000 in
theorem c_RL_makeUp_v2 {l : Launch} {G : GG} {ad : Nat → Nat} {nb : Nat} {nt : Nat} {sz : Nat} {cfa : Int32} {cle : Int32} {cwr : Int32} {csl : Int32} {cst : Int32} {cen : Int32} {cby : (Nat → Int32)} {cto : (Nat → Int32)} {csh : (Nat → Int32)} {cdz : Int32} {cch : (Nat → Int32)} {cva : (Nat → Int32)} {css : Int32} {cve : (Nat → Int32)} {cro : (Nat → Int32)} {crc : Int32} {cma : (Nat → Int32)} {cbi : (Nat → Int32)} {ces : (Nat → Int32)} {cbl : (Nat → Int32)} {crt : (Nat → Int32)} {p0 : Int32} {p1 : Int32} {p2 : Int32} {p3 : Int32} {p4 : Int32} (hok : ok_RL_makeUp_v2 nb nt p0 p1 p2 p3 p4 csh crt) : CtV l y_RL_makeUp b_RL_makeUp 9 none rm_RL_makeUp_v2 G (cC G ad nb nt cfa cle cwr csl cst cen cby cto csh cdz cch cva css cve cro crc cma cbi ces cbl crt) sz [.ref (ad 2), .int p0, .int p1, .int p2, .int p3, .ref (ad 17), .int p4] (eqV (f_RL_makeUp_v2 p0 p1 p2 p3 p4 csh crt)) (fun u : (Nat → Int32) => (cC G ad nb nt cfa cle cwr csl cst cen cby cto u cdz cch cva css cve cro crc cma cbi ces cbl crt)) := by
  generalize hres : f_RL_makeUp_v2 p0 p1 p2 p3 p4 csh crt = res
  refine Met_of (Qc := fun A => va_Qv (eqV res) (Wb G A (fun u : (Nat → Int32) => (cC G ad nb nt cfa cle cwr csl cst cen cby cto u cdz cch cva css cve cro crc cma cbi ces cbl crt))) A) (by decide) (Nat.le_of_ble_eq_true rfl) ?_
  intro p e s m below meth c hadm hx hb hr hml hown hlocks ht hK A hA hP hD hS ls hl
  have hC : Cx p l e s m (([.ref (ad 2), .int p0, .int p1, .int p2, .int p3, .ref (ad 17), .int p4] : List Value)).toArray meth c y_RL_makeUp b_RL_makeUp 9 none "BookTrees$Roll" G A := ⟨hx, hb, hr, hml, hown, hlocks, ht, hK, hA⟩
  have hown : s.vm.findClass "BookTrees$Roll" = some m.cls := hown
  have hl : lv_has ls 9 [(0, .ref (ad 2)), (1, .int p0), (2, .int p1), (3, .int p2), (4, .int p3), (5, .ref (ad 17)), (6, .int p4)] := hl
  rw [f_RL_makeUp_v2] at hres
  rw [ok_RL_makeUp_v2] at hok
  refine lv_aload_n hx hb d_RL_makeUp_0 rfl (lv_at hl 0 rfl) ?_
  refine va_get (D := G.1) (ci := 2) (C := R_RL) (T := F_RL) (N := 7) hx hb ht in_RL hown hK hP 2 rfl rfl 4 (by decide) (ht _ kf_RL_11) (fun _ h9 => h9) rfl d_RL_makeUp_1 ?_
  refine lv_iconst (v := (0 : Int32)) hx hb d_RL_makeUp_4 (by decide) ?_
  refine lv_iload_n hx hb d_RL_makeUp_5 rfl (lv_at hl 2 rfl) ?_
  refine lv_i2b hx hb d_RL_makeUp_6 rfl ?_
  obtain ⟨hi_7, hok⟩ := hok
  refine va_bast hx hb hK hP hD hS 5 2 rfl rfl hi_7 d_RL_makeUp_7 (fun H locs hP hD hS => ?_)
  have hP : va_P G.1 classes (cC G ad nb nt cfa cle cwr csl cst cen cby cto (upd csh (0 : Int32).toNatClampNeg (vp_nar .byte p1.toInt8.toInt32)) cdz cch cva css cve cro crc cma cbi ces cbl crt) H := hP
  have hD : va_D A (cC G ad nb nt cfa cle cwr csl cst cen cby cto (upd csh (0 : Int32).toNatClampNeg (vp_nar .byte p1.toInt8.toInt32)) cdz cch cva css cve cro crc cma cbi ces cbl crt) := hD
  refine lv_aload_n hx hb d_RL_makeUp_8 rfl (lv_at hl 0 rfl) ?_
  refine va_get (D := G.1) (ci := 2) (C := R_RL) (T := F_RL) (N := 7) hx hb ht in_RL hown hK hP 2 rfl rfl 4 (by decide) (ht _ kf_RL_11) (fun _ h9 => h9) rfl d_RL_makeUp_9 ?_
  refine lv_iconst (v := (1 : Int32)) hx hb d_RL_makeUp_12 (by decide) ?_
  refine lv_iload_n hx hb d_RL_makeUp_13 rfl (lv_at hl 3 rfl) ?_
  refine lv_i2b hx hb d_RL_makeUp_14 rfl ?_
  obtain ⟨hi_15, hok⟩ := hok
  refine va_bast hx hb hK hP hD hS 5 2 rfl rfl hi_15 d_RL_makeUp_15 (fun H locs hP hD hS => ?_)
  have hP : va_P G.1 classes (cC G ad nb nt cfa cle cwr csl cst cen cby cto (upd (upd csh (0 : Int32).toNatClampNeg (vp_nar .byte p1.toInt8.toInt32)) (1 : Int32).toNatClampNeg (vp_nar .byte p2.toInt8.toInt32)) cdz cch cva css cve cro crc cma cbi ces cbl crt) H := hP
  have hD : va_D A (cC G ad nb nt cfa cle cwr csl cst cen cby cto (upd (upd csh (0 : Int32).toNatClampNeg (vp_nar .byte p1.toInt8.toInt32)) (1 : Int32).toNatClampNeg (vp_nar .byte p2.toInt8.toInt32)) cdz cch cva css cve cro crc cma cbi ces cbl crt) := hD
  refine lv_aload_n hx hb d_RL_makeUp_16 rfl (lv_at hl 0 rfl) ?_
  refine lv_iconst (v := (4 : Int32)) hx hb d_RL_makeUp_17 (by decide) ?_
  refine lv_iload hx hb d_RL_makeUp_18 (lv_at hl 4 rfl) ?_
  obtain ⟨hk_20, hok⟩ := hok
  refine go_vz (run_V hx hb hml hown ht hK hP hD (c_RL_setInt hk_20) (cw_V ht km_RL_105 ki_RL_setInt ks_RL_setInt ini_RL kd_RL_setInt kh_RL_setInt ⟨Nat.le_of_ble_eq_true rfl, Nat.le_of_ble_eq_true rfl⟩ rfl rfl) (q0 := 2) (ci := 2) (As := [.int (4 : Int32), .int p3]) (rest := []) rfl rfl rfl hl.1 rfl (Nat.le_of_ble_eq_true rfl) d_RL_makeUp_20 ⟨Nat.zero_le _, Nat.zero_le _⟩) hD hS hA (fun z_20 H locs hz_20 hP hD hS => ?_)
  have hres := bindc_eq hz_20 hres
  have hok := bindp_eq hz_20 hok
  have hP : va_P G.1 classes (cC G ad nb nt cfa cle cwr csl cst cen cby cto z_20 cdz cch cva css cve cro crc cma cbi ces cbl crt) H := hP
  have hD : va_D A (cC G ad nb nt cfa cle cwr csl cst cen cby cto z_20 cdz cch cva css cve cro crc cma cbi ces cbl crt) := hD
  refine lv_iconst (v := (0 : Int32)) hx hb d_RL_makeUp_23 (by decide) ?_
  refine lv_istore (lv' := [(7, .int (0 : Int32)), (0, .ref (ad 2)), (1, .int p0), (2, .int p1), (3, .int p2), (4, .int p3), (5, .ref (ad 17)), (6, .int p4)]) hx hb d_RL_makeUp_24 hl (by decide) rfl (fun ls hl => ?_)
  exact w_RL_makeUp_v2_26 hC 1024 p0 p4 (0 : Int32) z_20 _ _ _ hok hres hP hD hS (lv_sub hl [1, 2, 6, 7, 0] rfl)
/-! ===== BookTrees$Roll.write(IIII[II)Z ===== -/
abbrev rm_RL_write_v2 : Room := { frames := 2, cells := 0, slots := 0, locals := 60 }
def f_RL_write_v2 (p0 : Int32) (p1 : Int32) (p2 : Int32) (p3 : Int32) (p4 : Int32) (cfa : Int32) (cle : Int32) (cwr : Int32) (csl : Int32) (cby : (Nat → Int32)) (cto : (Nat → Int32)) (csh : (Nat → Int32)) (crt : (Nat → Int32)) : Int32 × Int32 × Int32 × Int32 × (Nat → Int32) × (Nat → Int32) × (Nat → Int32) := bindc (f_RL_makeUp_v2 p0 p1 p2 p3 p4 csh crt) (fun z_10 => bindc (f_RL_offsetOf p0 csl) (fun z_15 => bindc (f_PW_spend (64 : Int32) cfa cle cwr) (fun z_26 => if z_26.1 ≤ 0 then bindc (f_PW_hasFailed z_26.2.1) (fun z_78 => if z_78.1 = 0 then ((1 : Int32), (z_26.2.1, z_26.2.2.1, z_26.2.2.2, va_cpy z_10 cby (0 : Int32).toNatClampNeg z_15.1.toNatClampNeg z_26.1.toNatClampNeg, cto, z_10)) else ((0 : Int32), (z_26.2.1, z_26.2.2.1, z_26.2.2.2, va_cpy z_10 cby (0 : Int32).toNatClampNeg z_15.1.toNatClampNeg z_26.1.toNatClampNeg, cto, z_10))) else if (64 : Int32) ≤ z_26.1 then bindc (f_PW_hasFailed z_26.2.1) (fun z_78 => if z_78.1 = 0 then ((1 : Int32), (z_26.2.1, z_26.2.2.1, z_26.2.2.2, va_cpy z_10 cby (0 : Int32).toNatClampNeg z_15.1.toNatClampNeg z_26.1.toNatClampNeg, upd cto (z_15.1 / (64 : Int32)).toNatClampNeg (vp_nar .boolean (0 : Int32)), z_10)) else ((0 : Int32), (z_26.2.1, z_26.2.2.1, z_26.2.2.2, va_cpy z_10 cby (0 : Int32).toNatClampNeg z_15.1.toNatClampNeg z_26.1.toNatClampNeg, upd cto (z_15.1 / (64 : Int32)).toNatClampNeg (vp_nar .boolean (0 : Int32)), z_10))) else bindc (f_PW_hasFailed z_26.2.1) (fun z_78 => if z_78.1 = 0 then ((1 : Int32), (z_26.2.1, z_26.2.2.1, z_26.2.2.2, va_cpy z_10 cby (0 : Int32).toNatClampNeg z_15.1.toNatClampNeg z_26.1.toNatClampNeg, upd cto (z_15.1 / (64 : Int32)).toNatClampNeg (vp_nar .boolean (1 : Int32)), z_10)) else ((0 : Int32), (z_26.2.1, z_26.2.2.1, z_26.2.2.2, va_cpy z_10 cby (0 : Int32).toNatClampNeg z_15.1.toNatClampNeg z_26.1.toNatClampNeg, upd cto (z_15.1 / (64 : Int32)).toNatClampNeg (vp_nar .boolean (1 : Int32)), z_10))))))
def ok_RL_write_v2 (nb : Nat) (nt : Nat) (p0 : Int32) (p1 : Int32) (p2 : Int32) (p3 : Int32) (p4 : Int32) (cfa : Int32) (cle : Int32) (cwr : Int32) (csl : Int32) (cby : (Nat → Int32)) (cto : (Nat → Int32)) (csh : (Nat → Int32)) (crt : (Nat → Int32)) : Prop := ok_RL_makeUp_v2 nb nt p0 p1 p2 p3 p4 csh crt ∧ bindp (f_RL_makeUp_v2 p0 p1 p2 p3 p4 csh crt) (fun z_10 => ok_RL_offsetOf nb nt p0 csl ∧ bindp (f_RL_offsetOf p0 csl) (fun z_15 => ok_PW_spend nb nt (64 : Int32) cfa cle cwr ∧ bindp (f_PW_spend (64 : Int32) cfa cle cwr) (fun z_26 => cpOk z_10 64 nb (0 : Int32) z_15.1 z_26.1 ∧ ((z_26.1 ≤ 0 → ok_PW_hasFailed nb nt z_26.2.1) ∧ (¬ z_26.1 ≤ 0 → ((64 : Int32) ≤ z_26.1 → vp_in (z_15.1 / (64 : Int32)) nt ∧ (ok_PW_hasFailed nb nt z_26.2.1)) ∧ (¬ (64 : Int32) ≤ z_26.1 → vp_in (z_15.1 / (64 : Int32)) nt ∧ (ok_PW_hasFailed nb nt z_26.2.1)))))))
set_option maxHeartbeats 4000000 in
set_option maxRecDepth 100000 in
theorem c_RL_write_v2 {l : Launch} {G : GG} {ad : Nat → Nat} {nb : Nat} {nt : Nat} {sz : Nat} {cfa : Int32} {cle : Int32} {cwr : Int32} {csl : Int32} {cst : Int32} {cen : Int32} {cby : (Nat → Int32)} {cto : (Nat → Int32)} {csh : (Nat → Int32)} {cdz : Int32} {cch : (Nat → Int32)} {cva : (Nat → Int32)} {css : Int32} {cve : (Nat → Int32)} {cro : (Nat → Int32)} {crc : Int32} {cma : (Nat → Int32)} {cbi : (Nat → Int32)} {ces : (Nat → Int32)} {cbl : (Nat → Int32)} {crt : (Nat → Int32)} {p0 : Int32} {p1 : Int32} {p2 : Int32} {p3 : Int32} {p4 : Int32} (hok : ok_RL_write_v2 nb nt p0 p1 p2 p3 p4 cfa cle cwr csl cby cto csh crt) : CtI l y_RL_write b_RL_write 9 (some .boolean) rm_RL_write_v2 G (cC G ad nb nt cfa cle cwr csl cst cen cby cto csh cdz cch cva css cve cro crc cma cbi ces cbl crt) sz [.ref (ad 2), .int p0, .int p1, .int p2, .int p3, .ref (ad 17), .int p4] (eqP (f_RL_write_v2 p0 p1 p2 p3 p4 cfa cle cwr csl cby cto csh crt)) (fun u : Int32 × Int32 × Int32 × (Nat → Int32) × (Nat → Int32) × (Nat → Int32) => (cC G ad nb nt u.1 u.2.1 u.2.2.1 csl cst cen u.2.2.2.1 u.2.2.2.2.1 u.2.2.2.2.2 cdz cch cva css cve cro crc cma cbi ces cbl crt)) := by
  generalize hres : f_RL_write_v2 p0 p1 p2 p3 p4 cfa cle cwr csl cby cto csh crt = res
  refine Met_of (Qc := fun A => va_Qi (eqP res) (Wb G A (fun u : Int32 × Int32 × Int32 × (Nat → Int32) × (Nat → Int32) × (Nat → Int32) => (cC G ad nb nt u.1 u.2.1 u.2.2.1 csl cst cen u.2.2.2.1 u.2.2.2.2.1 u.2.2.2.2.2 cdz cch cva css cve cro crc cma cbi ces cbl crt))) A) (by decide) (Nat.le_of_ble_eq_true rfl) ?_
  intro p e s m below meth c hadm hx hb hr hml hown hlocks ht hK A hA hP hD hS ls hl
  have hC : Cx p l e s m (([.ref (ad 2), .int p0, .int p1, .int p2, .int p3, .ref (ad 17), .int p4] : List Value)).toArray meth c y_RL_write b_RL_write 9 (some .boolean) "BookTrees$Roll" G A := ⟨hx, hb, hr, hml, hown, hlocks, ht, hK, hA⟩
  have hown : s.vm.findClass "BookTrees$Roll" = some m.cls := hown
  have hl : lv_has ls 9 [(0, .ref (ad 2)), (1, .int p0), (2, .int p1), (3, .int p2), (4, .int p3), (5, .ref (ad 17)), (6, .int p4)] := hl
  rw [f_RL_write_v2] at hres
  rw [ok_RL_write_v2] at hok
  refine lv_aload_n hx hb d_RL_write_0 rfl (lv_at hl 0 rfl) ?_
  refine lv_iload_n hx hb d_RL_write_1 rfl (lv_at hl 1 rfl) ?_
  refine lv_iload_n hx hb d_RL_write_2 rfl (lv_at hl 2 rfl) ?_
  refine lv_iload_n hx hb d_RL_write_3 rfl (lv_at hl 3 rfl) ?_
  refine lv_iload hx hb d_RL_write_4 (lv_at hl 4 rfl) ?_
  refine lv_aload hx hb d_RL_write_6 (lv_at hl 5 rfl) ?_
  refine lv_iload hx hb d_RL_write_8 (lv_at hl 6 rfl) ?_
  obtain ⟨hk_10, hok⟩ := hok
  refine go_vz (run_V hx hb hml hown ht hK hP hD (c_RL_makeUp_v2 hk_10) (cw_V ht km_RL_86 ki_RL_makeUp ks_RL_makeUp ini_RL kd_RL_makeUp kh_RL_makeUp ⟨Nat.le_of_ble_eq_true rfl, Nat.le_of_ble_eq_true rfl⟩ rfl rfl) (q0 := 2) (ci := 2) (As := [.int p0, .int p1, .int p2, .int p3, .ref (ad 17), .int p4]) (rest := []) rfl rfl rfl hl.1 rfl (Nat.le_of_ble_eq_true rfl) d_RL_write_10 ⟨Nat.zero_le _, Nat.zero_le _⟩) hD hS hA (fun z_10 H locs hz_10 hP hD hS => ?_)
  have hres := bindc_eq hz_10 hres
  have hok := bindp_eq hz_10 hok
  have hP : va_P G.1 classes (cC G ad nb nt cfa cle cwr csl cst cen cby cto z_10 cdz cch cva css cve cro crc cma cbi ces cbl crt) H := hP
  have hD : va_D A (cC G ad nb nt cfa cle cwr csl cst cen cby cto z_10 cdz cch cva css cve cro crc cma cbi ces cbl crt) := hD
  refine lv_aload_n hx hb d_RL_write_13 rfl (lv_at hl 0 rfl) ?_
  refine lv_iload_n hx hb d_RL_write_14 rfl (lv_at hl 1 rfl) ?_
  obtain ⟨hk_15, hok⟩ := hok
  refine go_iz (run_V hx hb hml hown ht hK hP hD (c_RL_offsetOf hk_15) (cw_V ht km_RL_45 ki_RL_offsetOf ks_RL_offsetOf ini_RL kd_RL_offsetOf kh_RL_offsetOf ⟨Nat.le_of_ble_eq_true rfl, Nat.le_of_ble_eq_true rfl⟩ rfl rfl) (q0 := 2) (ci := 2) (As := [.int p0]) (rest := []) rfl rfl rfl hl.1 rfl (Nat.le_of_ble_eq_true rfl) d_RL_write_15 ⟨Nat.zero_le _, Nat.zero_le _⟩) hD hS hA (fun z_15 H locs hz_15 hP hD hS => ?_)
  have hres := bindc_eq hz_15 hres
  have hok := bindp_eq hz_15 hok
  have hP : va_P G.1 classes (cC G ad nb nt cfa cle cwr csl cst cen cby cto z_10 cdz cch cva css cve cro crc cma cbi ces cbl crt) H := hP
  have hD : va_D A (cC G ad nb nt cfa cle cwr csl cst cen cby cto z_10 cdz cch cva css cve cro crc cma cbi ces cbl crt) := hD
  refine lv_istore (lv' := [(7, .int z_15.1), (0, .ref (ad 2)), (1, .int p0), (2, .int p1), (3, .int p2), (4, .int p3), (5, .ref (ad 17)), (6, .int p4)]) hx hb d_RL_write_18 hl (by decide) rfl (fun ls hl => ?_)
  refine lv_aload_n hx hb d_RL_write_20 rfl (lv_at hl 1 rfl) ?_
  refine va_get (D := G.1) (ci := 2) (C := R_RL) (T := F_RL) (N := 7) hx hb ht in_RL hown hK hP 2 rfl rfl 0 (by decide) (ht _ kf_RL_15) (fun _ h9 => h9) rfl d_RL_write_21 ?_
  refine lv_bipush (v := (64 : Int32)) hx hb d_RL_write_24 (by decide) ?_
  obtain ⟨hk_26, hok⟩ := hok
  refine go_iz (run_V hx hb hml hown ht hK hP hD (c_PW_spend hk_26) (cw_V ht km_RL_90 ki_PW_spend ks_PW_spend ini_PW kd_PW_spend kh_PW_spend ⟨Nat.le_of_ble_eq_true rfl, Nat.le_of_ble_eq_true rfl⟩ rfl rfl) (q0 := 1) (ci := 1) (As := [.int (64 : Int32)]) (rest := []) rfl rfl rfl hl.1 rfl (Nat.le_of_ble_eq_true rfl) d_RL_write_26 ⟨Nat.zero_le _, Nat.zero_le _⟩) hD hS hA (fun z_26 H locs hz_26 hP hD hS => ?_)
  have hres := bindc_eq hz_26 hres
  have hok := bindp_eq hz_26 hok
  have hP : va_P G.1 classes (cC G ad nb nt z_26.2.1 z_26.2.2.1 z_26.2.2.2 csl cst cen cby cto z_10 cdz cch cva css cve cro crc cma cbi ces cbl crt) H := hP
  have hD : va_D A (cC G ad nb nt z_26.2.1 z_26.2.2.1 z_26.2.2.2 csl cst cen cby cto z_10 cdz cch cva css cve cro crc cma cbi ces cbl crt) := hD
  refine lv_istore (lv' := [(8, .int z_26.1), (7, .int z_15.1), (0, .ref (ad 2)), (1, .int p0), (2, .int p1), (3, .int p2), (4, .int p3), (5, .ref (ad 17)), (6, .int p4)]) hx hb d_RL_write_29 hl (by decide) rfl (fun ls hl => ?_)
  refine lv_aload_n hx hb d_RL_write_31 rfl (lv_at hl 2 rfl) ?_
  refine va_get (D := G.1) (ci := 2) (C := R_RL) (T := F_RL) (N := 7) hx hb ht in_RL hown hK hP 2 rfl rfl 4 (by decide) (ht _ kf_RL_11) (fun _ h9 => h9) rfl d_RL_write_32 ?_
  refine lv_iconst (v := (0 : Int32)) hx hb d_RL_write_35 (by decide) ?_
  refine lv_aload_n hx hb d_RL_write_36 rfl (lv_at hl 2 rfl) ?_
  refine va_get (D := G.1) (ci := 2) (C := R_RL) (T := F_RL) (N := 7) hx hb ht in_RL hown hK hP 2 rfl rfl 2 (by decide) (ht _ kf_RL_32) (fun _ h9 => h9) rfl d_RL_write_37 ?_
  refine lv_iload hx hb d_RL_write_40 (lv_at hl 1 rfl) ?_
  refine lv_iload hx hb d_RL_write_42 (lv_at hl 0 rfl) ?_
  obtain ⟨hi_44, hok⟩ := hok
  refine va_copyi hx hb (hml.trans hl.1.symm) hown (ht _ km_RL_95) (ht _ kn_JS_ac) (ht _ kt_JS_ac) (ht _ ini_JS) hK hP hD hS 5 3 2 2 rfl rfl rfl rfl rfl hi_44.1 hi_44.2.1 hi_44.2.2.1 hi_44.2.2.2.1 hi_44.2.2.2.2.1 hi_44.2.2.2.2.2 (Nat.le_of_ble_eq_true rfl) (by decide) d_RL_write_44 (fun H locs hP hD hS => ?_)
  have hP : va_P G.1 classes (cC G ad nb nt z_26.2.1 z_26.2.2.1 z_26.2.2.2 csl cst cen (va_cpy z_10 cby (0 : Int32).toNatClampNeg z_15.1.toNatClampNeg z_26.1.toNatClampNeg) cto z_10 cdz cch cva css cve cro crc cma cbi ces cbl crt) H := hP
  have hD : va_D A (cC G ad nb nt z_26.2.1 z_26.2.2.1 z_26.2.2.2 csl cst cen (va_cpy z_10 cby (0 : Int32).toNatClampNeg z_15.1.toNatClampNeg z_26.1.toNatClampNeg) cto z_10 cdz cch cva css cve cro crc cma cbi ces cbl crt) := hD
  refine lv_iload hx hb d_RL_write_47 (lv_at hl 0 rfl) ?_
  refine lv_if_le (tgt := 74) hx hb d_RL_write_49 (by decide) (fun c_49 => ?_) (fun c_49 => ?_)
  · have hres := it_t c_49 hres
    have hok := hok.1 c_49
    refine lv_aload_n hx hb d_RL_write_74 rfl (lv_at hl 2 rfl) ?_
    refine va_get (D := G.1) (ci := 2) (C := R_RL) (T := F_RL) (N := 7) hx hb ht in_RL hown hK hP 2 rfl rfl 0 (by decide) (ht _ kf_RL_15) (fun _ h9 => h9) rfl d_RL_write_75 ?_
    have hk_78 := hok
    refine go_iz (run_V hx hb hml hown ht hK hP hD (c_PW_hasFailed hk_78) (cw_V ht km_RL_101 ki_PW_hasFailed ks_PW_hasFailed ini_PW kd_PW_hasFailed kh_PW_hasFailed ⟨Nat.le_of_ble_eq_true rfl, Nat.le_of_ble_eq_true rfl⟩ rfl rfl) (q0 := 1) (ci := 1) (As := []) (rest := []) rfl rfl rfl hl.1 rfl (Nat.le_of_ble_eq_true rfl) d_RL_write_78 ⟨Nat.zero_le _, Nat.zero_le _⟩) hD hS hA (fun z_78 H locs hz_78 hP hD hS => ?_)
    have hres := bindc_eq hz_78 hres
    have hP : va_P G.1 classes (cC G ad nb nt z_26.2.1 z_26.2.2.1 z_26.2.2.2 csl cst cen (va_cpy z_10 cby (0 : Int32).toNatClampNeg z_15.1.toNatClampNeg z_26.1.toNatClampNeg) cto z_10 cdz cch cva css cve cro crc cma cbi ces cbl crt) H := hP
    have hD : va_D A (cC G ad nb nt z_26.2.1 z_26.2.2.1 z_26.2.2.2 csl cst cen (va_cpy z_10 cby (0 : Int32).toNatClampNeg z_15.1.toNatClampNeg z_26.1.toNatClampNeg) cto z_10 cdz cch cva css cve cro crc cma cbi ces cbl crt) := hD
    refine lv_if_ne (tgt := 88) hx hb d_RL_write_81 (by decide) (fun c_81 => ?_) (fun c_81 => ?_)
    · have hres := it_f c_81 hres
      refine lv_iconst (v := (0 : Int32)) hx hb d_RL_write_88 (by decide) ?_
      exact en_z (w1 := (fun u : Int32 × Int32 × Int32 × (Nat → Int32) × (Nat → Int32) × (Nat → Int32) => (cC G ad nb nt u.1 u.2.1 u.2.2.1 csl cst cen u.2.2.2.1 u.2.2.2.2.1 u.2.2.2.2.2 cdz cch cva css cve cro crc cma cbi ces cbl crt))) (z_26.2.1, z_26.2.2.1, z_26.2.2.2, va_cpy z_10 cby (0 : Int32).toNatClampNeg z_15.1.toNatClampNeg z_26.1.toNatClampNeg, cto, z_10) hx hb hr hlocks hK hP hD hS hres isB_0 d_RL_write_89
    · have hres := it_t c_81 hres
      refine lv_iconst (v := (1 : Int32)) hx hb d_RL_write_84 (by decide) ?_
      refine lv_goto (tgt := 89) hx hb d_RL_write_85 (by decide) ?_
      exact en_z (w1 := (fun u : Int32 × Int32 × Int32 × (Nat → Int32) × (Nat → Int32) × (Nat → Int32) => (cC G ad nb nt u.1 u.2.1 u.2.2.1 csl cst cen u.2.2.2.1 u.2.2.2.2.1 u.2.2.2.2.2 cdz cch cva css cve cro crc cma cbi ces cbl crt))) (z_26.2.1, z_26.2.2.1, z_26.2.2.2, va_cpy z_10 cby (0 : Int32).toNatClampNeg z_15.1.toNatClampNeg z_26.1.toNatClampNeg, cto, z_10) hx hb hr hlocks hK hP hD hS hres isB_1 d_RL_write_89
  · have hres := it_f c_49 hres
    have hok := hok.2 c_49
    refine lv_aload_n hx hb d_RL_write_52 rfl (lv_at hl 2 rfl) ?_
    refine va_get (D := G.1) (ci := 2) (C := R_RL) (T := F_RL) (N := 7) hx hb ht in_RL hown hK hP 2 rfl rfl 3 (by decide) (ht _ kf_RL_35) (fun _ h9 => h9) rfl d_RL_write_53 ?_
    refine lv_iload hx hb d_RL_write_56 (lv_at hl 1 rfl) ?_
    refine lv_bipush (v := (64 : Int32)) hx hb d_RL_write_58 (by decide) ?_
    refine lv_idiv hx hb d_RL_write_60 (by decide) ?_
    refine lv_iload hx hb d_RL_write_61 (lv_at hl 0 rfl) ?_
    refine lv_bipush (v := (64 : Int32)) hx hb d_RL_write_63 (by decide) ?_
    refine lv_icmp_ge (tgt := 72) hx hb d_RL_write_65 (by decide) (fun c_65 => ?_) (fun c_65 => ?_)
    · have hres := it_t c_65 hres
      have hok := hok.1 c_65
      refine lv_iconst (v := (0 : Int32)) hx hb d_RL_write_72 (by decide) ?_
      obtain ⟨hi_73, hok⟩ := hok
      refine va_zast hx hb hK hP hD hS 4 1 rfl rfl hi_73 d_RL_write_73 (fun H locs hP hD hS => ?_)
      have hP : va_P G.1 classes (cC G ad nb nt z_26.2.1 z_26.2.2.1 z_26.2.2.2 csl cst cen (va_cpy z_10 cby (0 : Int32).toNatClampNeg z_15.1.toNatClampNeg z_26.1.toNatClampNeg) (upd cto (z_15.1 / (64 : Int32)).toNatClampNeg (vp_nar .boolean (0 : Int32))) z_10 cdz cch cva css cve cro crc cma cbi ces cbl crt) H := hP
      have hD : va_D A (cC G ad nb nt z_26.2.1 z_26.2.2.1 z_26.2.2.2 csl cst cen (va_cpy z_10 cby (0 : Int32).toNatClampNeg z_15.1.toNatClampNeg z_26.1.toNatClampNeg) (upd cto (z_15.1 / (64 : Int32)).toNatClampNeg (vp_nar .boolean (0 : Int32))) z_10 cdz cch cva css cve cro crc cma cbi ces cbl crt) := hD
      refine lv_aload_n hx hb d_RL_write_74 rfl (lv_at hl 2 rfl) ?_
      refine va_get (D := G.1) (ci := 2) (C := R_RL) (T := F_RL) (N := 7) hx hb ht in_RL hown hK hP 2 rfl rfl 0 (by decide) (ht _ kf_RL_15) (fun _ h9 => h9) rfl d_RL_write_75 ?_
      have hk_78 := hok
      refine go_iz (run_V hx hb hml hown ht hK hP hD (c_PW_hasFailed hk_78) (cw_V ht km_RL_101 ki_PW_hasFailed ks_PW_hasFailed ini_PW kd_PW_hasFailed kh_PW_hasFailed ⟨Nat.le_of_ble_eq_true rfl, Nat.le_of_ble_eq_true rfl⟩ rfl rfl) (q0 := 1) (ci := 1) (As := []) (rest := []) rfl rfl rfl hl.1 rfl (Nat.le_of_ble_eq_true rfl) d_RL_write_78 ⟨Nat.zero_le _, Nat.zero_le _⟩) hD hS hA (fun z_78 H locs hz_78 hP hD hS => ?_)
      have hres := bindc_eq hz_78 hres
      have hP : va_P G.1 classes (cC G ad nb nt z_26.2.1 z_26.2.2.1 z_26.2.2.2 csl cst cen (va_cpy z_10 cby (0 : Int32).toNatClampNeg z_15.1.toNatClampNeg z_26.1.toNatClampNeg) (upd cto (z_15.1 / (64 : Int32)).toNatClampNeg (vp_nar .boolean (0 : Int32))) z_10 cdz cch cva css cve cro crc cma cbi ces cbl crt) H := hP
      have hD : va_D A (cC G ad nb nt z_26.2.1 z_26.2.2.1 z_26.2.2.2 csl cst cen (va_cpy z_10 cby (0 : Int32).toNatClampNeg z_15.1.toNatClampNeg z_26.1.toNatClampNeg) (upd cto (z_15.1 / (64 : Int32)).toNatClampNeg (vp_nar .boolean (0 : Int32))) z_10 cdz cch cva css cve cro crc cma cbi ces cbl crt) := hD
      refine lv_if_ne (tgt := 88) hx hb d_RL_write_81 (by decide) (fun c_81 => ?_) (fun c_81 => ?_)
      · have hres := it_f c_81 hres
        refine lv_iconst (v := (0 : Int32)) hx hb d_RL_write_88 (by decide) ?_
        exact en_z (w1 := (fun u : Int32 × Int32 × Int32 × (Nat → Int32) × (Nat → Int32) × (Nat → Int32) => (cC G ad nb nt u.1 u.2.1 u.2.2.1 csl cst cen u.2.2.2.1 u.2.2.2.2.1 u.2.2.2.2.2 cdz cch cva css cve cro crc cma cbi ces cbl crt))) (z_26.2.1, z_26.2.2.1, z_26.2.2.2, va_cpy z_10 cby (0 : Int32).toNatClampNeg z_15.1.toNatClampNeg z_26.1.toNatClampNeg, upd cto (z_15.1 / (64 : Int32)).toNatClampNeg (vp_nar .boolean (0 : Int32)), z_10) hx hb hr hlocks hK hP hD hS hres isB_0 d_RL_write_89
      · have hres := it_t c_81 hres
        refine lv_iconst (v := (1 : Int32)) hx hb d_RL_write_84 (by decide) ?_
        refine lv_goto (tgt := 89) hx hb d_RL_write_85 (by decide) ?_
        exact en_z (w1 := (fun u : Int32 × Int32 × Int32 × (Nat → Int32) × (Nat → Int32) × (Nat → Int32) => (cC G ad nb nt u.1 u.2.1 u.2.2.1 csl cst cen u.2.2.2.1 u.2.2.2.2.1 u.2.2.2.2.2 cdz cch cva css cve cro crc cma cbi ces cbl crt))) (z_26.2.1, z_26.2.2.1, z_26.2.2.2, va_cpy z_10 cby (0 : Int32).toNatClampNeg z_15.1.toNatClampNeg z_26.1.toNatClampNeg, upd cto (z_15.1 / (64 : Int32)).toNatClampNeg (vp_nar .boolean (0 : Int32)), z_10) hx hb hr hlocks hK hP hD hS hres isB_1 d_RL_write_89
    · have hres := it_f c_65 hres
      have hok := hok.2 c_65
      refine lv_iconst (v := (1 : Int32)) hx hb d_RL_write_68 (by decide) ?_
      refine lv_goto (tgt := 73) hx hb d_RL_write_69 (by decide) ?_
      obtain ⟨hi_73, hok⟩ := hok
      refine va_zast hx hb hK hP hD hS 4 1 rfl rfl hi_73 d_RL_write_73 (fun H locs hP hD hS => ?_)
      have hP : va_P G.1 classes (cC G ad nb nt z_26.2.1 z_26.2.2.1 z_26.2.2.2 csl cst cen (va_cpy z_10 cby (0 : Int32).toNatClampNeg z_15.1.toNatClampNeg z_26.1.toNatClampNeg) (upd cto (z_15.1 / (64 : Int32)).toNatClampNeg (vp_nar .boolean (1 : Int32))) z_10 cdz cch cva css cve cro crc cma cbi ces cbl crt) H := hP
      have hD : va_D A (cC G ad nb nt z_26.2.1 z_26.2.2.1 z_26.2.2.2 csl cst cen (va_cpy z_10 cby (0 : Int32).toNatClampNeg z_15.1.toNatClampNeg z_26.1.toNatClampNeg) (upd cto (z_15.1 / (64 : Int32)).toNatClampNeg (vp_nar .boolean (1 : Int32))) z_10 cdz cch cva css cve cro crc cma cbi ces cbl crt) := hD
      refine lv_aload_n hx hb d_RL_write_74 rfl (lv_at hl 2 rfl) ?_
      refine va_get (D := G.1) (ci := 2) (C := R_RL) (T := F_RL) (N := 7) hx hb ht in_RL hown hK hP 2 rfl rfl 0 (by decide) (ht _ kf_RL_15) (fun _ h9 => h9) rfl d_RL_write_75 ?_
      have hk_78 := hok
      refine go_iz (run_V hx hb hml hown ht hK hP hD (c_PW_hasFailed hk_78) (cw_V ht km_RL_101 ki_PW_hasFailed ks_PW_hasFailed ini_PW kd_PW_hasFailed kh_PW_hasFailed ⟨Nat.le_of_ble_eq_true rfl, Nat.le_of_ble_eq_true rfl⟩ rfl rfl) (q0 := 1) (ci := 1) (As := []) (rest := []) rfl rfl rfl hl.1 rfl (Nat.le_of_ble_eq_true rfl) d_RL_write_78 ⟨Nat.zero_le _, Nat.zero_le _⟩) hD hS hA (fun z_78 H locs hz_78 hP hD hS => ?_)
      have hres := bindc_eq hz_78 hres
      have hP : va_P G.1 classes (cC G ad nb nt z_26.2.1 z_26.2.2.1 z_26.2.2.2 csl cst cen (va_cpy z_10 cby (0 : Int32).toNatClampNeg z_15.1.toNatClampNeg z_26.1.toNatClampNeg) (upd cto (z_15.1 / (64 : Int32)).toNatClampNeg (vp_nar .boolean (1 : Int32))) z_10 cdz cch cva css cve cro crc cma cbi ces cbl crt) H := hP
      have hD : va_D A (cC G ad nb nt z_26.2.1 z_26.2.2.1 z_26.2.2.2 csl cst cen (va_cpy z_10 cby (0 : Int32).toNatClampNeg z_15.1.toNatClampNeg z_26.1.toNatClampNeg) (upd cto (z_15.1 / (64 : Int32)).toNatClampNeg (vp_nar .boolean (1 : Int32))) z_10 cdz cch cva css cve cro crc cma cbi ces cbl crt) := hD
      refine lv_if_ne (tgt := 88) hx hb d_RL_write_81 (by decide) (fun c_81 => ?_) (fun c_81 => ?_)
      · have hres := it_f c_81 hres
        refine lv_iconst (v := (0 : Int32)) hx hb d_RL_write_88 (by decide) ?_
        exact en_z (w1 := (fun u : Int32 × Int32 × Int32 × (Nat → Int32) × (Nat → Int32) × (Nat → Int32) => (cC G ad nb nt u.1 u.2.1 u.2.2.1 csl cst cen u.2.2.2.1 u.2.2.2.2.1 u.2.2.2.2.2 cdz cch cva css cve cro crc cma cbi ces cbl crt))) (z_26.2.1, z_26.2.2.1, z_26.2.2.2, va_cpy z_10 cby (0 : Int32).toNatClampNeg z_15.1.toNatClampNeg z_26.1.toNatClampNeg, upd cto (z_15.1 / (64 : Int32)).toNatClampNeg (vp_nar .boolean (1 : Int32)), z_10) hx hb hr hlocks hK hP hD hS hres isB_0 d_RL_write_89
      · have hres := it_t c_81 hres
        refine lv_iconst (v := (1 : Int32)) hx hb d_RL_write_84 (by decide) ?_
        refine lv_goto (tgt := 89) hx hb d_RL_write_85 (by decide) ?_
        exact en_z (w1 := (fun u : Int32 × Int32 × Int32 × (Nat → Int32) × (Nat → Int32) × (Nat → Int32) => (cC G ad nb nt u.1 u.2.1 u.2.2.1 csl cst cen u.2.2.2.1 u.2.2.2.2.1 u.2.2.2.2.2 cdz cch cva css cve cro crc cma cbi ces cbl crt))) (z_26.2.1, z_26.2.2.1, z_26.2.2.2, va_cpy z_10 cby (0 : Int32).toNatClampNeg z_15.1.toNatClampNeg z_26.1.toNatClampNeg, upd cto (z_15.1 / (64 : Int32)).toNatClampNeg (vp_nar .boolean (1 : Int32)), z_10) hx hb hr hlocks hK hP hD hS hres isB_1 d_RL_write_89
/-! ===== BookTrees$Pages.writeRoot(LBookTrees$Roll;III)Z ===== -/
abbrev rm_PG_writeRoot : Room := { frames := 3, cells := 0, slots := 0, locals := 88 }
def f_PG_writeRoot (p0 : Int32) (p1 : Int32) (p2 : Int32) (cfa : Int32) (cle : Int32) (cwr : Int32) (csl : Int32) (cby : (Nat → Int32)) (cto : (Nat → Int32)) (csh : (Nat → Int32)) (crc : Int32) (cbi : (Nat → Int32)) (cbl : (Nat → Int32)) (crt : (Nat → Int32)) : Int32 × Int32 × Int32 × Int32 × (Nat → Int32) × (Nat → Int32) × (Nat → Int32) × (Nat → Int32) := if (cbi (72 : Int32).toNatClampNeg) = 0 then bindc (f_RL_write_v2 p1 (4 : Int32) (0 : Int32) p0 (0 : Int32) cfa cle cwr csl cby cto csh (upd (upd (upd crt (0 : Int32).toNatClampNeg (cbl (72 : Int32).toNatClampNeg)) (1 : Int32).toNatClampNeg crc) (2 : Int32).toNatClampNeg p2)) (fun z_55 => (z_55.1, (z_55.2.1, z_55.2.2.1, z_55.2.2.2.1, z_55.2.2.2.2.1, z_55.2.2.2.2.2.1, z_55.2.2.2.2.2.2, upd (upd (upd crt (0 : Int32).toNatClampNeg (cbl (72 : Int32).toNatClampNeg)) (1 : Int32).toNatClampNeg crc) (2 : Int32).toNatClampNeg p2))) else bindc (f_RL_write_v2 p1 (4 : Int32) (1 : Int32) p0 (0 : Int32) cfa cle cwr csl cby cto csh (upd (upd (upd crt (0 : Int32).toNatClampNeg (cbl (72 : Int32).toNatClampNeg)) (1 : Int32).toNatClampNeg crc) (2 : Int32).toNatClampNeg p2)) (fun z_55 => (z_55.1, (z_55.2.1, z_55.2.2.1, z_55.2.2.2.1, z_55.2.2.2.2.1, z_55.2.2.2.2.2.1, z_55.2.2.2.2.2.2, upd (upd (upd crt (0 : Int32).toNatClampNeg (cbl (72 : Int32).toNatClampNeg)) (1 : Int32).toNatClampNeg crc) (2 : Int32).toNatClampNeg p2)))
def ok_PG_writeRoot (nb : Nat) (nt : Nat) (p0 : Int32) (p1 : Int32) (p2 : Int32) (cfa : Int32) (cle : Int32) (cwr : Int32) (csl : Int32) (cby : (Nat → Int32)) (cto : (Nat → Int32)) (csh : (Nat → Int32)) (crc : Int32) (cbi : (Nat → Int32)) (cbl : (Nat → Int32)) (crt : (Nat → Int32)) : Prop := vp_in (72 : Int32) 73 ∧ (vp_in (0 : Int32) 8 ∧ (vp_in (1 : Int32) 8 ∧ (vp_in (2 : Int32) 8 ∧ (vp_in (72 : Int32) 73 ∧ (((cbi (72 : Int32).toNatClampNeg) = 0 → ok_RL_write_v2 nb nt p1 (4 : Int32) (0 : Int32) p0 (0 : Int32) cfa cle cwr csl cby cto csh (upd (upd (upd crt (0 : Int32).toNatClampNeg (cbl (72 : Int32).toNatClampNeg)) (1 : Int32).toNatClampNeg crc) (2 : Int32).toNatClampNeg p2) ∧ bindp (f_RL_write_v2 p1 (4 : Int32) (0 : Int32) p0 (0 : Int32) cfa cle cwr csl cby cto csh (upd (upd (upd crt (0 : Int32).toNatClampNeg (cbl (72 : Int32).toNatClampNeg)) (1 : Int32).toNatClampNeg crc) (2 : Int32).toNatClampNeg p2)) (fun z_55 => isB z_55.1)) ∧ (¬ (cbi (72 : Int32).toNatClampNeg) = 0 → ok_RL_write_v2 nb nt p1 (4 : Int32) (1 : Int32) p0 (0 : Int32) cfa cle cwr csl cby cto csh (upd (upd (upd crt (0 : Int32).toNatClampNeg (cbl (72 : Int32).toNatClampNeg)) (1 : Int32).toNatClampNeg crc) (2 : Int32).toNatClampNeg p2) ∧ bindp (f_RL_write_v2 p1 (4 : Int32) (1 : Int32) p0 (0 : Int32) cfa cle cwr csl cby cto csh (upd (upd (upd crt (0 : Int32).toNatClampNeg (cbl (72 : Int32).toNatClampNeg)) (1 : Int32).toNatClampNeg crc) (2 : Int32).toNatClampNeg p2)) (fun z_55 => isB z_55.1)))))))
set_option maxHeartbeats 4000000 in
set_option maxRecDepth 100000 in
theorem c_PG_writeRoot {l : Launch} {G : GG} {ad : Nat → Nat} {nb : Nat} {nt : Nat} {sz : Nat} {cfa : Int32} {cle : Int32} {cwr : Int32} {csl : Int32} {cst : Int32} {cen : Int32} {cby : (Nat → Int32)} {cto : (Nat → Int32)} {csh : (Nat → Int32)} {cdz : Int32} {cch : (Nat → Int32)} {cva : (Nat → Int32)} {css : Int32} {cve : (Nat → Int32)} {cro : (Nat → Int32)} {crc : Int32} {cma : (Nat → Int32)} {cbi : (Nat → Int32)} {ces : (Nat → Int32)} {cbl : (Nat → Int32)} {crt : (Nat → Int32)} {p0 : Int32} {p1 : Int32} {p2 : Int32} (hok : ok_PG_writeRoot nb nt p0 p1 p2 cfa cle cwr csl cby cto csh crc cbi cbl crt) : CtI l y_PG_writeRoot b_PG_writeRoot 5 (some .boolean) rm_PG_writeRoot G (cC G ad nb nt cfa cle cwr csl cst cen cby cto csh cdz cch cva css cve cro crc cma cbi ces cbl crt) sz [.ref (ad 12), .ref (ad 2), .int p0, .int p1, .int p2] (eqP (f_PG_writeRoot p0 p1 p2 cfa cle cwr csl cby cto csh crc cbi cbl crt)) (fun u : Int32 × Int32 × Int32 × (Nat → Int32) × (Nat → Int32) × (Nat → Int32) × (Nat → Int32) => (cC G ad nb nt u.1 u.2.1 u.2.2.1 csl cst cen u.2.2.2.1 u.2.2.2.2.1 u.2.2.2.2.2.1 cdz cch cva css cve cro crc cma cbi ces cbl u.2.2.2.2.2.2)) := by
  generalize hres : f_PG_writeRoot p0 p1 p2 cfa cle cwr csl cby cto csh crc cbi cbl crt = res
  refine Met_of (Qc := fun A => va_Qi (eqP res) (Wb G A (fun u : Int32 × Int32 × Int32 × (Nat → Int32) × (Nat → Int32) × (Nat → Int32) × (Nat → Int32) => (cC G ad nb nt u.1 u.2.1 u.2.2.1 csl cst cen u.2.2.2.1 u.2.2.2.2.1 u.2.2.2.2.2.1 cdz cch cva css cve cro crc cma cbi ces cbl u.2.2.2.2.2.2))) A) (by decide) (Nat.le_of_ble_eq_true rfl) ?_
  intro p e s m below meth c hadm hx hb hr hml hown hlocks ht hK A hA hP hD hS ls hl
  have hC : Cx p l e s m (([.ref (ad 12), .ref (ad 2), .int p0, .int p1, .int p2] : List Value)).toArray meth c y_PG_writeRoot b_PG_writeRoot 5 (some .boolean) "BookTrees$Pages" G A := ⟨hx, hb, hr, hml, hown, hlocks, ht, hK, hA⟩
  have hown : s.vm.findClass "BookTrees$Pages" = some m.cls := hown
  have hl : lv_has ls 5 [(0, .ref (ad 12)), (1, .ref (ad 2)), (2, .int p0), (3, .int p1), (4, .int p2)] := hl
  rw [f_PG_writeRoot] at hres
  rw [ok_PG_writeRoot] at hok
  refine lv_aload_n hx hb d_PG_writeRoot_0 rfl (lv_at hl 0 rfl) ?_
  refine va_get (D := G.1) (ci := 5) (C := R_PG) (T := F_PG) (N := 6) hx hb ht in_PG hown hK hP 12 rfl rfl 4 (by decide) (ht _ kf_PG_25) (fun _ h9 => h9) rfl d_PG_writeRoot_1 ?_
  refine lv_iconst (v := (0 : Int32)) hx hb d_PG_writeRoot_4 (by decide) ?_
  refine lv_aload_n hx hb d_PG_writeRoot_5 rfl (lv_at hl 0 rfl) ?_
  refine va_get (D := G.1) (ci := 5) (C := R_PG) (T := F_PG) (N := 6) hx hb ht in_PG hown hK hP 12 rfl rfl 3 (by decide) (ht _ kf_PG_22) (fun _ h9 => h9) rfl d_PG_writeRoot_6 ?_
  refine lv_bipush (v := (72 : Int32)) hx hb d_PG_writeRoot_9 (by decide) ?_
  obtain ⟨hi_11, hok⟩ := hok
  refine va_iald hx hb hK hP 16 0 rfl rfl hi_11 d_PG_writeRoot_11 ?_
  obtain ⟨hi_12, hok⟩ := hok
  refine va_iast hx hb hK hP hD hS 17 0 rfl rfl hi_12 d_PG_writeRoot_12 (fun H locs hP hD hS => ?_)
  have hP : va_P G.1 classes (cC G ad nb nt cfa cle cwr csl cst cen cby cto csh cdz cch cva css cve cro crc cma cbi ces cbl (upd crt (0 : Int32).toNatClampNeg (cbl (72 : Int32).toNatClampNeg))) H := hP
  have hD : va_D A (cC G ad nb nt cfa cle cwr csl cst cen cby cto csh cdz cch cva css cve cro crc cma cbi ces cbl (upd crt (0 : Int32).toNatClampNeg (cbl (72 : Int32).toNatClampNeg))) := hD
  refine lv_aload_n hx hb d_PG_writeRoot_13 rfl (lv_at hl 0 rfl) ?_
  refine va_get (D := G.1) (ci := 5) (C := R_PG) (T := F_PG) (N := 6) hx hb ht in_PG hown hK hP 12 rfl rfl 4 (by decide) (ht _ kf_PG_25) (fun _ h9 => h9) rfl d_PG_writeRoot_14 ?_
  refine lv_iconst (v := (1 : Int32)) hx hb d_PG_writeRoot_17 (by decide) ?_
  refine lv_aload_n hx hb d_PG_writeRoot_18 rfl (lv_at hl 0 rfl) ?_
  refine va_get (D := G.1) (ci := 5) (C := R_PG) (T := F_PG) (N := 6) hx hb ht in_PG hown hK hP 12 rfl rfl 5 (by decide) (ht _ kf_PG_28) (fun _ h9 => h9) rfl d_PG_writeRoot_19 ?_
  obtain ⟨hi_22, hok⟩ := hok
  refine va_iast hx hb hK hP hD hS 17 0 rfl rfl hi_22 d_PG_writeRoot_22 (fun H locs hP hD hS => ?_)
  have hP : va_P G.1 classes (cC G ad nb nt cfa cle cwr csl cst cen cby cto csh cdz cch cva css cve cro crc cma cbi ces cbl (upd (upd crt (0 : Int32).toNatClampNeg (cbl (72 : Int32).toNatClampNeg)) (1 : Int32).toNatClampNeg crc)) H := hP
  have hD : va_D A (cC G ad nb nt cfa cle cwr csl cst cen cby cto csh cdz cch cva css cve cro crc cma cbi ces cbl (upd (upd crt (0 : Int32).toNatClampNeg (cbl (72 : Int32).toNatClampNeg)) (1 : Int32).toNatClampNeg crc)) := hD
  refine lv_aload_n hx hb d_PG_writeRoot_23 rfl (lv_at hl 0 rfl) ?_
  refine va_get (D := G.1) (ci := 5) (C := R_PG) (T := F_PG) (N := 6) hx hb ht in_PG hown hK hP 12 rfl rfl 4 (by decide) (ht _ kf_PG_25) (fun _ h9 => h9) rfl d_PG_writeRoot_24 ?_
  refine lv_iconst (v := (2 : Int32)) hx hb d_PG_writeRoot_27 (by decide) ?_
  refine lv_iload hx hb d_PG_writeRoot_28 (lv_at hl 4 rfl) ?_
  obtain ⟨hi_30, hok⟩ := hok
  refine va_iast hx hb hK hP hD hS 17 0 rfl rfl hi_30 d_PG_writeRoot_30 (fun H locs hP hD hS => ?_)
  have hP : va_P G.1 classes (cC G ad nb nt cfa cle cwr csl cst cen cby cto csh cdz cch cva css cve cro crc cma cbi ces cbl (upd (upd (upd crt (0 : Int32).toNatClampNeg (cbl (72 : Int32).toNatClampNeg)) (1 : Int32).toNatClampNeg crc) (2 : Int32).toNatClampNeg p2)) H := hP
  have hD : va_D A (cC G ad nb nt cfa cle cwr csl cst cen cby cto csh cdz cch cva css cve cro crc cma cbi ces cbl (upd (upd (upd crt (0 : Int32).toNatClampNeg (cbl (72 : Int32).toNatClampNeg)) (1 : Int32).toNatClampNeg crc) (2 : Int32).toNatClampNeg p2)) := hD
  refine lv_aload_n hx hb d_PG_writeRoot_31 rfl (lv_at hl 1 rfl) ?_
  refine lv_iload_n hx hb d_PG_writeRoot_32 rfl (lv_at hl 3 rfl) ?_
  refine lv_iconst (v := (4 : Int32)) hx hb d_PG_writeRoot_33 (by decide) ?_
  refine lv_aload_n hx hb d_PG_writeRoot_34 rfl (lv_at hl 0 rfl) ?_
  refine va_get (D := G.1) (ci := 5) (C := R_PG) (T := F_PG) (N := 6) hx hb ht in_PG hown hK hP 12 rfl rfl 1 (by decide) (ht _ kf_PG_15) (fun _ h9 => h9) rfl d_PG_writeRoot_35 ?_
  refine lv_bipush (v := (72 : Int32)) hx hb d_PG_writeRoot_38 (by decide) ?_
  obtain ⟨hi_40, hok⟩ := hok
  refine va_iald hx hb hK hP 14 0 rfl rfl hi_40 d_PG_writeRoot_40 ?_
  refine lv_if_ne (tgt := 48) hx hb d_PG_writeRoot_41 (by decide) (fun c_41 => ?_) (fun c_41 => ?_)
  · have hres := it_f c_41 hres
    have hok := hok.2 c_41
    refine lv_iconst (v := (1 : Int32)) hx hb d_PG_writeRoot_48 (by decide) ?_
    refine lv_iload_n hx hb d_PG_writeRoot_49 rfl (lv_at hl 2 rfl) ?_
    refine lv_aload_n hx hb d_PG_writeRoot_50 rfl (lv_at hl 0 rfl) ?_
    refine va_get (D := G.1) (ci := 5) (C := R_PG) (T := F_PG) (N := 6) hx hb ht in_PG hown hK hP 12 rfl rfl 4 (by decide) (ht _ kf_PG_25) (fun _ h9 => h9) rfl d_PG_writeRoot_51 ?_
    refine lv_iconst (v := (0 : Int32)) hx hb d_PG_writeRoot_54 (by decide) ?_
    obtain ⟨hk_55, hok⟩ := hok
    refine go_iz (run_V hx hb hml hown ht hK hP hD (c_RL_write_v2 hk_55) (cw_V ht km_PG_81 ki_RL_write ks_RL_write ini_RL kd_RL_write kh_RL_write ⟨Nat.le_of_ble_eq_true rfl, Nat.le_of_ble_eq_true rfl⟩ rfl rfl) (q0 := 2) (ci := 2) (As := [.int p1, .int (4 : Int32), .int (1 : Int32), .int p0, .ref (ad 17), .int (0 : Int32)]) (rest := []) rfl rfl rfl hl.1 rfl (Nat.le_of_ble_eq_true rfl) d_PG_writeRoot_55 ⟨Nat.zero_le _, Nat.zero_le _⟩) hD hS hA (fun z_55 H locs hz_55 hP hD hS => ?_)
    have hres := bindc_eq hz_55 hres
    have hok := bindp_eq hz_55 hok
    have hP : va_P G.1 classes (cC G ad nb nt z_55.2.1 z_55.2.2.1 z_55.2.2.2.1 csl cst cen z_55.2.2.2.2.1 z_55.2.2.2.2.2.1 z_55.2.2.2.2.2.2 cdz cch cva css cve cro crc cma cbi ces cbl (upd (upd (upd crt (0 : Int32).toNatClampNeg (cbl (72 : Int32).toNatClampNeg)) (1 : Int32).toNatClampNeg crc) (2 : Int32).toNatClampNeg p2)) H := hP
    have hD : va_D A (cC G ad nb nt z_55.2.1 z_55.2.2.1 z_55.2.2.2.1 csl cst cen z_55.2.2.2.2.1 z_55.2.2.2.2.2.1 z_55.2.2.2.2.2.2 cdz cch cva css cve cro crc cma cbi ces cbl (upd (upd (upd crt (0 : Int32).toNatClampNeg (cbl (72 : Int32).toNatClampNeg)) (1 : Int32).toNatClampNeg crc) (2 : Int32).toNatClampNeg p2)) := hD
    exact en_z (w1 := (fun u : Int32 × Int32 × Int32 × (Nat → Int32) × (Nat → Int32) × (Nat → Int32) × (Nat → Int32) => (cC G ad nb nt u.1 u.2.1 u.2.2.1 csl cst cen u.2.2.2.1 u.2.2.2.2.1 u.2.2.2.2.2.1 cdz cch cva css cve cro crc cma cbi ces cbl u.2.2.2.2.2.2))) (z_55.2.1, z_55.2.2.1, z_55.2.2.2.1, z_55.2.2.2.2.1, z_55.2.2.2.2.2.1, z_55.2.2.2.2.2.2, upd (upd (upd crt (0 : Int32).toNatClampNeg (cbl (72 : Int32).toNatClampNeg)) (1 : Int32).toNatClampNeg crc) (2 : Int32).toNatClampNeg p2) hx hb hr hlocks hK hP hD hS hres hok d_PG_writeRoot_58
  · have hres := it_t c_41 hres
    have hok := hok.1 c_41
    refine lv_iconst (v := (0 : Int32)) hx hb d_PG_writeRoot_44 (by decide) ?_
    refine lv_goto (tgt := 49) hx hb d_PG_writeRoot_45 (by decide) ?_
    refine lv_iload_n hx hb d_PG_writeRoot_49 rfl (lv_at hl 2 rfl) ?_
    refine lv_aload_n hx hb d_PG_writeRoot_50 rfl (lv_at hl 0 rfl) ?_
    refine va_get (D := G.1) (ci := 5) (C := R_PG) (T := F_PG) (N := 6) hx hb ht in_PG hown hK hP 12 rfl rfl 4 (by decide) (ht _ kf_PG_25) (fun _ h9 => h9) rfl d_PG_writeRoot_51 ?_
    refine lv_iconst (v := (0 : Int32)) hx hb d_PG_writeRoot_54 (by decide) ?_
    obtain ⟨hk_55, hok⟩ := hok
    refine go_iz (run_V hx hb hml hown ht hK hP hD (c_RL_write_v2 hk_55) (cw_V ht km_PG_81 ki_RL_write ks_RL_write ini_RL kd_RL_write kh_RL_write ⟨Nat.le_of_ble_eq_true rfl, Nat.le_of_ble_eq_true rfl⟩ rfl rfl) (q0 := 2) (ci := 2) (As := [.int p1, .int (4 : Int32), .int (0 : Int32), .int p0, .ref (ad 17), .int (0 : Int32)]) (rest := []) rfl rfl rfl hl.1 rfl (Nat.le_of_ble_eq_true rfl) d_PG_writeRoot_55 ⟨Nat.zero_le _, Nat.zero_le _⟩) hD hS hA (fun z_55 H locs hz_55 hP hD hS => ?_)
    have hres := bindc_eq hz_55 hres
    have hok := bindp_eq hz_55 hok
    have hP : va_P G.1 classes (cC G ad nb nt z_55.2.1 z_55.2.2.1 z_55.2.2.2.1 csl cst cen z_55.2.2.2.2.1 z_55.2.2.2.2.2.1 z_55.2.2.2.2.2.2 cdz cch cva css cve cro crc cma cbi ces cbl (upd (upd (upd crt (0 : Int32).toNatClampNeg (cbl (72 : Int32).toNatClampNeg)) (1 : Int32).toNatClampNeg crc) (2 : Int32).toNatClampNeg p2)) H := hP
    have hD : va_D A (cC G ad nb nt z_55.2.1 z_55.2.2.1 z_55.2.2.2.1 csl cst cen z_55.2.2.2.2.1 z_55.2.2.2.2.2.1 z_55.2.2.2.2.2.2 cdz cch cva css cve cro crc cma cbi ces cbl (upd (upd (upd crt (0 : Int32).toNatClampNeg (cbl (72 : Int32).toNatClampNeg)) (1 : Int32).toNatClampNeg crc) (2 : Int32).toNatClampNeg p2)) := hD
    exact en_z (w1 := (fun u : Int32 × Int32 × Int32 × (Nat → Int32) × (Nat → Int32) × (Nat → Int32) × (Nat → Int32) => (cC G ad nb nt u.1 u.2.1 u.2.2.1 csl cst cen u.2.2.2.1 u.2.2.2.2.1 u.2.2.2.2.2.1 cdz cch cva css cve cro crc cma cbi ces cbl u.2.2.2.2.2.2))) (z_55.2.1, z_55.2.2.1, z_55.2.2.2.1, z_55.2.2.2.2.1, z_55.2.2.2.2.2.1, z_55.2.2.2.2.2.2, upd (upd (upd crt (0 : Int32).toNatClampNeg (cbl (72 : Int32).toNatClampNeg)) (1 : Int32).toNatClampNeg crc) (2 : Int32).toNatClampNeg p2) hx hb hr hlocks hK hP hD hS hres hok d_PG_writeRoot_58
