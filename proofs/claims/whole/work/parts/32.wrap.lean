/-! the law's own methods that catch -/
/-! ===== put ===== -/
theorem kx_LA_put : Cond.codeWith y_LA_put b_LA_put 5 (some .int) [(0, 10, 13, 13), (0, 10, 17, 15)] ∈ lw_g := gw (List.mem_of_getElem? (i := 308) (by decide +kernel)) rfl
theorem kh_LA_put : y_LA_put.cls ≠ "java/lang/invoke/MethodHandle" ∧ y_LA_put.cls ≠ "java/lang/invoke/VarHandle" ∧ (parseMethodDescriptor y_LA_put.desc).map (fun d => d.parameters.length) = some 4 := by decide +kernel
abbrev rm_LA_put : Room := { frames := 8, cells := 1, slots := 6, locals := 125 }
def g_LA_put (p0 : Int32) (p1 : Int32) (lou : Nat → Int64) (cfa : Int32) (cdz : Int32) (cch : (Nat → Int32)) (cva : (Nat → Int32)) : Int32 × ((Nat → Int64) × (Int32 × (Nat → Int32) × (Nat → Int32))) := if th_BT_put p0 p1 cfa = 0 then bindc (f_BT_put p0 p1 cfa cdz cch cva) (fun z_1 => ((0 : Int32), (vp_updL lou (0 : Int32).toNatClampNeg z_1.1.toInt64, z_1.2))) else if th_BT_put p0 p1 cfa = 1 then ((1 : Int32), (lou, (cdz, cch, cva))) else ((2 : Int32), (lou, (cdz, cch, cva)))
set_option maxHeartbeats 4000000 in
set_option maxRecDepth 100000 in
theorem cx_LA_put {l : Launch} {G : GG} {ad : Nat → Nat} {ao : Nat} {nb : Nat} {nt : Nat} {sz : Nat} {cfa : Int32} {cle : Int32} {cwr : Int32} {csl : Int32} {cst : Int32} {cen : Int32} {cby : (Nat → Int32)} {cto : (Nat → Int32)} {csh : (Nat → Int32)} {cdz : Int32} {cch : (Nat → Int32)} {cva : (Nat → Int32)} {css : Int32} {cve : (Nat → Int32)} {cro : (Nat → Int32)} {crc : Int32} {cma : (Nat → Int32)} {cbi : (Nat → Int32)} {ces : (Nat → Int32)} {cbl : (Nat → Int32)} {crt : (Nat → Int32)} {p0 : Int32} {p1 : Int32} {lou : Nat → Int64} (hfl : l.flags = flags0) (hokT : okT_BT_put nb nt p0 p1 cfa) (hok : th_BT_put p0 p1 cfa = 0 → ok_BT_put nb nt p0 p1 cfa cdz cch cva) : CtX l y_LA_put b_LA_put 5 [(0, 10, 13, 13), (0, 10, 17, 15)] rm_LA_put G ((cC G ad nb nt cfa cle cwr csl cst cen cby cto csh cdz cch cva css cve cro crc cma cbi ces cbl crt) ++ [(ao, .inl (G.2 3, 1, .inr (.inl lou)))]) sz [.ref (ad 0), .int p0, .int p1, .ref ao] (g_LA_put p0 p1 lou cfa cdz cch cva) (fun u : (Nat → Int64) × (Int32 × (Nat → Int32) × (Nat → Int32)) => ((cC G ad nb nt cfa cle cwr csl cst cen cby cto csh u.2.1 u.2.2.1 u.2.2.2 css cve cro crc cma cbi ces cbl crt) ++ [(ao, .inl (G.2 3, 1, .inr (.inl u.1)))])) := by
  generalize hres : g_LA_put p0 p1 lou cfa cdz cch cva = res
  refine MetX_of (by decide) (Nat.le_of_ble_eq_true rfl) ?_
  intro p e s m below meth c hadm hx hb hr hml hown hlocks hex ht hK A hA hZ hP hD hS ls hl
  have hown : s.vm.findClass "BookTreesLaw" = some m.cls := hown
  have hl : lv_has ls 5 [(0, .ref (ad 0)), (1, .int p0), (2, .int p1), (3, .ref ao)] := hl
  rw [g_LA_put] at hres
  refine lv_aload_n hx hb d_LA_put_0 rfl (lv_at hl 3 rfl) ?_
  refine lv_iconst (v := (0 : Int32)) hx hb d_LA_put_1 (by decide) ?_
  refine lv_aload_n hx hb d_LA_put_2 rfl (lv_at hl 0 rfl) ?_
  refine lv_iload_n hx hb d_LA_put_3 rfl (lv_at hl 1 rfl) ?_
  refine lv_iload_n hx hb d_LA_put_4 rfl (lv_at hl 2 rfl) ?_
  by_cases h0 : th_BT_put p0 p1 cfa = 0
  · have hres := it_t h0 hres
    refine go_ir (run_V hx hb hml hown ht hK (P_left hP) (D_left hD) (c_BT_put (hok h0)) (cw_V ht km_LA_7 ki_BT_put ks_BT_put ini_BT kd_BT_put kh_BT_put ⟨Nat.le_of_ble_eq_true rfl, Nat.le_of_ble_eq_true rfl⟩ rfl rfl) (q0 := 0) (ci := 0) (As := [.int p0, .int p1]) (rest := [.int (0 : Int32), .ref ao]) rfl rfl rfl hl.1 rfl (Nat.le_of_ble_eq_true rfl) d_LA_put_5 ⟨Nat.zero_le _, Nat.zero_le _⟩) hP hD hS hA (fun z_1 H locs hz hP hD hS => ?_)
    have hres := bindc_eq hz hres
    have hP : va_P G.1 classes ((cC G ad nb nt cfa cle cwr csl cst cen cby cto csh z_1.2.1 z_1.2.2.1 z_1.2.2.2 css cve cro crc cma cbi ces cbl crt) ++ [(ao, .inl (G.2 3, 1, .inr (.inl lou)))]) H := hP
    have hD : va_D A ((cC G ad nb nt cfa cle cwr csl cst cen cby cto csh z_1.2.1 z_1.2.2.1 z_1.2.2.2 css cve cro crc cma cbi ces cbl crt) ++ [(ao, .inl (G.2 3, 1, .inr (.inl lou)))]) := hD
    refine lv_i2l hx hb d_LA_put_8 rfl ?_
    refine va_last hx hb hK hP hD hS 18 3 rfl rfl (show vp_in (0 : Int32) 1 by unfold vp_in; decide) d_LA_put_9 (fun H locs hP hD hS => ?_)
    have hP : va_P G.1 classes ((cC G ad nb nt cfa cle cwr csl cst cen cby cto csh z_1.2.1 z_1.2.2.1 z_1.2.2.2 css cve cro crc cma cbi ces cbl crt) ++ [(ao, .inl (G.2 3, 1, .inr (.inl (vp_updL lou (0 : Int32).toNatClampNeg z_1.1.toInt64))))]) H := hP
    have hD : va_D A ((cC G ad nb nt cfa cle cwr csl cst cen cby cto csh z_1.2.1 z_1.2.2.1 z_1.2.2.2 css cve cro crc cma cbi ces cbl crt) ++ [(ao, .inl (G.2 3, 1, .inr (.inl (vp_updL lou (0 : Int32).toNatClampNeg z_1.1.toInt64))))]) := hD
    refine lv_goto (tgt := 21) hx hb d_LA_put_10 (by decide) ?_
    refine W.widen (k := 1) (n := 6) (by omega) (by omega) ?_
    refine lv_iconst (v := (0 : Int32)) hx hb d_LA_put_21 (by decide) ?_
    exact en_i (post := eqP res) (w1 := (fun u : (Nat → Int64) × (Int32 × (Nat → Int32) × (Nat → Int32)) => ((cC G ad nb nt cfa cle cwr csl cst cen cby cto csh u.2.1 u.2.2.1 u.2.2.2 css cve cro crc cma cbi ces cbl crt) ++ [(ao, .inl (G.2 3, 1, .inr (.inl u.1)))]))) (((vp_updL lou (0 : Int32).toNatClampNeg z_1.1.toInt64), z_1.2)) hx hb hr hlocks hK hP hD hS hres d_LA_put_22
  · have hres := it_f h0 hres
    by_cases h1 : th_BT_put p0 p1 cfa = 1
    · have hres := it_t h1 hres
      have hT : CtT l y_BT_put b_BT_put 3 (some .int) rmT_BT_put G (cC G ad nb nt cfa cle cwr csl cst cen cby cto csh cdz cch cva css cve cro crc cma cbi ces cbl crt) s.heap.size [.ref (ad 0), .int p0, .int p1] IAE := cT_BT_put (k := 1) hfl hokT h1 (by decide)
      refine cat_1r (X := IAE) (own := "BookTreesLaw") (run_VT hx hb hml hown ht hK (P_left hP) (D_left hD) hZ hT (cw_V ht km_LA_7 ki_BT_put ks_BT_put ini_BT kd_BT_put kh_BT_put ⟨Nat.le_of_ble_eq_true rfl, Nat.le_of_ble_eq_true rfl⟩ rfl rfl) (q0 := 0) (ci := 0) (As := [.int p0, .int p1]) (rest := [.int (0 : Int32), .ref ao]) rfl rfl rfl hl.1 rfl (Nat.le_of_ble_eq_true rfl) d_LA_put_5 ⟨by decide, by decide⟩) hP hD hS hA hown (x := (⟨0, 10, 13, 13⟩ : ExceptionTableEntry)) (t := [(⟨0, 10, 17, 15⟩ : ExceptionTableEntry)]) hex (by decide) (by decide) (ht _ kc_LA_13) (AS_self1 hZ.2.2.2) (fun v H locs hP hD hS => ?_)
      refine lv_astore (lv' := [(4, .ref v), (0, .ref (ad 0)), (1, .int p0), (2, .int p1), (3, .ref ao)]) hx hb d_LA_put_13 hl (by decide) rfl (fun ls hl => ?_)
      refine lv_iconst (v := (1 : Int32)) hx hb d_LA_put_15 (by decide) ?_
      exact en_i (post := eqP res) (w1 := (fun u : (Nat → Int64) × (Int32 × (Nat → Int32) × (Nat → Int32)) => ((cC G ad nb nt cfa cle cwr csl cst cen cby cto csh u.2.1 u.2.2.1 u.2.2.2 css cve cro crc cma cbi ces cbl crt) ++ [(ao, .inl (G.2 3, 1, .inr (.inl u.1)))]))) (lou, (cdz, cch, cva)) hx hb hr hlocks hK hP hD hS hres d_LA_put_16
    · have hres := it_f h1 hres
      have hT : CtT l y_BT_put b_BT_put 3 (some .int) rmT_BT_put G (cC G ad nb nt cfa cle cwr csl cst cen cby cto csh cdz cch cva css cve cro crc cma cbi ces cbl crt) s.heap.size [.ref (ad 0), .int p0, .int p1] ISE := by
        have hT2 : CtT l y_BT_put b_BT_put 3 (some .int) rmT_BT_put G (cC G ad nb nt cfa cle cwr csl cst cen cby cto csh cdz cch cva css cve cro crc cma cbi ces cbl crt) s.heap.size [.ref (ad 0), .int p0, .int p1] (excOf (th_BT_put p0 p1 cfa)) := cT_BT_put hfl hokT rfl h0
        rw [show excOf (th_BT_put p0 p1 cfa) = ISE from if_neg h1] at hT2
        exact hT2
      refine cat_2r (X := ISE) (Y := IAE) (own := "BookTreesLaw") (run_VT hx hb hml hown ht hK (P_left hP) (D_left hD) hZ hT (cw_V ht km_LA_7 ki_BT_put ks_BT_put ini_BT kd_BT_put kh_BT_put ⟨Nat.le_of_ble_eq_true rfl, Nat.le_of_ble_eq_true rfl⟩ rfl rfl) (q0 := 0) (ci := 0) (As := [.int p0, .int p1]) (rest := [.int (0 : Int32), .ref ao]) rfl rfl rfl hl.1 rfl (Nat.le_of_ble_eq_true rfl) d_LA_put_5 ⟨by decide, by decide⟩) hP hD hS hA hown (x := (⟨0, 10, 13, 13⟩ : ExceptionTableEntry)) (x2 := (⟨0, 10, 17, 15⟩ : ExceptionTableEntry)) (t := []) hex (by decide) (by decide) (ht _ kc_LA_13) (by decide) (by decide) (ht _ kc_LA_15) (AS_self2 hZ.2.2.2) (AS_other hZ.2.2.2) (fun v H locs hP hD hS => ?_)
      refine lv_astore (lv' := [(4, .ref v), (0, .ref (ad 0)), (1, .int p0), (2, .int p1), (3, .ref ao)]) hx hb d_LA_put_17 hl (by decide) rfl (fun ls hl => ?_)
      refine lv_iconst (v := (2 : Int32)) hx hb d_LA_put_19 (by decide) ?_
      exact en_i (post := eqP res) (w1 := (fun u : (Nat → Int64) × (Int32 × (Nat → Int32) × (Nat → Int32)) => ((cC G ad nb nt cfa cle cwr csl cst cen cby cto csh u.2.1 u.2.2.1 u.2.2.2 css cve cro crc cma cbi ces cbl crt) ++ [(ao, .inl (G.2 3, 1, .inr (.inl u.1)))]))) (lou, (cdz, cch, cva)) hx hb hr hlocks hK hP hD hS hres d_LA_put_20
/-! ===== drop ===== -/
theorem kx_LA_drop : Cond.codeWith y_LA_drop b_LA_drop 4 (some .int) [(0, 9, 12, 13), (0, 9, 15, 15)] ∈ lw_g := gw (List.mem_of_getElem? (i := 427) (by decide +kernel)) rfl
theorem kh_LA_drop : y_LA_drop.cls ≠ "java/lang/invoke/MethodHandle" ∧ y_LA_drop.cls ≠ "java/lang/invoke/VarHandle" ∧ (parseMethodDescriptor y_LA_drop.desc).map (fun d => d.parameters.length) = some 3 := by decide +kernel
abbrev rm_LA_drop : Room := { frames := 8, cells := 1, slots := 6, locals := 124 }
def g_LA_drop (p0 : Int32) (lou : Nat → Int64) (cfa : Int32) (cdz : Int32) (cch : (Nat → Int32)) : Int32 × ((Nat → Int64) × (Int32 × (Nat → Int32))) := if th_BT_drop p0 cfa = 0 then bindc (f_BT_drop p0 cfa cdz cch) (fun z_1 => ((0 : Int32), (vp_updL lou (0 : Int32).toNatClampNeg z_1.1.toInt64, z_1.2))) else if th_BT_drop p0 cfa = 1 then ((1 : Int32), (lou, (cdz, cch))) else ((2 : Int32), (lou, (cdz, cch)))
set_option maxHeartbeats 4000000 in
set_option maxRecDepth 100000 in
theorem cx_LA_drop {l : Launch} {G : GG} {ad : Nat → Nat} {ao : Nat} {nb : Nat} {nt : Nat} {sz : Nat} {cfa : Int32} {cle : Int32} {cwr : Int32} {csl : Int32} {cst : Int32} {cen : Int32} {cby : (Nat → Int32)} {cto : (Nat → Int32)} {csh : (Nat → Int32)} {cdz : Int32} {cch : (Nat → Int32)} {cva : (Nat → Int32)} {css : Int32} {cve : (Nat → Int32)} {cro : (Nat → Int32)} {crc : Int32} {cma : (Nat → Int32)} {cbi : (Nat → Int32)} {ces : (Nat → Int32)} {cbl : (Nat → Int32)} {crt : (Nat → Int32)} {p0 : Int32} {lou : Nat → Int64} (hfl : l.flags = flags0) (hokT : okT_BT_drop nb nt p0 cfa) (hok : th_BT_drop p0 cfa = 0 → ok_BT_drop nb nt p0 cfa cdz cch) : CtX l y_LA_drop b_LA_drop 4 [(0, 9, 12, 13), (0, 9, 15, 15)] rm_LA_drop G ((cC G ad nb nt cfa cle cwr csl cst cen cby cto csh cdz cch cva css cve cro crc cma cbi ces cbl crt) ++ [(ao, .inl (G.2 3, 1, .inr (.inl lou)))]) sz [.ref (ad 0), .int p0, .ref ao] (g_LA_drop p0 lou cfa cdz cch) (fun u : (Nat → Int64) × (Int32 × (Nat → Int32)) => ((cC G ad nb nt cfa cle cwr csl cst cen cby cto csh u.2.1 u.2.2 cva css cve cro crc cma cbi ces cbl crt) ++ [(ao, .inl (G.2 3, 1, .inr (.inl u.1)))])) := by
  generalize hres : g_LA_drop p0 lou cfa cdz cch = res
  refine MetX_of (by decide) (Nat.le_of_ble_eq_true rfl) ?_
  intro p e s m below meth c hadm hx hb hr hml hown hlocks hex ht hK A hA hZ hP hD hS ls hl
  have hown : s.vm.findClass "BookTreesLaw" = some m.cls := hown
  have hl : lv_has ls 4 [(0, .ref (ad 0)), (1, .int p0), (2, .ref ao)] := hl
  rw [g_LA_drop] at hres
  refine lv_aload_n hx hb d_LA_drop_0 rfl (lv_at hl 2 rfl) ?_
  refine lv_iconst (v := (0 : Int32)) hx hb d_LA_drop_1 (by decide) ?_
  refine lv_aload_n hx hb d_LA_drop_2 rfl (lv_at hl 0 rfl) ?_
  refine lv_iload_n hx hb d_LA_drop_3 rfl (lv_at hl 1 rfl) ?_
  by_cases h0 : th_BT_drop p0 cfa = 0
  · have hres := it_t h0 hres
    refine go_ir (run_V hx hb hml hown ht hK (P_left hP) (D_left hD) (c_BT_drop (hok h0)) (cw_V ht km_LA_17 ki_BT_drop ks_BT_drop ini_BT kd_BT_drop kh_BT_drop ⟨Nat.le_of_ble_eq_true rfl, Nat.le_of_ble_eq_true rfl⟩ rfl rfl) (q0 := 0) (ci := 0) (As := [.int p0]) (rest := [.int (0 : Int32), .ref ao]) rfl rfl rfl hl.1 rfl (Nat.le_of_ble_eq_true rfl) d_LA_drop_4 ⟨Nat.zero_le _, Nat.zero_le _⟩) hP hD hS hA (fun z_1 H locs hz hP hD hS => ?_)
    have hres := bindc_eq hz hres
    have hP : va_P G.1 classes ((cC G ad nb nt cfa cle cwr csl cst cen cby cto csh z_1.2.1 z_1.2.2 cva css cve cro crc cma cbi ces cbl crt) ++ [(ao, .inl (G.2 3, 1, .inr (.inl lou)))]) H := hP
    have hD : va_D A ((cC G ad nb nt cfa cle cwr csl cst cen cby cto csh z_1.2.1 z_1.2.2 cva css cve cro crc cma cbi ces cbl crt) ++ [(ao, .inl (G.2 3, 1, .inr (.inl lou)))]) := hD
    refine lv_i2l hx hb d_LA_drop_7 rfl ?_
    refine va_last hx hb hK hP hD hS 18 3 rfl rfl (show vp_in (0 : Int32) 1 by unfold vp_in; decide) d_LA_drop_8 (fun H locs hP hD hS => ?_)
    have hP : va_P G.1 classes ((cC G ad nb nt cfa cle cwr csl cst cen cby cto csh z_1.2.1 z_1.2.2 cva css cve cro crc cma cbi ces cbl crt) ++ [(ao, .inl (G.2 3, 1, .inr (.inl (vp_updL lou (0 : Int32).toNatClampNeg z_1.1.toInt64))))]) H := hP
    have hD : va_D A ((cC G ad nb nt cfa cle cwr csl cst cen cby cto csh z_1.2.1 z_1.2.2 cva css cve cro crc cma cbi ces cbl crt) ++ [(ao, .inl (G.2 3, 1, .inr (.inl (vp_updL lou (0 : Int32).toNatClampNeg z_1.1.toInt64))))]) := hD
    refine lv_goto (tgt := 18) hx hb d_LA_drop_9 (by decide) ?_
    refine W.widen (k := 1) (n := 6) (by omega) (by omega) ?_
    refine lv_iconst (v := (0 : Int32)) hx hb d_LA_drop_18 (by decide) ?_
    exact en_i (post := eqP res) (w1 := (fun u : (Nat → Int64) × (Int32 × (Nat → Int32)) => ((cC G ad nb nt cfa cle cwr csl cst cen cby cto csh u.2.1 u.2.2 cva css cve cro crc cma cbi ces cbl crt) ++ [(ao, .inl (G.2 3, 1, .inr (.inl u.1)))]))) (((vp_updL lou (0 : Int32).toNatClampNeg z_1.1.toInt64), z_1.2)) hx hb hr hlocks hK hP hD hS hres d_LA_drop_19
  · have hres := it_f h0 hres
    by_cases h1 : th_BT_drop p0 cfa = 1
    · have hres := it_t h1 hres
      have hT : CtT l y_BT_drop b_BT_drop 2 (some .int) rmT_BT_drop G (cC G ad nb nt cfa cle cwr csl cst cen cby cto csh cdz cch cva css cve cro crc cma cbi ces cbl crt) s.heap.size [.ref (ad 0), .int p0] IAE := cT_BT_drop (k := 1) hfl hokT h1 (by decide)
      refine cat_1r (X := IAE) (own := "BookTreesLaw") (run_VT hx hb hml hown ht hK (P_left hP) (D_left hD) hZ hT (cw_V ht km_LA_17 ki_BT_drop ks_BT_drop ini_BT kd_BT_drop kh_BT_drop ⟨Nat.le_of_ble_eq_true rfl, Nat.le_of_ble_eq_true rfl⟩ rfl rfl) (q0 := 0) (ci := 0) (As := [.int p0]) (rest := [.int (0 : Int32), .ref ao]) rfl rfl rfl hl.1 rfl (Nat.le_of_ble_eq_true rfl) d_LA_drop_4 ⟨by decide, by decide⟩) hP hD hS hA hown (x := (⟨0, 9, 12, 13⟩ : ExceptionTableEntry)) (t := [(⟨0, 9, 15, 15⟩ : ExceptionTableEntry)]) hex (by decide) (by decide) (ht _ kc_LA_13) (AS_self1 hZ.2.2.2) (fun v H locs hP hD hS => ?_)
      refine lv_astore_n (lv' := [(3, .ref v), (0, .ref (ad 0)), (1, .int p0), (2, .ref ao)]) hx hb d_LA_drop_12 rfl hl (by decide) rfl (fun ls hl => ?_)
      refine lv_iconst (v := (1 : Int32)) hx hb d_LA_drop_13 (by decide) ?_
      exact en_i (post := eqP res) (w1 := (fun u : (Nat → Int64) × (Int32 × (Nat → Int32)) => ((cC G ad nb nt cfa cle cwr csl cst cen cby cto csh u.2.1 u.2.2 cva css cve cro crc cma cbi ces cbl crt) ++ [(ao, .inl (G.2 3, 1, .inr (.inl u.1)))]))) (lou, (cdz, cch)) hx hb hr hlocks hK hP hD hS hres d_LA_drop_14
    · have hres := it_f h1 hres
      have hT : CtT l y_BT_drop b_BT_drop 2 (some .int) rmT_BT_drop G (cC G ad nb nt cfa cle cwr csl cst cen cby cto csh cdz cch cva css cve cro crc cma cbi ces cbl crt) s.heap.size [.ref (ad 0), .int p0] ISE := by
        have hT2 : CtT l y_BT_drop b_BT_drop 2 (some .int) rmT_BT_drop G (cC G ad nb nt cfa cle cwr csl cst cen cby cto csh cdz cch cva css cve cro crc cma cbi ces cbl crt) s.heap.size [.ref (ad 0), .int p0] (excOf (th_BT_drop p0 cfa)) := cT_BT_drop hfl hokT rfl h0
        rw [show excOf (th_BT_drop p0 cfa) = ISE from if_neg h1] at hT2
        exact hT2
      refine cat_2r (X := ISE) (Y := IAE) (own := "BookTreesLaw") (run_VT hx hb hml hown ht hK (P_left hP) (D_left hD) hZ hT (cw_V ht km_LA_17 ki_BT_drop ks_BT_drop ini_BT kd_BT_drop kh_BT_drop ⟨Nat.le_of_ble_eq_true rfl, Nat.le_of_ble_eq_true rfl⟩ rfl rfl) (q0 := 0) (ci := 0) (As := [.int p0]) (rest := [.int (0 : Int32), .ref ao]) rfl rfl rfl hl.1 rfl (Nat.le_of_ble_eq_true rfl) d_LA_drop_4 ⟨by decide, by decide⟩) hP hD hS hA hown (x := (⟨0, 9, 12, 13⟩ : ExceptionTableEntry)) (x2 := (⟨0, 9, 15, 15⟩ : ExceptionTableEntry)) (t := []) hex (by decide) (by decide) (ht _ kc_LA_13) (by decide) (by decide) (ht _ kc_LA_15) (AS_self2 hZ.2.2.2) (AS_other hZ.2.2.2) (fun v H locs hP hD hS => ?_)
      refine lv_astore_n (lv' := [(3, .ref v), (0, .ref (ad 0)), (1, .int p0), (2, .ref ao)]) hx hb d_LA_drop_15 rfl hl (by decide) rfl (fun ls hl => ?_)
      refine lv_iconst (v := (2 : Int32)) hx hb d_LA_drop_16 (by decide) ?_
      exact en_i (post := eqP res) (w1 := (fun u : (Nat → Int64) × (Int32 × (Nat → Int32)) => ((cC G ad nb nt cfa cle cwr csl cst cen cby cto csh u.2.1 u.2.2 cva css cve cro crc cma cbi ces cbl crt) ++ [(ao, .inl (G.2 3, 1, .inr (.inl u.1)))]))) (lou, (cdz, cch)) hx hb hr hlocks hK hP hD hS hres d_LA_drop_17
/-! ===== undo ===== -/
theorem kx_LA_undo : Cond.codeWith y_LA_undo b_LA_undo 3 (some .int) [(0, 8, 11, 15)] ∈ lw_g := gw (List.mem_of_getElem? (i := 438) (by decide +kernel)) rfl
theorem kh_LA_undo : y_LA_undo.cls ≠ "java/lang/invoke/MethodHandle" ∧ y_LA_undo.cls ≠ "java/lang/invoke/VarHandle" ∧ (parseMethodDescriptor y_LA_undo.desc).map (fun d => d.parameters.length) = some 2 := by decide +kernel
abbrev rm_LA_undo : Room := { frames := 8, cells := 1, slots := 6, locals := 124 }
def g_LA_undo  (lou : Nat → Int64) (cfa : Int32) (cdz : Int32) (cch : (Nat → Int32)) : Int32 × ((Nat → Int64) × (Int32 × (Nat → Int32))) := if th_BT_undo cfa = 0 then bindc (f_BT_undo cfa cdz cch) (fun z_1 => ((0 : Int32), (vp_updL lou (0 : Int32).toNatClampNeg z_1.1.toInt64, z_1.2))) else ((1 : Int32), (lou, (cdz, cch)))
set_option maxHeartbeats 4000000 in
set_option maxRecDepth 100000 in
theorem cx_LA_undo {l : Launch} {G : GG} {ad : Nat → Nat} {ao : Nat} {nb : Nat} {nt : Nat} {sz : Nat} {cfa : Int32} {cle : Int32} {cwr : Int32} {csl : Int32} {cst : Int32} {cen : Int32} {cby : (Nat → Int32)} {cto : (Nat → Int32)} {csh : (Nat → Int32)} {cdz : Int32} {cch : (Nat → Int32)} {cva : (Nat → Int32)} {css : Int32} {cve : (Nat → Int32)} {cro : (Nat → Int32)} {crc : Int32} {cma : (Nat → Int32)} {cbi : (Nat → Int32)} {ces : (Nat → Int32)} {cbl : (Nat → Int32)} {crt : (Nat → Int32)}  {lou : Nat → Int64} (hfl : l.flags = flags0) (hokT : okT_BT_undo nb nt cfa) (hok : th_BT_undo cfa = 0 → ok_BT_undo nb nt cfa cdz cch) : CtX l y_LA_undo b_LA_undo 3 [(0, 8, 11, 15)] rm_LA_undo G ((cC G ad nb nt cfa cle cwr csl cst cen cby cto csh cdz cch cva css cve cro crc cma cbi ces cbl crt) ++ [(ao, .inl (G.2 3, 1, .inr (.inl lou)))]) sz [.ref (ad 0), .ref ao] (g_LA_undo lou cfa cdz cch) (fun u : (Nat → Int64) × (Int32 × (Nat → Int32)) => ((cC G ad nb nt cfa cle cwr csl cst cen cby cto csh u.2.1 u.2.2 cva css cve cro crc cma cbi ces cbl crt) ++ [(ao, .inl (G.2 3, 1, .inr (.inl u.1)))])) := by
  generalize hres : g_LA_undo lou cfa cdz cch = res
  refine MetX_of (by decide) (Nat.le_of_ble_eq_true rfl) ?_
  intro p e s m below meth c hadm hx hb hr hml hown hlocks hex ht hK A hA hZ hP hD hS ls hl
  have hown : s.vm.findClass "BookTreesLaw" = some m.cls := hown
  have hl : lv_has ls 3 [(0, .ref (ad 0)), (1, .ref ao)] := hl
  rw [g_LA_undo] at hres
  refine lv_aload_n hx hb d_LA_undo_0 rfl (lv_at hl 1 rfl) ?_
  refine lv_iconst (v := (0 : Int32)) hx hb d_LA_undo_1 (by decide) ?_
  refine lv_aload_n hx hb d_LA_undo_2 rfl (lv_at hl 0 rfl) ?_
  by_cases h0 : th_BT_undo cfa = 0
  · have hres := it_t h0 hres
    refine go_ir (run_V hx hb hml hown ht hK (P_left hP) (D_left hD) (c_BT_undo (hok h0)) (cw_V ht km_LA_21 ki_BT_undo ks_BT_undo ini_BT kd_BT_undo kh_BT_undo ⟨Nat.le_of_ble_eq_true rfl, Nat.le_of_ble_eq_true rfl⟩ rfl rfl) (q0 := 0) (ci := 0) (As := []) (rest := [.int (0 : Int32), .ref ao]) rfl rfl rfl hl.1 rfl (Nat.le_of_ble_eq_true rfl) d_LA_undo_3 ⟨Nat.zero_le _, Nat.zero_le _⟩) hP hD hS hA (fun z_1 H locs hz hP hD hS => ?_)
    have hres := bindc_eq hz hres
    have hP : va_P G.1 classes ((cC G ad nb nt cfa cle cwr csl cst cen cby cto csh z_1.2.1 z_1.2.2 cva css cve cro crc cma cbi ces cbl crt) ++ [(ao, .inl (G.2 3, 1, .inr (.inl lou)))]) H := hP
    have hD : va_D A ((cC G ad nb nt cfa cle cwr csl cst cen cby cto csh z_1.2.1 z_1.2.2 cva css cve cro crc cma cbi ces cbl crt) ++ [(ao, .inl (G.2 3, 1, .inr (.inl lou)))]) := hD
    refine lv_i2l hx hb d_LA_undo_6 rfl ?_
    refine va_last hx hb hK hP hD hS 18 3 rfl rfl (show vp_in (0 : Int32) 1 by unfold vp_in; decide) d_LA_undo_7 (fun H locs hP hD hS => ?_)
    have hP : va_P G.1 classes ((cC G ad nb nt cfa cle cwr csl cst cen cby cto csh z_1.2.1 z_1.2.2 cva css cve cro crc cma cbi ces cbl crt) ++ [(ao, .inl (G.2 3, 1, .inr (.inl (vp_updL lou (0 : Int32).toNatClampNeg z_1.1.toInt64))))]) H := hP
    have hD : va_D A ((cC G ad nb nt cfa cle cwr csl cst cen cby cto csh z_1.2.1 z_1.2.2 cva css cve cro crc cma cbi ces cbl crt) ++ [(ao, .inl (G.2 3, 1, .inr (.inl (vp_updL lou (0 : Int32).toNatClampNeg z_1.1.toInt64))))]) := hD
    refine lv_goto (tgt := 14) hx hb d_LA_undo_8 (by decide) ?_
    refine W.widen (k := 1) (n := 6) (by omega) (by omega) ?_
    refine lv_iconst (v := (0 : Int32)) hx hb d_LA_undo_14 (by decide) ?_
    exact en_i (post := eqP res) (w1 := (fun u : (Nat → Int64) × (Int32 × (Nat → Int32)) => ((cC G ad nb nt cfa cle cwr csl cst cen cby cto csh u.2.1 u.2.2 cva css cve cro crc cma cbi ces cbl crt) ++ [(ao, .inl (G.2 3, 1, .inr (.inl u.1)))]))) (((vp_updL lou (0 : Int32).toNatClampNeg z_1.1.toInt64), z_1.2)) hx hb hr hlocks hK hP hD hS hres d_LA_undo_15
  · have hres := it_f h0 hres
    have hT : CtT l y_BT_undo b_BT_undo 2 (some .int) rmT_BT_undo G (cC G ad nb nt cfa cle cwr csl cst cen cby cto csh cdz cch cva css cve cro crc cma cbi ces cbl crt) s.heap.size [.ref (ad 0)] ISE := by
      have hT2 : CtT l y_BT_undo b_BT_undo 2 (some .int) rmT_BT_undo G (cC G ad nb nt cfa cle cwr csl cst cen cby cto csh cdz cch cva css cve cro crc cma cbi ces cbl crt) s.heap.size [.ref (ad 0)] (excOf (th_BT_undo cfa)) := cT_BT_undo hfl hokT rfl h0
      rw [show excOf (th_BT_undo cfa) = ISE from if_neg (by intro h1; revert h1; unfold th_BT_undo; split <;> decide)] at hT2
      exact hT2
    refine cat_1r (X := ISE) (own := "BookTreesLaw") (run_VT hx hb hml hown ht hK (P_left hP) (D_left hD) hZ hT (cw_V ht km_LA_21 ki_BT_undo ks_BT_undo ini_BT kd_BT_undo kh_BT_undo ⟨Nat.le_of_ble_eq_true rfl, Nat.le_of_ble_eq_true rfl⟩ rfl rfl) (q0 := 0) (ci := 0) (As := []) (rest := [.int (0 : Int32), .ref ao]) rfl rfl rfl hl.1 rfl (Nat.le_of_ble_eq_true rfl) d_LA_undo_3 ⟨by decide, by decide⟩) hP hD hS hA hown (x := (⟨0, 8, 11, 15⟩ : ExceptionTableEntry)) (t := []) hex (by decide) (by decide) (ht _ kc_LA_15) (AS_self2 hZ.2.2.2) (fun v H locs hP hD hS => ?_)
    refine lv_astore_n (lv' := [(2, .ref v), (0, .ref (ad 0)), (1, .ref ao)]) hx hb d_LA_undo_11 rfl hl (by decide) rfl (fun ls hl => ?_)
    refine lv_iconst (v := (1 : Int32)) hx hb d_LA_undo_12 (by decide) ?_
    exact en_i (post := eqP res) (w1 := (fun u : (Nat → Int64) × (Int32 × (Nat → Int32)) => ((cC G ad nb nt cfa cle cwr csl cst cen cby cto csh u.2.1 u.2.2 cva css cve cro crc cma cbi ces cbl crt) ++ [(ao, .inl (G.2 3, 1, .inr (.inl u.1)))]))) (lou, (cdz, cch)) hx hb hr hlocks hK hP hD hS hres d_LA_undo_13
/-! ===== get ===== -/
theorem kx_LA_get : Cond.codeWith y_LA_get b_LA_get 4 (some .int) [(0, 8, 11, 13), (0, 8, 14, 15)] ∈ lw_g := gw (List.mem_of_getElem? (i := 445) (by decide +kernel)) rfl
theorem kh_LA_get : y_LA_get.cls ≠ "java/lang/invoke/MethodHandle" ∧ y_LA_get.cls ≠ "java/lang/invoke/VarHandle" ∧ (parseMethodDescriptor y_LA_get.desc).map (fun d => d.parameters.length) = some 3 := by decide +kernel
abbrev rm_LA_get : Room := { frames := 8, cells := 1, slots := 6, locals := 185 }
def g_LA_get (p0 : Int32) (lou : Nat → Int64) (cfa : Int32) (csl : Int32) (cst : Int32) (cen : Int32) (cby : (Nat → Int32)) (cto : (Nat → Int32)) (cch : (Nat → Int32)) (cva : (Nat → Int32)) (css : Int32) (cro : (Nat → Int32)) : Int32 × ((Nat → Int64) × (Unit)) := if th_BT_get p0 cfa = 0 then bindc (f_BT_get p0 cfa csl cst cen cby cto cch cva css cro) (fun z_1 => ((0 : Int32), (vp_updL lou (0 : Int32).toNatClampNeg z_1.1, z_1.2))) else if th_BT_get p0 cfa = 1 then ((1 : Int32), (lou, ())) else ((2 : Int32), (lou, ()))
set_option maxHeartbeats 4000000 in
set_option maxRecDepth 100000 in
theorem cx_LA_get {l : Launch} {G : GG} {ad : Nat → Nat} {ao : Nat} {nb : Nat} {nt : Nat} {sz : Nat} {cfa : Int32} {cle : Int32} {cwr : Int32} {csl : Int32} {cst : Int32} {cen : Int32} {cby : (Nat → Int32)} {cto : (Nat → Int32)} {csh : (Nat → Int32)} {cdz : Int32} {cch : (Nat → Int32)} {cva : (Nat → Int32)} {css : Int32} {cve : (Nat → Int32)} {cro : (Nat → Int32)} {crc : Int32} {cma : (Nat → Int32)} {cbi : (Nat → Int32)} {ces : (Nat → Int32)} {cbl : (Nat → Int32)} {crt : (Nat → Int32)} {p0 : Int32} {lou : Nat → Int64} (hfl : l.flags = flags0) (hokT : okT_BT_get nb nt p0 cfa) (hok : th_BT_get p0 cfa = 0 → ok_BT_get nb nt p0 cfa csl cst cen cby cto cch cva css cro) : CtX l y_LA_get b_LA_get 4 [(0, 8, 11, 13), (0, 8, 14, 15)] rm_LA_get G ((cC G ad nb nt cfa cle cwr csl cst cen cby cto csh cdz cch cva css cve cro crc cma cbi ces cbl crt) ++ [(ao, .inl (G.2 3, 1, .inr (.inl lou)))]) sz [.ref (ad 0), .int p0, .ref ao] (g_LA_get p0 lou cfa csl cst cen cby cto cch cva css cro) (fun u : (Nat → Int64) × (Unit) => ((cC G ad nb nt cfa cle cwr csl cst cen cby cto csh cdz cch cva css cve cro crc cma cbi ces cbl crt) ++ [(ao, .inl (G.2 3, 1, .inr (.inl u.1)))])) := by
  generalize hres : g_LA_get p0 lou cfa csl cst cen cby cto cch cva css cro = res
  refine MetX_of (by decide) (Nat.le_of_ble_eq_true rfl) ?_
  intro p e s m below meth c hadm hx hb hr hml hown hlocks hex ht hK A hA hZ hP hD hS ls hl
  have hown : s.vm.findClass "BookTreesLaw" = some m.cls := hown
  have hl : lv_has ls 4 [(0, .ref (ad 0)), (1, .int p0), (2, .ref ao)] := hl
  rw [g_LA_get] at hres
  refine lv_aload_n hx hb d_LA_get_0 rfl (lv_at hl 2 rfl) ?_
  refine lv_iconst (v := (0 : Int32)) hx hb d_LA_get_1 (by decide) ?_
  refine lv_aload_n hx hb d_LA_get_2 rfl (lv_at hl 0 rfl) ?_
  refine lv_iload_n hx hb d_LA_get_3 rfl (lv_at hl 1 rfl) ?_
  by_cases h0 : th_BT_get p0 cfa = 0
  · have hres := it_t h0 hres
    refine go_lr (run_V hx hb hml hown ht hK (P_left hP) (D_left hD) (c_BT_get (hok h0)) (cw_V ht km_LA_25 ki_BT_get ks_BT_get ini_BT kd_BT_get kh_BT_get ⟨Nat.le_of_ble_eq_true rfl, Nat.le_of_ble_eq_true rfl⟩ rfl rfl) (q0 := 0) (ci := 0) (As := [.int p0]) (rest := [.int (0 : Int32), .ref ao]) rfl rfl rfl hl.1 rfl (Nat.le_of_ble_eq_true rfl) d_LA_get_4 ⟨Nat.zero_le _, Nat.zero_le _⟩) hP hD hS hA (fun z_1 H locs hz hP hD hS => ?_)
    have hres := bindc_eq hz hres
    have hP : va_P G.1 classes ((cC G ad nb nt cfa cle cwr csl cst cen cby cto csh cdz cch cva css cve cro crc cma cbi ces cbl crt) ++ [(ao, .inl (G.2 3, 1, .inr (.inl lou)))]) H := hP
    have hD : va_D A ((cC G ad nb nt cfa cle cwr csl cst cen cby cto csh cdz cch cva css cve cro crc cma cbi ces cbl crt) ++ [(ao, .inl (G.2 3, 1, .inr (.inl lou)))]) := hD
    refine va_last hx hb hK hP hD hS 18 3 rfl rfl (show vp_in (0 : Int32) 1 by unfold vp_in; decide) d_LA_get_7 (fun H locs hP hD hS => ?_)
    have hP : va_P G.1 classes ((cC G ad nb nt cfa cle cwr csl cst cen cby cto csh cdz cch cva css cve cro crc cma cbi ces cbl crt) ++ [(ao, .inl (G.2 3, 1, .inr (.inl (vp_updL lou (0 : Int32).toNatClampNeg z_1.1))))]) H := hP
    have hD : va_D A ((cC G ad nb nt cfa cle cwr csl cst cen cby cto csh cdz cch cva css cve cro crc cma cbi ces cbl crt) ++ [(ao, .inl (G.2 3, 1, .inr (.inl (vp_updL lou (0 : Int32).toNatClampNeg z_1.1))))]) := hD
    refine lv_goto (tgt := 17) hx hb d_LA_get_8 (by decide) ?_
    refine W.widen (k := 1) (n := 6) (by omega) (by omega) ?_
    refine lv_iconst (v := (0 : Int32)) hx hb d_LA_get_17 (by decide) ?_
    exact en_i (post := eqP res) (w1 := (fun u : (Nat → Int64) × (Unit) => ((cC G ad nb nt cfa cle cwr csl cst cen cby cto csh cdz cch cva css cve cro crc cma cbi ces cbl crt) ++ [(ao, .inl (G.2 3, 1, .inr (.inl u.1)))]))) (((vp_updL lou (0 : Int32).toNatClampNeg z_1.1), z_1.2)) hx hb hr hlocks hK hP hD hS hres d_LA_get_18
  · have hres := it_f h0 hres
    by_cases h1 : th_BT_get p0 cfa = 1
    · have hres := it_t h1 hres
      have hT : CtT l y_BT_get b_BT_get 2 (some .long) rmT_BT_get G (cC G ad nb nt cfa cle cwr csl cst cen cby cto csh cdz cch cva css cve cro crc cma cbi ces cbl crt) s.heap.size [.ref (ad 0), .int p0] IAE := cT_BT_get (k := 1) hfl hokT h1 (by decide)
      refine cat_1r (X := IAE) (own := "BookTreesLaw") (run_VT hx hb hml hown ht hK (P_left hP) (D_left hD) hZ hT (cw_V ht km_LA_25 ki_BT_get ks_BT_get ini_BT kd_BT_get kh_BT_get ⟨Nat.le_of_ble_eq_true rfl, Nat.le_of_ble_eq_true rfl⟩ rfl rfl) (q0 := 0) (ci := 0) (As := [.int p0]) (rest := [.int (0 : Int32), .ref ao]) rfl rfl rfl hl.1 rfl (Nat.le_of_ble_eq_true rfl) d_LA_get_4 ⟨by decide, by decide⟩) hP hD hS hA hown (x := (⟨0, 8, 11, 13⟩ : ExceptionTableEntry)) (t := [(⟨0, 8, 14, 15⟩ : ExceptionTableEntry)]) hex (by decide) (by decide) (ht _ kc_LA_13) (AS_self1 hZ.2.2.2) (fun v H locs hP hD hS => ?_)
      refine lv_astore_n (lv' := [(3, .ref v), (0, .ref (ad 0)), (1, .int p0), (2, .ref ao)]) hx hb d_LA_get_11 rfl hl (by decide) rfl (fun ls hl => ?_)
      refine lv_iconst (v := (1 : Int32)) hx hb d_LA_get_12 (by decide) ?_
      exact en_i (post := eqP res) (w1 := (fun u : (Nat → Int64) × (Unit) => ((cC G ad nb nt cfa cle cwr csl cst cen cby cto csh cdz cch cva css cve cro crc cma cbi ces cbl crt) ++ [(ao, .inl (G.2 3, 1, .inr (.inl u.1)))]))) (lou, ()) hx hb hr hlocks hK hP hD hS hres d_LA_get_13
    · have hres := it_f h1 hres
      have hT : CtT l y_BT_get b_BT_get 2 (some .long) rmT_BT_get G (cC G ad nb nt cfa cle cwr csl cst cen cby cto csh cdz cch cva css cve cro crc cma cbi ces cbl crt) s.heap.size [.ref (ad 0), .int p0] ISE := by
        have hT2 : CtT l y_BT_get b_BT_get 2 (some .long) rmT_BT_get G (cC G ad nb nt cfa cle cwr csl cst cen cby cto csh cdz cch cva css cve cro crc cma cbi ces cbl crt) s.heap.size [.ref (ad 0), .int p0] (excOf (th_BT_get p0 cfa)) := cT_BT_get hfl hokT rfl h0
        rw [show excOf (th_BT_get p0 cfa) = ISE from if_neg h1] at hT2
        exact hT2
      refine cat_2r (X := ISE) (Y := IAE) (own := "BookTreesLaw") (run_VT hx hb hml hown ht hK (P_left hP) (D_left hD) hZ hT (cw_V ht km_LA_25 ki_BT_get ks_BT_get ini_BT kd_BT_get kh_BT_get ⟨Nat.le_of_ble_eq_true rfl, Nat.le_of_ble_eq_true rfl⟩ rfl rfl) (q0 := 0) (ci := 0) (As := [.int p0]) (rest := [.int (0 : Int32), .ref ao]) rfl rfl rfl hl.1 rfl (Nat.le_of_ble_eq_true rfl) d_LA_get_4 ⟨by decide, by decide⟩) hP hD hS hA hown (x := (⟨0, 8, 11, 13⟩ : ExceptionTableEntry)) (x2 := (⟨0, 8, 14, 15⟩ : ExceptionTableEntry)) (t := []) hex (by decide) (by decide) (ht _ kc_LA_13) (by decide) (by decide) (ht _ kc_LA_15) (AS_self2 hZ.2.2.2) (AS_other hZ.2.2.2) (fun v H locs hP hD hS => ?_)
      refine lv_astore_n (lv' := [(3, .ref v), (0, .ref (ad 0)), (1, .int p0), (2, .ref ao)]) hx hb d_LA_get_14 rfl hl (by decide) rfl (fun ls hl => ?_)
      refine lv_iconst (v := (2 : Int32)) hx hb d_LA_get_15 (by decide) ?_
      exact en_i (post := eqP res) (w1 := (fun u : (Nat → Int64) × (Unit) => ((cC G ad nb nt cfa cle cwr csl cst cen cby cto csh cdz cch cva css cve cro crc cma cbi ces cbl crt) ++ [(ao, .inl (G.2 3, 1, .inr (.inl u.1)))]))) (lou, ()) hx hb hr hlocks hK hP hD hS hres d_LA_get_16
/-! ===== commit ===== -/
theorem kx_LA_commit : Cond.codeWith y_LA_commit b_LA_commit 3 (some .int) [(0, 8, 11, 15)] ∈ lw_g := gw (List.mem_of_getElem? (i := 492) (by decide +kernel)) rfl
theorem kh_LA_commit : y_LA_commit.cls ≠ "java/lang/invoke/MethodHandle" ∧ y_LA_commit.cls ≠ "java/lang/invoke/VarHandle" ∧ (parseMethodDescriptor y_LA_commit.desc).map (fun d => d.parameters.length) = some 2 := by decide +kernel
abbrev rm_LA_commit : Room := { frames := 8, cells := 1, slots := 6, locals := 161 }
def g_LA_commit  (lou : Nat → Int64) (cfa : Int32) (cle : Int32) (cwr : Int32) (csl : Int32) (cst : Int32) (cen : Int32) (cby : (Nat → Int32)) (cto : (Nat → Int32)) (csh : (Nat → Int32)) (cdz : Int32) (cch : (Nat → Int32)) (cva : (Nat → Int32)) (css : Int32) (cve : (Nat → Int32)) (cro : (Nat → Int32)) (crc : Int32) (cma : (Nat → Int32)) (cbi : (Nat → Int32)) (ces : (Nat → Int32)) (cbl : (Nat → Int32)) (crt : (Nat → Int32)) : Int32 × ((Nat → Int64) × (Int32 × Int32 × Int32 × Int32 × Int32 × (Nat → Int32) × (Nat → Int32) × (Nat → Int32) × Int32 × (Nat → Int32) × Int32 × (Nat → Int32) × (Nat → Int32) × Int32 × (Nat → Int32) × (Nat → Int32) × (Nat → Int32) × (Nat → Int32) × (Nat → Int32))) := if th_BT_commit cfa = 0 then bindc (f_BT_commit cfa cle cwr csl cst cen cby cto csh cdz cch cva css cve cro crc cma cbi ces cbl crt) (fun z_1 => ((0 : Int32), (vp_updL lou (0 : Int32).toNatClampNeg z_1.1.toInt64, z_1.2))) else ((1 : Int32), (lou, (cfa, cle, cwr, cst, cen, cby, cto, csh, cdz, cch, css, cve, cro, crc, cma, cbi, ces, cbl, crt)))
set_option maxHeartbeats 4000000 in
set_option maxRecDepth 100000 in
theorem cx_LA_commit {l : Launch} {G : GG} {ad : Nat → Nat} {ao : Nat} {nb : Nat} {nt : Nat} {sz : Nat} {cfa : Int32} {cle : Int32} {cwr : Int32} {csl : Int32} {cst : Int32} {cen : Int32} {cby : (Nat → Int32)} {cto : (Nat → Int32)} {csh : (Nat → Int32)} {cdz : Int32} {cch : (Nat → Int32)} {cva : (Nat → Int32)} {css : Int32} {cve : (Nat → Int32)} {cro : (Nat → Int32)} {crc : Int32} {cma : (Nat → Int32)} {cbi : (Nat → Int32)} {ces : (Nat → Int32)} {cbl : (Nat → Int32)} {crt : (Nat → Int32)}  {lou : Nat → Int64} (hfl : l.flags = flags0) (hokT : okT_BT_commit nb nt cfa) (hok : th_BT_commit cfa = 0 → ok_BT_commit nb nt cfa cle cwr csl cst cen cby cto csh cdz cch cva css cve cro crc cma cbi ces cbl crt) : CtX l y_LA_commit b_LA_commit 3 [(0, 8, 11, 15)] rm_LA_commit G ((cC G ad nb nt cfa cle cwr csl cst cen cby cto csh cdz cch cva css cve cro crc cma cbi ces cbl crt) ++ [(ao, .inl (G.2 3, 1, .inr (.inl lou)))]) sz [.ref (ad 0), .ref ao] (g_LA_commit lou cfa cle cwr csl cst cen cby cto csh cdz cch cva css cve cro crc cma cbi ces cbl crt) (fun u : (Nat → Int64) × (Int32 × Int32 × Int32 × Int32 × Int32 × (Nat → Int32) × (Nat → Int32) × (Nat → Int32) × Int32 × (Nat → Int32) × Int32 × (Nat → Int32) × (Nat → Int32) × Int32 × (Nat → Int32) × (Nat → Int32) × (Nat → Int32) × (Nat → Int32) × (Nat → Int32)) => ((cC G ad nb nt u.2.1 u.2.2.1 u.2.2.2.1 csl u.2.2.2.2.1 u.2.2.2.2.2.1 u.2.2.2.2.2.2.1 u.2.2.2.2.2.2.2.1 u.2.2.2.2.2.2.2.2.1 u.2.2.2.2.2.2.2.2.2.1 u.2.2.2.2.2.2.2.2.2.2.1 cva u.2.2.2.2.2.2.2.2.2.2.2.1 u.2.2.2.2.2.2.2.2.2.2.2.2.1 u.2.2.2.2.2.2.2.2.2.2.2.2.2.1 u.2.2.2.2.2.2.2.2.2.2.2.2.2.2.1 u.2.2.2.2.2.2.2.2.2.2.2.2.2.2.2.1 u.2.2.2.2.2.2.2.2.2.2.2.2.2.2.2.2.1 u.2.2.2.2.2.2.2.2.2.2.2.2.2.2.2.2.2.1 u.2.2.2.2.2.2.2.2.2.2.2.2.2.2.2.2.2.2.1 u.2.2.2.2.2.2.2.2.2.2.2.2.2.2.2.2.2.2.2) ++ [(ao, .inl (G.2 3, 1, .inr (.inl u.1)))])) := by
  generalize hres : g_LA_commit lou cfa cle cwr csl cst cen cby cto csh cdz cch cva css cve cro crc cma cbi ces cbl crt = res
  refine MetX_of (by decide) (Nat.le_of_ble_eq_true rfl) ?_
  intro p e s m below meth c hadm hx hb hr hml hown hlocks hex ht hK A hA hZ hP hD hS ls hl
  have hown : s.vm.findClass "BookTreesLaw" = some m.cls := hown
  have hl : lv_has ls 3 [(0, .ref (ad 0)), (1, .ref ao)] := hl
  rw [g_LA_commit] at hres
  refine lv_aload_n hx hb d_LA_commit_0 rfl (lv_at hl 1 rfl) ?_
  refine lv_iconst (v := (0 : Int32)) hx hb d_LA_commit_1 (by decide) ?_
  refine lv_aload_n hx hb d_LA_commit_2 rfl (lv_at hl 0 rfl) ?_
  by_cases h0 : th_BT_commit cfa = 0
  · have hres := it_t h0 hres
    refine go_ir (run_V hx hb hml hown ht hK (P_left hP) (D_left hD) (c_BT_commit (hok h0)) (cw_V ht km_LA_29 ki_BT_commit ks_BT_commit ini_BT kd_BT_commit kh_BT_commit ⟨Nat.le_of_ble_eq_true rfl, Nat.le_of_ble_eq_true rfl⟩ rfl rfl) (q0 := 0) (ci := 0) (As := []) (rest := [.int (0 : Int32), .ref ao]) rfl rfl rfl hl.1 rfl (Nat.le_of_ble_eq_true rfl) d_LA_commit_3 ⟨Nat.zero_le _, Nat.zero_le _⟩) hP hD hS hA (fun z_1 H locs hz hP hD hS => ?_)
    have hres := bindc_eq hz hres
    have hP : va_P G.1 classes ((cC G ad nb nt z_1.2.1 z_1.2.2.1 z_1.2.2.2.1 csl z_1.2.2.2.2.1 z_1.2.2.2.2.2.1 z_1.2.2.2.2.2.2.1 z_1.2.2.2.2.2.2.2.1 z_1.2.2.2.2.2.2.2.2.1 z_1.2.2.2.2.2.2.2.2.2.1 z_1.2.2.2.2.2.2.2.2.2.2.1 cva z_1.2.2.2.2.2.2.2.2.2.2.2.1 z_1.2.2.2.2.2.2.2.2.2.2.2.2.1 z_1.2.2.2.2.2.2.2.2.2.2.2.2.2.1 z_1.2.2.2.2.2.2.2.2.2.2.2.2.2.2.1 z_1.2.2.2.2.2.2.2.2.2.2.2.2.2.2.2.1 z_1.2.2.2.2.2.2.2.2.2.2.2.2.2.2.2.2.1 z_1.2.2.2.2.2.2.2.2.2.2.2.2.2.2.2.2.2.1 z_1.2.2.2.2.2.2.2.2.2.2.2.2.2.2.2.2.2.2.1 z_1.2.2.2.2.2.2.2.2.2.2.2.2.2.2.2.2.2.2.2) ++ [(ao, .inl (G.2 3, 1, .inr (.inl lou)))]) H := hP
    have hD : va_D A ((cC G ad nb nt z_1.2.1 z_1.2.2.1 z_1.2.2.2.1 csl z_1.2.2.2.2.1 z_1.2.2.2.2.2.1 z_1.2.2.2.2.2.2.1 z_1.2.2.2.2.2.2.2.1 z_1.2.2.2.2.2.2.2.2.1 z_1.2.2.2.2.2.2.2.2.2.1 z_1.2.2.2.2.2.2.2.2.2.2.1 cva z_1.2.2.2.2.2.2.2.2.2.2.2.1 z_1.2.2.2.2.2.2.2.2.2.2.2.2.1 z_1.2.2.2.2.2.2.2.2.2.2.2.2.2.1 z_1.2.2.2.2.2.2.2.2.2.2.2.2.2.2.1 z_1.2.2.2.2.2.2.2.2.2.2.2.2.2.2.2.1 z_1.2.2.2.2.2.2.2.2.2.2.2.2.2.2.2.2.1 z_1.2.2.2.2.2.2.2.2.2.2.2.2.2.2.2.2.2.1 z_1.2.2.2.2.2.2.2.2.2.2.2.2.2.2.2.2.2.2.1 z_1.2.2.2.2.2.2.2.2.2.2.2.2.2.2.2.2.2.2.2) ++ [(ao, .inl (G.2 3, 1, .inr (.inl lou)))]) := hD
    refine lv_i2l hx hb d_LA_commit_6 rfl ?_
    refine va_last hx hb hK hP hD hS 18 3 rfl rfl (show vp_in (0 : Int32) 1 by unfold vp_in; decide) d_LA_commit_7 (fun H locs hP hD hS => ?_)
    have hP : va_P G.1 classes ((cC G ad nb nt z_1.2.1 z_1.2.2.1 z_1.2.2.2.1 csl z_1.2.2.2.2.1 z_1.2.2.2.2.2.1 z_1.2.2.2.2.2.2.1 z_1.2.2.2.2.2.2.2.1 z_1.2.2.2.2.2.2.2.2.1 z_1.2.2.2.2.2.2.2.2.2.1 z_1.2.2.2.2.2.2.2.2.2.2.1 cva z_1.2.2.2.2.2.2.2.2.2.2.2.1 z_1.2.2.2.2.2.2.2.2.2.2.2.2.1 z_1.2.2.2.2.2.2.2.2.2.2.2.2.2.1 z_1.2.2.2.2.2.2.2.2.2.2.2.2.2.2.1 z_1.2.2.2.2.2.2.2.2.2.2.2.2.2.2.2.1 z_1.2.2.2.2.2.2.2.2.2.2.2.2.2.2.2.2.1 z_1.2.2.2.2.2.2.2.2.2.2.2.2.2.2.2.2.2.1 z_1.2.2.2.2.2.2.2.2.2.2.2.2.2.2.2.2.2.2.1 z_1.2.2.2.2.2.2.2.2.2.2.2.2.2.2.2.2.2.2.2) ++ [(ao, .inl (G.2 3, 1, .inr (.inl (vp_updL lou (0 : Int32).toNatClampNeg z_1.1.toInt64))))]) H := hP
    have hD : va_D A ((cC G ad nb nt z_1.2.1 z_1.2.2.1 z_1.2.2.2.1 csl z_1.2.2.2.2.1 z_1.2.2.2.2.2.1 z_1.2.2.2.2.2.2.1 z_1.2.2.2.2.2.2.2.1 z_1.2.2.2.2.2.2.2.2.1 z_1.2.2.2.2.2.2.2.2.2.1 z_1.2.2.2.2.2.2.2.2.2.2.1 cva z_1.2.2.2.2.2.2.2.2.2.2.2.1 z_1.2.2.2.2.2.2.2.2.2.2.2.2.1 z_1.2.2.2.2.2.2.2.2.2.2.2.2.2.1 z_1.2.2.2.2.2.2.2.2.2.2.2.2.2.2.1 z_1.2.2.2.2.2.2.2.2.2.2.2.2.2.2.2.1 z_1.2.2.2.2.2.2.2.2.2.2.2.2.2.2.2.2.1 z_1.2.2.2.2.2.2.2.2.2.2.2.2.2.2.2.2.2.1 z_1.2.2.2.2.2.2.2.2.2.2.2.2.2.2.2.2.2.2.1 z_1.2.2.2.2.2.2.2.2.2.2.2.2.2.2.2.2.2.2.2) ++ [(ao, .inl (G.2 3, 1, .inr (.inl (vp_updL lou (0 : Int32).toNatClampNeg z_1.1.toInt64))))]) := hD
    refine lv_goto (tgt := 14) hx hb d_LA_commit_8 (by decide) ?_
    refine W.widen (k := 1) (n := 6) (by omega) (by omega) ?_
    refine lv_iconst (v := (0 : Int32)) hx hb d_LA_commit_14 (by decide) ?_
    exact en_i (post := eqP res) (w1 := (fun u : (Nat → Int64) × (Int32 × Int32 × Int32 × Int32 × Int32 × (Nat → Int32) × (Nat → Int32) × (Nat → Int32) × Int32 × (Nat → Int32) × Int32 × (Nat → Int32) × (Nat → Int32) × Int32 × (Nat → Int32) × (Nat → Int32) × (Nat → Int32) × (Nat → Int32) × (Nat → Int32)) => ((cC G ad nb nt u.2.1 u.2.2.1 u.2.2.2.1 csl u.2.2.2.2.1 u.2.2.2.2.2.1 u.2.2.2.2.2.2.1 u.2.2.2.2.2.2.2.1 u.2.2.2.2.2.2.2.2.1 u.2.2.2.2.2.2.2.2.2.1 u.2.2.2.2.2.2.2.2.2.2.1 cva u.2.2.2.2.2.2.2.2.2.2.2.1 u.2.2.2.2.2.2.2.2.2.2.2.2.1 u.2.2.2.2.2.2.2.2.2.2.2.2.2.1 u.2.2.2.2.2.2.2.2.2.2.2.2.2.2.1 u.2.2.2.2.2.2.2.2.2.2.2.2.2.2.2.1 u.2.2.2.2.2.2.2.2.2.2.2.2.2.2.2.2.1 u.2.2.2.2.2.2.2.2.2.2.2.2.2.2.2.2.2.1 u.2.2.2.2.2.2.2.2.2.2.2.2.2.2.2.2.2.2.1 u.2.2.2.2.2.2.2.2.2.2.2.2.2.2.2.2.2.2.2) ++ [(ao, .inl (G.2 3, 1, .inr (.inl u.1)))]))) (((vp_updL lou (0 : Int32).toNatClampNeg z_1.1.toInt64), z_1.2)) hx hb hr hlocks hK hP hD hS hres d_LA_commit_15
  · have hres := it_f h0 hres
    have hT : CtT l y_BT_commit b_BT_commit 2 (some .int) rmT_BT_commit G (cC G ad nb nt cfa cle cwr csl cst cen cby cto csh cdz cch cva css cve cro crc cma cbi ces cbl crt) s.heap.size [.ref (ad 0)] ISE := by
      have hT2 : CtT l y_BT_commit b_BT_commit 2 (some .int) rmT_BT_commit G (cC G ad nb nt cfa cle cwr csl cst cen cby cto csh cdz cch cva css cve cro crc cma cbi ces cbl crt) s.heap.size [.ref (ad 0)] (excOf (th_BT_commit cfa)) := cT_BT_commit hfl hokT rfl h0
      rw [show excOf (th_BT_commit cfa) = ISE from if_neg (by intro h1; revert h1; unfold th_BT_commit; split <;> decide)] at hT2
      exact hT2
    refine cat_1r (X := ISE) (own := "BookTreesLaw") (run_VT hx hb hml hown ht hK (P_left hP) (D_left hD) hZ hT (cw_V ht km_LA_29 ki_BT_commit ks_BT_commit ini_BT kd_BT_commit kh_BT_commit ⟨Nat.le_of_ble_eq_true rfl, Nat.le_of_ble_eq_true rfl⟩ rfl rfl) (q0 := 0) (ci := 0) (As := []) (rest := [.int (0 : Int32), .ref ao]) rfl rfl rfl hl.1 rfl (Nat.le_of_ble_eq_true rfl) d_LA_commit_3 ⟨by decide, by decide⟩) hP hD hS hA hown (x := (⟨0, 8, 11, 15⟩ : ExceptionTableEntry)) (t := []) hex (by decide) (by decide) (ht _ kc_LA_15) (AS_self2 hZ.2.2.2) (fun v H locs hP hD hS => ?_)
    refine lv_astore_n (lv' := [(2, .ref v), (0, .ref (ad 0)), (1, .ref ao)]) hx hb d_LA_commit_11 rfl hl (by decide) rfl (fun ls hl => ?_)
    refine lv_iconst (v := (1 : Int32)) hx hb d_LA_commit_12 (by decide) ?_
    exact en_i (post := eqP res) (w1 := (fun u : (Nat → Int64) × (Int32 × Int32 × Int32 × Int32 × Int32 × (Nat → Int32) × (Nat → Int32) × (Nat → Int32) × Int32 × (Nat → Int32) × Int32 × (Nat → Int32) × (Nat → Int32) × Int32 × (Nat → Int32) × (Nat → Int32) × (Nat → Int32) × (Nat → Int32) × (Nat → Int32)) => ((cC G ad nb nt u.2.1 u.2.2.1 u.2.2.2.1 csl u.2.2.2.2.1 u.2.2.2.2.2.1 u.2.2.2.2.2.2.1 u.2.2.2.2.2.2.2.1 u.2.2.2.2.2.2.2.2.1 u.2.2.2.2.2.2.2.2.2.1 u.2.2.2.2.2.2.2.2.2.2.1 cva u.2.2.2.2.2.2.2.2.2.2.2.1 u.2.2.2.2.2.2.2.2.2.2.2.2.1 u.2.2.2.2.2.2.2.2.2.2.2.2.2.1 u.2.2.2.2.2.2.2.2.2.2.2.2.2.2.1 u.2.2.2.2.2.2.2.2.2.2.2.2.2.2.2.1 u.2.2.2.2.2.2.2.2.2.2.2.2.2.2.2.2.1 u.2.2.2.2.2.2.2.2.2.2.2.2.2.2.2.2.2.1 u.2.2.2.2.2.2.2.2.2.2.2.2.2.2.2.2.2.2.1 u.2.2.2.2.2.2.2.2.2.2.2.2.2.2.2.2.2.2.2) ++ [(ao, .inl (G.2 3, 1, .inr (.inl u.1)))]))) (lou, (cfa, cle, cwr, cst, cen, cby, cto, csh, cdz, cch, css, cve, cro, crc, cma, cbi, ces, cbl, crt)) hx hb hr hlocks hK hP hD hS hres d_LA_commit_13
/-! ===== copy ===== -/
theorem kx_LA_copy : Cond.codeWith y_LA_copy b_LA_copy 3 (some .int) [(0, 8, 11, 15)] ∈ lw_g := gw (List.mem_of_getElem? (i := 595) (by decide +kernel)) rfl
theorem kh_LA_copy : y_LA_copy.cls ≠ "java/lang/invoke/MethodHandle" ∧ y_LA_copy.cls ≠ "java/lang/invoke/VarHandle" ∧ (parseMethodDescriptor y_LA_copy.desc).map (fun d => d.parameters.length) = some 2 := by decide +kernel
abbrev rm_LA_copy : Room := { frames := 8, cells := 1, slots := 6, locals := 160 }
def g_LA_copy  (lou : Nat → Int64) (cfa : Int32) (cle : Int32) (cwr : Int32) (csl : Int32) (cst : Int32) (cen : Int32) (cby : (Nat → Int32)) (cto : (Nat → Int32)) (csh : (Nat → Int32)) (css : Int32) (cve : (Nat → Int32)) (cro : (Nat → Int32)) (crc : Int32) (cma : (Nat → Int32)) (cbi : (Nat → Int32)) (ces : (Nat → Int32)) (cbl : (Nat → Int32)) (crt : (Nat → Int32)) : Int32 × ((Nat → Int64) × (Int32 × Int32 × Int32 × Int32 × Int32 × (Nat → Int32) × (Nat → Int32) × (Nat → Int32) × Int32 × (Nat → Int32) × (Nat → Int32) × Int32 × (Nat → Int32) × (Nat → Int32) × (Nat → Int32) × (Nat → Int32) × (Nat → Int32))) := if th_BT_copy cfa = 0 then bindc (f_BT_copy cfa cle cwr csl cst cen cby cto csh css cve cro crc cma cbi ces cbl crt) (fun z_1 => ((0 : Int32), (vp_updL lou (0 : Int32).toNatClampNeg z_1.1.toInt64, z_1.2))) else ((1 : Int32), (lou, (cfa, cle, cwr, cst, cen, cby, cto, csh, css, cve, cro, crc, cma, cbi, ces, cbl, crt)))
set_option maxHeartbeats 4000000 in
set_option maxRecDepth 100000 in
theorem cx_LA_copy {l : Launch} {G : GG} {ad : Nat → Nat} {ao : Nat} {nb : Nat} {nt : Nat} {sz : Nat} {cfa : Int32} {cle : Int32} {cwr : Int32} {csl : Int32} {cst : Int32} {cen : Int32} {cby : (Nat → Int32)} {cto : (Nat → Int32)} {csh : (Nat → Int32)} {cdz : Int32} {cch : (Nat → Int32)} {cva : (Nat → Int32)} {css : Int32} {cve : (Nat → Int32)} {cro : (Nat → Int32)} {crc : Int32} {cma : (Nat → Int32)} {cbi : (Nat → Int32)} {ces : (Nat → Int32)} {cbl : (Nat → Int32)} {crt : (Nat → Int32)}  {lou : Nat → Int64} (hfl : l.flags = flags0) (hokT : okT_BT_copy nb nt cfa) (hok : th_BT_copy cfa = 0 → ok_BT_copy nb nt cfa cle cwr csl cst cen cby cto csh css cve cro crc cma cbi ces cbl crt) : CtX l y_LA_copy b_LA_copy 3 [(0, 8, 11, 15)] rm_LA_copy G ((cC G ad nb nt cfa cle cwr csl cst cen cby cto csh cdz cch cva css cve cro crc cma cbi ces cbl crt) ++ [(ao, .inl (G.2 3, 1, .inr (.inl lou)))]) sz [.ref (ad 0), .ref ao] (g_LA_copy lou cfa cle cwr csl cst cen cby cto csh css cve cro crc cma cbi ces cbl crt) (fun u : (Nat → Int64) × (Int32 × Int32 × Int32 × Int32 × Int32 × (Nat → Int32) × (Nat → Int32) × (Nat → Int32) × Int32 × (Nat → Int32) × (Nat → Int32) × Int32 × (Nat → Int32) × (Nat → Int32) × (Nat → Int32) × (Nat → Int32) × (Nat → Int32)) => ((cC G ad nb nt u.2.1 u.2.2.1 u.2.2.2.1 csl u.2.2.2.2.1 u.2.2.2.2.2.1 u.2.2.2.2.2.2.1 u.2.2.2.2.2.2.2.1 u.2.2.2.2.2.2.2.2.1 cdz cch cva u.2.2.2.2.2.2.2.2.2.1 u.2.2.2.2.2.2.2.2.2.2.1 u.2.2.2.2.2.2.2.2.2.2.2.1 u.2.2.2.2.2.2.2.2.2.2.2.2.1 u.2.2.2.2.2.2.2.2.2.2.2.2.2.1 u.2.2.2.2.2.2.2.2.2.2.2.2.2.2.1 u.2.2.2.2.2.2.2.2.2.2.2.2.2.2.2.1 u.2.2.2.2.2.2.2.2.2.2.2.2.2.2.2.2.1 u.2.2.2.2.2.2.2.2.2.2.2.2.2.2.2.2.2) ++ [(ao, .inl (G.2 3, 1, .inr (.inl u.1)))])) := by
  generalize hres : g_LA_copy lou cfa cle cwr csl cst cen cby cto csh css cve cro crc cma cbi ces cbl crt = res
  refine MetX_of (by decide) (Nat.le_of_ble_eq_true rfl) ?_
  intro p e s m below meth c hadm hx hb hr hml hown hlocks hex ht hK A hA hZ hP hD hS ls hl
  have hown : s.vm.findClass "BookTreesLaw" = some m.cls := hown
  have hl : lv_has ls 3 [(0, .ref (ad 0)), (1, .ref ao)] := hl
  rw [g_LA_copy] at hres
  refine lv_aload_n hx hb d_LA_copy_0 rfl (lv_at hl 1 rfl) ?_
  refine lv_iconst (v := (0 : Int32)) hx hb d_LA_copy_1 (by decide) ?_
  refine lv_aload_n hx hb d_LA_copy_2 rfl (lv_at hl 0 rfl) ?_
  by_cases h0 : th_BT_copy cfa = 0
  · have hres := it_t h0 hres
    refine go_ir (run_V hx hb hml hown ht hK (P_left hP) (D_left hD) (c_BT_copy (hok h0)) (cw_V ht km_LA_32 ki_BT_copy ks_BT_copy ini_BT kd_BT_copy kh_BT_copy ⟨Nat.le_of_ble_eq_true rfl, Nat.le_of_ble_eq_true rfl⟩ rfl rfl) (q0 := 0) (ci := 0) (As := []) (rest := [.int (0 : Int32), .ref ao]) rfl rfl rfl hl.1 rfl (Nat.le_of_ble_eq_true rfl) d_LA_copy_3 ⟨Nat.zero_le _, Nat.zero_le _⟩) hP hD hS hA (fun z_1 H locs hz hP hD hS => ?_)
    have hres := bindc_eq hz hres
    have hP : va_P G.1 classes ((cC G ad nb nt z_1.2.1 z_1.2.2.1 z_1.2.2.2.1 csl z_1.2.2.2.2.1 z_1.2.2.2.2.2.1 z_1.2.2.2.2.2.2.1 z_1.2.2.2.2.2.2.2.1 z_1.2.2.2.2.2.2.2.2.1 cdz cch cva z_1.2.2.2.2.2.2.2.2.2.1 z_1.2.2.2.2.2.2.2.2.2.2.1 z_1.2.2.2.2.2.2.2.2.2.2.2.1 z_1.2.2.2.2.2.2.2.2.2.2.2.2.1 z_1.2.2.2.2.2.2.2.2.2.2.2.2.2.1 z_1.2.2.2.2.2.2.2.2.2.2.2.2.2.2.1 z_1.2.2.2.2.2.2.2.2.2.2.2.2.2.2.2.1 z_1.2.2.2.2.2.2.2.2.2.2.2.2.2.2.2.2.1 z_1.2.2.2.2.2.2.2.2.2.2.2.2.2.2.2.2.2) ++ [(ao, .inl (G.2 3, 1, .inr (.inl lou)))]) H := hP
    have hD : va_D A ((cC G ad nb nt z_1.2.1 z_1.2.2.1 z_1.2.2.2.1 csl z_1.2.2.2.2.1 z_1.2.2.2.2.2.1 z_1.2.2.2.2.2.2.1 z_1.2.2.2.2.2.2.2.1 z_1.2.2.2.2.2.2.2.2.1 cdz cch cva z_1.2.2.2.2.2.2.2.2.2.1 z_1.2.2.2.2.2.2.2.2.2.2.1 z_1.2.2.2.2.2.2.2.2.2.2.2.1 z_1.2.2.2.2.2.2.2.2.2.2.2.2.1 z_1.2.2.2.2.2.2.2.2.2.2.2.2.2.1 z_1.2.2.2.2.2.2.2.2.2.2.2.2.2.2.1 z_1.2.2.2.2.2.2.2.2.2.2.2.2.2.2.2.1 z_1.2.2.2.2.2.2.2.2.2.2.2.2.2.2.2.2.1 z_1.2.2.2.2.2.2.2.2.2.2.2.2.2.2.2.2.2) ++ [(ao, .inl (G.2 3, 1, .inr (.inl lou)))]) := hD
    refine lv_i2l hx hb d_LA_copy_6 rfl ?_
    refine va_last hx hb hK hP hD hS 18 3 rfl rfl (show vp_in (0 : Int32) 1 by unfold vp_in; decide) d_LA_copy_7 (fun H locs hP hD hS => ?_)
    have hP : va_P G.1 classes ((cC G ad nb nt z_1.2.1 z_1.2.2.1 z_1.2.2.2.1 csl z_1.2.2.2.2.1 z_1.2.2.2.2.2.1 z_1.2.2.2.2.2.2.1 z_1.2.2.2.2.2.2.2.1 z_1.2.2.2.2.2.2.2.2.1 cdz cch cva z_1.2.2.2.2.2.2.2.2.2.1 z_1.2.2.2.2.2.2.2.2.2.2.1 z_1.2.2.2.2.2.2.2.2.2.2.2.1 z_1.2.2.2.2.2.2.2.2.2.2.2.2.1 z_1.2.2.2.2.2.2.2.2.2.2.2.2.2.1 z_1.2.2.2.2.2.2.2.2.2.2.2.2.2.2.1 z_1.2.2.2.2.2.2.2.2.2.2.2.2.2.2.2.1 z_1.2.2.2.2.2.2.2.2.2.2.2.2.2.2.2.2.1 z_1.2.2.2.2.2.2.2.2.2.2.2.2.2.2.2.2.2) ++ [(ao, .inl (G.2 3, 1, .inr (.inl (vp_updL lou (0 : Int32).toNatClampNeg z_1.1.toInt64))))]) H := hP
    have hD : va_D A ((cC G ad nb nt z_1.2.1 z_1.2.2.1 z_1.2.2.2.1 csl z_1.2.2.2.2.1 z_1.2.2.2.2.2.1 z_1.2.2.2.2.2.2.1 z_1.2.2.2.2.2.2.2.1 z_1.2.2.2.2.2.2.2.2.1 cdz cch cva z_1.2.2.2.2.2.2.2.2.2.1 z_1.2.2.2.2.2.2.2.2.2.2.1 z_1.2.2.2.2.2.2.2.2.2.2.2.1 z_1.2.2.2.2.2.2.2.2.2.2.2.2.1 z_1.2.2.2.2.2.2.2.2.2.2.2.2.2.1 z_1.2.2.2.2.2.2.2.2.2.2.2.2.2.2.1 z_1.2.2.2.2.2.2.2.2.2.2.2.2.2.2.2.1 z_1.2.2.2.2.2.2.2.2.2.2.2.2.2.2.2.2.1 z_1.2.2.2.2.2.2.2.2.2.2.2.2.2.2.2.2.2) ++ [(ao, .inl (G.2 3, 1, .inr (.inl (vp_updL lou (0 : Int32).toNatClampNeg z_1.1.toInt64))))]) := hD
    refine lv_goto (tgt := 14) hx hb d_LA_copy_8 (by decide) ?_
    refine W.widen (k := 1) (n := 6) (by omega) (by omega) ?_
    refine lv_iconst (v := (0 : Int32)) hx hb d_LA_copy_14 (by decide) ?_
    exact en_i (post := eqP res) (w1 := (fun u : (Nat → Int64) × (Int32 × Int32 × Int32 × Int32 × Int32 × (Nat → Int32) × (Nat → Int32) × (Nat → Int32) × Int32 × (Nat → Int32) × (Nat → Int32) × Int32 × (Nat → Int32) × (Nat → Int32) × (Nat → Int32) × (Nat → Int32) × (Nat → Int32)) => ((cC G ad nb nt u.2.1 u.2.2.1 u.2.2.2.1 csl u.2.2.2.2.1 u.2.2.2.2.2.1 u.2.2.2.2.2.2.1 u.2.2.2.2.2.2.2.1 u.2.2.2.2.2.2.2.2.1 cdz cch cva u.2.2.2.2.2.2.2.2.2.1 u.2.2.2.2.2.2.2.2.2.2.1 u.2.2.2.2.2.2.2.2.2.2.2.1 u.2.2.2.2.2.2.2.2.2.2.2.2.1 u.2.2.2.2.2.2.2.2.2.2.2.2.2.1 u.2.2.2.2.2.2.2.2.2.2.2.2.2.2.1 u.2.2.2.2.2.2.2.2.2.2.2.2.2.2.2.1 u.2.2.2.2.2.2.2.2.2.2.2.2.2.2.2.2.1 u.2.2.2.2.2.2.2.2.2.2.2.2.2.2.2.2.2) ++ [(ao, .inl (G.2 3, 1, .inr (.inl u.1)))]))) (((vp_updL lou (0 : Int32).toNatClampNeg z_1.1.toInt64), z_1.2)) hx hb hr hlocks hK hP hD hS hres d_LA_copy_15
  · have hres := it_f h0 hres
    have hT : CtT l y_BT_copy b_BT_copy 1 (some .int) rmT_BT_copy G (cC G ad nb nt cfa cle cwr csl cst cen cby cto csh cdz cch cva css cve cro crc cma cbi ces cbl crt) s.heap.size [.ref (ad 0)] ISE := by
      have hT2 : CtT l y_BT_copy b_BT_copy 1 (some .int) rmT_BT_copy G (cC G ad nb nt cfa cle cwr csl cst cen cby cto csh cdz cch cva css cve cro crc cma cbi ces cbl crt) s.heap.size [.ref (ad 0)] (excOf (th_BT_copy cfa)) := cT_BT_copy hfl hokT rfl h0
      rw [show excOf (th_BT_copy cfa) = ISE from if_neg (by intro h1; revert h1; unfold th_BT_copy; split <;> decide)] at hT2
      exact hT2
    refine cat_1r (X := ISE) (own := "BookTreesLaw") (run_VT hx hb hml hown ht hK (P_left hP) (D_left hD) hZ hT (cw_V ht km_LA_32 ki_BT_copy ks_BT_copy ini_BT kd_BT_copy kh_BT_copy ⟨Nat.le_of_ble_eq_true rfl, Nat.le_of_ble_eq_true rfl⟩ rfl rfl) (q0 := 0) (ci := 0) (As := []) (rest := [.int (0 : Int32), .ref ao]) rfl rfl rfl hl.1 rfl (Nat.le_of_ble_eq_true rfl) d_LA_copy_3 ⟨by decide, by decide⟩) hP hD hS hA hown (x := (⟨0, 8, 11, 15⟩ : ExceptionTableEntry)) (t := []) hex (by decide) (by decide) (ht _ kc_LA_15) (AS_self2 hZ.2.2.2) (fun v H locs hP hD hS => ?_)
    refine lv_astore_n (lv' := [(2, .ref v), (0, .ref (ad 0)), (1, .ref ao)]) hx hb d_LA_copy_11 rfl hl (by decide) rfl (fun ls hl => ?_)
    refine lv_iconst (v := (1 : Int32)) hx hb d_LA_copy_12 (by decide) ?_
    exact en_i (post := eqP res) (w1 := (fun u : (Nat → Int64) × (Int32 × Int32 × Int32 × Int32 × Int32 × (Nat → Int32) × (Nat → Int32) × (Nat → Int32) × Int32 × (Nat → Int32) × (Nat → Int32) × Int32 × (Nat → Int32) × (Nat → Int32) × (Nat → Int32) × (Nat → Int32) × (Nat → Int32)) => ((cC G ad nb nt u.2.1 u.2.2.1 u.2.2.2.1 csl u.2.2.2.2.1 u.2.2.2.2.2.1 u.2.2.2.2.2.2.1 u.2.2.2.2.2.2.2.1 u.2.2.2.2.2.2.2.2.1 cdz cch cva u.2.2.2.2.2.2.2.2.2.1 u.2.2.2.2.2.2.2.2.2.2.1 u.2.2.2.2.2.2.2.2.2.2.2.1 u.2.2.2.2.2.2.2.2.2.2.2.2.1 u.2.2.2.2.2.2.2.2.2.2.2.2.2.1 u.2.2.2.2.2.2.2.2.2.2.2.2.2.2.1 u.2.2.2.2.2.2.2.2.2.2.2.2.2.2.2.1 u.2.2.2.2.2.2.2.2.2.2.2.2.2.2.2.2.1 u.2.2.2.2.2.2.2.2.2.2.2.2.2.2.2.2.2) ++ [(ao, .inl (G.2 3, 1, .inr (.inl u.1)))]))) (lou, (cfa, cle, cwr, cst, cen, cby, cto, csh, css, cve, cro, crc, cma, cbi, ces, cbl, crt)) hx hb hr hlocks hK hP hD hS hres d_LA_copy_13
/-! ===== find ===== -/
theorem kx_LA_find : Cond.codeWith y_LA_find b_LA_find 5 (some .int) [(0, 9, 12, 13), (0, 9, 16, 15)] ∈ lw_g := gw (List.mem_of_getElem? (i := 606) (by decide +kernel)) rfl
theorem kh_LA_find : y_LA_find.cls ≠ "java/lang/invoke/MethodHandle" ∧ y_LA_find.cls ≠ "java/lang/invoke/VarHandle" ∧ (parseMethodDescriptor y_LA_find.desc).map (fun d => d.parameters.length) = some 4 := by decide +kernel
abbrev rm_LA_find : Room := { frames := 8, cells := 1, slots := 6, locals := 186 }
def g_LA_find (p0 : Int32) (p1 : Int32) (lou : Nat → Int64) (cfa : Int32) (csl : Int32) (cst : Int32) (cen : Int32) (cby : (Nat → Int32)) (cto : (Nat → Int32)) (css : Int32) (cve : (Nat → Int32)) (cro : (Nat → Int32)) : Int32 × ((Nat → Int64) × (Unit)) := if th_BT_find p0 p1 cfa cst css cve cro = 0 then bindc (f_BT_find p0 p1 cfa csl cst cen cby cto css cve cro) (fun z_1 => ((0 : Int32), (vp_updL lou (0 : Int32).toNatClampNeg z_1.1, z_1.2))) else if th_BT_find p0 p1 cfa cst css cve cro = 1 then ((1 : Int32), (lou, ())) else ((2 : Int32), (lou, ()))
set_option maxHeartbeats 4000000 in
set_option maxRecDepth 100000 in
theorem cx_LA_find {l : Launch} {G : GG} {ad : Nat → Nat} {ao : Nat} {nb : Nat} {nt : Nat} {sz : Nat} {cfa : Int32} {cle : Int32} {cwr : Int32} {csl : Int32} {cst : Int32} {cen : Int32} {cby : (Nat → Int32)} {cto : (Nat → Int32)} {csh : (Nat → Int32)} {cdz : Int32} {cch : (Nat → Int32)} {cva : (Nat → Int32)} {css : Int32} {cve : (Nat → Int32)} {cro : (Nat → Int32)} {crc : Int32} {cma : (Nat → Int32)} {cbi : (Nat → Int32)} {ces : (Nat → Int32)} {cbl : (Nat → Int32)} {crt : (Nat → Int32)} {p0 : Int32} {p1 : Int32} {lou : Nat → Int64} (hfl : l.flags = flags0) (hokT : okT_BT_find nb nt p0 p1 cfa cst css cve cro) (hok : th_BT_find p0 p1 cfa cst css cve cro = 0 → ok_BT_find nb nt p0 p1 cfa csl cst cen cby cto css cve cro) : CtX l y_LA_find b_LA_find 5 [(0, 9, 12, 13), (0, 9, 16, 15)] rm_LA_find G ((cC G ad nb nt cfa cle cwr csl cst cen cby cto csh cdz cch cva css cve cro crc cma cbi ces cbl crt) ++ [(ao, .inl (G.2 3, 1, .inr (.inl lou)))]) sz [.ref (ad 0), .int p0, .int p1, .ref ao] (g_LA_find p0 p1 lou cfa csl cst cen cby cto css cve cro) (fun u : (Nat → Int64) × (Unit) => ((cC G ad nb nt cfa cle cwr csl cst cen cby cto csh cdz cch cva css cve cro crc cma cbi ces cbl crt) ++ [(ao, .inl (G.2 3, 1, .inr (.inl u.1)))])) := by
  generalize hres : g_LA_find p0 p1 lou cfa csl cst cen cby cto css cve cro = res
  refine MetX_of (by decide) (Nat.le_of_ble_eq_true rfl) ?_
  intro p e s m below meth c hadm hx hb hr hml hown hlocks hex ht hK A hA hZ hP hD hS ls hl
  have hown : s.vm.findClass "BookTreesLaw" = some m.cls := hown
  have hl : lv_has ls 5 [(0, .ref (ad 0)), (1, .int p0), (2, .int p1), (3, .ref ao)] := hl
  rw [g_LA_find] at hres
  refine lv_aload_n hx hb d_LA_find_0 rfl (lv_at hl 3 rfl) ?_
  refine lv_iconst (v := (0 : Int32)) hx hb d_LA_find_1 (by decide) ?_
  refine lv_aload_n hx hb d_LA_find_2 rfl (lv_at hl 0 rfl) ?_
  refine lv_iload_n hx hb d_LA_find_3 rfl (lv_at hl 1 rfl) ?_
  refine lv_iload_n hx hb d_LA_find_4 rfl (lv_at hl 2 rfl) ?_
  by_cases h0 : th_BT_find p0 p1 cfa cst css cve cro = 0
  · have hres := it_t h0 hres
    refine go_lr (run_V hx hb hml hown ht hK (P_left hP) (D_left hD) (c_BT_find (hok h0)) (cw_V ht km_LA_35 ki_BT_find ks_BT_find ini_BT kd_BT_find kh_BT_find ⟨Nat.le_of_ble_eq_true rfl, Nat.le_of_ble_eq_true rfl⟩ rfl rfl) (q0 := 0) (ci := 0) (As := [.int p0, .int p1]) (rest := [.int (0 : Int32), .ref ao]) rfl rfl rfl hl.1 rfl (Nat.le_of_ble_eq_true rfl) d_LA_find_5 ⟨Nat.zero_le _, Nat.zero_le _⟩) hP hD hS hA (fun z_1 H locs hz hP hD hS => ?_)
    have hres := bindc_eq hz hres
    have hP : va_P G.1 classes ((cC G ad nb nt cfa cle cwr csl cst cen cby cto csh cdz cch cva css cve cro crc cma cbi ces cbl crt) ++ [(ao, .inl (G.2 3, 1, .inr (.inl lou)))]) H := hP
    have hD : va_D A ((cC G ad nb nt cfa cle cwr csl cst cen cby cto csh cdz cch cva css cve cro crc cma cbi ces cbl crt) ++ [(ao, .inl (G.2 3, 1, .inr (.inl lou)))]) := hD
    refine va_last hx hb hK hP hD hS 18 3 rfl rfl (show vp_in (0 : Int32) 1 by unfold vp_in; decide) d_LA_find_8 (fun H locs hP hD hS => ?_)
    have hP : va_P G.1 classes ((cC G ad nb nt cfa cle cwr csl cst cen cby cto csh cdz cch cva css cve cro crc cma cbi ces cbl crt) ++ [(ao, .inl (G.2 3, 1, .inr (.inl (vp_updL lou (0 : Int32).toNatClampNeg z_1.1))))]) H := hP
    have hD : va_D A ((cC G ad nb nt cfa cle cwr csl cst cen cby cto csh cdz cch cva css cve cro crc cma cbi ces cbl crt) ++ [(ao, .inl (G.2 3, 1, .inr (.inl (vp_updL lou (0 : Int32).toNatClampNeg z_1.1))))]) := hD
    refine lv_goto (tgt := 20) hx hb d_LA_find_9 (by decide) ?_
    refine W.widen (k := 1) (n := 6) (by omega) (by omega) ?_
    refine lv_iconst (v := (0 : Int32)) hx hb d_LA_find_20 (by decide) ?_
    exact en_i (post := eqP res) (w1 := (fun u : (Nat → Int64) × (Unit) => ((cC G ad nb nt cfa cle cwr csl cst cen cby cto csh cdz cch cva css cve cro crc cma cbi ces cbl crt) ++ [(ao, .inl (G.2 3, 1, .inr (.inl u.1)))]))) (((vp_updL lou (0 : Int32).toNatClampNeg z_1.1), z_1.2)) hx hb hr hlocks hK hP hD hS hres d_LA_find_21
  · have hres := it_f h0 hres
    by_cases h1 : th_BT_find p0 p1 cfa cst css cve cro = 1
    · have hres := it_t h1 hres
      have hT : CtT l y_BT_find b_BT_find 3 (some .long) rmT_BT_find G (cC G ad nb nt cfa cle cwr csl cst cen cby cto csh cdz cch cva css cve cro crc cma cbi ces cbl crt) s.heap.size [.ref (ad 0), .int p0, .int p1] IAE := cT_BT_find (k := 1) hfl hokT h1 (by decide)
      refine cat_1r (X := IAE) (own := "BookTreesLaw") (run_VT hx hb hml hown ht hK (P_left hP) (D_left hD) hZ hT (cw_V ht km_LA_35 ki_BT_find ks_BT_find ini_BT kd_BT_find kh_BT_find ⟨Nat.le_of_ble_eq_true rfl, Nat.le_of_ble_eq_true rfl⟩ rfl rfl) (q0 := 0) (ci := 0) (As := [.int p0, .int p1]) (rest := [.int (0 : Int32), .ref ao]) rfl rfl rfl hl.1 rfl (Nat.le_of_ble_eq_true rfl) d_LA_find_5 ⟨by decide, by decide⟩) hP hD hS hA hown (x := (⟨0, 9, 12, 13⟩ : ExceptionTableEntry)) (t := [(⟨0, 9, 16, 15⟩ : ExceptionTableEntry)]) hex (by decide) (by decide) (ht _ kc_LA_13) (AS_self1 hZ.2.2.2) (fun v H locs hP hD hS => ?_)
      refine lv_astore (lv' := [(4, .ref v), (0, .ref (ad 0)), (1, .int p0), (2, .int p1), (3, .ref ao)]) hx hb d_LA_find_12 hl (by decide) rfl (fun ls hl => ?_)
      refine lv_iconst (v := (1 : Int32)) hx hb d_LA_find_14 (by decide) ?_
      exact en_i (post := eqP res) (w1 := (fun u : (Nat → Int64) × (Unit) => ((cC G ad nb nt cfa cle cwr csl cst cen cby cto csh cdz cch cva css cve cro crc cma cbi ces cbl crt) ++ [(ao, .inl (G.2 3, 1, .inr (.inl u.1)))]))) (lou, ()) hx hb hr hlocks hK hP hD hS hres d_LA_find_15
    · have hres := it_f h1 hres
      have hT : CtT l y_BT_find b_BT_find 3 (some .long) rmT_BT_find G (cC G ad nb nt cfa cle cwr csl cst cen cby cto csh cdz cch cva css cve cro crc cma cbi ces cbl crt) s.heap.size [.ref (ad 0), .int p0, .int p1] ISE := by
        have hT2 : CtT l y_BT_find b_BT_find 3 (some .long) rmT_BT_find G (cC G ad nb nt cfa cle cwr csl cst cen cby cto csh cdz cch cva css cve cro crc cma cbi ces cbl crt) s.heap.size [.ref (ad 0), .int p0, .int p1] (excOf (th_BT_find p0 p1 cfa cst css cve cro)) := cT_BT_find hfl hokT rfl h0
        rw [show excOf (th_BT_find p0 p1 cfa cst css cve cro) = ISE from if_neg h1] at hT2
        exact hT2
      refine cat_2r (X := ISE) (Y := IAE) (own := "BookTreesLaw") (run_VT hx hb hml hown ht hK (P_left hP) (D_left hD) hZ hT (cw_V ht km_LA_35 ki_BT_find ks_BT_find ini_BT kd_BT_find kh_BT_find ⟨Nat.le_of_ble_eq_true rfl, Nat.le_of_ble_eq_true rfl⟩ rfl rfl) (q0 := 0) (ci := 0) (As := [.int p0, .int p1]) (rest := [.int (0 : Int32), .ref ao]) rfl rfl rfl hl.1 rfl (Nat.le_of_ble_eq_true rfl) d_LA_find_5 ⟨by decide, by decide⟩) hP hD hS hA hown (x := (⟨0, 9, 12, 13⟩ : ExceptionTableEntry)) (x2 := (⟨0, 9, 16, 15⟩ : ExceptionTableEntry)) (t := []) hex (by decide) (by decide) (ht _ kc_LA_13) (by decide) (by decide) (ht _ kc_LA_15) (AS_self2 hZ.2.2.2) (AS_other hZ.2.2.2) (fun v H locs hP hD hS => ?_)
      refine lv_astore (lv' := [(4, .ref v), (0, .ref (ad 0)), (1, .int p0), (2, .int p1), (3, .ref ao)]) hx hb d_LA_find_16 hl (by decide) rfl (fun ls hl => ?_)
      refine lv_iconst (v := (2 : Int32)) hx hb d_LA_find_18 (by decide) ?_
      exact en_i (post := eqP res) (w1 := (fun u : (Nat → Int64) × (Unit) => ((cC G ad nb nt cfa cle cwr csl cst cen cby cto csh cdz cch cva css cve cro crc cma cbi ces cbl crt) ++ [(ao, .inl (G.2 3, 1, .inr (.inl u.1)))]))) (lou, ()) hx hb hr hlocks hK hP hD hS hres d_LA_find_19
/-! ===== next ===== -/
theorem kx_LA_next : Cond.codeWith y_LA_next b_LA_next 5 (some .int) [(0, 10, 13, 13), (0, 10, 17, 15)] ∈ lw_g := gw (List.mem_of_getElem? (i := 621) (by decide +kernel)) rfl
theorem kh_LA_next : y_LA_next.cls ≠ "java/lang/invoke/MethodHandle" ∧ y_LA_next.cls ≠ "java/lang/invoke/VarHandle" ∧ (parseMethodDescriptor y_LA_next.desc).map (fun d => d.parameters.length) = some 4 := by decide +kernel
abbrev rm_LA_next : Room := { frames := 8, cells := 1, slots := 6, locals := 168 }
def g_LA_next (p0 : Int32) (p1 : Int32) (lou : Nat → Int64) (cfa : Int32) (csl : Int32) (cst : Int32) (cen : Int32) (cby : (Nat → Int32)) (cto : (Nat → Int32)) (css : Int32) (cve : (Nat → Int32)) (cro : (Nat → Int32)) : Int32 × ((Nat → Int64) × (Unit)) := if th_BT_next p0 p1 cfa cst css cve cro = 0 then bindc (f_BT_next p0 p1 cfa csl cst cen cby cto css cve cro) (fun z_1 => ((0 : Int32), (vp_updL lou (0 : Int32).toNatClampNeg z_1.1.toInt64, z_1.2))) else if th_BT_next p0 p1 cfa cst css cve cro = 1 then ((1 : Int32), (lou, ())) else ((2 : Int32), (lou, ()))
set_option maxHeartbeats 4000000 in
set_option maxRecDepth 100000 in
theorem cx_LA_next {l : Launch} {G : GG} {ad : Nat → Nat} {ao : Nat} {nb : Nat} {nt : Nat} {sz : Nat} {cfa : Int32} {cle : Int32} {cwr : Int32} {csl : Int32} {cst : Int32} {cen : Int32} {cby : (Nat → Int32)} {cto : (Nat → Int32)} {csh : (Nat → Int32)} {cdz : Int32} {cch : (Nat → Int32)} {cva : (Nat → Int32)} {css : Int32} {cve : (Nat → Int32)} {cro : (Nat → Int32)} {crc : Int32} {cma : (Nat → Int32)} {cbi : (Nat → Int32)} {ces : (Nat → Int32)} {cbl : (Nat → Int32)} {crt : (Nat → Int32)} {p0 : Int32} {p1 : Int32} {lou : Nat → Int64} (hfl : l.flags = flags0) (hokT : okT_BT_next nb nt p0 p1 cfa cst css cve cro) (hok : th_BT_next p0 p1 cfa cst css cve cro = 0 → ok_BT_next nb nt p0 p1 cfa csl cst cen cby cto css cve cro) : CtX l y_LA_next b_LA_next 5 [(0, 10, 13, 13), (0, 10, 17, 15)] rm_LA_next G ((cC G ad nb nt cfa cle cwr csl cst cen cby cto csh cdz cch cva css cve cro crc cma cbi ces cbl crt) ++ [(ao, .inl (G.2 3, 1, .inr (.inl lou)))]) sz [.ref (ad 0), .int p0, .int p1, .ref ao] (g_LA_next p0 p1 lou cfa csl cst cen cby cto css cve cro) (fun u : (Nat → Int64) × (Unit) => ((cC G ad nb nt cfa cle cwr csl cst cen cby cto csh cdz cch cva css cve cro crc cma cbi ces cbl crt) ++ [(ao, .inl (G.2 3, 1, .inr (.inl u.1)))])) := by
  generalize hres : g_LA_next p0 p1 lou cfa csl cst cen cby cto css cve cro = res
  refine MetX_of (by decide) (Nat.le_of_ble_eq_true rfl) ?_
  intro p e s m below meth c hadm hx hb hr hml hown hlocks hex ht hK A hA hZ hP hD hS ls hl
  have hown : s.vm.findClass "BookTreesLaw" = some m.cls := hown
  have hl : lv_has ls 5 [(0, .ref (ad 0)), (1, .int p0), (2, .int p1), (3, .ref ao)] := hl
  rw [g_LA_next] at hres
  refine lv_aload_n hx hb d_LA_next_0 rfl (lv_at hl 3 rfl) ?_
  refine lv_iconst (v := (0 : Int32)) hx hb d_LA_next_1 (by decide) ?_
  refine lv_aload_n hx hb d_LA_next_2 rfl (lv_at hl 0 rfl) ?_
  refine lv_iload_n hx hb d_LA_next_3 rfl (lv_at hl 1 rfl) ?_
  refine lv_iload_n hx hb d_LA_next_4 rfl (lv_at hl 2 rfl) ?_
  by_cases h0 : th_BT_next p0 p1 cfa cst css cve cro = 0
  · have hres := it_t h0 hres
    refine go_ir (run_V hx hb hml hown ht hK (P_left hP) (D_left hD) (c_BT_next (hok h0)) (cw_V ht km_LA_39 ki_BT_next ks_BT_next ini_BT kd_BT_next kh_BT_next ⟨Nat.le_of_ble_eq_true rfl, Nat.le_of_ble_eq_true rfl⟩ rfl rfl) (q0 := 0) (ci := 0) (As := [.int p0, .int p1]) (rest := [.int (0 : Int32), .ref ao]) rfl rfl rfl hl.1 rfl (Nat.le_of_ble_eq_true rfl) d_LA_next_5 ⟨Nat.zero_le _, Nat.zero_le _⟩) hP hD hS hA (fun z_1 H locs hz hP hD hS => ?_)
    have hres := bindc_eq hz hres
    have hP : va_P G.1 classes ((cC G ad nb nt cfa cle cwr csl cst cen cby cto csh cdz cch cva css cve cro crc cma cbi ces cbl crt) ++ [(ao, .inl (G.2 3, 1, .inr (.inl lou)))]) H := hP
    have hD : va_D A ((cC G ad nb nt cfa cle cwr csl cst cen cby cto csh cdz cch cva css cve cro crc cma cbi ces cbl crt) ++ [(ao, .inl (G.2 3, 1, .inr (.inl lou)))]) := hD
    refine lv_i2l hx hb d_LA_next_8 rfl ?_
    refine va_last hx hb hK hP hD hS 18 3 rfl rfl (show vp_in (0 : Int32) 1 by unfold vp_in; decide) d_LA_next_9 (fun H locs hP hD hS => ?_)
    have hP : va_P G.1 classes ((cC G ad nb nt cfa cle cwr csl cst cen cby cto csh cdz cch cva css cve cro crc cma cbi ces cbl crt) ++ [(ao, .inl (G.2 3, 1, .inr (.inl (vp_updL lou (0 : Int32).toNatClampNeg z_1.1.toInt64))))]) H := hP
    have hD : va_D A ((cC G ad nb nt cfa cle cwr csl cst cen cby cto csh cdz cch cva css cve cro crc cma cbi ces cbl crt) ++ [(ao, .inl (G.2 3, 1, .inr (.inl (vp_updL lou (0 : Int32).toNatClampNeg z_1.1.toInt64))))]) := hD
    refine lv_goto (tgt := 21) hx hb d_LA_next_10 (by decide) ?_
    refine W.widen (k := 1) (n := 6) (by omega) (by omega) ?_
    refine lv_iconst (v := (0 : Int32)) hx hb d_LA_next_21 (by decide) ?_
    exact en_i (post := eqP res) (w1 := (fun u : (Nat → Int64) × (Unit) => ((cC G ad nb nt cfa cle cwr csl cst cen cby cto csh cdz cch cva css cve cro crc cma cbi ces cbl crt) ++ [(ao, .inl (G.2 3, 1, .inr (.inl u.1)))]))) (((vp_updL lou (0 : Int32).toNatClampNeg z_1.1.toInt64), z_1.2)) hx hb hr hlocks hK hP hD hS hres d_LA_next_22
  · have hres := it_f h0 hres
    by_cases h1 : th_BT_next p0 p1 cfa cst css cve cro = 1
    · have hres := it_t h1 hres
      have hT : CtT l y_BT_next b_BT_next 8 (some .int) rmT_BT_next G (cC G ad nb nt cfa cle cwr csl cst cen cby cto csh cdz cch cva css cve cro crc cma cbi ces cbl crt) s.heap.size [.ref (ad 0), .int p0, .int p1] IAE := cT_BT_next (k := 1) hfl hokT h1 (by decide)
      refine cat_1r (X := IAE) (own := "BookTreesLaw") (run_VT hx hb hml hown ht hK (P_left hP) (D_left hD) hZ hT (cw_V ht km_LA_39 ki_BT_next ks_BT_next ini_BT kd_BT_next kh_BT_next ⟨Nat.le_of_ble_eq_true rfl, Nat.le_of_ble_eq_true rfl⟩ rfl rfl) (q0 := 0) (ci := 0) (As := [.int p0, .int p1]) (rest := [.int (0 : Int32), .ref ao]) rfl rfl rfl hl.1 rfl (Nat.le_of_ble_eq_true rfl) d_LA_next_5 ⟨by decide, by decide⟩) hP hD hS hA hown (x := (⟨0, 10, 13, 13⟩ : ExceptionTableEntry)) (t := [(⟨0, 10, 17, 15⟩ : ExceptionTableEntry)]) hex (by decide) (by decide) (ht _ kc_LA_13) (AS_self1 hZ.2.2.2) (fun v H locs hP hD hS => ?_)
      refine lv_astore (lv' := [(4, .ref v), (0, .ref (ad 0)), (1, .int p0), (2, .int p1), (3, .ref ao)]) hx hb d_LA_next_13 hl (by decide) rfl (fun ls hl => ?_)
      refine lv_iconst (v := (1 : Int32)) hx hb d_LA_next_15 (by decide) ?_
      exact en_i (post := eqP res) (w1 := (fun u : (Nat → Int64) × (Unit) => ((cC G ad nb nt cfa cle cwr csl cst cen cby cto csh cdz cch cva css cve cro crc cma cbi ces cbl crt) ++ [(ao, .inl (G.2 3, 1, .inr (.inl u.1)))]))) (lou, ()) hx hb hr hlocks hK hP hD hS hres d_LA_next_16
    · have hres := it_f h1 hres
      have hT : CtT l y_BT_next b_BT_next 8 (some .int) rmT_BT_next G (cC G ad nb nt cfa cle cwr csl cst cen cby cto csh cdz cch cva css cve cro crc cma cbi ces cbl crt) s.heap.size [.ref (ad 0), .int p0, .int p1] ISE := by
        have hT2 : CtT l y_BT_next b_BT_next 8 (some .int) rmT_BT_next G (cC G ad nb nt cfa cle cwr csl cst cen cby cto csh cdz cch cva css cve cro crc cma cbi ces cbl crt) s.heap.size [.ref (ad 0), .int p0, .int p1] (excOf (th_BT_next p0 p1 cfa cst css cve cro)) := cT_BT_next hfl hokT rfl h0
        rw [show excOf (th_BT_next p0 p1 cfa cst css cve cro) = ISE from if_neg h1] at hT2
        exact hT2
      refine cat_2r (X := ISE) (Y := IAE) (own := "BookTreesLaw") (run_VT hx hb hml hown ht hK (P_left hP) (D_left hD) hZ hT (cw_V ht km_LA_39 ki_BT_next ks_BT_next ini_BT kd_BT_next kh_BT_next ⟨Nat.le_of_ble_eq_true rfl, Nat.le_of_ble_eq_true rfl⟩ rfl rfl) (q0 := 0) (ci := 0) (As := [.int p0, .int p1]) (rest := [.int (0 : Int32), .ref ao]) rfl rfl rfl hl.1 rfl (Nat.le_of_ble_eq_true rfl) d_LA_next_5 ⟨by decide, by decide⟩) hP hD hS hA hown (x := (⟨0, 10, 13, 13⟩ : ExceptionTableEntry)) (x2 := (⟨0, 10, 17, 15⟩ : ExceptionTableEntry)) (t := []) hex (by decide) (by decide) (ht _ kc_LA_13) (by decide) (by decide) (ht _ kc_LA_15) (AS_self2 hZ.2.2.2) (AS_other hZ.2.2.2) (fun v H locs hP hD hS => ?_)
      refine lv_astore (lv' := [(4, .ref v), (0, .ref (ad 0)), (1, .int p0), (2, .int p1), (3, .ref ao)]) hx hb d_LA_next_17 hl (by decide) rfl (fun ls hl => ?_)
      refine lv_iconst (v := (2 : Int32)) hx hb d_LA_next_19 (by decide) ?_
      exact en_i (post := eqP res) (w1 := (fun u : (Nat → Int64) × (Unit) => ((cC G ad nb nt cfa cle cwr csl cst cen cby cto csh cdz cch cva css cve cro crc cma cbi ces cbl crt) ++ [(ao, .inl (G.2 3, 1, .inr (.inl u.1)))]))) (lou, ()) hx hb hr hlocks hK hP hD hS hres d_LA_next_20
/-! ===== rows ===== -/
theorem kx_LA_rows : Cond.codeWith y_LA_rows b_LA_rows 4 (some .int) [(0, 9, 12, 13), (0, 9, 15, 15)] ∈ lw_g := gw (List.mem_of_getElem? (i := 633) (by decide +kernel)) rfl
theorem kh_LA_rows : y_LA_rows.cls ≠ "java/lang/invoke/MethodHandle" ∧ y_LA_rows.cls ≠ "java/lang/invoke/VarHandle" ∧ (parseMethodDescriptor y_LA_rows.desc).map (fun d => d.parameters.length) = some 3 := by decide +kernel
abbrev rm_LA_rows : Room := { frames := 8, cells := 1, slots := 6, locals := 125 }
def g_LA_rows (p0 : Int32) (lou : Nat → Int64) (cfa : Int32) (csl : Int32) (cst : Int32) (cen : Int32) (cby : (Nat → Int32)) (cto : (Nat → Int32)) (css : Int32) (cve : (Nat → Int32)) (cro : (Nat → Int32)) : Int32 × ((Nat → Int64) × (Unit)) := if th_BT_rows p0 cfa cst css cve cro = 0 then bindc (f_BT_rows p0 cfa csl cst cen cby cto css cve cro) (fun z_1 => ((0 : Int32), (vp_updL lou (0 : Int32).toNatClampNeg z_1.1.toInt64, z_1.2))) else if th_BT_rows p0 cfa cst css cve cro = 1 then ((1 : Int32), (lou, ())) else ((2 : Int32), (lou, ()))
set_option maxHeartbeats 4000000 in
set_option maxRecDepth 100000 in
theorem cx_LA_rows {l : Launch} {G : GG} {ad : Nat → Nat} {ao : Nat} {nb : Nat} {nt : Nat} {sz : Nat} {cfa : Int32} {cle : Int32} {cwr : Int32} {csl : Int32} {cst : Int32} {cen : Int32} {cby : (Nat → Int32)} {cto : (Nat → Int32)} {csh : (Nat → Int32)} {cdz : Int32} {cch : (Nat → Int32)} {cva : (Nat → Int32)} {css : Int32} {cve : (Nat → Int32)} {cro : (Nat → Int32)} {crc : Int32} {cma : (Nat → Int32)} {cbi : (Nat → Int32)} {ces : (Nat → Int32)} {cbl : (Nat → Int32)} {crt : (Nat → Int32)} {p0 : Int32} {lou : Nat → Int64} (hfl : l.flags = flags0) (hokT : okT_BT_rows nb nt p0 cfa cst css cve cro) (hok : th_BT_rows p0 cfa cst css cve cro = 0 → ok_BT_rows nb nt p0 cfa csl cst cen cby cto css cve cro) : CtX l y_LA_rows b_LA_rows 4 [(0, 9, 12, 13), (0, 9, 15, 15)] rm_LA_rows G ((cC G ad nb nt cfa cle cwr csl cst cen cby cto csh cdz cch cva css cve cro crc cma cbi ces cbl crt) ++ [(ao, .inl (G.2 3, 1, .inr (.inl lou)))]) sz [.ref (ad 0), .int p0, .ref ao] (g_LA_rows p0 lou cfa csl cst cen cby cto css cve cro) (fun u : (Nat → Int64) × (Unit) => ((cC G ad nb nt cfa cle cwr csl cst cen cby cto csh cdz cch cva css cve cro crc cma cbi ces cbl crt) ++ [(ao, .inl (G.2 3, 1, .inr (.inl u.1)))])) := by
  generalize hres : g_LA_rows p0 lou cfa csl cst cen cby cto css cve cro = res
  refine MetX_of (by decide) (Nat.le_of_ble_eq_true rfl) ?_
  intro p e s m below meth c hadm hx hb hr hml hown hlocks hex ht hK A hA hZ hP hD hS ls hl
  have hown : s.vm.findClass "BookTreesLaw" = some m.cls := hown
  have hl : lv_has ls 4 [(0, .ref (ad 0)), (1, .int p0), (2, .ref ao)] := hl
  rw [g_LA_rows] at hres
  refine lv_aload_n hx hb d_LA_rows_0 rfl (lv_at hl 2 rfl) ?_
  refine lv_iconst (v := (0 : Int32)) hx hb d_LA_rows_1 (by decide) ?_
  refine lv_aload_n hx hb d_LA_rows_2 rfl (lv_at hl 0 rfl) ?_
  refine lv_iload_n hx hb d_LA_rows_3 rfl (lv_at hl 1 rfl) ?_
  by_cases h0 : th_BT_rows p0 cfa cst css cve cro = 0
  · have hres := it_t h0 hres
    refine go_ir (run_V hx hb hml hown ht hK (P_left hP) (D_left hD) (c_BT_rows (hok h0)) (cw_V ht km_LA_42 ki_BT_rows ks_BT_rows ini_BT kd_BT_rows kh_BT_rows ⟨Nat.le_of_ble_eq_true rfl, Nat.le_of_ble_eq_true rfl⟩ rfl rfl) (q0 := 0) (ci := 0) (As := [.int p0]) (rest := [.int (0 : Int32), .ref ao]) rfl rfl rfl hl.1 rfl (Nat.le_of_ble_eq_true rfl) d_LA_rows_4 ⟨Nat.zero_le _, Nat.zero_le _⟩) hP hD hS hA (fun z_1 H locs hz hP hD hS => ?_)
    have hres := bindc_eq hz hres
    have hP : va_P G.1 classes ((cC G ad nb nt cfa cle cwr csl cst cen cby cto csh cdz cch cva css cve cro crc cma cbi ces cbl crt) ++ [(ao, .inl (G.2 3, 1, .inr (.inl lou)))]) H := hP
    have hD : va_D A ((cC G ad nb nt cfa cle cwr csl cst cen cby cto csh cdz cch cva css cve cro crc cma cbi ces cbl crt) ++ [(ao, .inl (G.2 3, 1, .inr (.inl lou)))]) := hD
    refine lv_i2l hx hb d_LA_rows_7 rfl ?_
    refine va_last hx hb hK hP hD hS 18 3 rfl rfl (show vp_in (0 : Int32) 1 by unfold vp_in; decide) d_LA_rows_8 (fun H locs hP hD hS => ?_)
    have hP : va_P G.1 classes ((cC G ad nb nt cfa cle cwr csl cst cen cby cto csh cdz cch cva css cve cro crc cma cbi ces cbl crt) ++ [(ao, .inl (G.2 3, 1, .inr (.inl (vp_updL lou (0 : Int32).toNatClampNeg z_1.1.toInt64))))]) H := hP
    have hD : va_D A ((cC G ad nb nt cfa cle cwr csl cst cen cby cto csh cdz cch cva css cve cro crc cma cbi ces cbl crt) ++ [(ao, .inl (G.2 3, 1, .inr (.inl (vp_updL lou (0 : Int32).toNatClampNeg z_1.1.toInt64))))]) := hD
    refine lv_goto (tgt := 18) hx hb d_LA_rows_9 (by decide) ?_
    refine W.widen (k := 1) (n := 6) (by omega) (by omega) ?_
    refine lv_iconst (v := (0 : Int32)) hx hb d_LA_rows_18 (by decide) ?_
    exact en_i (post := eqP res) (w1 := (fun u : (Nat → Int64) × (Unit) => ((cC G ad nb nt cfa cle cwr csl cst cen cby cto csh cdz cch cva css cve cro crc cma cbi ces cbl crt) ++ [(ao, .inl (G.2 3, 1, .inr (.inl u.1)))]))) (((vp_updL lou (0 : Int32).toNatClampNeg z_1.1.toInt64), z_1.2)) hx hb hr hlocks hK hP hD hS hres d_LA_rows_19
  · have hres := it_f h0 hres
    by_cases h1 : th_BT_rows p0 cfa cst css cve cro = 1
    · have hres := it_t h1 hres
      have hT : CtT l y_BT_rows b_BT_rows 3 (some .int) rmT_BT_rows G (cC G ad nb nt cfa cle cwr csl cst cen cby cto csh cdz cch cva css cve cro crc cma cbi ces cbl crt) s.heap.size [.ref (ad 0), .int p0] IAE := cT_BT_rows (k := 1) hfl hokT h1 (by decide)
      refine cat_1r (X := IAE) (own := "BookTreesLaw") (run_VT hx hb hml hown ht hK (P_left hP) (D_left hD) hZ hT (cw_V ht km_LA_42 ki_BT_rows ks_BT_rows ini_BT kd_BT_rows kh_BT_rows ⟨Nat.le_of_ble_eq_true rfl, Nat.le_of_ble_eq_true rfl⟩ rfl rfl) (q0 := 0) (ci := 0) (As := [.int p0]) (rest := [.int (0 : Int32), .ref ao]) rfl rfl rfl hl.1 rfl (Nat.le_of_ble_eq_true rfl) d_LA_rows_4 ⟨by decide, by decide⟩) hP hD hS hA hown (x := (⟨0, 9, 12, 13⟩ : ExceptionTableEntry)) (t := [(⟨0, 9, 15, 15⟩ : ExceptionTableEntry)]) hex (by decide) (by decide) (ht _ kc_LA_13) (AS_self1 hZ.2.2.2) (fun v H locs hP hD hS => ?_)
      refine lv_astore_n (lv' := [(3, .ref v), (0, .ref (ad 0)), (1, .int p0), (2, .ref ao)]) hx hb d_LA_rows_12 rfl hl (by decide) rfl (fun ls hl => ?_)
      refine lv_iconst (v := (1 : Int32)) hx hb d_LA_rows_13 (by decide) ?_
      exact en_i (post := eqP res) (w1 := (fun u : (Nat → Int64) × (Unit) => ((cC G ad nb nt cfa cle cwr csl cst cen cby cto csh cdz cch cva css cve cro crc cma cbi ces cbl crt) ++ [(ao, .inl (G.2 3, 1, .inr (.inl u.1)))]))) (lou, ()) hx hb hr hlocks hK hP hD hS hres d_LA_rows_14
    · have hres := it_f h1 hres
      have hT : CtT l y_BT_rows b_BT_rows 3 (some .int) rmT_BT_rows G (cC G ad nb nt cfa cle cwr csl cst cen cby cto csh cdz cch cva css cve cro crc cma cbi ces cbl crt) s.heap.size [.ref (ad 0), .int p0] ISE := by
        have hT2 : CtT l y_BT_rows b_BT_rows 3 (some .int) rmT_BT_rows G (cC G ad nb nt cfa cle cwr csl cst cen cby cto csh cdz cch cva css cve cro crc cma cbi ces cbl crt) s.heap.size [.ref (ad 0), .int p0] (excOf (th_BT_rows p0 cfa cst css cve cro)) := cT_BT_rows hfl hokT rfl h0
        rw [show excOf (th_BT_rows p0 cfa cst css cve cro) = ISE from if_neg h1] at hT2
        exact hT2
      refine cat_2r (X := ISE) (Y := IAE) (own := "BookTreesLaw") (run_VT hx hb hml hown ht hK (P_left hP) (D_left hD) hZ hT (cw_V ht km_LA_42 ki_BT_rows ks_BT_rows ini_BT kd_BT_rows kh_BT_rows ⟨Nat.le_of_ble_eq_true rfl, Nat.le_of_ble_eq_true rfl⟩ rfl rfl) (q0 := 0) (ci := 0) (As := [.int p0]) (rest := [.int (0 : Int32), .ref ao]) rfl rfl rfl hl.1 rfl (Nat.le_of_ble_eq_true rfl) d_LA_rows_4 ⟨by decide, by decide⟩) hP hD hS hA hown (x := (⟨0, 9, 12, 13⟩ : ExceptionTableEntry)) (x2 := (⟨0, 9, 15, 15⟩ : ExceptionTableEntry)) (t := []) hex (by decide) (by decide) (ht _ kc_LA_13) (by decide) (by decide) (ht _ kc_LA_15) (AS_self2 hZ.2.2.2) (AS_other hZ.2.2.2) (fun v H locs hP hD hS => ?_)
      refine lv_astore_n (lv' := [(3, .ref v), (0, .ref (ad 0)), (1, .int p0), (2, .ref ao)]) hx hb d_LA_rows_15 rfl hl (by decide) rfl (fun ls hl => ?_)
      refine lv_iconst (v := (2 : Int32)) hx hb d_LA_rows_16 (by decide) ?_
      exact en_i (post := eqP res) (w1 := (fun u : (Nat → Int64) × (Unit) => ((cC G ad nb nt cfa cle cwr csl cst cen cby cto csh cdz cch cva css cve cro crc cma cbi ces cbl crt) ++ [(ao, .inl (G.2 3, 1, .inr (.inl u.1)))]))) (lou, ()) hx hb hr hlocks hK hP hD hS hres d_LA_rows_17
/-! ===== kept ===== -/
theorem kx_LA_kept : Cond.codeWith y_LA_kept b_LA_kept 4 (some .int) [(0, 9, 12, 13), (0, 9, 15, 15)] ∈ lw_g := gw (List.mem_of_getElem? (i := 640) (by decide +kernel)) rfl
theorem kh_LA_kept : y_LA_kept.cls ≠ "java/lang/invoke/MethodHandle" ∧ y_LA_kept.cls ≠ "java/lang/invoke/VarHandle" ∧ (parseMethodDescriptor y_LA_kept.desc).map (fun d => d.parameters.length) = some 3 := by decide +kernel
abbrev rm_LA_kept : Room := { frames := 8, cells := 1, slots := 6, locals := 124 }
def g_LA_kept (p0 : Int32) (lou : Nat → Int64) (cfa : Int32) (cst : Int32) (css : Int32) (cve : (Nat → Int32)) (cro : (Nat → Int32)) : Int32 × ((Nat → Int64) × (Unit)) := if th_BT_kept p0 cfa = 0 then bindc (f_BT_kept p0 cfa cst css cve cro) (fun z_1 => ((0 : Int32), (vp_updL lou (0 : Int32).toNatClampNeg z_1.1.toInt64, z_1.2))) else if th_BT_kept p0 cfa = 1 then ((1 : Int32), (lou, ())) else ((2 : Int32), (lou, ()))
set_option maxHeartbeats 4000000 in
set_option maxRecDepth 100000 in
theorem cx_LA_kept {l : Launch} {G : GG} {ad : Nat → Nat} {ao : Nat} {nb : Nat} {nt : Nat} {sz : Nat} {cfa : Int32} {cle : Int32} {cwr : Int32} {csl : Int32} {cst : Int32} {cen : Int32} {cby : (Nat → Int32)} {cto : (Nat → Int32)} {csh : (Nat → Int32)} {cdz : Int32} {cch : (Nat → Int32)} {cva : (Nat → Int32)} {css : Int32} {cve : (Nat → Int32)} {cro : (Nat → Int32)} {crc : Int32} {cma : (Nat → Int32)} {cbi : (Nat → Int32)} {ces : (Nat → Int32)} {cbl : (Nat → Int32)} {crt : (Nat → Int32)} {p0 : Int32} {lou : Nat → Int64} (hfl : l.flags = flags0) (hokT : okT_BT_kept nb nt p0 cfa) (hok : th_BT_kept p0 cfa = 0 → ok_BT_kept nb nt p0 cfa cst css cve cro) : CtX l y_LA_kept b_LA_kept 4 [(0, 9, 12, 13), (0, 9, 15, 15)] rm_LA_kept G ((cC G ad nb nt cfa cle cwr csl cst cen cby cto csh cdz cch cva css cve cro crc cma cbi ces cbl crt) ++ [(ao, .inl (G.2 3, 1, .inr (.inl lou)))]) sz [.ref (ad 0), .int p0, .ref ao] (g_LA_kept p0 lou cfa cst css cve cro) (fun u : (Nat → Int64) × (Unit) => ((cC G ad nb nt cfa cle cwr csl cst cen cby cto csh cdz cch cva css cve cro crc cma cbi ces cbl crt) ++ [(ao, .inl (G.2 3, 1, .inr (.inl u.1)))])) := by
  generalize hres : g_LA_kept p0 lou cfa cst css cve cro = res
  refine MetX_of (by decide) (Nat.le_of_ble_eq_true rfl) ?_
  intro p e s m below meth c hadm hx hb hr hml hown hlocks hex ht hK A hA hZ hP hD hS ls hl
  have hown : s.vm.findClass "BookTreesLaw" = some m.cls := hown
  have hl : lv_has ls 4 [(0, .ref (ad 0)), (1, .int p0), (2, .ref ao)] := hl
  rw [g_LA_kept] at hres
  refine lv_aload_n hx hb d_LA_kept_0 rfl (lv_at hl 2 rfl) ?_
  refine lv_iconst (v := (0 : Int32)) hx hb d_LA_kept_1 (by decide) ?_
  refine lv_aload_n hx hb d_LA_kept_2 rfl (lv_at hl 0 rfl) ?_
  refine lv_iload_n hx hb d_LA_kept_3 rfl (lv_at hl 1 rfl) ?_
  by_cases h0 : th_BT_kept p0 cfa = 0
  · have hres := it_t h0 hres
    refine go_ir (run_V hx hb hml hown ht hK (P_left hP) (D_left hD) (c_BT_kept (hok h0)) (cw_V ht km_LA_45 ki_BT_kept ks_BT_kept ini_BT kd_BT_kept kh_BT_kept ⟨Nat.le_of_ble_eq_true rfl, Nat.le_of_ble_eq_true rfl⟩ rfl rfl) (q0 := 0) (ci := 0) (As := [.int p0]) (rest := [.int (0 : Int32), .ref ao]) rfl rfl rfl hl.1 rfl (Nat.le_of_ble_eq_true rfl) d_LA_kept_4 ⟨Nat.zero_le _, Nat.zero_le _⟩) hP hD hS hA (fun z_1 H locs hz hP hD hS => ?_)
    have hres := bindc_eq hz hres
    have hP : va_P G.1 classes ((cC G ad nb nt cfa cle cwr csl cst cen cby cto csh cdz cch cva css cve cro crc cma cbi ces cbl crt) ++ [(ao, .inl (G.2 3, 1, .inr (.inl lou)))]) H := hP
    have hD : va_D A ((cC G ad nb nt cfa cle cwr csl cst cen cby cto csh cdz cch cva css cve cro crc cma cbi ces cbl crt) ++ [(ao, .inl (G.2 3, 1, .inr (.inl lou)))]) := hD
    refine lv_i2l hx hb d_LA_kept_7 rfl ?_
    refine va_last hx hb hK hP hD hS 18 3 rfl rfl (show vp_in (0 : Int32) 1 by unfold vp_in; decide) d_LA_kept_8 (fun H locs hP hD hS => ?_)
    have hP : va_P G.1 classes ((cC G ad nb nt cfa cle cwr csl cst cen cby cto csh cdz cch cva css cve cro crc cma cbi ces cbl crt) ++ [(ao, .inl (G.2 3, 1, .inr (.inl (vp_updL lou (0 : Int32).toNatClampNeg z_1.1.toInt64))))]) H := hP
    have hD : va_D A ((cC G ad nb nt cfa cle cwr csl cst cen cby cto csh cdz cch cva css cve cro crc cma cbi ces cbl crt) ++ [(ao, .inl (G.2 3, 1, .inr (.inl (vp_updL lou (0 : Int32).toNatClampNeg z_1.1.toInt64))))]) := hD
    refine lv_goto (tgt := 18) hx hb d_LA_kept_9 (by decide) ?_
    refine W.widen (k := 1) (n := 6) (by omega) (by omega) ?_
    refine lv_iconst (v := (0 : Int32)) hx hb d_LA_kept_18 (by decide) ?_
    exact en_i (post := eqP res) (w1 := (fun u : (Nat → Int64) × (Unit) => ((cC G ad nb nt cfa cle cwr csl cst cen cby cto csh cdz cch cva css cve cro crc cma cbi ces cbl crt) ++ [(ao, .inl (G.2 3, 1, .inr (.inl u.1)))]))) (((vp_updL lou (0 : Int32).toNatClampNeg z_1.1.toInt64), z_1.2)) hx hb hr hlocks hK hP hD hS hres d_LA_kept_19
  · have hres := it_f h0 hres
    by_cases h1 : th_BT_kept p0 cfa = 1
    · have hres := it_t h1 hres
      have hT : CtT l y_BT_kept b_BT_kept 2 (some .int) rmT_BT_kept G (cC G ad nb nt cfa cle cwr csl cst cen cby cto csh cdz cch cva css cve cro crc cma cbi ces cbl crt) s.heap.size [.ref (ad 0), .int p0] IAE := cT_BT_kept (k := 1) hfl hokT h1 (by decide)
      refine cat_1r (X := IAE) (own := "BookTreesLaw") (run_VT hx hb hml hown ht hK (P_left hP) (D_left hD) hZ hT (cw_V ht km_LA_45 ki_BT_kept ks_BT_kept ini_BT kd_BT_kept kh_BT_kept ⟨Nat.le_of_ble_eq_true rfl, Nat.le_of_ble_eq_true rfl⟩ rfl rfl) (q0 := 0) (ci := 0) (As := [.int p0]) (rest := [.int (0 : Int32), .ref ao]) rfl rfl rfl hl.1 rfl (Nat.le_of_ble_eq_true rfl) d_LA_kept_4 ⟨by decide, by decide⟩) hP hD hS hA hown (x := (⟨0, 9, 12, 13⟩ : ExceptionTableEntry)) (t := [(⟨0, 9, 15, 15⟩ : ExceptionTableEntry)]) hex (by decide) (by decide) (ht _ kc_LA_13) (AS_self1 hZ.2.2.2) (fun v H locs hP hD hS => ?_)
      refine lv_astore_n (lv' := [(3, .ref v), (0, .ref (ad 0)), (1, .int p0), (2, .ref ao)]) hx hb d_LA_kept_12 rfl hl (by decide) rfl (fun ls hl => ?_)
      refine lv_iconst (v := (1 : Int32)) hx hb d_LA_kept_13 (by decide) ?_
      exact en_i (post := eqP res) (w1 := (fun u : (Nat → Int64) × (Unit) => ((cC G ad nb nt cfa cle cwr csl cst cen cby cto csh cdz cch cva css cve cro crc cma cbi ces cbl crt) ++ [(ao, .inl (G.2 3, 1, .inr (.inl u.1)))]))) (lou, ()) hx hb hr hlocks hK hP hD hS hres d_LA_kept_14
    · have hres := it_f h1 hres
      have hT : CtT l y_BT_kept b_BT_kept 2 (some .int) rmT_BT_kept G (cC G ad nb nt cfa cle cwr csl cst cen cby cto csh cdz cch cva css cve cro crc cma cbi ces cbl crt) s.heap.size [.ref (ad 0), .int p0] ISE := by
        have hT2 : CtT l y_BT_kept b_BT_kept 2 (some .int) rmT_BT_kept G (cC G ad nb nt cfa cle cwr csl cst cen cby cto csh cdz cch cva css cve cro crc cma cbi ces cbl crt) s.heap.size [.ref (ad 0), .int p0] (excOf (th_BT_kept p0 cfa)) := cT_BT_kept hfl hokT rfl h0
        rw [show excOf (th_BT_kept p0 cfa) = ISE from if_neg h1] at hT2
        exact hT2
      refine cat_2r (X := ISE) (Y := IAE) (own := "BookTreesLaw") (run_VT hx hb hml hown ht hK (P_left hP) (D_left hD) hZ hT (cw_V ht km_LA_45 ki_BT_kept ks_BT_kept ini_BT kd_BT_kept kh_BT_kept ⟨Nat.le_of_ble_eq_true rfl, Nat.le_of_ble_eq_true rfl⟩ rfl rfl) (q0 := 0) (ci := 0) (As := [.int p0]) (rest := [.int (0 : Int32), .ref ao]) rfl rfl rfl hl.1 rfl (Nat.le_of_ble_eq_true rfl) d_LA_kept_4 ⟨by decide, by decide⟩) hP hD hS hA hown (x := (⟨0, 9, 12, 13⟩ : ExceptionTableEntry)) (x2 := (⟨0, 9, 15, 15⟩ : ExceptionTableEntry)) (t := []) hex (by decide) (by decide) (ht _ kc_LA_13) (by decide) (by decide) (ht _ kc_LA_15) (AS_self2 hZ.2.2.2) (AS_other hZ.2.2.2) (fun v H locs hP hD hS => ?_)
      refine lv_astore_n (lv' := [(3, .ref v), (0, .ref (ad 0)), (1, .int p0), (2, .ref ao)]) hx hb d_LA_kept_15 rfl hl (by decide) rfl (fun ls hl => ?_)
      refine lv_iconst (v := (2 : Int32)) hx hb d_LA_kept_16 (by decide) ?_
      exact en_i (post := eqP res) (w1 := (fun u : (Nat → Int64) × (Unit) => ((cC G ad nb nt cfa cle cwr csl cst cen cby cto csh cdz cch cva css cve cro crc cma cbi ces cbl crt) ++ [(ao, .inl (G.2 3, 1, .inr (.inl u.1)))]))) (lou, ()) hx hb hr hlocks hK hP hD hS hres d_LA_kept_17
/-! ===== crash ===== -/
theorem kx_LA_crash : Cond.codeWith y_LA_crash b_LA_crash 3 (some .int) [(0, 5, 8, 13), (0, 5, 11, 15)] ∈ lw_g := gw (List.mem_of_getElem? (i := 655) (by decide +kernel)) rfl
theorem kh_LA_crash : y_LA_crash.cls ≠ "java/lang/invoke/MethodHandle" ∧ y_LA_crash.cls ≠ "java/lang/invoke/VarHandle" ∧ (parseMethodDescriptor y_LA_crash.desc).map (fun d => d.parameters.length) = some 2 := by decide +kernel
abbrev rm_LA_crash : Room := { frames := 8, cells := 1, slots := 6, locals := 124 }
def g_LA_crash (p0 : Int32) (cfa : Int32) (cle : Int32) : Int32 × (Int32 × Int32) := if th_BT_crash p0 cfa = 0 then bindc (f_BT_crash p0 cfa cle) (fun z_1 => ((0 : Int32), z_1)) else if th_BT_crash p0 cfa = 1 then ((1 : Int32), (cfa, cle)) else ((2 : Int32), (cfa, cle))
set_option maxHeartbeats 4000000 in
set_option maxRecDepth 100000 in
theorem cx_LA_crash {l : Launch} {G : GG} {ad : Nat → Nat} {nb : Nat} {nt : Nat} {sz : Nat} {cfa : Int32} {cle : Int32} {cwr : Int32} {csl : Int32} {cst : Int32} {cen : Int32} {cby : (Nat → Int32)} {cto : (Nat → Int32)} {csh : (Nat → Int32)} {cdz : Int32} {cch : (Nat → Int32)} {cva : (Nat → Int32)} {css : Int32} {cve : (Nat → Int32)} {cro : (Nat → Int32)} {crc : Int32} {cma : (Nat → Int32)} {cbi : (Nat → Int32)} {ces : (Nat → Int32)} {cbl : (Nat → Int32)} {crt : (Nat → Int32)} {p0 : Int32} (hfl : l.flags = flags0) (hokT : okT_BT_crash nb nt p0 cfa) (hok : th_BT_crash p0 cfa = 0 → ok_BT_crash nb nt p0 cfa cle) : CtX l y_LA_crash b_LA_crash 3 [(0, 5, 8, 13), (0, 5, 11, 15)] rm_LA_crash G ((cC G ad nb nt cfa cle cwr csl cst cen cby cto csh cdz cch cva css cve cro crc cma cbi ces cbl crt) ++ ([] : va_W)) sz [.ref (ad 0), .int p0] (g_LA_crash p0 cfa cle) (fun u : Int32 × Int32 => ((cC G ad nb nt u.1 u.2 cwr csl cst cen cby cto csh cdz cch cva css cve cro crc cma cbi ces cbl crt) ++ ([] : va_W))) := by
  generalize hres : g_LA_crash p0 cfa cle = res
  refine MetX_of (by decide) (Nat.le_of_ble_eq_true rfl) ?_
  intro p e s m below meth c hadm hx hb hr hml hown hlocks hex ht hK A hA hZ hP hD hS ls hl
  have hown : s.vm.findClass "BookTreesLaw" = some m.cls := hown
  have hl : lv_has ls 3 [(0, .ref (ad 0)), (1, .int p0)] := hl
  rw [g_LA_crash] at hres
  refine lv_aload_n hx hb d_LA_crash_0 rfl (lv_at hl 0 rfl) ?_
  refine lv_iload_n hx hb d_LA_crash_1 rfl (lv_at hl 1 rfl) ?_
  by_cases h0 : th_BT_crash p0 cfa = 0
  · have hres := it_t h0 hres
    refine go_vr (run_V hx hb hml hown ht hK (P_left hP) (D_left hD) (c_BT_crash (hok h0)) (cw_V ht km_LA_48 ki_BT_crash ks_BT_crash ini_BT kd_BT_crash kh_BT_crash ⟨Nat.le_of_ble_eq_true rfl, Nat.le_of_ble_eq_true rfl⟩ rfl rfl) (q0 := 0) (ci := 0) (As := [.int p0]) (rest := []) rfl rfl rfl hl.1 rfl (Nat.le_of_ble_eq_true rfl) d_LA_crash_2 ⟨Nat.zero_le _, Nat.zero_le _⟩) hP hD hS hA (fun z_1 H locs hz hP hD hS => ?_)
    have hres := bindc_eq hz hres
    have hP : va_P G.1 classes ((cC G ad nb nt z_1.1 z_1.2 cwr csl cst cen cby cto csh cdz cch cva css cve cro crc cma cbi ces cbl crt) ++ ([] : va_W)) H := hP
    have hD : va_D A ((cC G ad nb nt z_1.1 z_1.2 cwr csl cst cen cby cto csh cdz cch cva css cve cro crc cma cbi ces cbl crt) ++ ([] : va_W)) := hD
    refine lv_goto (tgt := 14) hx hb d_LA_crash_5 (by decide) ?_
    refine W.widen (k := 1) (n := 6) (by omega) (by omega) ?_
    refine lv_iconst (v := (0 : Int32)) hx hb d_LA_crash_14 (by decide) ?_
    exact en_i (post := eqP res) (w1 := (fun u : Int32 × Int32 => ((cC G ad nb nt u.1 u.2 cwr csl cst cen cby cto csh cdz cch cva css cve cro crc cma cbi ces cbl crt) ++ ([] : va_W)))) (z_1) hx hb hr hlocks hK hP hD hS hres d_LA_crash_15
  · have hres := it_f h0 hres
    by_cases h1 : th_BT_crash p0 cfa = 1
    · have hres := it_t h1 hres
      have hT : CtT l y_BT_crash b_BT_crash 2 none rmT_BT_crash G (cC G ad nb nt cfa cle cwr csl cst cen cby cto csh cdz cch cva css cve cro crc cma cbi ces cbl crt) s.heap.size [.ref (ad 0), .int p0] IAE := cT_BT_crash (k := 1) hfl hokT h1 (by decide)
      refine cat_1r (X := IAE) (own := "BookTreesLaw") (run_VT hx hb hml hown ht hK (P_left hP) (D_left hD) hZ hT (cw_V ht km_LA_48 ki_BT_crash ks_BT_crash ini_BT kd_BT_crash kh_BT_crash ⟨Nat.le_of_ble_eq_true rfl, Nat.le_of_ble_eq_true rfl⟩ rfl rfl) (q0 := 0) (ci := 0) (As := [.int p0]) (rest := []) rfl rfl rfl hl.1 rfl (Nat.le_of_ble_eq_true rfl) d_LA_crash_2 ⟨by decide, by decide⟩) hP hD hS hA hown (x := (⟨0, 5, 8, 13⟩ : ExceptionTableEntry)) (t := [(⟨0, 5, 11, 15⟩ : ExceptionTableEntry)]) hex (by decide) (by decide) (ht _ kc_LA_13) (AS_self1 hZ.2.2.2) (fun v H locs hP hD hS => ?_)
      refine lv_astore_n (lv' := [(2, .ref v), (0, .ref (ad 0)), (1, .int p0)]) hx hb d_LA_crash_8 rfl hl (by decide) rfl (fun ls hl => ?_)
      refine lv_iconst (v := (1 : Int32)) hx hb d_LA_crash_9 (by decide) ?_
      exact en_i (post := eqP res) (w1 := (fun u : Int32 × Int32 => ((cC G ad nb nt u.1 u.2 cwr csl cst cen cby cto csh cdz cch cva css cve cro crc cma cbi ces cbl crt) ++ ([] : va_W)))) (cfa, cle) hx hb hr hlocks hK hP hD hS hres d_LA_crash_10
    · have hres := it_f h1 hres
      have hT : CtT l y_BT_crash b_BT_crash 2 none rmT_BT_crash G (cC G ad nb nt cfa cle cwr csl cst cen cby cto csh cdz cch cva css cve cro crc cma cbi ces cbl crt) s.heap.size [.ref (ad 0), .int p0] ISE := by
        have hT2 : CtT l y_BT_crash b_BT_crash 2 none rmT_BT_crash G (cC G ad nb nt cfa cle cwr csl cst cen cby cto csh cdz cch cva css cve cro crc cma cbi ces cbl crt) s.heap.size [.ref (ad 0), .int p0] (excOf (th_BT_crash p0 cfa)) := cT_BT_crash hfl hokT rfl h0
        rw [show excOf (th_BT_crash p0 cfa) = ISE from if_neg h1] at hT2
        exact hT2
      refine cat_2r (X := ISE) (Y := IAE) (own := "BookTreesLaw") (run_VT hx hb hml hown ht hK (P_left hP) (D_left hD) hZ hT (cw_V ht km_LA_48 ki_BT_crash ks_BT_crash ini_BT kd_BT_crash kh_BT_crash ⟨Nat.le_of_ble_eq_true rfl, Nat.le_of_ble_eq_true rfl⟩ rfl rfl) (q0 := 0) (ci := 0) (As := [.int p0]) (rest := []) rfl rfl rfl hl.1 rfl (Nat.le_of_ble_eq_true rfl) d_LA_crash_2 ⟨by decide, by decide⟩) hP hD hS hA hown (x := (⟨0, 5, 8, 13⟩ : ExceptionTableEntry)) (x2 := (⟨0, 5, 11, 15⟩ : ExceptionTableEntry)) (t := []) hex (by decide) (by decide) (ht _ kc_LA_13) (by decide) (by decide) (ht _ kc_LA_15) (AS_self2 hZ.2.2.2) (AS_other hZ.2.2.2) (fun v H locs hP hD hS => ?_)
      refine lv_astore_n (lv' := [(2, .ref v), (0, .ref (ad 0)), (1, .int p0)]) hx hb d_LA_crash_11 rfl hl (by decide) rfl (fun ls hl => ?_)
      refine lv_iconst (v := (2 : Int32)) hx hb d_LA_crash_12 (by decide) ?_
      exact en_i (post := eqP res) (w1 := (fun u : Int32 × Int32 => ((cC G ad nb nt u.1 u.2 cwr csl cst cen cby cto csh cdz cch cva css cve cro crc cma cbi ces cbl crt) ++ ([] : va_W)))) (cfa, cle) hx hb hr hlocks hK hP hD hS hres d_LA_crash_13
/-! ===== byteAt ===== -/
theorem kx_LA_byteAt : Cond.codeWith y_LA_byteAt b_LA_byteAt 5 (some .int) [(0, 10, 13, 13), (0, 10, 17, 15)] ∈ lw_g := gw (List.mem_of_getElem? (i := 667) (by decide +kernel)) rfl
theorem kh_LA_byteAt : y_LA_byteAt.cls ≠ "java/lang/invoke/MethodHandle" ∧ y_LA_byteAt.cls ≠ "java/lang/invoke/VarHandle" ∧ (parseMethodDescriptor y_LA_byteAt.desc).map (fun d => d.parameters.length) = some 4 := by decide +kernel
abbrev rm_LA_byteAt : Room := { frames := 8, cells := 1, slots := 6, locals := 125 }
def g_LA_byteAt (p0 : Int32) (p1 : Int32) (lou : Nat → Int64) (cfa : Int32) (csl : Int32) (cst : Int32) (cen : Int32) (cby : (Nat → Int32)) : Int32 × ((Nat → Int64) × (Unit)) := if th_BT_byteAt p0 p1 cfa cst cen = 0 then bindc (f_BT_byteAt p0 p1 cfa csl cst cen cby) (fun z_1 => ((0 : Int32), (vp_updL lou (0 : Int32).toNatClampNeg z_1.1.toInt64, z_1.2))) else if th_BT_byteAt p0 p1 cfa cst cen = 1 then ((1 : Int32), (lou, ())) else ((2 : Int32), (lou, ()))
set_option maxHeartbeats 4000000 in
set_option maxRecDepth 100000 in
theorem cx_LA_byteAt {l : Launch} {G : GG} {ad : Nat → Nat} {ao : Nat} {nb : Nat} {nt : Nat} {sz : Nat} {cfa : Int32} {cle : Int32} {cwr : Int32} {csl : Int32} {cst : Int32} {cen : Int32} {cby : (Nat → Int32)} {cto : (Nat → Int32)} {csh : (Nat → Int32)} {cdz : Int32} {cch : (Nat → Int32)} {cva : (Nat → Int32)} {css : Int32} {cve : (Nat → Int32)} {cro : (Nat → Int32)} {crc : Int32} {cma : (Nat → Int32)} {cbi : (Nat → Int32)} {ces : (Nat → Int32)} {cbl : (Nat → Int32)} {crt : (Nat → Int32)} {p0 : Int32} {p1 : Int32} {lou : Nat → Int64} (hfl : l.flags = flags0) (hokT : okT_BT_byteAt nb nt p0 p1 cfa cst cen) (hok : th_BT_byteAt p0 p1 cfa cst cen = 0 → ok_BT_byteAt nb nt p0 p1 cfa csl cst cen cby) : CtX l y_LA_byteAt b_LA_byteAt 5 [(0, 10, 13, 13), (0, 10, 17, 15)] rm_LA_byteAt G ((cC G ad nb nt cfa cle cwr csl cst cen cby cto csh cdz cch cva css cve cro crc cma cbi ces cbl crt) ++ [(ao, .inl (G.2 3, 1, .inr (.inl lou)))]) sz [.ref (ad 0), .int p0, .int p1, .ref ao] (g_LA_byteAt p0 p1 lou cfa csl cst cen cby) (fun u : (Nat → Int64) × (Unit) => ((cC G ad nb nt cfa cle cwr csl cst cen cby cto csh cdz cch cva css cve cro crc cma cbi ces cbl crt) ++ [(ao, .inl (G.2 3, 1, .inr (.inl u.1)))])) := by
  generalize hres : g_LA_byteAt p0 p1 lou cfa csl cst cen cby = res
  refine MetX_of (by decide) (Nat.le_of_ble_eq_true rfl) ?_
  intro p e s m below meth c hadm hx hb hr hml hown hlocks hex ht hK A hA hZ hP hD hS ls hl
  have hown : s.vm.findClass "BookTreesLaw" = some m.cls := hown
  have hl : lv_has ls 5 [(0, .ref (ad 0)), (1, .int p0), (2, .int p1), (3, .ref ao)] := hl
  rw [g_LA_byteAt] at hres
  refine lv_aload_n hx hb d_LA_byteAt_0 rfl (lv_at hl 3 rfl) ?_
  refine lv_iconst (v := (0 : Int32)) hx hb d_LA_byteAt_1 (by decide) ?_
  refine lv_aload_n hx hb d_LA_byteAt_2 rfl (lv_at hl 0 rfl) ?_
  refine lv_iload_n hx hb d_LA_byteAt_3 rfl (lv_at hl 1 rfl) ?_
  refine lv_iload_n hx hb d_LA_byteAt_4 rfl (lv_at hl 2 rfl) ?_
  by_cases h0 : th_BT_byteAt p0 p1 cfa cst cen = 0
  · have hres := it_t h0 hres
    refine go_ir (run_V hx hb hml hown ht hK (P_left hP) (D_left hD) (c_BT_byteAt (hok h0)) (cw_V ht km_LA_52 ki_BT_byteAt ks_BT_byteAt ini_BT kd_BT_byteAt kh_BT_byteAt ⟨Nat.le_of_ble_eq_true rfl, Nat.le_of_ble_eq_true rfl⟩ rfl rfl) (q0 := 0) (ci := 0) (As := [.int p0, .int p1]) (rest := [.int (0 : Int32), .ref ao]) rfl rfl rfl hl.1 rfl (Nat.le_of_ble_eq_true rfl) d_LA_byteAt_5 ⟨Nat.zero_le _, Nat.zero_le _⟩) hP hD hS hA (fun z_1 H locs hz hP hD hS => ?_)
    have hres := bindc_eq hz hres
    have hP : va_P G.1 classes ((cC G ad nb nt cfa cle cwr csl cst cen cby cto csh cdz cch cva css cve cro crc cma cbi ces cbl crt) ++ [(ao, .inl (G.2 3, 1, .inr (.inl lou)))]) H := hP
    have hD : va_D A ((cC G ad nb nt cfa cle cwr csl cst cen cby cto csh cdz cch cva css cve cro crc cma cbi ces cbl crt) ++ [(ao, .inl (G.2 3, 1, .inr (.inl lou)))]) := hD
    refine lv_i2l hx hb d_LA_byteAt_8 rfl ?_
    refine va_last hx hb hK hP hD hS 18 3 rfl rfl (show vp_in (0 : Int32) 1 by unfold vp_in; decide) d_LA_byteAt_9 (fun H locs hP hD hS => ?_)
    have hP : va_P G.1 classes ((cC G ad nb nt cfa cle cwr csl cst cen cby cto csh cdz cch cva css cve cro crc cma cbi ces cbl crt) ++ [(ao, .inl (G.2 3, 1, .inr (.inl (vp_updL lou (0 : Int32).toNatClampNeg z_1.1.toInt64))))]) H := hP
    have hD : va_D A ((cC G ad nb nt cfa cle cwr csl cst cen cby cto csh cdz cch cva css cve cro crc cma cbi ces cbl crt) ++ [(ao, .inl (G.2 3, 1, .inr (.inl (vp_updL lou (0 : Int32).toNatClampNeg z_1.1.toInt64))))]) := hD
    refine lv_goto (tgt := 21) hx hb d_LA_byteAt_10 (by decide) ?_
    refine W.widen (k := 1) (n := 6) (by omega) (by omega) ?_
    refine lv_iconst (v := (0 : Int32)) hx hb d_LA_byteAt_21 (by decide) ?_
    exact en_i (post := eqP res) (w1 := (fun u : (Nat → Int64) × (Unit) => ((cC G ad nb nt cfa cle cwr csl cst cen cby cto csh cdz cch cva css cve cro crc cma cbi ces cbl crt) ++ [(ao, .inl (G.2 3, 1, .inr (.inl u.1)))]))) (((vp_updL lou (0 : Int32).toNatClampNeg z_1.1.toInt64), z_1.2)) hx hb hr hlocks hK hP hD hS hres d_LA_byteAt_22
  · have hres := it_f h0 hres
    by_cases h1 : th_BT_byteAt p0 p1 cfa cst cen = 1
    · have hres := it_t h1 hres
      have hT : CtT l y_BT_byteAt b_BT_byteAt 3 (some .int) rmT_BT_byteAt G (cC G ad nb nt cfa cle cwr csl cst cen cby cto csh cdz cch cva css cve cro crc cma cbi ces cbl crt) s.heap.size [.ref (ad 0), .int p0, .int p1] IAE := cT_BT_byteAt (k := 1) hfl hokT h1 (by decide)
      refine cat_1r (X := IAE) (own := "BookTreesLaw") (run_VT hx hb hml hown ht hK (P_left hP) (D_left hD) hZ hT (cw_V ht km_LA_52 ki_BT_byteAt ks_BT_byteAt ini_BT kd_BT_byteAt kh_BT_byteAt ⟨Nat.le_of_ble_eq_true rfl, Nat.le_of_ble_eq_true rfl⟩ rfl rfl) (q0 := 0) (ci := 0) (As := [.int p0, .int p1]) (rest := [.int (0 : Int32), .ref ao]) rfl rfl rfl hl.1 rfl (Nat.le_of_ble_eq_true rfl) d_LA_byteAt_5 ⟨by decide, by decide⟩) hP hD hS hA hown (x := (⟨0, 10, 13, 13⟩ : ExceptionTableEntry)) (t := [(⟨0, 10, 17, 15⟩ : ExceptionTableEntry)]) hex (by decide) (by decide) (ht _ kc_LA_13) (AS_self1 hZ.2.2.2) (fun v H locs hP hD hS => ?_)
      refine lv_astore (lv' := [(4, .ref v), (0, .ref (ad 0)), (1, .int p0), (2, .int p1), (3, .ref ao)]) hx hb d_LA_byteAt_13 hl (by decide) rfl (fun ls hl => ?_)
      refine lv_iconst (v := (1 : Int32)) hx hb d_LA_byteAt_15 (by decide) ?_
      exact en_i (post := eqP res) (w1 := (fun u : (Nat → Int64) × (Unit) => ((cC G ad nb nt cfa cle cwr csl cst cen cby cto csh cdz cch cva css cve cro crc cma cbi ces cbl crt) ++ [(ao, .inl (G.2 3, 1, .inr (.inl u.1)))]))) (lou, ()) hx hb hr hlocks hK hP hD hS hres d_LA_byteAt_16
    · have hres := it_f h1 hres
      have hT : CtT l y_BT_byteAt b_BT_byteAt 3 (some .int) rmT_BT_byteAt G (cC G ad nb nt cfa cle cwr csl cst cen cby cto csh cdz cch cva css cve cro crc cma cbi ces cbl crt) s.heap.size [.ref (ad 0), .int p0, .int p1] ISE := by
        have hT2 : CtT l y_BT_byteAt b_BT_byteAt 3 (some .int) rmT_BT_byteAt G (cC G ad nb nt cfa cle cwr csl cst cen cby cto csh cdz cch cva css cve cro crc cma cbi ces cbl crt) s.heap.size [.ref (ad 0), .int p0, .int p1] (excOf (th_BT_byteAt p0 p1 cfa cst cen)) := cT_BT_byteAt hfl hokT rfl h0
        rw [show excOf (th_BT_byteAt p0 p1 cfa cst cen) = ISE from if_neg h1] at hT2
        exact hT2
      refine cat_2r (X := ISE) (Y := IAE) (own := "BookTreesLaw") (run_VT hx hb hml hown ht hK (P_left hP) (D_left hD) hZ hT (cw_V ht km_LA_52 ki_BT_byteAt ks_BT_byteAt ini_BT kd_BT_byteAt kh_BT_byteAt ⟨Nat.le_of_ble_eq_true rfl, Nat.le_of_ble_eq_true rfl⟩ rfl rfl) (q0 := 0) (ci := 0) (As := [.int p0, .int p1]) (rest := [.int (0 : Int32), .ref ao]) rfl rfl rfl hl.1 rfl (Nat.le_of_ble_eq_true rfl) d_LA_byteAt_5 ⟨by decide, by decide⟩) hP hD hS hA hown (x := (⟨0, 10, 13, 13⟩ : ExceptionTableEntry)) (x2 := (⟨0, 10, 17, 15⟩ : ExceptionTableEntry)) (t := []) hex (by decide) (by decide) (ht _ kc_LA_13) (by decide) (by decide) (ht _ kc_LA_15) (AS_self2 hZ.2.2.2) (AS_other hZ.2.2.2) (fun v H locs hP hD hS => ?_)
      refine lv_astore (lv' := [(4, .ref v), (0, .ref (ad 0)), (1, .int p0), (2, .int p1), (3, .ref ao)]) hx hb d_LA_byteAt_17 hl (by decide) rfl (fun ls hl => ?_)
      refine lv_iconst (v := (2 : Int32)) hx hb d_LA_byteAt_19 (by decide) ?_
      exact en_i (post := eqP res) (w1 := (fun u : (Nat → Int64) × (Unit) => ((cC G ad nb nt cfa cle cwr csl cst cen cby cto csh cdz cch cva css cve cro crc cma cbi ces cbl crt) ++ [(ao, .inl (G.2 3, 1, .inr (.inl u.1)))]))) (lou, ()) hx hb hr hlocks hK hP hD hS hres d_LA_byteAt_20
/-! ===== poke ===== -/
theorem kx_LA_poke : Cond.codeWith y_LA_poke b_LA_poke 6 (some .int) [(0, 12, 15, 13), (0, 12, 19, 15)] ∈ lw_g := gw (List.mem_of_getElem? (i := 679) (by decide +kernel)) rfl
theorem kh_LA_poke : y_LA_poke.cls ≠ "java/lang/invoke/MethodHandle" ∧ y_LA_poke.cls ≠ "java/lang/invoke/VarHandle" ∧ (parseMethodDescriptor y_LA_poke.desc).map (fun d => d.parameters.length) = some 5 := by decide +kernel
abbrev rm_LA_poke : Room := { frames := 8, cells := 1, slots := 6, locals := 126 }
def g_LA_poke (p0 : Int32) (p1 : Int32) (p2 : Int32) (lou : Nat → Int64) (cfa : Int32) (csl : Int32) (cst : Int32) (cen : Int32) (cby : (Nat → Int32)) : Int32 × ((Nat → Int64) × ((Nat → Int32))) := if th_BT_poke p0 p1 p2 cfa cst cen = 0 then bindc (f_BT_poke p0 p1 p2 cfa csl cst cen cby) (fun z_1 => ((0 : Int32), (vp_updL lou (0 : Int32).toNatClampNeg z_1.1.toInt64, z_1.2))) else if th_BT_poke p0 p1 p2 cfa cst cen = 1 then ((1 : Int32), (lou, cby)) else ((2 : Int32), (lou, cby))
set_option maxHeartbeats 4000000 in
set_option maxRecDepth 100000 in
theorem cx_LA_poke {l : Launch} {G : GG} {ad : Nat → Nat} {ao : Nat} {nb : Nat} {nt : Nat} {sz : Nat} {cfa : Int32} {cle : Int32} {cwr : Int32} {csl : Int32} {cst : Int32} {cen : Int32} {cby : (Nat → Int32)} {cto : (Nat → Int32)} {csh : (Nat → Int32)} {cdz : Int32} {cch : (Nat → Int32)} {cva : (Nat → Int32)} {css : Int32} {cve : (Nat → Int32)} {cro : (Nat → Int32)} {crc : Int32} {cma : (Nat → Int32)} {cbi : (Nat → Int32)} {ces : (Nat → Int32)} {cbl : (Nat → Int32)} {crt : (Nat → Int32)} {p0 : Int32} {p1 : Int32} {p2 : Int32} {lou : Nat → Int64} (hfl : l.flags = flags0) (hokT : okT_BT_poke nb nt p0 p1 p2 cfa cst cen) (hok : th_BT_poke p0 p1 p2 cfa cst cen = 0 → ok_BT_poke nb nt p0 p1 p2 cfa csl cst cen cby) : CtX l y_LA_poke b_LA_poke 6 [(0, 12, 15, 13), (0, 12, 19, 15)] rm_LA_poke G ((cC G ad nb nt cfa cle cwr csl cst cen cby cto csh cdz cch cva css cve cro crc cma cbi ces cbl crt) ++ [(ao, .inl (G.2 3, 1, .inr (.inl lou)))]) sz [.ref (ad 0), .int p0, .int p1, .int p2, .ref ao] (g_LA_poke p0 p1 p2 lou cfa csl cst cen cby) (fun u : (Nat → Int64) × ((Nat → Int32)) => ((cC G ad nb nt cfa cle cwr csl cst cen u.2 cto csh cdz cch cva css cve cro crc cma cbi ces cbl crt) ++ [(ao, .inl (G.2 3, 1, .inr (.inl u.1)))])) := by
  generalize hres : g_LA_poke p0 p1 p2 lou cfa csl cst cen cby = res
  refine MetX_of (by decide) (Nat.le_of_ble_eq_true rfl) ?_
  intro p e s m below meth c hadm hx hb hr hml hown hlocks hex ht hK A hA hZ hP hD hS ls hl
  have hown : s.vm.findClass "BookTreesLaw" = some m.cls := hown
  have hl : lv_has ls 6 [(0, .ref (ad 0)), (1, .int p0), (2, .int p1), (3, .int p2), (4, .ref ao)] := hl
  rw [g_LA_poke] at hres
  refine lv_aload hx hb d_LA_poke_0 (lv_at hl 4 rfl) ?_
  refine lv_iconst (v := (0 : Int32)) hx hb d_LA_poke_2 (by decide) ?_
  refine lv_aload_n hx hb d_LA_poke_3 rfl (lv_at hl 0 rfl) ?_
  refine lv_iload_n hx hb d_LA_poke_4 rfl (lv_at hl 1 rfl) ?_
  refine lv_iload_n hx hb d_LA_poke_5 rfl (lv_at hl 2 rfl) ?_
  refine lv_iload_n hx hb d_LA_poke_6 rfl (lv_at hl 3 rfl) ?_
  by_cases h0 : th_BT_poke p0 p1 p2 cfa cst cen = 0
  · have hres := it_t h0 hres
    refine go_ir (run_V hx hb hml hown ht hK (P_left hP) (D_left hD) (c_BT_poke (hok h0)) (cw_V ht km_LA_55 ki_BT_poke ks_BT_poke ini_BT kd_BT_poke kh_BT_poke ⟨Nat.le_of_ble_eq_true rfl, Nat.le_of_ble_eq_true rfl⟩ rfl rfl) (q0 := 0) (ci := 0) (As := [.int p0, .int p1, .int p2]) (rest := [.int (0 : Int32), .ref ao]) rfl rfl rfl hl.1 rfl (Nat.le_of_ble_eq_true rfl) d_LA_poke_7 ⟨Nat.zero_le _, Nat.zero_le _⟩) hP hD hS hA (fun z_1 H locs hz hP hD hS => ?_)
    have hres := bindc_eq hz hres
    have hP : va_P G.1 classes ((cC G ad nb nt cfa cle cwr csl cst cen z_1.2 cto csh cdz cch cva css cve cro crc cma cbi ces cbl crt) ++ [(ao, .inl (G.2 3, 1, .inr (.inl lou)))]) H := hP
    have hD : va_D A ((cC G ad nb nt cfa cle cwr csl cst cen z_1.2 cto csh cdz cch cva css cve cro crc cma cbi ces cbl crt) ++ [(ao, .inl (G.2 3, 1, .inr (.inl lou)))]) := hD
    refine lv_i2l hx hb d_LA_poke_10 rfl ?_
    refine va_last hx hb hK hP hD hS 18 3 rfl rfl (show vp_in (0 : Int32) 1 by unfold vp_in; decide) d_LA_poke_11 (fun H locs hP hD hS => ?_)
    have hP : va_P G.1 classes ((cC G ad nb nt cfa cle cwr csl cst cen z_1.2 cto csh cdz cch cva css cve cro crc cma cbi ces cbl crt) ++ [(ao, .inl (G.2 3, 1, .inr (.inl (vp_updL lou (0 : Int32).toNatClampNeg z_1.1.toInt64))))]) H := hP
    have hD : va_D A ((cC G ad nb nt cfa cle cwr csl cst cen z_1.2 cto csh cdz cch cva css cve cro crc cma cbi ces cbl crt) ++ [(ao, .inl (G.2 3, 1, .inr (.inl (vp_updL lou (0 : Int32).toNatClampNeg z_1.1.toInt64))))]) := hD
    refine lv_goto (tgt := 23) hx hb d_LA_poke_12 (by decide) ?_
    refine W.widen (k := 1) (n := 6) (by omega) (by omega) ?_
    refine lv_iconst (v := (0 : Int32)) hx hb d_LA_poke_23 (by decide) ?_
    exact en_i (post := eqP res) (w1 := (fun u : (Nat → Int64) × ((Nat → Int32)) => ((cC G ad nb nt cfa cle cwr csl cst cen u.2 cto csh cdz cch cva css cve cro crc cma cbi ces cbl crt) ++ [(ao, .inl (G.2 3, 1, .inr (.inl u.1)))]))) (((vp_updL lou (0 : Int32).toNatClampNeg z_1.1.toInt64), z_1.2)) hx hb hr hlocks hK hP hD hS hres d_LA_poke_24
  · have hres := it_f h0 hres
    by_cases h1 : th_BT_poke p0 p1 p2 cfa cst cen = 1
    · have hres := it_t h1 hres
      have hT : CtT l y_BT_poke b_BT_poke 4 (some .int) rmT_BT_poke G (cC G ad nb nt cfa cle cwr csl cst cen cby cto csh cdz cch cva css cve cro crc cma cbi ces cbl crt) s.heap.size [.ref (ad 0), .int p0, .int p1, .int p2] IAE := cT_BT_poke (k := 1) hfl hokT h1 (by decide)
      refine cat_1r (X := IAE) (own := "BookTreesLaw") (run_VT hx hb hml hown ht hK (P_left hP) (D_left hD) hZ hT (cw_V ht km_LA_55 ki_BT_poke ks_BT_poke ini_BT kd_BT_poke kh_BT_poke ⟨Nat.le_of_ble_eq_true rfl, Nat.le_of_ble_eq_true rfl⟩ rfl rfl) (q0 := 0) (ci := 0) (As := [.int p0, .int p1, .int p2]) (rest := [.int (0 : Int32), .ref ao]) rfl rfl rfl hl.1 rfl (Nat.le_of_ble_eq_true rfl) d_LA_poke_7 ⟨by decide, by decide⟩) hP hD hS hA hown (x := (⟨0, 12, 15, 13⟩ : ExceptionTableEntry)) (t := [(⟨0, 12, 19, 15⟩ : ExceptionTableEntry)]) hex (by decide) (by decide) (ht _ kc_LA_13) (AS_self1 hZ.2.2.2) (fun v H locs hP hD hS => ?_)
      refine lv_astore (lv' := [(5, .ref v), (0, .ref (ad 0)), (1, .int p0), (2, .int p1), (3, .int p2), (4, .ref ao)]) hx hb d_LA_poke_15 hl (by decide) rfl (fun ls hl => ?_)
      refine lv_iconst (v := (1 : Int32)) hx hb d_LA_poke_17 (by decide) ?_
      exact en_i (post := eqP res) (w1 := (fun u : (Nat → Int64) × ((Nat → Int32)) => ((cC G ad nb nt cfa cle cwr csl cst cen u.2 cto csh cdz cch cva css cve cro crc cma cbi ces cbl crt) ++ [(ao, .inl (G.2 3, 1, .inr (.inl u.1)))]))) (lou, cby) hx hb hr hlocks hK hP hD hS hres d_LA_poke_18
    · have hres := it_f h1 hres
      have hT : CtT l y_BT_poke b_BT_poke 4 (some .int) rmT_BT_poke G (cC G ad nb nt cfa cle cwr csl cst cen cby cto csh cdz cch cva css cve cro crc cma cbi ces cbl crt) s.heap.size [.ref (ad 0), .int p0, .int p1, .int p2] ISE := by
        have hT2 : CtT l y_BT_poke b_BT_poke 4 (some .int) rmT_BT_poke G (cC G ad nb nt cfa cle cwr csl cst cen cby cto csh cdz cch cva css cve cro crc cma cbi ces cbl crt) s.heap.size [.ref (ad 0), .int p0, .int p1, .int p2] (excOf (th_BT_poke p0 p1 p2 cfa cst cen)) := cT_BT_poke hfl hokT rfl h0
        rw [show excOf (th_BT_poke p0 p1 p2 cfa cst cen) = ISE from if_neg h1] at hT2
        exact hT2
      refine cat_2r (X := ISE) (Y := IAE) (own := "BookTreesLaw") (run_VT hx hb hml hown ht hK (P_left hP) (D_left hD) hZ hT (cw_V ht km_LA_55 ki_BT_poke ks_BT_poke ini_BT kd_BT_poke kh_BT_poke ⟨Nat.le_of_ble_eq_true rfl, Nat.le_of_ble_eq_true rfl⟩ rfl rfl) (q0 := 0) (ci := 0) (As := [.int p0, .int p1, .int p2]) (rest := [.int (0 : Int32), .ref ao]) rfl rfl rfl hl.1 rfl (Nat.le_of_ble_eq_true rfl) d_LA_poke_7 ⟨by decide, by decide⟩) hP hD hS hA hown (x := (⟨0, 12, 15, 13⟩ : ExceptionTableEntry)) (x2 := (⟨0, 12, 19, 15⟩ : ExceptionTableEntry)) (t := []) hex (by decide) (by decide) (ht _ kc_LA_13) (by decide) (by decide) (ht _ kc_LA_15) (AS_self2 hZ.2.2.2) (AS_other hZ.2.2.2) (fun v H locs hP hD hS => ?_)
      refine lv_astore (lv' := [(5, .ref v), (0, .ref (ad 0)), (1, .int p0), (2, .int p1), (3, .int p2), (4, .ref ao)]) hx hb d_LA_poke_19 hl (by decide) rfl (fun ls hl => ?_)
      refine lv_iconst (v := (2 : Int32)) hx hb d_LA_poke_21 (by decide) ?_
      exact en_i (post := eqP res) (w1 := (fun u : (Nat → Int64) × ((Nat → Int32)) => ((cC G ad nb nt cfa cle cwr csl cst cen u.2 cto csh cdz cch cva css cve cro crc cma cbi ces cbl crt) ++ [(ao, .inl (G.2 3, 1, .inr (.inl u.1)))]))) (lou, cby) hx hb hr hlocks hK hP hD hS hres d_LA_poke_22
/-! ===== badAt ===== -/
theorem kx_LA_badAt : Cond.codeWith y_LA_badAt b_LA_badAt 4 (some .int) [(0, 9, 12, 13), (0, 9, 15, 15)] ∈ lw_g := gw (List.mem_of_getElem? (i := 690) (by decide +kernel)) rfl
theorem kh_LA_badAt : y_LA_badAt.cls ≠ "java/lang/invoke/MethodHandle" ∧ y_LA_badAt.cls ≠ "java/lang/invoke/VarHandle" ∧ (parseMethodDescriptor y_LA_badAt.desc).map (fun d => d.parameters.length) = some 3 := by decide +kernel
abbrev rm_LA_badAt : Room := { frames := 8, cells := 1, slots := 6, locals := 126 }
def g_LA_badAt (p0 : Int32) (lou : Nat → Int64) (cfa : Int32) (csl : Int32) (cst : Int32) (cen : Int32) (cby : (Nat → Int32)) (cto : (Nat → Int32)) : Int32 × ((Nat → Int64) × (Unit)) := if th_BT_badAt p0 cfa = 0 then bindc (f_BT_badAt p0 cfa csl cst cen cby cto) (fun z_1 => ((0 : Int32), (vp_updL lou (0 : Int32).toNatClampNeg z_1.1.toInt64, z_1.2))) else if th_BT_badAt p0 cfa = 1 then ((1 : Int32), (lou, ())) else ((2 : Int32), (lou, ()))
set_option maxHeartbeats 4000000 in
set_option maxRecDepth 100000 in
theorem cx_LA_badAt {l : Launch} {G : GG} {ad : Nat → Nat} {ao : Nat} {nb : Nat} {nt : Nat} {sz : Nat} {cfa : Int32} {cle : Int32} {cwr : Int32} {csl : Int32} {cst : Int32} {cen : Int32} {cby : (Nat → Int32)} {cto : (Nat → Int32)} {csh : (Nat → Int32)} {cdz : Int32} {cch : (Nat → Int32)} {cva : (Nat → Int32)} {css : Int32} {cve : (Nat → Int32)} {cro : (Nat → Int32)} {crc : Int32} {cma : (Nat → Int32)} {cbi : (Nat → Int32)} {ces : (Nat → Int32)} {cbl : (Nat → Int32)} {crt : (Nat → Int32)} {p0 : Int32} {lou : Nat → Int64} (hfl : l.flags = flags0) (hokT : okT_BT_badAt nb nt p0 cfa) (hok : th_BT_badAt p0 cfa = 0 → ok_BT_badAt nb nt p0 cfa csl cst cen cby cto) : CtX l y_LA_badAt b_LA_badAt 4 [(0, 9, 12, 13), (0, 9, 15, 15)] rm_LA_badAt G ((cC G ad nb nt cfa cle cwr csl cst cen cby cto csh cdz cch cva css cve cro crc cma cbi ces cbl crt) ++ [(ao, .inl (G.2 3, 1, .inr (.inl lou)))]) sz [.ref (ad 0), .int p0, .ref ao] (g_LA_badAt p0 lou cfa csl cst cen cby cto) (fun u : (Nat → Int64) × (Unit) => ((cC G ad nb nt cfa cle cwr csl cst cen cby cto csh cdz cch cva css cve cro crc cma cbi ces cbl crt) ++ [(ao, .inl (G.2 3, 1, .inr (.inl u.1)))])) := by
  generalize hres : g_LA_badAt p0 lou cfa csl cst cen cby cto = res
  refine MetX_of (by decide) (Nat.le_of_ble_eq_true rfl) ?_
  intro p e s m below meth c hadm hx hb hr hml hown hlocks hex ht hK A hA hZ hP hD hS ls hl
  have hown : s.vm.findClass "BookTreesLaw" = some m.cls := hown
  have hl : lv_has ls 4 [(0, .ref (ad 0)), (1, .int p0), (2, .ref ao)] := hl
  rw [g_LA_badAt] at hres
  refine lv_aload_n hx hb d_LA_badAt_0 rfl (lv_at hl 2 rfl) ?_
  refine lv_iconst (v := (0 : Int32)) hx hb d_LA_badAt_1 (by decide) ?_
  refine lv_aload_n hx hb d_LA_badAt_2 rfl (lv_at hl 0 rfl) ?_
  refine lv_iload_n hx hb d_LA_badAt_3 rfl (lv_at hl 1 rfl) ?_
  by_cases h0 : th_BT_badAt p0 cfa = 0
  · have hres := it_t h0 hres
    refine go_ir (run_V hx hb hml hown ht hK (P_left hP) (D_left hD) (c_BT_badAt (hok h0)) (cw_V ht km_LA_59 ki_BT_badAt ks_BT_badAt ini_BT kd_BT_badAt kh_BT_badAt ⟨Nat.le_of_ble_eq_true rfl, Nat.le_of_ble_eq_true rfl⟩ rfl rfl) (q0 := 0) (ci := 0) (As := [.int p0]) (rest := [.int (0 : Int32), .ref ao]) rfl rfl rfl hl.1 rfl (Nat.le_of_ble_eq_true rfl) d_LA_badAt_4 ⟨Nat.zero_le _, Nat.zero_le _⟩) hP hD hS hA (fun z_1 H locs hz hP hD hS => ?_)
    have hres := bindc_eq hz hres
    have hP : va_P G.1 classes ((cC G ad nb nt cfa cle cwr csl cst cen cby cto csh cdz cch cva css cve cro crc cma cbi ces cbl crt) ++ [(ao, .inl (G.2 3, 1, .inr (.inl lou)))]) H := hP
    have hD : va_D A ((cC G ad nb nt cfa cle cwr csl cst cen cby cto csh cdz cch cva css cve cro crc cma cbi ces cbl crt) ++ [(ao, .inl (G.2 3, 1, .inr (.inl lou)))]) := hD
    refine lv_i2l hx hb d_LA_badAt_7 rfl ?_
    refine va_last hx hb hK hP hD hS 18 3 rfl rfl (show vp_in (0 : Int32) 1 by unfold vp_in; decide) d_LA_badAt_8 (fun H locs hP hD hS => ?_)
    have hP : va_P G.1 classes ((cC G ad nb nt cfa cle cwr csl cst cen cby cto csh cdz cch cva css cve cro crc cma cbi ces cbl crt) ++ [(ao, .inl (G.2 3, 1, .inr (.inl (vp_updL lou (0 : Int32).toNatClampNeg z_1.1.toInt64))))]) H := hP
    have hD : va_D A ((cC G ad nb nt cfa cle cwr csl cst cen cby cto csh cdz cch cva css cve cro crc cma cbi ces cbl crt) ++ [(ao, .inl (G.2 3, 1, .inr (.inl (vp_updL lou (0 : Int32).toNatClampNeg z_1.1.toInt64))))]) := hD
    refine lv_goto (tgt := 18) hx hb d_LA_badAt_9 (by decide) ?_
    refine W.widen (k := 1) (n := 6) (by omega) (by omega) ?_
    refine lv_iconst (v := (0 : Int32)) hx hb d_LA_badAt_18 (by decide) ?_
    exact en_i (post := eqP res) (w1 := (fun u : (Nat → Int64) × (Unit) => ((cC G ad nb nt cfa cle cwr csl cst cen cby cto csh cdz cch cva css cve cro crc cma cbi ces cbl crt) ++ [(ao, .inl (G.2 3, 1, .inr (.inl u.1)))]))) (((vp_updL lou (0 : Int32).toNatClampNeg z_1.1.toInt64), z_1.2)) hx hb hr hlocks hK hP hD hS hres d_LA_badAt_19
  · have hres := it_f h0 hres
    by_cases h1 : th_BT_badAt p0 cfa = 1
    · have hres := it_t h1 hres
      have hT : CtT l y_BT_badAt b_BT_badAt 4 (some .int) rmT_BT_badAt G (cC G ad nb nt cfa cle cwr csl cst cen cby cto csh cdz cch cva css cve cro crc cma cbi ces cbl crt) s.heap.size [.ref (ad 0), .int p0] IAE := cT_BT_badAt (k := 1) hfl hokT h1 (by decide)
      refine cat_1r (X := IAE) (own := "BookTreesLaw") (run_VT hx hb hml hown ht hK (P_left hP) (D_left hD) hZ hT (cw_V ht km_LA_59 ki_BT_badAt ks_BT_badAt ini_BT kd_BT_badAt kh_BT_badAt ⟨Nat.le_of_ble_eq_true rfl, Nat.le_of_ble_eq_true rfl⟩ rfl rfl) (q0 := 0) (ci := 0) (As := [.int p0]) (rest := [.int (0 : Int32), .ref ao]) rfl rfl rfl hl.1 rfl (Nat.le_of_ble_eq_true rfl) d_LA_badAt_4 ⟨by decide, by decide⟩) hP hD hS hA hown (x := (⟨0, 9, 12, 13⟩ : ExceptionTableEntry)) (t := [(⟨0, 9, 15, 15⟩ : ExceptionTableEntry)]) hex (by decide) (by decide) (ht _ kc_LA_13) (AS_self1 hZ.2.2.2) (fun v H locs hP hD hS => ?_)
      refine lv_astore_n (lv' := [(3, .ref v), (0, .ref (ad 0)), (1, .int p0), (2, .ref ao)]) hx hb d_LA_badAt_12 rfl hl (by decide) rfl (fun ls hl => ?_)
      refine lv_iconst (v := (1 : Int32)) hx hb d_LA_badAt_13 (by decide) ?_
      exact en_i (post := eqP res) (w1 := (fun u : (Nat → Int64) × (Unit) => ((cC G ad nb nt cfa cle cwr csl cst cen cby cto csh cdz cch cva css cve cro crc cma cbi ces cbl crt) ++ [(ao, .inl (G.2 3, 1, .inr (.inl u.1)))]))) (lou, ()) hx hb hr hlocks hK hP hD hS hres d_LA_badAt_14
    · have hres := it_f h1 hres
      have hT : CtT l y_BT_badAt b_BT_badAt 4 (some .int) rmT_BT_badAt G (cC G ad nb nt cfa cle cwr csl cst cen cby cto csh cdz cch cva css cve cro crc cma cbi ces cbl crt) s.heap.size [.ref (ad 0), .int p0] ISE := by
        have hT2 : CtT l y_BT_badAt b_BT_badAt 4 (some .int) rmT_BT_badAt G (cC G ad nb nt cfa cle cwr csl cst cen cby cto csh cdz cch cva css cve cro crc cma cbi ces cbl crt) s.heap.size [.ref (ad 0), .int p0] (excOf (th_BT_badAt p0 cfa)) := cT_BT_badAt hfl hokT rfl h0
        rw [show excOf (th_BT_badAt p0 cfa) = ISE from if_neg h1] at hT2
        exact hT2
      refine cat_2r (X := ISE) (Y := IAE) (own := "BookTreesLaw") (run_VT hx hb hml hown ht hK (P_left hP) (D_left hD) hZ hT (cw_V ht km_LA_59 ki_BT_badAt ks_BT_badAt ini_BT kd_BT_badAt kh_BT_badAt ⟨Nat.le_of_ble_eq_true rfl, Nat.le_of_ble_eq_true rfl⟩ rfl rfl) (q0 := 0) (ci := 0) (As := [.int p0]) (rest := [.int (0 : Int32), .ref ao]) rfl rfl rfl hl.1 rfl (Nat.le_of_ble_eq_true rfl) d_LA_badAt_4 ⟨by decide, by decide⟩) hP hD hS hA hown (x := (⟨0, 9, 12, 13⟩ : ExceptionTableEntry)) (x2 := (⟨0, 9, 15, 15⟩ : ExceptionTableEntry)) (t := []) hex (by decide) (by decide) (ht _ kc_LA_13) (by decide) (by decide) (ht _ kc_LA_15) (AS_self2 hZ.2.2.2) (AS_other hZ.2.2.2) (fun v H locs hP hD hS => ?_)
      refine lv_astore_n (lv' := [(3, .ref v), (0, .ref (ad 0)), (1, .int p0), (2, .ref ao)]) hx hb d_LA_badAt_15 rfl hl (by decide) rfl (fun ls hl => ?_)
      refine lv_iconst (v := (2 : Int32)) hx hb d_LA_badAt_16 (by decide) ?_
      exact en_i (post := eqP res) (w1 := (fun u : (Nat → Int64) × (Unit) => ((cC G ad nb nt cfa cle cwr csl cst cen cby cto csh cdz cch cva css cve cro crc cma cbi ces cbl crt) ++ [(ao, .inl (G.2 3, 1, .inr (.inl u.1)))]))) (lou, ()) hx hb hr hlocks hK hP hD hS hres d_LA_badAt_17
/-! ===== told ===== -/
theorem kx_LA_told : Cond.codeWith y_LA_told b_LA_told 4 (some .int) [(0, 9, 12, 13), (0, 9, 15, 15)] ∈ lw_g := gw (List.mem_of_getElem? (i := 698) (by decide +kernel)) rfl
theorem kh_LA_told : y_LA_told.cls ≠ "java/lang/invoke/MethodHandle" ∧ y_LA_told.cls ≠ "java/lang/invoke/VarHandle" ∧ (parseMethodDescriptor y_LA_told.desc).map (fun d => d.parameters.length) = some 3 := by decide +kernel
abbrev rm_LA_told : Room := { frames := 8, cells := 1, slots := 6, locals := 124 }
def g_LA_told (p0 : Int32) (lou : Nat → Int64) (cfa : Int32) (cwr : Int32) (cst : Int32) (cen : Int32) (cdz : Int32) (css : Int32) (cve : (Nat → Int32)) : Int32 × ((Nat → Int64) × (Unit)) := if th_BT_told p0 cfa = 0 then bindc (f_BT_told p0 cfa cwr cst cen cdz css cve) (fun z_1 => ((0 : Int32), (vp_updL lou (0 : Int32).toNatClampNeg z_1.1.toInt64, z_1.2))) else if th_BT_told p0 cfa = 1 then ((1 : Int32), (lou, ())) else ((2 : Int32), (lou, ()))
set_option maxHeartbeats 4000000 in
set_option maxRecDepth 100000 in
theorem cx_LA_told {l : Launch} {G : GG} {ad : Nat → Nat} {ao : Nat} {nb : Nat} {nt : Nat} {sz : Nat} {cfa : Int32} {cle : Int32} {cwr : Int32} {csl : Int32} {cst : Int32} {cen : Int32} {cby : (Nat → Int32)} {cto : (Nat → Int32)} {csh : (Nat → Int32)} {cdz : Int32} {cch : (Nat → Int32)} {cva : (Nat → Int32)} {css : Int32} {cve : (Nat → Int32)} {cro : (Nat → Int32)} {crc : Int32} {cma : (Nat → Int32)} {cbi : (Nat → Int32)} {ces : (Nat → Int32)} {cbl : (Nat → Int32)} {crt : (Nat → Int32)} {p0 : Int32} {lou : Nat → Int64} (hfl : l.flags = flags0) (hokT : okT_BT_told nb nt p0 cfa) (hok : th_BT_told p0 cfa = 0 → ok_BT_told nb nt p0 cfa cwr cst cen cdz css cve) : CtX l y_LA_told b_LA_told 4 [(0, 9, 12, 13), (0, 9, 15, 15)] rm_LA_told G ((cC G ad nb nt cfa cle cwr csl cst cen cby cto csh cdz cch cva css cve cro crc cma cbi ces cbl crt) ++ [(ao, .inl (G.2 3, 1, .inr (.inl lou)))]) sz [.ref (ad 0), .int p0, .ref ao] (g_LA_told p0 lou cfa cwr cst cen cdz css cve) (fun u : (Nat → Int64) × (Unit) => ((cC G ad nb nt cfa cle cwr csl cst cen cby cto csh cdz cch cva css cve cro crc cma cbi ces cbl crt) ++ [(ao, .inl (G.2 3, 1, .inr (.inl u.1)))])) := by
  generalize hres : g_LA_told p0 lou cfa cwr cst cen cdz css cve = res
  refine MetX_of (by decide) (Nat.le_of_ble_eq_true rfl) ?_
  intro p e s m below meth c hadm hx hb hr hml hown hlocks hex ht hK A hA hZ hP hD hS ls hl
  have hown : s.vm.findClass "BookTreesLaw" = some m.cls := hown
  have hl : lv_has ls 4 [(0, .ref (ad 0)), (1, .int p0), (2, .ref ao)] := hl
  rw [g_LA_told] at hres
  refine lv_aload_n hx hb d_LA_told_0 rfl (lv_at hl 2 rfl) ?_
  refine lv_iconst (v := (0 : Int32)) hx hb d_LA_told_1 (by decide) ?_
  refine lv_aload_n hx hb d_LA_told_2 rfl (lv_at hl 0 rfl) ?_
  refine lv_iload_n hx hb d_LA_told_3 rfl (lv_at hl 1 rfl) ?_
  by_cases h0 : th_BT_told p0 cfa = 0
  · have hres := it_t h0 hres
    refine go_ir (run_V hx hb hml hown ht hK (P_left hP) (D_left hD) (c_BT_told (hok h0)) (cw_V ht km_LA_62 ki_BT_told ks_BT_told ini_BT kd_BT_told kh_BT_told ⟨Nat.le_of_ble_eq_true rfl, Nat.le_of_ble_eq_true rfl⟩ rfl rfl) (q0 := 0) (ci := 0) (As := [.int p0]) (rest := [.int (0 : Int32), .ref ao]) rfl rfl rfl hl.1 rfl (Nat.le_of_ble_eq_true rfl) d_LA_told_4 ⟨Nat.zero_le _, Nat.zero_le _⟩) hP hD hS hA (fun z_1 H locs hz hP hD hS => ?_)
    have hres := bindc_eq hz hres
    have hP : va_P G.1 classes ((cC G ad nb nt cfa cle cwr csl cst cen cby cto csh cdz cch cva css cve cro crc cma cbi ces cbl crt) ++ [(ao, .inl (G.2 3, 1, .inr (.inl lou)))]) H := hP
    have hD : va_D A ((cC G ad nb nt cfa cle cwr csl cst cen cby cto csh cdz cch cva css cve cro crc cma cbi ces cbl crt) ++ [(ao, .inl (G.2 3, 1, .inr (.inl lou)))]) := hD
    refine lv_i2l hx hb d_LA_told_7 rfl ?_
    refine va_last hx hb hK hP hD hS 18 3 rfl rfl (show vp_in (0 : Int32) 1 by unfold vp_in; decide) d_LA_told_8 (fun H locs hP hD hS => ?_)
    have hP : va_P G.1 classes ((cC G ad nb nt cfa cle cwr csl cst cen cby cto csh cdz cch cva css cve cro crc cma cbi ces cbl crt) ++ [(ao, .inl (G.2 3, 1, .inr (.inl (vp_updL lou (0 : Int32).toNatClampNeg z_1.1.toInt64))))]) H := hP
    have hD : va_D A ((cC G ad nb nt cfa cle cwr csl cst cen cby cto csh cdz cch cva css cve cro crc cma cbi ces cbl crt) ++ [(ao, .inl (G.2 3, 1, .inr (.inl (vp_updL lou (0 : Int32).toNatClampNeg z_1.1.toInt64))))]) := hD
    refine lv_goto (tgt := 18) hx hb d_LA_told_9 (by decide) ?_
    refine W.widen (k := 1) (n := 6) (by omega) (by omega) ?_
    refine lv_iconst (v := (0 : Int32)) hx hb d_LA_told_18 (by decide) ?_
    exact en_i (post := eqP res) (w1 := (fun u : (Nat → Int64) × (Unit) => ((cC G ad nb nt cfa cle cwr csl cst cen cby cto csh cdz cch cva css cve cro crc cma cbi ces cbl crt) ++ [(ao, .inl (G.2 3, 1, .inr (.inl u.1)))]))) (((vp_updL lou (0 : Int32).toNatClampNeg z_1.1.toInt64), z_1.2)) hx hb hr hlocks hK hP hD hS hres d_LA_told_19
  · have hres := it_f h0 hres
    by_cases h1 : th_BT_told p0 cfa = 1
    · have hres := it_t h1 hres
      have hT : CtT l y_BT_told b_BT_told 2 (some .int) rmT_BT_told G (cC G ad nb nt cfa cle cwr csl cst cen cby cto csh cdz cch cva css cve cro crc cma cbi ces cbl crt) s.heap.size [.ref (ad 0), .int p0] IAE := cT_BT_told (k := 1) hfl hokT h1 (by decide)
      refine cat_1r (X := IAE) (own := "BookTreesLaw") (run_VT hx hb hml hown ht hK (P_left hP) (D_left hD) hZ hT (cw_V ht km_LA_62 ki_BT_told ks_BT_told ini_BT kd_BT_told kh_BT_told ⟨Nat.le_of_ble_eq_true rfl, Nat.le_of_ble_eq_true rfl⟩ rfl rfl) (q0 := 0) (ci := 0) (As := [.int p0]) (rest := [.int (0 : Int32), .ref ao]) rfl rfl rfl hl.1 rfl (Nat.le_of_ble_eq_true rfl) d_LA_told_4 ⟨by decide, by decide⟩) hP hD hS hA hown (x := (⟨0, 9, 12, 13⟩ : ExceptionTableEntry)) (t := [(⟨0, 9, 15, 15⟩ : ExceptionTableEntry)]) hex (by decide) (by decide) (ht _ kc_LA_13) (AS_self1 hZ.2.2.2) (fun v H locs hP hD hS => ?_)
      refine lv_astore_n (lv' := [(3, .ref v), (0, .ref (ad 0)), (1, .int p0), (2, .ref ao)]) hx hb d_LA_told_12 rfl hl (by decide) rfl (fun ls hl => ?_)
      refine lv_iconst (v := (1 : Int32)) hx hb d_LA_told_13 (by decide) ?_
      exact en_i (post := eqP res) (w1 := (fun u : (Nat → Int64) × (Unit) => ((cC G ad nb nt cfa cle cwr csl cst cen cby cto csh cdz cch cva css cve cro crc cma cbi ces cbl crt) ++ [(ao, .inl (G.2 3, 1, .inr (.inl u.1)))]))) (lou, ()) hx hb hr hlocks hK hP hD hS hres d_LA_told_14
    · have hres := it_f h1 hres
      have hT : CtT l y_BT_told b_BT_told 2 (some .int) rmT_BT_told G (cC G ad nb nt cfa cle cwr csl cst cen cby cto csh cdz cch cva css cve cro crc cma cbi ces cbl crt) s.heap.size [.ref (ad 0), .int p0] ISE := by
        have hT2 : CtT l y_BT_told b_BT_told 2 (some .int) rmT_BT_told G (cC G ad nb nt cfa cle cwr csl cst cen cby cto csh cdz cch cva css cve cro crc cma cbi ces cbl crt) s.heap.size [.ref (ad 0), .int p0] (excOf (th_BT_told p0 cfa)) := cT_BT_told hfl hokT rfl h0
        rw [show excOf (th_BT_told p0 cfa) = ISE from if_neg h1] at hT2
        exact hT2
      refine cat_2r (X := ISE) (Y := IAE) (own := "BookTreesLaw") (run_VT hx hb hml hown ht hK (P_left hP) (D_left hD) hZ hT (cw_V ht km_LA_62 ki_BT_told ks_BT_told ini_BT kd_BT_told kh_BT_told ⟨Nat.le_of_ble_eq_true rfl, Nat.le_of_ble_eq_true rfl⟩ rfl rfl) (q0 := 0) (ci := 0) (As := [.int p0]) (rest := [.int (0 : Int32), .ref ao]) rfl rfl rfl hl.1 rfl (Nat.le_of_ble_eq_true rfl) d_LA_told_4 ⟨by decide, by decide⟩) hP hD hS hA hown (x := (⟨0, 9, 12, 13⟩ : ExceptionTableEntry)) (x2 := (⟨0, 9, 15, 15⟩ : ExceptionTableEntry)) (t := []) hex (by decide) (by decide) (ht _ kc_LA_13) (by decide) (by decide) (ht _ kc_LA_15) (AS_self2 hZ.2.2.2) (AS_other hZ.2.2.2) (fun v H locs hP hD hS => ?_)
      refine lv_astore_n (lv' := [(3, .ref v), (0, .ref (ad 0)), (1, .int p0), (2, .ref ao)]) hx hb d_LA_told_15 rfl hl (by decide) rfl (fun ls hl => ?_)
      refine lv_iconst (v := (2 : Int32)) hx hb d_LA_told_16 (by decide) ?_
      exact en_i (post := eqP res) (w1 := (fun u : (Nat → Int64) × (Unit) => ((cC G ad nb nt cfa cle cwr csl cst cen cby cto csh cdz cch cva css cve cro crc cma cbi ces cbl crt) ++ [(ao, .inl (G.2 3, 1, .inr (.inl u.1)))]))) (lou, ()) hx hb hr hlocks hK hP hD hS hres d_LA_told_17
