/-! ===== BookTrees.isKey(I)Z ===== -/
abbrev rm_BT_isKey : Room := { frames := 0, cells := 0, slots := 0, locals := 0 }
def f_BT_isKey (p0 : Int32)  : Int32 × Unit := if p0 < 0 then ((0 : Int32), ()) else if (512 : Int32) ≤ p0 then ((0 : Int32), ()) else ((1 : Int32), ())
set_option maxHeartbeats 4000000 in
set_option maxRecDepth 100000 in
theorem c_BT_isKey {l : Launch} {G : GG} {ad : Nat → Nat} {nb : Nat} {nt : Nat} {sz : Nat} {cfa : Int32} {cle : Int32} {cwr : Int32} {csl : Int32} {cst : Int32} {cen : Int32} {cby : (Nat → Int32)} {cto : (Nat → Int32)} {csh : (Nat → Int32)} {cdz : Int32} {cch : (Nat → Int32)} {cva : (Nat → Int32)} {css : Int32} {cve : (Nat → Int32)} {cro : (Nat → Int32)} {crc : Int32} {cma : (Nat → Int32)} {cbi : (Nat → Int32)} {ces : (Nat → Int32)} {cbl : (Nat → Int32)} {crt : (Nat → Int32)} {p0 : Int32} : CtI l y_BT_isKey b_BT_isKey 2 (some .boolean) rm_BT_isKey G (cC G ad nb nt cfa cle cwr csl cst cen cby cto csh cdz cch cva css cve cro crc cma cbi ces cbl crt) sz [.ref (ad 0), .int p0] (eqP (f_BT_isKey p0)) (fun _ : Unit => (cC G ad nb nt cfa cle cwr csl cst cen cby cto csh cdz cch cva css cve cro crc cma cbi ces cbl crt)) := by
  generalize hres : f_BT_isKey p0 = res
  refine Met_of (Qc := fun A => va_Qi (eqP res) (Wb G A (fun _ : Unit => (cC G ad nb nt cfa cle cwr csl cst cen cby cto csh cdz cch cva css cve cro crc cma cbi ces cbl crt))) A) (by decide) (Nat.le_of_ble_eq_true rfl) ?_
  intro p e s m below meth c hadm hx hb hr hml hown hlocks ht hK A hA hP hD hS ls hl
  have hC : Cx p l e s m (([.ref (ad 0), .int p0] : List Value)).toArray meth c y_BT_isKey b_BT_isKey 2 (some .boolean) "BookTrees" G A := ⟨hx, hb, hr, hml, hown, hlocks, ht, hK, hA⟩
  have hown : s.vm.findClass "BookTrees" = some m.cls := hown
  have hl : lv_has ls 2 [(0, .ref (ad 0)), (1, .int p0)] := hl
  rw [f_BT_isKey] at hres
  refine lv_iload_n hx hb d_BT_isKey_0 rfl (lv_at hl 1 rfl) ?_
  refine lv_if_lt (tgt := 15) hx hb d_BT_isKey_1 (by decide) (fun c_1 => ?_) (fun c_1 => ?_)
  · have hres := it_t c_1 hres
    refine lv_iconst (v := (0 : Int32)) hx hb d_BT_isKey_15 (by decide) ?_
    exact en_z (w1 := (fun _ : Unit => (cC G ad nb nt cfa cle cwr csl cst cen cby cto csh cdz cch cva css cve cro crc cma cbi ces cbl crt))) () hx hb hr hlocks hK hP hD hS hres isB_0 d_BT_isKey_16
  · have hres := it_f c_1 hres
    refine lv_iload_n hx hb d_BT_isKey_4 rfl (lv_at hl 1 rfl) ?_
    refine lv_sipush (v := (512 : Int32)) hx hb d_BT_isKey_5 (by decide) ?_
    refine lv_icmp_ge (tgt := 15) hx hb d_BT_isKey_8 (by decide) (fun c_8 => ?_) (fun c_8 => ?_)
    · have hres := it_t c_8 hres
      refine lv_iconst (v := (0 : Int32)) hx hb d_BT_isKey_15 (by decide) ?_
      exact en_z (w1 := (fun _ : Unit => (cC G ad nb nt cfa cle cwr csl cst cen cby cto csh cdz cch cva css cve cro crc cma cbi ces cbl crt))) () hx hb hr hlocks hK hP hD hS hres isB_0 d_BT_isKey_16
    · have hres := it_f c_8 hres
      refine lv_iconst (v := (1 : Int32)) hx hb d_BT_isKey_11 (by decide) ?_
      refine lv_goto (tgt := 16) hx hb d_BT_isKey_12 (by decide) ?_
      exact en_z (w1 := (fun _ : Unit => (cC G ad nb nt cfa cle cwr csl cst cen cby cto csh cdz cch cva css cve cro crc cma cbi ces cbl crt))) () hx hb hr hlocks hK hP hD hS hres isB_1 d_BT_isKey_16
/-! ===== BookTrees.requireArgument(Z)V ===== -/
abbrev rm_BT_requireArgument : Room := { frames := 0, cells := 0, slots := 0, locals := 0 }
def f_BT_requireArgument (p0 : Int32)  : Unit := if p0 = 0 then () else ()
def ok_BT_requireArgument (nb : Nat) (nt : Nat) (p0 : Int32)  : Prop := (p0 = 0 → False) ∧ (¬ p0 = 0 → True)
set_option maxHeartbeats 4000000 in
set_option maxRecDepth 100000 in
theorem c_BT_requireArgument {l : Launch} {G : GG} {ad : Nat → Nat} {nb : Nat} {nt : Nat} {sz : Nat} {cfa : Int32} {cle : Int32} {cwr : Int32} {csl : Int32} {cst : Int32} {cen : Int32} {cby : (Nat → Int32)} {cto : (Nat → Int32)} {csh : (Nat → Int32)} {cdz : Int32} {cch : (Nat → Int32)} {cva : (Nat → Int32)} {css : Int32} {cve : (Nat → Int32)} {cro : (Nat → Int32)} {crc : Int32} {cma : (Nat → Int32)} {cbi : (Nat → Int32)} {ces : (Nat → Int32)} {cbl : (Nat → Int32)} {crt : (Nat → Int32)} {p0 : Int32} (hok : ok_BT_requireArgument nb nt p0) : CtV l y_BT_requireArgument b_BT_requireArgument 2 none rm_BT_requireArgument G (cC G ad nb nt cfa cle cwr csl cst cen cby cto csh cdz cch cva css cve cro crc cma cbi ces cbl crt) sz [.ref (ad 0), .int p0] (eqV (f_BT_requireArgument p0)) (fun _ : Unit => (cC G ad nb nt cfa cle cwr csl cst cen cby cto csh cdz cch cva css cve cro crc cma cbi ces cbl crt)) := by
  generalize hres : f_BT_requireArgument p0 = res
  refine Met_of (Qc := fun A => va_Qv (eqV res) (Wb G A (fun _ : Unit => (cC G ad nb nt cfa cle cwr csl cst cen cby cto csh cdz cch cva css cve cro crc cma cbi ces cbl crt))) A) (by decide) (Nat.le_of_ble_eq_true rfl) ?_
  intro p e s m below meth c hadm hx hb hr hml hown hlocks ht hK A hA hP hD hS ls hl
  have hC : Cx p l e s m (([.ref (ad 0), .int p0] : List Value)).toArray meth c y_BT_requireArgument b_BT_requireArgument 2 none "BookTrees" G A := ⟨hx, hb, hr, hml, hown, hlocks, ht, hK, hA⟩
  have hown : s.vm.findClass "BookTrees" = some m.cls := hown
  have hl : lv_has ls 2 [(0, .ref (ad 0)), (1, .int p0)] := hl
  rw [f_BT_requireArgument] at hres
  rw [ok_BT_requireArgument] at hok
  refine lv_iload_n hx hb d_BT_requireArgument_0 rfl (lv_at hl 1 rfl) ?_
  refine lv_if_ne (tgt := 14) hx hb d_BT_requireArgument_1 (by decide) (fun c_1 => ?_) (fun c_1 => ?_)
  · have hres := it_f c_1 hres
    exact en_v (w1 := (fun _ : Unit => (cC G ad nb nt cfa cle cwr csl cst cen cby cto csh cdz cch cva css cve cro crc cma cbi ces cbl crt))) () hx hb hr hlocks hK hP hD hS hres d_BT_requireArgument_14
  · have hres := it_t c_1 hres
    have hok := hok.1 c_1
    exact hok.elim
/-! ===== BookTrees$Power.hasFailed()Z ===== -/
abbrev rm_PW_hasFailed : Room := { frames := 0, cells := 0, slots := 0, locals := 0 }
def f_PW_hasFailed  (cfa : Int32) : Int32 × Unit := (cfa, ())
def ok_PW_hasFailed (nb : Nat) (nt : Nat)  (cfa : Int32) : Prop := isB cfa
set_option maxHeartbeats 4000000 in
set_option maxRecDepth 100000 in
theorem c_PW_hasFailed {l : Launch} {G : GG} {ad : Nat → Nat} {nb : Nat} {nt : Nat} {sz : Nat} {cfa : Int32} {cle : Int32} {cwr : Int32} {csl : Int32} {cst : Int32} {cen : Int32} {cby : (Nat → Int32)} {cto : (Nat → Int32)} {csh : (Nat → Int32)} {cdz : Int32} {cch : (Nat → Int32)} {cva : (Nat → Int32)} {css : Int32} {cve : (Nat → Int32)} {cro : (Nat → Int32)} {crc : Int32} {cma : (Nat → Int32)} {cbi : (Nat → Int32)} {ces : (Nat → Int32)} {cbl : (Nat → Int32)} {crt : (Nat → Int32)}  (hok : ok_PW_hasFailed nb nt cfa) : CtI l y_PW_hasFailed b_PW_hasFailed 1 (some .boolean) rm_PW_hasFailed G (cC G ad nb nt cfa cle cwr csl cst cen cby cto csh cdz cch cva css cve cro crc cma cbi ces cbl crt) sz [.ref (ad 1)] (eqP (f_PW_hasFailed cfa)) (fun _ : Unit => (cC G ad nb nt cfa cle cwr csl cst cen cby cto csh cdz cch cva css cve cro crc cma cbi ces cbl crt)) := by
  generalize hres : f_PW_hasFailed cfa = res
  refine Met_of (Qc := fun A => va_Qi (eqP res) (Wb G A (fun _ : Unit => (cC G ad nb nt cfa cle cwr csl cst cen cby cto csh cdz cch cva css cve cro crc cma cbi ces cbl crt))) A) (by decide) (Nat.le_of_ble_eq_true rfl) ?_
  intro p e s m below meth c hadm hx hb hr hml hown hlocks ht hK A hA hP hD hS ls hl
  have hC : Cx p l e s m (([.ref (ad 1)] : List Value)).toArray meth c y_PW_hasFailed b_PW_hasFailed 1 (some .boolean) "BookTrees$Power" G A := ⟨hx, hb, hr, hml, hown, hlocks, ht, hK, hA⟩
  have hown : s.vm.findClass "BookTrees$Power" = some m.cls := hown
  have hl : lv_has ls 1 [(0, .ref (ad 1))] := hl
  rw [f_PW_hasFailed] at hres
  rw [ok_PW_hasFailed] at hok
  refine lv_aload_n hx hb d_PW_hasFailed_0 rfl (lv_at hl 0 rfl) ?_
  refine va_get (D := G.1) (ci := 1) (C := R_PW) (T := F_PW) (N := 3) hx hb ht in_PW hown hK hP 1 rfl rfl 0 (by decide) (ht _ kf_PW_15) (fun _ h9 => h9) rfl d_PW_hasFailed_1 ?_
  exact en_z (w1 := (fun _ : Unit => (cC G ad nb nt cfa cle cwr csl cst cen cby cto csh cdz cch cva css cve cro crc cma cbi ces cbl crt))) () hx hb hr hlocks hK hP hD hS hres hok d_PW_hasFailed_4
/-! ===== BookTrees.requirePower()V ===== -/
abbrev rm_BT_requirePower : Room := { frames := 1, cells := 0, slots := 0, locals := 20 }
def f_BT_requirePower  (cfa : Int32) : Unit := bindc (f_PW_hasFailed cfa) (fun z_4 => if z_4.1 = 0 then () else ())
def ok_BT_requirePower (nb : Nat) (nt : Nat)  (cfa : Int32) : Prop := ok_PW_hasFailed nb nt cfa ∧ bindp (f_PW_hasFailed cfa) (fun z_4 => (z_4.1 = 0 → True) ∧ (¬ z_4.1 = 0 → False))
set_option maxHeartbeats 4000000 in
set_option maxRecDepth 100000 in
theorem c_BT_requirePower {l : Launch} {G : GG} {ad : Nat → Nat} {nb : Nat} {nt : Nat} {sz : Nat} {cfa : Int32} {cle : Int32} {cwr : Int32} {csl : Int32} {cst : Int32} {cen : Int32} {cby : (Nat → Int32)} {cto : (Nat → Int32)} {csh : (Nat → Int32)} {cdz : Int32} {cch : (Nat → Int32)} {cva : (Nat → Int32)} {css : Int32} {cve : (Nat → Int32)} {cro : (Nat → Int32)} {crc : Int32} {cma : (Nat → Int32)} {cbi : (Nat → Int32)} {ces : (Nat → Int32)} {cbl : (Nat → Int32)} {crt : (Nat → Int32)}  (hok : ok_BT_requirePower nb nt cfa) : CtV l y_BT_requirePower b_BT_requirePower 1 none rm_BT_requirePower G (cC G ad nb nt cfa cle cwr csl cst cen cby cto csh cdz cch cva css cve cro crc cma cbi ces cbl crt) sz [.ref (ad 0)] (eqV (f_BT_requirePower cfa)) (fun _ : Unit => (cC G ad nb nt cfa cle cwr csl cst cen cby cto csh cdz cch cva css cve cro crc cma cbi ces cbl crt)) := by
  generalize hres : f_BT_requirePower cfa = res
  refine Met_of (Qc := fun A => va_Qv (eqV res) (Wb G A (fun _ : Unit => (cC G ad nb nt cfa cle cwr csl cst cen cby cto csh cdz cch cva css cve cro crc cma cbi ces cbl crt))) A) (by decide) (Nat.le_of_ble_eq_true rfl) ?_
  intro p e s m below meth c hadm hx hb hr hml hown hlocks ht hK A hA hP hD hS ls hl
  have hC : Cx p l e s m (([.ref (ad 0)] : List Value)).toArray meth c y_BT_requirePower b_BT_requirePower 1 none "BookTrees" G A := ⟨hx, hb, hr, hml, hown, hlocks, ht, hK, hA⟩
  have hown : s.vm.findClass "BookTrees" = some m.cls := hown
  have hl : lv_has ls 1 [(0, .ref (ad 0))] := hl
  rw [f_BT_requirePower] at hres
  rw [ok_BT_requirePower] at hok
  refine lv_aload_n hx hb d_BT_requirePower_0 rfl (lv_at hl 0 rfl) ?_
  refine va_get (D := G.1) (ci := 0) (C := R_BT) (T := F_BT) (N := 5) hx hb ht in_BT hown hK hP 0 rfl rfl 0 (by decide) (ht _ kf_BT_10) (fun _ h9 => h9) rfl d_BT_requirePower_1 ?_
  obtain ⟨hk_4, hok⟩ := hok
  refine go_iz (run_V hx hb hml hown ht hK hP hD (c_PW_hasFailed hk_4) (cw_V ht km_BT_169 ki_PW_hasFailed ks_PW_hasFailed ini_PW kd_PW_hasFailed kh_PW_hasFailed ⟨Nat.le_of_ble_eq_true rfl, Nat.le_of_ble_eq_true rfl⟩ rfl rfl) (q0 := 1) (ci := 1) (As := []) (rest := []) rfl rfl rfl hl.1 rfl (Nat.le_of_ble_eq_true rfl) d_BT_requirePower_4 ⟨Nat.zero_le _, Nat.zero_le _⟩) hD hS hA (fun z_4 H locs hz_4 hP hD hS => ?_)
  have hres := bindc_eq hz_4 hres
  have hok := bindp_eq hz_4 hok
  have hP : va_P G.1 classes (cC G ad nb nt cfa cle cwr csl cst cen cby cto csh cdz cch cva css cve cro crc cma cbi ces cbl crt) H := hP
  have hD : va_D A (cC G ad nb nt cfa cle cwr csl cst cen cby cto csh cdz cch cva css cve cro crc cma cbi ces cbl crt) := hD
  refine lv_if_eq (tgt := 20) hx hb d_BT_requirePower_7 (by decide) (fun c_7 => ?_) (fun c_7 => ?_)
  · have hres := it_t c_7 hres
    exact en_v (w1 := (fun _ : Unit => (cC G ad nb nt cfa cle cwr csl cst cen cby cto csh cdz cch cva css cve cro crc cma cbi ces cbl crt))) () hx hb hr hlocks hK hP hD hS hres d_BT_requirePower_20
  · have hres := it_f c_7 hres
    have hok := hok.2 c_7
    exact hok.elim
/-! ===== BookTrees$Draft.has(I)Z ===== -/
abbrev rm_DR_has : Room := { frames := 0, cells := 0, slots := 0, locals := 0 }
def f_DR_has (p0 : Int32) (cch : (Nat → Int32)) : Int32 × Unit := if (cch p0.toNatClampNeg) = 0 then ((0 : Int32), ()) else ((1 : Int32), ())
def ok_DR_has (nb : Nat) (nt : Nat) (p0 : Int32) (cch : (Nat → Int32)) : Prop := vp_in p0 512
set_option maxHeartbeats 4000000 in
set_option maxRecDepth 100000 in
theorem c_DR_has {l : Launch} {G : GG} {ad : Nat → Nat} {nb : Nat} {nt : Nat} {sz : Nat} {cfa : Int32} {cle : Int32} {cwr : Int32} {csl : Int32} {cst : Int32} {cen : Int32} {cby : (Nat → Int32)} {cto : (Nat → Int32)} {csh : (Nat → Int32)} {cdz : Int32} {cch : (Nat → Int32)} {cva : (Nat → Int32)} {css : Int32} {cve : (Nat → Int32)} {cro : (Nat → Int32)} {crc : Int32} {cma : (Nat → Int32)} {cbi : (Nat → Int32)} {ces : (Nat → Int32)} {cbl : (Nat → Int32)} {crt : (Nat → Int32)} {p0 : Int32} (hok : ok_DR_has nb nt p0 cch) : CtI l y_DR_has b_DR_has 2 (some .boolean) rm_DR_has G (cC G ad nb nt cfa cle cwr csl cst cen cby cto csh cdz cch cva css cve cro crc cma cbi ces cbl crt) sz [.ref (ad 6), .int p0] (eqP (f_DR_has p0 cch)) (fun _ : Unit => (cC G ad nb nt cfa cle cwr csl cst cen cby cto csh cdz cch cva css cve cro crc cma cbi ces cbl crt)) := by
  generalize hres : f_DR_has p0 cch = res
  refine Met_of (Qc := fun A => va_Qi (eqP res) (Wb G A (fun _ : Unit => (cC G ad nb nt cfa cle cwr csl cst cen cby cto csh cdz cch cva css cve cro crc cma cbi ces cbl crt))) A) (by decide) (Nat.le_of_ble_eq_true rfl) ?_
  intro p e s m below meth c hadm hx hb hr hml hown hlocks ht hK A hA hP hD hS ls hl
  have hC : Cx p l e s m (([.ref (ad 6), .int p0] : List Value)).toArray meth c y_DR_has b_DR_has 2 (some .boolean) "BookTrees$Draft" G A := ⟨hx, hb, hr, hml, hown, hlocks, ht, hK, hA⟩
  have hown : s.vm.findClass "BookTrees$Draft" = some m.cls := hown
  have hl : lv_has ls 2 [(0, .ref (ad 6)), (1, .int p0)] := hl
  rw [f_DR_has] at hres
  rw [ok_DR_has] at hok
  refine lv_aload_n hx hb d_DR_has_0 rfl (lv_at hl 0 rfl) ?_
  refine va_get (D := G.1) (ci := 3) (C := R_DR) (T := F_DR) (N := 3) hx hb ht in_DR hown hK hP 6 rfl rfl 0 (by decide) (ht _ kf_DR_9) (fun _ h9 => h9) rfl d_DR_has_1 ?_
  refine lv_iload_n hx hb d_DR_has_4 rfl (lv_at hl 1 rfl) ?_
  have hi_5 := hok
  refine va_iald hx hb hK hP 7 0 rfl rfl hi_5 d_DR_has_5 ?_
  refine lv_if_eq (tgt := 13) hx hb d_DR_has_6 (by decide) (fun c_6 => ?_) (fun c_6 => ?_)
  · have hres := it_t c_6 hres
    refine lv_iconst (v := (0 : Int32)) hx hb d_DR_has_13 (by decide) ?_
    exact en_z (w1 := (fun _ : Unit => (cC G ad nb nt cfa cle cwr csl cst cen cby cto csh cdz cch cva css cve cro crc cma cbi ces cbl crt))) () hx hb hr hlocks hK hP hD hS hres isB_0 d_DR_has_14
  · have hres := it_f c_6 hres
    refine lv_iconst (v := (1 : Int32)) hx hb d_DR_has_9 (by decide) ?_
    refine lv_goto (tgt := 14) hx hb d_DR_has_10 (by decide) ?_
    exact en_z (w1 := (fun _ : Unit => (cC G ad nb nt cfa cle cwr csl cst cen cby cto csh cdz cch cva css cve cro crc cma cbi ces cbl crt))) () hx hb hr hlocks hK hP hD hS hres isB_1 d_DR_has_14
/-! ===== BookTrees$Draft.note(II)V ===== -/
abbrev rm_DR_note : Room := { frames := 1, cells := 0, slots := 0, locals := 21 }
def f_DR_note (p0 : Int32) (p1 : Int32) (cdz : Int32) (cch : (Nat → Int32)) : Int32 × (Nat → Int32) := bindc (f_DR_has p0 cch) (fun z_2 => if z_2.1 = 0 then (cdz + (1 : Int32), upd cch p0.toNatClampNeg p1) else (cdz, upd cch p0.toNatClampNeg p1))
def ok_DR_note (nb : Nat) (nt : Nat) (p0 : Int32) (p1 : Int32) (cdz : Int32) (cch : (Nat → Int32)) : Prop := ok_DR_has nb nt p0 cch ∧ bindp (f_DR_has p0 cch) (fun z_2 => (z_2.1 = 0 → vp_in p0 512) ∧ (¬ z_2.1 = 0 → vp_in p0 512))
set_option maxHeartbeats 4000000 in
set_option maxRecDepth 100000 in
theorem c_DR_note {l : Launch} {G : GG} {ad : Nat → Nat} {nb : Nat} {nt : Nat} {sz : Nat} {cfa : Int32} {cle : Int32} {cwr : Int32} {csl : Int32} {cst : Int32} {cen : Int32} {cby : (Nat → Int32)} {cto : (Nat → Int32)} {csh : (Nat → Int32)} {cdz : Int32} {cch : (Nat → Int32)} {cva : (Nat → Int32)} {css : Int32} {cve : (Nat → Int32)} {cro : (Nat → Int32)} {crc : Int32} {cma : (Nat → Int32)} {cbi : (Nat → Int32)} {ces : (Nat → Int32)} {cbl : (Nat → Int32)} {crt : (Nat → Int32)} {p0 : Int32} {p1 : Int32} (hok : ok_DR_note nb nt p0 p1 cdz cch) : CtV l y_DR_note b_DR_note 3 none rm_DR_note G (cC G ad nb nt cfa cle cwr csl cst cen cby cto csh cdz cch cva css cve cro crc cma cbi ces cbl crt) sz [.ref (ad 6), .int p0, .int p1] (eqV (f_DR_note p0 p1 cdz cch)) (fun u : Int32 × (Nat → Int32) => (cC G ad nb nt cfa cle cwr csl cst cen cby cto csh u.1 u.2 cva css cve cro crc cma cbi ces cbl crt)) := by
  generalize hres : f_DR_note p0 p1 cdz cch = res
  refine Met_of (Qc := fun A => va_Qv (eqV res) (Wb G A (fun u : Int32 × (Nat → Int32) => (cC G ad nb nt cfa cle cwr csl cst cen cby cto csh u.1 u.2 cva css cve cro crc cma cbi ces cbl crt))) A) (by decide) (Nat.le_of_ble_eq_true rfl) ?_
  intro p e s m below meth c hadm hx hb hr hml hown hlocks ht hK A hA hP hD hS ls hl
  have hC : Cx p l e s m (([.ref (ad 6), .int p0, .int p1] : List Value)).toArray meth c y_DR_note b_DR_note 3 none "BookTrees$Draft" G A := ⟨hx, hb, hr, hml, hown, hlocks, ht, hK, hA⟩
  have hown : s.vm.findClass "BookTrees$Draft" = some m.cls := hown
  have hl : lv_has ls 3 [(0, .ref (ad 6)), (1, .int p0), (2, .int p1)] := hl
  rw [f_DR_note] at hres
  rw [ok_DR_note] at hok
  refine lv_aload_n hx hb d_DR_note_0 rfl (lv_at hl 0 rfl) ?_
  refine lv_iload_n hx hb d_DR_note_1 rfl (lv_at hl 1 rfl) ?_
  obtain ⟨hk_2, hok⟩ := hok
  refine go_iz (run_V hx hb hml hown ht hK hP hD (c_DR_has hk_2) (cw_V ht km_DR_26 ki_DR_has ks_DR_has ini_DR kd_DR_has kh_DR_has ⟨Nat.le_of_ble_eq_true rfl, Nat.le_of_ble_eq_true rfl⟩ rfl rfl) (q0 := 6) (ci := 3) (As := [.int p0]) (rest := []) rfl rfl rfl hl.1 rfl (Nat.le_of_ble_eq_true rfl) d_DR_note_2 ⟨Nat.zero_le _, Nat.zero_le _⟩) hD hS hA (fun z_2 H locs hz_2 hP hD hS => ?_)
  have hres := bindc_eq hz_2 hres
  have hok := bindp_eq hz_2 hok
  have hP : va_P G.1 classes (cC G ad nb nt cfa cle cwr csl cst cen cby cto csh cdz cch cva css cve cro crc cma cbi ces cbl crt) H := hP
  have hD : va_D A (cC G ad nb nt cfa cle cwr csl cst cen cby cto csh cdz cch cva css cve cro crc cma cbi ces cbl crt) := hD
  refine lv_if_ne (tgt := 18) hx hb d_DR_note_5 (by decide) (fun c_5 => ?_) (fun c_5 => ?_)
  · have hres := it_f c_5 hres
    have hok := hok.2 c_5
    refine lv_aload_n hx hb d_DR_note_18 rfl (lv_at hl 0 rfl) ?_
    refine va_get (D := G.1) (ci := 3) (C := R_DR) (T := F_DR) (N := 3) hx hb ht in_DR hown hK hP 6 rfl rfl 0 (by decide) (ht _ kf_DR_9) (fun _ h9 => h9) rfl d_DR_note_19 ?_
    refine lv_iload_n hx hb d_DR_note_22 rfl (lv_at hl 1 rfl) ?_
    refine lv_iload_n hx hb d_DR_note_23 rfl (lv_at hl 2 rfl) ?_
    have hi_24 := hok
    refine va_iast hx hb hK hP hD hS 7 0 rfl rfl hi_24 d_DR_note_24 (fun H locs hP hD hS => ?_)
    have hP : va_P G.1 classes (cC G ad nb nt cfa cle cwr csl cst cen cby cto csh cdz (upd cch p0.toNatClampNeg p1) cva css cve cro crc cma cbi ces cbl crt) H := hP
    have hD : va_D A (cC G ad nb nt cfa cle cwr csl cst cen cby cto csh cdz (upd cch p0.toNatClampNeg p1) cva css cve cro crc cma cbi ces cbl crt) := hD
    exact en_v (w1 := (fun u : Int32 × (Nat → Int32) => (cC G ad nb nt cfa cle cwr csl cst cen cby cto csh u.1 u.2 cva css cve cro crc cma cbi ces cbl crt))) (cdz, upd cch p0.toNatClampNeg p1) hx hb hr hlocks hK hP hD hS hres d_DR_note_25
  · have hres := it_t c_5 hres
    have hok := hok.1 c_5
    refine lv_aload_n hx hb d_DR_note_8 rfl (lv_at hl 0 rfl) ?_
    refine lv_dup hx hb d_DR_note_9 rfl ?_
    refine va_get (D := G.1) (ci := 3) (C := R_DR) (T := F_DR) (N := 3) hx hb ht in_DR hown hK hP 6 rfl rfl 2 (by decide) (ht _ kf_DR_18) (fun _ h9 => h9) rfl d_DR_note_10 ?_
    refine lv_iconst (v := (1 : Int32)) hx hb d_DR_note_13 (by decide) ?_
    refine lv_iadd hx hb d_DR_note_14 ?_
    refine va_put (D := G.1) (ci := 3) (v := .int (cdz + (1 : Int32))) (ty := .int) (C := R_DR) (T := F_DR) (N := 3) hx hb ht in_DR t_DR to_DR nm_DR hown hK hP hD hS 6 rfl rfl 2 (by decide) (ht _ kf_DR_18) (fun _ h9 => h9) rfl (to_DR 2 (by decide)) rfl rfl (Nat.le_of_ble_eq_true rfl) d_DR_note_15 (fun H locs hP hD hS => ?_)
    have hP : va_P G.1 classes (cC G ad nb nt cfa cle cwr csl cst cen cby cto csh (cdz + (1 : Int32)) cch cva css cve cro crc cma cbi ces cbl crt) H := hP
    have hD : va_D A (cC G ad nb nt cfa cle cwr csl cst cen cby cto csh (cdz + (1 : Int32)) cch cva css cve cro crc cma cbi ces cbl crt) := hD
    refine lv_aload_n hx hb d_DR_note_18 rfl (lv_at hl 0 rfl) ?_
    refine va_get (D := G.1) (ci := 3) (C := R_DR) (T := F_DR) (N := 3) hx hb ht in_DR hown hK hP 6 rfl rfl 0 (by decide) (ht _ kf_DR_9) (fun _ h9 => h9) rfl d_DR_note_19 ?_
    refine lv_iload_n hx hb d_DR_note_22 rfl (lv_at hl 1 rfl) ?_
    refine lv_iload_n hx hb d_DR_note_23 rfl (lv_at hl 2 rfl) ?_
    have hi_24 := hok
    refine va_iast hx hb hK hP hD hS 7 0 rfl rfl hi_24 d_DR_note_24 (fun H locs hP hD hS => ?_)
    have hP : va_P G.1 classes (cC G ad nb nt cfa cle cwr csl cst cen cby cto csh (cdz + (1 : Int32)) (upd cch p0.toNatClampNeg p1) cva css cve cro crc cma cbi ces cbl crt) H := hP
    have hD : va_D A (cC G ad nb nt cfa cle cwr csl cst cen cby cto csh (cdz + (1 : Int32)) (upd cch p0.toNatClampNeg p1) cva css cve cro crc cma cbi ces cbl crt) := hD
    exact en_v (w1 := (fun u : Int32 × (Nat → Int32) => (cC G ad nb nt cfa cle cwr csl cst cen cby cto csh u.1 u.2 cva css cve cro crc cma cbi ces cbl crt))) (cdz + (1 : Int32), upd cch p0.toNatClampNeg p1) hx hb hr hlocks hK hP hD hS hres d_DR_note_25
/-! ===== BookTrees$Draft.setValue(II)V ===== -/
abbrev rm_DR_setValue : Room := { frames := 2, cells := 0, slots := 0, locals := 43 }
def f_DR_setValue (p0 : Int32) (p1 : Int32) (cdz : Int32) (cch : (Nat → Int32)) (cva : (Nat → Int32)) : Int32 × (Nat → Int32) × (Nat → Int32) := bindc (f_DR_note p0 (1 : Int32) cdz cch) (fun z_3 => (z_3.1, z_3.2, upd cva p0.toNatClampNeg p1))
def ok_DR_setValue (nb : Nat) (nt : Nat) (p0 : Int32) (p1 : Int32) (cdz : Int32) (cch : (Nat → Int32)) (cva : (Nat → Int32)) : Prop := ok_DR_note nb nt p0 (1 : Int32) cdz cch ∧ bindp (f_DR_note p0 (1 : Int32) cdz cch) (fun z_3 => vp_in p0 512)
set_option maxHeartbeats 4000000 in
set_option maxRecDepth 100000 in
theorem c_DR_setValue {l : Launch} {G : GG} {ad : Nat → Nat} {nb : Nat} {nt : Nat} {sz : Nat} {cfa : Int32} {cle : Int32} {cwr : Int32} {csl : Int32} {cst : Int32} {cen : Int32} {cby : (Nat → Int32)} {cto : (Nat → Int32)} {csh : (Nat → Int32)} {cdz : Int32} {cch : (Nat → Int32)} {cva : (Nat → Int32)} {css : Int32} {cve : (Nat → Int32)} {cro : (Nat → Int32)} {crc : Int32} {cma : (Nat → Int32)} {cbi : (Nat → Int32)} {ces : (Nat → Int32)} {cbl : (Nat → Int32)} {crt : (Nat → Int32)} {p0 : Int32} {p1 : Int32} (hok : ok_DR_setValue nb nt p0 p1 cdz cch cva) : CtV l y_DR_setValue b_DR_setValue 3 none rm_DR_setValue G (cC G ad nb nt cfa cle cwr csl cst cen cby cto csh cdz cch cva css cve cro crc cma cbi ces cbl crt) sz [.ref (ad 6), .int p0, .int p1] (eqV (f_DR_setValue p0 p1 cdz cch cva)) (fun u : Int32 × (Nat → Int32) × (Nat → Int32) => (cC G ad nb nt cfa cle cwr csl cst cen cby cto csh u.1 u.2.1 u.2.2 css cve cro crc cma cbi ces cbl crt)) := by
  generalize hres : f_DR_setValue p0 p1 cdz cch cva = res
  refine Met_of (Qc := fun A => va_Qv (eqV res) (Wb G A (fun u : Int32 × (Nat → Int32) × (Nat → Int32) => (cC G ad nb nt cfa cle cwr csl cst cen cby cto csh u.1 u.2.1 u.2.2 css cve cro crc cma cbi ces cbl crt))) A) (by decide) (Nat.le_of_ble_eq_true rfl) ?_
  intro p e s m below meth c hadm hx hb hr hml hown hlocks ht hK A hA hP hD hS ls hl
  have hC : Cx p l e s m (([.ref (ad 6), .int p0, .int p1] : List Value)).toArray meth c y_DR_setValue b_DR_setValue 3 none "BookTrees$Draft" G A := ⟨hx, hb, hr, hml, hown, hlocks, ht, hK, hA⟩
  have hown : s.vm.findClass "BookTrees$Draft" = some m.cls := hown
  have hl : lv_has ls 3 [(0, .ref (ad 6)), (1, .int p0), (2, .int p1)] := hl
  rw [f_DR_setValue] at hres
  rw [ok_DR_setValue] at hok
  refine lv_aload_n hx hb d_DR_setValue_0 rfl (lv_at hl 0 rfl) ?_
  refine lv_iload_n hx hb d_DR_setValue_1 rfl (lv_at hl 1 rfl) ?_
  refine lv_iconst (v := (1 : Int32)) hx hb d_DR_setValue_2 (by decide) ?_
  obtain ⟨hk_3, hok⟩ := hok
  refine go_vz (run_V hx hb hml hown ht hK hP hD (c_DR_note hk_3) (cw_V ht km_DR_22 ki_DR_note ks_DR_note ini_DR kd_DR_note kh_DR_note ⟨Nat.le_of_ble_eq_true rfl, Nat.le_of_ble_eq_true rfl⟩ rfl rfl) (q0 := 6) (ci := 3) (As := [.int p0, .int (1 : Int32)]) (rest := []) rfl rfl rfl hl.1 rfl (Nat.le_of_ble_eq_true rfl) d_DR_setValue_3 ⟨Nat.zero_le _, Nat.zero_le _⟩) hD hS hA (fun z_3 H locs hz_3 hP hD hS => ?_)
  have hres := bindc_eq hz_3 hres
  have hok := bindp_eq hz_3 hok
  have hP : va_P G.1 classes (cC G ad nb nt cfa cle cwr csl cst cen cby cto csh z_3.1 z_3.2 cva css cve cro crc cma cbi ces cbl crt) H := hP
  have hD : va_D A (cC G ad nb nt cfa cle cwr csl cst cen cby cto csh z_3.1 z_3.2 cva css cve cro crc cma cbi ces cbl crt) := hD
  refine lv_aload_n hx hb d_DR_setValue_6 rfl (lv_at hl 0 rfl) ?_
  refine va_get (D := G.1) (ci := 3) (C := R_DR) (T := F_DR) (N := 3) hx hb ht in_DR hown hK hP 6 rfl rfl 1 (by decide) (ht _ kf_DR_15) (fun _ h9 => h9) rfl d_DR_setValue_7 ?_
  refine lv_iload_n hx hb d_DR_setValue_10 rfl (lv_at hl 1 rfl) ?_
  refine lv_iload_n hx hb d_DR_setValue_11 rfl (lv_at hl 2 rfl) ?_
  have hi_12 := hok
  refine va_iast hx hb hK hP hD hS 8 0 rfl rfl hi_12 d_DR_setValue_12 (fun H locs hP hD hS => ?_)
  have hP : va_P G.1 classes (cC G ad nb nt cfa cle cwr csl cst cen cby cto csh z_3.1 z_3.2 (upd cva p0.toNatClampNeg p1) css cve cro crc cma cbi ces cbl crt) H := hP
  have hD : va_D A (cC G ad nb nt cfa cle cwr csl cst cen cby cto csh z_3.1 z_3.2 (upd cva p0.toNatClampNeg p1) css cve cro crc cma cbi ces cbl crt) := hD
  exact en_v (w1 := (fun u : Int32 × (Nat → Int32) × (Nat → Int32) => (cC G ad nb nt cfa cle cwr csl cst cen cby cto csh u.1 u.2.1 u.2.2 css cve cro crc cma cbi ces cbl crt))) (z_3.1, z_3.2, upd cva p0.toNatClampNeg p1) hx hb hr hlocks hK hP hD hS hres d_DR_setValue_13
/-! ===== BookTrees$Draft.size()I ===== -/
abbrev rm_DR_size : Room := { frames := 0, cells := 0, slots := 0, locals := 0 }
def f_DR_size  (cdz : Int32) : Int32 × Unit := (cdz, ())
set_option maxHeartbeats 4000000 in
set_option maxRecDepth 100000 in
theorem c_DR_size {l : Launch} {G : GG} {ad : Nat → Nat} {nb : Nat} {nt : Nat} {sz : Nat} {cfa : Int32} {cle : Int32} {cwr : Int32} {csl : Int32} {cst : Int32} {cen : Int32} {cby : (Nat → Int32)} {cto : (Nat → Int32)} {csh : (Nat → Int32)} {cdz : Int32} {cch : (Nat → Int32)} {cva : (Nat → Int32)} {css : Int32} {cve : (Nat → Int32)} {cro : (Nat → Int32)} {crc : Int32} {cma : (Nat → Int32)} {cbi : (Nat → Int32)} {ces : (Nat → Int32)} {cbl : (Nat → Int32)} {crt : (Nat → Int32)}  : CtI l y_DR_size b_DR_size 1 (some .int) rm_DR_size G (cC G ad nb nt cfa cle cwr csl cst cen cby cto csh cdz cch cva css cve cro crc cma cbi ces cbl crt) sz [.ref (ad 6)] (eqP (f_DR_size cdz)) (fun _ : Unit => (cC G ad nb nt cfa cle cwr csl cst cen cby cto csh cdz cch cva css cve cro crc cma cbi ces cbl crt)) := by
  generalize hres : f_DR_size cdz = res
  refine Met_of (Qc := fun A => va_Qi (eqP res) (Wb G A (fun _ : Unit => (cC G ad nb nt cfa cle cwr csl cst cen cby cto csh cdz cch cva css cve cro crc cma cbi ces cbl crt))) A) (by decide) (Nat.le_of_ble_eq_true rfl) ?_
  intro p e s m below meth c hadm hx hb hr hml hown hlocks ht hK A hA hP hD hS ls hl
  have hC : Cx p l e s m (([.ref (ad 6)] : List Value)).toArray meth c y_DR_size b_DR_size 1 (some .int) "BookTrees$Draft" G A := ⟨hx, hb, hr, hml, hown, hlocks, ht, hK, hA⟩
  have hown : s.vm.findClass "BookTrees$Draft" = some m.cls := hown
  have hl : lv_has ls 1 [(0, .ref (ad 6))] := hl
  rw [f_DR_size] at hres
  refine lv_aload_n hx hb d_DR_size_0 rfl (lv_at hl 0 rfl) ?_
  refine va_get (D := G.1) (ci := 3) (C := R_DR) (T := F_DR) (N := 3) hx hb ht in_DR hown hK hP 6 rfl rfl 2 (by decide) (ht _ kf_DR_18) (fun _ h9 => h9) rfl d_DR_size_1 ?_
  exact en_i (w1 := (fun _ : Unit => (cC G ad nb nt cfa cle cwr csl cst cen cby cto csh cdz cch cva css cve cro crc cma cbi ces cbl crt))) () hx hb hr hlocks hK hP hD hS hres d_DR_size_4
/-! ===== BookTrees.put(II)I ===== -/
abbrev rm_BT_put : Room := { frames := 3, cells := 0, slots := 0, locals := 65 }
def f_BT_put (p0 : Int32) (p1 : Int32) (cfa : Int32) (cdz : Int32) (cch : (Nat → Int32)) (cva : (Nat → Int32)) : Int32 × Int32 × (Nat → Int32) × (Nat → Int32) := bindc (f_BT_isKey p0) (fun z_3 => bindc (f_BT_requireArgument z_3.1) (fun z_6 => bindc (f_BT_requirePower cfa) (fun z_10 => bindc (f_DR_setValue p0 p1 cdz cch cva) (fun z_19 => bindc (f_DR_size z_19.1) (fun z_26 => (z_26.1, (z_19.1, z_19.2.1, z_19.2.2)))))))
def ok_BT_put (nb : Nat) (nt : Nat) (p0 : Int32) (p1 : Int32) (cfa : Int32) (cdz : Int32) (cch : (Nat → Int32)) (cva : (Nat → Int32)) : Prop := bindp (f_BT_isKey p0) (fun z_3 => ok_BT_requireArgument nb nt z_3.1 ∧ bindp (f_BT_requireArgument z_3.1) (fun z_6 => ok_BT_requirePower nb nt cfa ∧ bindp (f_BT_requirePower cfa) (fun z_10 => ok_DR_setValue nb nt p0 p1 cdz cch cva)))
set_option maxHeartbeats 4000000 in
set_option maxRecDepth 100000 in
theorem c_BT_put {l : Launch} {G : GG} {ad : Nat → Nat} {nb : Nat} {nt : Nat} {sz : Nat} {cfa : Int32} {cle : Int32} {cwr : Int32} {csl : Int32} {cst : Int32} {cen : Int32} {cby : (Nat → Int32)} {cto : (Nat → Int32)} {csh : (Nat → Int32)} {cdz : Int32} {cch : (Nat → Int32)} {cva : (Nat → Int32)} {css : Int32} {cve : (Nat → Int32)} {cro : (Nat → Int32)} {crc : Int32} {cma : (Nat → Int32)} {cbi : (Nat → Int32)} {ces : (Nat → Int32)} {cbl : (Nat → Int32)} {crt : (Nat → Int32)} {p0 : Int32} {p1 : Int32} (hok : ok_BT_put nb nt p0 p1 cfa cdz cch cva) : CtI l y_BT_put b_BT_put 3 (some .int) rm_BT_put G (cC G ad nb nt cfa cle cwr csl cst cen cby cto csh cdz cch cva css cve cro crc cma cbi ces cbl crt) sz [.ref (ad 0), .int p0, .int p1] (eqP (f_BT_put p0 p1 cfa cdz cch cva)) (fun u : Int32 × (Nat → Int32) × (Nat → Int32) => (cC G ad nb nt cfa cle cwr csl cst cen cby cto csh u.1 u.2.1 u.2.2 css cve cro crc cma cbi ces cbl crt)) := by
  generalize hres : f_BT_put p0 p1 cfa cdz cch cva = res
  refine Met_of (Qc := fun A => va_Qi (eqP res) (Wb G A (fun u : Int32 × (Nat → Int32) × (Nat → Int32) => (cC G ad nb nt cfa cle cwr csl cst cen cby cto csh u.1 u.2.1 u.2.2 css cve cro crc cma cbi ces cbl crt))) A) (by decide) (Nat.le_of_ble_eq_true rfl) ?_
  intro p e s m below meth c hadm hx hb hr hml hown hlocks ht hK A hA hP hD hS ls hl
  have hC : Cx p l e s m (([.ref (ad 0), .int p0, .int p1] : List Value)).toArray meth c y_BT_put b_BT_put 3 (some .int) "BookTrees" G A := ⟨hx, hb, hr, hml, hown, hlocks, ht, hK, hA⟩
  have hown : s.vm.findClass "BookTrees" = some m.cls := hown
  have hl : lv_has ls 3 [(0, .ref (ad 0)), (1, .int p0), (2, .int p1)] := hl
  rw [f_BT_put] at hres
  rw [ok_BT_put] at hok
  refine lv_aload_n hx hb d_BT_put_0 rfl (lv_at hl 0 rfl) ?_
  refine lv_aload_n hx hb d_BT_put_1 rfl (lv_at hl 0 rfl) ?_
  refine lv_iload_n hx hb d_BT_put_2 rfl (lv_at hl 1 rfl) ?_
  refine go_iz (run_V hx hb hml hown ht hK hP hD (c_BT_isKey) (cw_V ht km_BT_46 ki_BT_isKey ks_BT_isKey ini_BT kd_BT_isKey kh_BT_isKey ⟨Nat.le_of_ble_eq_true rfl, Nat.le_of_ble_eq_true rfl⟩ rfl rfl) (q0 := 0) (ci := 0) (As := [.int p0]) (rest := [.ref (ad 0)]) rfl rfl rfl hl.1 rfl (Nat.le_of_ble_eq_true rfl) d_BT_put_3 ⟨Nat.zero_le _, Nat.zero_le _⟩) hD hS hA (fun z_3 H locs hz_3 hP hD hS => ?_)
  have hres := bindc_eq hz_3 hres
  have hok := bindp_eq hz_3 hok
  have hP : va_P G.1 classes (cC G ad nb nt cfa cle cwr csl cst cen cby cto csh cdz cch cva css cve cro crc cma cbi ces cbl crt) H := hP
  have hD : va_D A (cC G ad nb nt cfa cle cwr csl cst cen cby cto csh cdz cch cva css cve cro crc cma cbi ces cbl crt) := hD
  obtain ⟨hk_6, hok⟩ := hok
  refine go_vz (run_V hx hb hml hown ht hK hP hD (c_BT_requireArgument hk_6) (cw_V ht km_BT_50 ki_BT_requireArgument ks_BT_requireArgument ini_BT kd_BT_requireArgument kh_BT_requireArgument ⟨Nat.le_of_ble_eq_true rfl, Nat.le_of_ble_eq_true rfl⟩ rfl rfl) (q0 := 0) (ci := 0) (As := [.int z_3.1]) (rest := []) rfl rfl rfl hl.1 rfl (Nat.le_of_ble_eq_true rfl) d_BT_put_6 ⟨Nat.zero_le _, Nat.zero_le _⟩) hD hS hA (fun z_6 H locs hz_6 hP hD hS => ?_)
  have hres := bindc_eq hz_6 hres
  have hok := bindp_eq hz_6 hok
  have hP : va_P G.1 classes (cC G ad nb nt cfa cle cwr csl cst cen cby cto csh cdz cch cva css cve cro crc cma cbi ces cbl crt) H := hP
  have hD : va_D A (cC G ad nb nt cfa cle cwr csl cst cen cby cto csh cdz cch cva css cve cro crc cma cbi ces cbl crt) := hD
  refine lv_aload_n hx hb d_BT_put_9 rfl (lv_at hl 0 rfl) ?_
  obtain ⟨hk_10, hok⟩ := hok
  refine go_vz (run_V hx hb hml hown ht hK hP hD (c_BT_requirePower hk_10) (cw_V ht km_BT_54 ki_BT_requirePower ks_BT_requirePower ini_BT kd_BT_requirePower kh_BT_requirePower ⟨Nat.le_of_ble_eq_true rfl, Nat.le_of_ble_eq_true rfl⟩ rfl rfl) (q0 := 0) (ci := 0) (As := []) (rest := []) rfl rfl rfl hl.1 rfl (Nat.le_of_ble_eq_true rfl) d_BT_put_10 ⟨Nat.zero_le _, Nat.zero_le _⟩) hD hS hA (fun z_10 H locs hz_10 hP hD hS => ?_)
  have hres := bindc_eq hz_10 hres
  have hok := bindp_eq hz_10 hok
  have hP : va_P G.1 classes (cC G ad nb nt cfa cle cwr csl cst cen cby cto csh cdz cch cva css cve cro crc cma cbi ces cbl crt) H := hP
  have hD : va_D A (cC G ad nb nt cfa cle cwr csl cst cen cby cto csh cdz cch cva css cve cro crc cma cbi ces cbl crt) := hD
  refine lv_aload_n hx hb d_BT_put_13 rfl (lv_at hl 0 rfl) ?_
  refine va_get (D := G.1) (ci := 0) (C := R_BT) (T := F_BT) (N := 5) hx hb ht in_BT hown hK hP 0 rfl rfl 2 (by decide) (ht _ kf_BT_28) (fun _ h9 => h9) rfl d_BT_put_14 ?_
  refine lv_iload_n hx hb d_BT_put_17 rfl (lv_at hl 1 rfl) ?_
  refine lv_iload_n hx hb d_BT_put_18 rfl (lv_at hl 2 rfl) ?_
  have hk_19 := hok
  refine go_vz (run_V hx hb hml hown ht hK hP hD (c_DR_setValue hk_19) (cw_V ht km_BT_57 ki_DR_setValue ks_DR_setValue ini_DR kd_DR_setValue kh_DR_setValue ⟨Nat.le_of_ble_eq_true rfl, Nat.le_of_ble_eq_true rfl⟩ rfl rfl) (q0 := 6) (ci := 3) (As := [.int p0, .int p1]) (rest := []) rfl rfl rfl hl.1 rfl (Nat.le_of_ble_eq_true rfl) d_BT_put_19 ⟨Nat.zero_le _, Nat.zero_le _⟩) hD hS hA (fun z_19 H locs hz_19 hP hD hS => ?_)
  have hres := bindc_eq hz_19 hres
  have hP : va_P G.1 classes (cC G ad nb nt cfa cle cwr csl cst cen cby cto csh z_19.1 z_19.2.1 z_19.2.2 css cve cro crc cma cbi ces cbl crt) H := hP
  have hD : va_D A (cC G ad nb nt cfa cle cwr csl cst cen cby cto csh z_19.1 z_19.2.1 z_19.2.2 css cve cro crc cma cbi ces cbl crt) := hD
  refine lv_aload_n hx hb d_BT_put_22 rfl (lv_at hl 0 rfl) ?_
  refine va_get (D := G.1) (ci := 0) (C := R_BT) (T := F_BT) (N := 5) hx hb ht in_BT hown hK hP 0 rfl rfl 2 (by decide) (ht _ kf_BT_28) (fun _ h9 => h9) rfl d_BT_put_23 ?_
  refine go_iz (run_V hx hb hml hown ht hK hP hD (c_DR_size) (cw_V ht km_BT_61 ki_DR_size ks_DR_size ini_DR kd_DR_size kh_DR_size ⟨Nat.le_of_ble_eq_true rfl, Nat.le_of_ble_eq_true rfl⟩ rfl rfl) (q0 := 6) (ci := 3) (As := []) (rest := []) rfl rfl rfl hl.1 rfl (Nat.le_of_ble_eq_true rfl) d_BT_put_26 ⟨Nat.zero_le _, Nat.zero_le _⟩) hD hS hA (fun z_26 H locs hz_26 hP hD hS => ?_)
  have hres := bindc_eq hz_26 hres
  have hP : va_P G.1 classes (cC G ad nb nt cfa cle cwr csl cst cen cby cto csh z_19.1 z_19.2.1 z_19.2.2 css cve cro crc cma cbi ces cbl crt) H := hP
  have hD : va_D A (cC G ad nb nt cfa cle cwr csl cst cen cby cto csh z_19.1 z_19.2.1 z_19.2.2 css cve cro crc cma cbi ces cbl crt) := hD
  exact en_i (w1 := (fun u : Int32 × (Nat → Int32) × (Nat → Int32) => (cC G ad nb nt cfa cle cwr csl cst cen cby cto csh u.1 u.2.1 u.2.2 css cve cro crc cma cbi ces cbl crt))) (z_19.1, z_19.2.1, z_19.2.2) hx hb hr hlocks hK hP hD hS hres d_BT_put_29
/-! ===== BookTrees$Draft.setDropped(I)V ===== -/
abbrev rm_DR_setDropped : Room := { frames := 2, cells := 0, slots := 0, locals := 43 }
def f_DR_setDropped (p0 : Int32) (cdz : Int32) (cch : (Nat → Int32)) : Int32 × (Nat → Int32) := bindc (f_DR_note p0 (2 : Int32) cdz cch) (fun z_3 => (z_3.1, z_3.2))
def ok_DR_setDropped (nb : Nat) (nt : Nat) (p0 : Int32) (cdz : Int32) (cch : (Nat → Int32)) : Prop := ok_DR_note nb nt p0 (2 : Int32) cdz cch
set_option maxHeartbeats 4000000 in
set_option maxRecDepth 100000 in
theorem c_DR_setDropped {l : Launch} {G : GG} {ad : Nat → Nat} {nb : Nat} {nt : Nat} {sz : Nat} {cfa : Int32} {cle : Int32} {cwr : Int32} {csl : Int32} {cst : Int32} {cen : Int32} {cby : (Nat → Int32)} {cto : (Nat → Int32)} {csh : (Nat → Int32)} {cdz : Int32} {cch : (Nat → Int32)} {cva : (Nat → Int32)} {css : Int32} {cve : (Nat → Int32)} {cro : (Nat → Int32)} {crc : Int32} {cma : (Nat → Int32)} {cbi : (Nat → Int32)} {ces : (Nat → Int32)} {cbl : (Nat → Int32)} {crt : (Nat → Int32)} {p0 : Int32} (hok : ok_DR_setDropped nb nt p0 cdz cch) : CtV l y_DR_setDropped b_DR_setDropped 2 none rm_DR_setDropped G (cC G ad nb nt cfa cle cwr csl cst cen cby cto csh cdz cch cva css cve cro crc cma cbi ces cbl crt) sz [.ref (ad 6), .int p0] (eqV (f_DR_setDropped p0 cdz cch)) (fun u : Int32 × (Nat → Int32) => (cC G ad nb nt cfa cle cwr csl cst cen cby cto csh u.1 u.2 cva css cve cro crc cma cbi ces cbl crt)) := by
  generalize hres : f_DR_setDropped p0 cdz cch = res
  refine Met_of (Qc := fun A => va_Qv (eqV res) (Wb G A (fun u : Int32 × (Nat → Int32) => (cC G ad nb nt cfa cle cwr csl cst cen cby cto csh u.1 u.2 cva css cve cro crc cma cbi ces cbl crt))) A) (by decide) (Nat.le_of_ble_eq_true rfl) ?_
  intro p e s m below meth c hadm hx hb hr hml hown hlocks ht hK A hA hP hD hS ls hl
  have hC : Cx p l e s m (([.ref (ad 6), .int p0] : List Value)).toArray meth c y_DR_setDropped b_DR_setDropped 2 none "BookTrees$Draft" G A := ⟨hx, hb, hr, hml, hown, hlocks, ht, hK, hA⟩
  have hown : s.vm.findClass "BookTrees$Draft" = some m.cls := hown
  have hl : lv_has ls 2 [(0, .ref (ad 6)), (1, .int p0)] := hl
  rw [f_DR_setDropped] at hres
  rw [ok_DR_setDropped] at hok
  refine lv_aload_n hx hb d_DR_setDropped_0 rfl (lv_at hl 0 rfl) ?_
  refine lv_iload_n hx hb d_DR_setDropped_1 rfl (lv_at hl 1 rfl) ?_
  refine lv_iconst (v := (2 : Int32)) hx hb d_DR_setDropped_2 (by decide) ?_
  have hk_3 := hok
  refine go_vz (run_V hx hb hml hown ht hK hP hD (c_DR_note hk_3) (cw_V ht km_DR_22 ki_DR_note ks_DR_note ini_DR kd_DR_note kh_DR_note ⟨Nat.le_of_ble_eq_true rfl, Nat.le_of_ble_eq_true rfl⟩ rfl rfl) (q0 := 6) (ci := 3) (As := [.int p0, .int (2 : Int32)]) (rest := []) rfl rfl rfl hl.1 rfl (Nat.le_of_ble_eq_true rfl) d_DR_setDropped_3 ⟨Nat.zero_le _, Nat.zero_le _⟩) hD hS hA (fun z_3 H locs hz_3 hP hD hS => ?_)
  have hres := bindc_eq hz_3 hres
  have hP : va_P G.1 classes (cC G ad nb nt cfa cle cwr csl cst cen cby cto csh z_3.1 z_3.2 cva css cve cro crc cma cbi ces cbl crt) H := hP
  have hD : va_D A (cC G ad nb nt cfa cle cwr csl cst cen cby cto csh z_3.1 z_3.2 cva css cve cro crc cma cbi ces cbl crt) := hD
  exact en_v (w1 := (fun u : Int32 × (Nat → Int32) => (cC G ad nb nt cfa cle cwr csl cst cen cby cto csh u.1 u.2 cva css cve cro crc cma cbi ces cbl crt))) (z_3.1, z_3.2) hx hb hr hlocks hK hP hD hS hres d_DR_setDropped_6
/-! ===== BookTrees.drop(I)I ===== -/
abbrev rm_BT_drop : Room := { frames := 3, cells := 0, slots := 0, locals := 64 }
def f_BT_drop (p0 : Int32) (cfa : Int32) (cdz : Int32) (cch : (Nat → Int32)) : Int32 × Int32 × (Nat → Int32) := bindc (f_BT_isKey p0) (fun z_3 => bindc (f_BT_requireArgument z_3.1) (fun z_6 => bindc (f_BT_requirePower cfa) (fun z_10 => bindc (f_DR_setDropped p0 cdz cch) (fun z_18 => bindc (f_DR_size z_18.1) (fun z_25 => (z_25.1, (z_18.1, z_18.2)))))))
def ok_BT_drop (nb : Nat) (nt : Nat) (p0 : Int32) (cfa : Int32) (cdz : Int32) (cch : (Nat → Int32)) : Prop := bindp (f_BT_isKey p0) (fun z_3 => ok_BT_requireArgument nb nt z_3.1 ∧ bindp (f_BT_requireArgument z_3.1) (fun z_6 => ok_BT_requirePower nb nt cfa ∧ bindp (f_BT_requirePower cfa) (fun z_10 => ok_DR_setDropped nb nt p0 cdz cch)))
set_option maxHeartbeats 4000000 in
set_option maxRecDepth 100000 in
theorem c_BT_drop {l : Launch} {G : GG} {ad : Nat → Nat} {nb : Nat} {nt : Nat} {sz : Nat} {cfa : Int32} {cle : Int32} {cwr : Int32} {csl : Int32} {cst : Int32} {cen : Int32} {cby : (Nat → Int32)} {cto : (Nat → Int32)} {csh : (Nat → Int32)} {cdz : Int32} {cch : (Nat → Int32)} {cva : (Nat → Int32)} {css : Int32} {cve : (Nat → Int32)} {cro : (Nat → Int32)} {crc : Int32} {cma : (Nat → Int32)} {cbi : (Nat → Int32)} {ces : (Nat → Int32)} {cbl : (Nat → Int32)} {crt : (Nat → Int32)} {p0 : Int32} (hok : ok_BT_drop nb nt p0 cfa cdz cch) : CtI l y_BT_drop b_BT_drop 2 (some .int) rm_BT_drop G (cC G ad nb nt cfa cle cwr csl cst cen cby cto csh cdz cch cva css cve cro crc cma cbi ces cbl crt) sz [.ref (ad 0), .int p0] (eqP (f_BT_drop p0 cfa cdz cch)) (fun u : Int32 × (Nat → Int32) => (cC G ad nb nt cfa cle cwr csl cst cen cby cto csh u.1 u.2 cva css cve cro crc cma cbi ces cbl crt)) := by
  generalize hres : f_BT_drop p0 cfa cdz cch = res
  refine Met_of (Qc := fun A => va_Qi (eqP res) (Wb G A (fun u : Int32 × (Nat → Int32) => (cC G ad nb nt cfa cle cwr csl cst cen cby cto csh u.1 u.2 cva css cve cro crc cma cbi ces cbl crt))) A) (by decide) (Nat.le_of_ble_eq_true rfl) ?_
  intro p e s m below meth c hadm hx hb hr hml hown hlocks ht hK A hA hP hD hS ls hl
  have hC : Cx p l e s m (([.ref (ad 0), .int p0] : List Value)).toArray meth c y_BT_drop b_BT_drop 2 (some .int) "BookTrees" G A := ⟨hx, hb, hr, hml, hown, hlocks, ht, hK, hA⟩
  have hown : s.vm.findClass "BookTrees" = some m.cls := hown
  have hl : lv_has ls 2 [(0, .ref (ad 0)), (1, .int p0)] := hl
  rw [f_BT_drop] at hres
  rw [ok_BT_drop] at hok
  refine lv_aload_n hx hb d_BT_drop_0 rfl (lv_at hl 0 rfl) ?_
  refine lv_aload_n hx hb d_BT_drop_1 rfl (lv_at hl 0 rfl) ?_
  refine lv_iload_n hx hb d_BT_drop_2 rfl (lv_at hl 1 rfl) ?_
  refine go_iz (run_V hx hb hml hown ht hK hP hD (c_BT_isKey) (cw_V ht km_BT_46 ki_BT_isKey ks_BT_isKey ini_BT kd_BT_isKey kh_BT_isKey ⟨Nat.le_of_ble_eq_true rfl, Nat.le_of_ble_eq_true rfl⟩ rfl rfl) (q0 := 0) (ci := 0) (As := [.int p0]) (rest := [.ref (ad 0)]) rfl rfl rfl hl.1 rfl (Nat.le_of_ble_eq_true rfl) d_BT_drop_3 ⟨Nat.zero_le _, Nat.zero_le _⟩) hD hS hA (fun z_3 H locs hz_3 hP hD hS => ?_)
  have hres := bindc_eq hz_3 hres
  have hok := bindp_eq hz_3 hok
  have hP : va_P G.1 classes (cC G ad nb nt cfa cle cwr csl cst cen cby cto csh cdz cch cva css cve cro crc cma cbi ces cbl crt) H := hP
  have hD : va_D A (cC G ad nb nt cfa cle cwr csl cst cen cby cto csh cdz cch cva css cve cro crc cma cbi ces cbl crt) := hD
  obtain ⟨hk_6, hok⟩ := hok
  refine go_vz (run_V hx hb hml hown ht hK hP hD (c_BT_requireArgument hk_6) (cw_V ht km_BT_50 ki_BT_requireArgument ks_BT_requireArgument ini_BT kd_BT_requireArgument kh_BT_requireArgument ⟨Nat.le_of_ble_eq_true rfl, Nat.le_of_ble_eq_true rfl⟩ rfl rfl) (q0 := 0) (ci := 0) (As := [.int z_3.1]) (rest := []) rfl rfl rfl hl.1 rfl (Nat.le_of_ble_eq_true rfl) d_BT_drop_6 ⟨Nat.zero_le _, Nat.zero_le _⟩) hD hS hA (fun z_6 H locs hz_6 hP hD hS => ?_)
  have hres := bindc_eq hz_6 hres
  have hok := bindp_eq hz_6 hok
  have hP : va_P G.1 classes (cC G ad nb nt cfa cle cwr csl cst cen cby cto csh cdz cch cva css cve cro crc cma cbi ces cbl crt) H := hP
  have hD : va_D A (cC G ad nb nt cfa cle cwr csl cst cen cby cto csh cdz cch cva css cve cro crc cma cbi ces cbl crt) := hD
  refine lv_aload_n hx hb d_BT_drop_9 rfl (lv_at hl 0 rfl) ?_
  obtain ⟨hk_10, hok⟩ := hok
  refine go_vz (run_V hx hb hml hown ht hK hP hD (c_BT_requirePower hk_10) (cw_V ht km_BT_54 ki_BT_requirePower ks_BT_requirePower ini_BT kd_BT_requirePower kh_BT_requirePower ⟨Nat.le_of_ble_eq_true rfl, Nat.le_of_ble_eq_true rfl⟩ rfl rfl) (q0 := 0) (ci := 0) (As := []) (rest := []) rfl rfl rfl hl.1 rfl (Nat.le_of_ble_eq_true rfl) d_BT_drop_10 ⟨Nat.zero_le _, Nat.zero_le _⟩) hD hS hA (fun z_10 H locs hz_10 hP hD hS => ?_)
  have hres := bindc_eq hz_10 hres
  have hok := bindp_eq hz_10 hok
  have hP : va_P G.1 classes (cC G ad nb nt cfa cle cwr csl cst cen cby cto csh cdz cch cva css cve cro crc cma cbi ces cbl crt) H := hP
  have hD : va_D A (cC G ad nb nt cfa cle cwr csl cst cen cby cto csh cdz cch cva css cve cro crc cma cbi ces cbl crt) := hD
  refine lv_aload_n hx hb d_BT_drop_13 rfl (lv_at hl 0 rfl) ?_
  refine va_get (D := G.1) (ci := 0) (C := R_BT) (T := F_BT) (N := 5) hx hb ht in_BT hown hK hP 0 rfl rfl 2 (by decide) (ht _ kf_BT_28) (fun _ h9 => h9) rfl d_BT_drop_14 ?_
  refine lv_iload_n hx hb d_BT_drop_17 rfl (lv_at hl 1 rfl) ?_
  have hk_18 := hok
  refine go_vz (run_V hx hb hml hown ht hK hP hD (c_DR_setDropped hk_18) (cw_V ht km_BT_65 ki_DR_setDropped ks_DR_setDropped ini_DR kd_DR_setDropped kh_DR_setDropped ⟨Nat.le_of_ble_eq_true rfl, Nat.le_of_ble_eq_true rfl⟩ rfl rfl) (q0 := 6) (ci := 3) (As := [.int p0]) (rest := []) rfl rfl rfl hl.1 rfl (Nat.le_of_ble_eq_true rfl) d_BT_drop_18 ⟨Nat.zero_le _, Nat.zero_le _⟩) hD hS hA (fun z_18 H locs hz_18 hP hD hS => ?_)
  have hres := bindc_eq hz_18 hres
  have hP : va_P G.1 classes (cC G ad nb nt cfa cle cwr csl cst cen cby cto csh z_18.1 z_18.2 cva css cve cro crc cma cbi ces cbl crt) H := hP
  have hD : va_D A (cC G ad nb nt cfa cle cwr csl cst cen cby cto csh z_18.1 z_18.2 cva css cve cro crc cma cbi ces cbl crt) := hD
  refine lv_aload_n hx hb d_BT_drop_21 rfl (lv_at hl 0 rfl) ?_
  refine va_get (D := G.1) (ci := 0) (C := R_BT) (T := F_BT) (N := 5) hx hb ht in_BT hown hK hP 0 rfl rfl 2 (by decide) (ht _ kf_BT_28) (fun _ h9 => h9) rfl d_BT_drop_22 ?_
  refine go_iz (run_V hx hb hml hown ht hK hP hD (c_DR_size) (cw_V ht km_BT_61 ki_DR_size ks_DR_size ini_DR kd_DR_size kh_DR_size ⟨Nat.le_of_ble_eq_true rfl, Nat.le_of_ble_eq_true rfl⟩ rfl rfl) (q0 := 6) (ci := 3) (As := []) (rest := []) rfl rfl rfl hl.1 rfl (Nat.le_of_ble_eq_true rfl) d_BT_drop_25 ⟨Nat.zero_le _, Nat.zero_le _⟩) hD hS hA (fun z_25 H locs hz_25 hP hD hS => ?_)
  have hres := bindc_eq hz_25 hres
  have hP : va_P G.1 classes (cC G ad nb nt cfa cle cwr csl cst cen cby cto csh z_18.1 z_18.2 cva css cve cro crc cma cbi ces cbl crt) H := hP
  have hD : va_D A (cC G ad nb nt cfa cle cwr csl cst cen cby cto csh z_18.1 z_18.2 cva css cve cro crc cma cbi ces cbl crt) := hD
  exact en_i (w1 := (fun u : Int32 × (Nat → Int32) => (cC G ad nb nt cfa cle cwr csl cst cen cby cto csh u.1 u.2 cva css cve cro crc cma cbi ces cbl crt))) (z_18.1, z_18.2) hx hb hr hlocks hK hP hD hS hres d_BT_drop_28
/-! ===== BookTrees$Draft.clear()V ===== -/
abbrev rm_DR_clear : Room := { frames := 0, cells := 0, slots := 0, locals := 0 }
def f_DR_clear_2 : Nat → Int32 → Int32 → (Nat → Int32) → Int32 × (Nat → Int32)
  | 0, x1, cdz, cch => (cdz, cch)
  | n + 1, x1, cdz, cch => if (512 : Int32) ≤ x1 then ((0 : Int32), cch) else f_DR_clear_2 n (x1 + (1 : Int32)) cdz (upd cch x1.toNatClampNeg (0 : Int32))
def ok_DR_clear_2 (nb : Nat) (nt : Nat) : Nat → Int32 → Int32 → (Nat → Int32) → Prop
  | 0, _, _, _ => False
  | n + 1, x1, cdz, cch => ((512 : Int32) ≤ x1 → True) ∧ (¬ (512 : Int32) ≤ x1 → vp_in x1 512 ∧ (ok_DR_clear_2 nb nt  n (x1 + (1 : Int32)) cdz (upd cch x1.toNatClampNeg (0 : Int32))))
set_option maxHeartbeats 4000000 in
set_option maxRecDepth 100000 in
theorem w_DR_clear_2 {p : Program} {l : Launch} {e : Env} {s : State} {m : MethodId} {args : Array Value} {below : List Frame} {meth : Method} {c : Code} {A : Nat → Prop} {G : GG} {ad : Nat → Nat} {nb : Nat} {nt : Nat} {cfa : Int32} {cle : Int32} {cwr : Int32} {csl : Int32} {cst : Int32} {cen : Int32} {cby : (Nat → Int32)} {cto : (Nat → Int32)} {csh : (Nat → Int32)} {cva : (Nat → Int32)} {css : Int32} {cve : (Nat → Int32)} {cro : (Nat → Int32)} {crc : Int32} {cma : (Nat → Int32)} {cbi : (Nat → Int32)} {ces : (Nat → Int32)} {cbl : (Nat → Int32)} {crt : (Nat → Int32)} {res : Int32 × (Nat → Int32)} (hC : Cx p l e s m args meth c y_DR_clear b_DR_clear 2 none "BookTrees$Draft" G A) : ∀ (n : Nat) (x1 : Int32) (cdz : Int32) (cch : (Nat → Int32)) (H : Heap) (locs : List Loc) (ls : Array Slot), ok_DR_clear_2 nb nt n x1 cdz cch → f_DR_clear_2 n x1 cdz cch = res → va_P G.1 classes (cC G ad nb nt cfa cle cwr csl cst cen cby cto csh cdz cch cva css cve cro crc cma cbi ces cbl crt) H → va_D A (cC G ad nb nt cfa cle cwr csl cst cen cby cto csh cdz cch cva css cve cro crc cma cbi ces cbl crt) → va_S A s.heap H locs → lv_has ls 2 [(0, .ref (ad 6)), (1, .int x1)] → W p l e rm_DR_clear s m args below meth c H locs 0 0 (MQ below (va_Qv (eqV res) (Wb G A (fun u : Int32 × (Nat → Int32) => (cC G ad nb nt cfa cle cwr csl cst cen cby cto csh u.1 u.2 cva css cve cro crc cma cbi ces cbl crt))) A) args s 0 0 A) (F0 m 2 ls []) := by
  obtain ⟨hx, hb, hr, hml, hown, hlocks, ht, hK, hA⟩ := id hC
  intro n
  induction n with
  | zero => intro x1 cdz cch H locs ls hok; exact hok.elim
  | succ n ih =>
    intro x1 cdz cch H locs ls hok hres hP hD hS hl
    rw [f_DR_clear_2] at hres
    rw [ok_DR_clear_2] at hok
    refine lv_iload_n hx hb d_DR_clear_2 rfl (lv_at hl 1 rfl) ?_
    refine lv_sipush (v := (512 : Int32)) hx hb d_DR_clear_3 (by decide) ?_
    refine lv_icmp_ge (tgt := 22) hx hb d_DR_clear_6 (by decide) (fun c_6 => ?_) (fun c_6 => ?_)
    · have hres := it_t c_6 hres
      refine lv_aload_n hx hb d_DR_clear_22 rfl (lv_at hl 0 rfl) ?_
      refine lv_iconst (v := (0 : Int32)) hx hb d_DR_clear_23 (by decide) ?_
      refine va_put (D := G.1) (ci := 3) (v := .int (0 : Int32)) (ty := .int) (C := R_DR) (T := F_DR) (N := 3) hx hb ht in_DR t_DR to_DR nm_DR hown hK hP hD hS 6 rfl rfl 2 (by decide) (ht _ kf_DR_18) (fun _ h9 => h9) rfl (to_DR 2 (by decide)) rfl rfl (Nat.le_of_ble_eq_true rfl) d_DR_clear_24 (fun H locs hP hD hS => ?_)
      have hP : va_P G.1 classes (cC G ad nb nt cfa cle cwr csl cst cen cby cto csh (0 : Int32) cch cva css cve cro crc cma cbi ces cbl crt) H := hP
      have hD : va_D A (cC G ad nb nt cfa cle cwr csl cst cen cby cto csh (0 : Int32) cch cva css cve cro crc cma cbi ces cbl crt) := hD
      exact en_v (w1 := (fun u : Int32 × (Nat → Int32) => (cC G ad nb nt cfa cle cwr csl cst cen cby cto csh u.1 u.2 cva css cve cro crc cma cbi ces cbl crt))) ((0 : Int32), cch) hx hb hr hlocks hK hP hD hS hres d_DR_clear_27
    · have hres := it_f c_6 hres
      have hok := hok.2 c_6
      refine lv_aload_n hx hb d_DR_clear_9 rfl (lv_at hl 0 rfl) ?_
      refine va_get (D := G.1) (ci := 3) (C := R_DR) (T := F_DR) (N := 3) hx hb ht in_DR hown hK hP 6 rfl rfl 0 (by decide) (ht _ kf_DR_9) (fun _ h9 => h9) rfl d_DR_clear_10 ?_
      refine lv_iload_n hx hb d_DR_clear_13 rfl (lv_at hl 1 rfl) ?_
      refine lv_iconst (v := (0 : Int32)) hx hb d_DR_clear_14 (by decide) ?_
      obtain ⟨hi_15, hok⟩ := hok
      refine va_iast hx hb hK hP hD hS 7 0 rfl rfl hi_15 d_DR_clear_15 (fun H locs hP hD hS => ?_)
      have hP : va_P G.1 classes (cC G ad nb nt cfa cle cwr csl cst cen cby cto csh cdz (upd cch x1.toNatClampNeg (0 : Int32)) cva css cve cro crc cma cbi ces cbl crt) H := hP
      have hD : va_D A (cC G ad nb nt cfa cle cwr csl cst cen cby cto csh cdz (upd cch x1.toNatClampNeg (0 : Int32)) cva css cve cro crc cma cbi ces cbl crt) := hD
      refine lv_iinc (v := x1 + (1 : Int32)) (lv' := [(1, .int (x1 + (1 : Int32))), (0, .ref (ad 6))]) hx hb d_DR_clear_16 hl (k := 1) rfl rfl (by decide) rfl (fun ls hl => ?_)
      refine lv_goto (tgt := 2) hx hb d_DR_clear_19 (by decide) ?_
      exact ih (x1 + (1 : Int32)) cdz (upd cch x1.toNatClampNeg (0 : Int32)) _ _ _ hok hres hP hD hS (lv_sub hl [1, 0] rfl)
def f_DR_clear  (cdz : Int32) (cch : (Nat → Int32)) : Int32 × (Nat → Int32) := f_DR_clear_2 1024 (0 : Int32) cdz cch
def ok_DR_clear (nb : Nat) (nt : Nat)  (cdz : Int32) (cch : (Nat → Int32)) : Prop := ok_DR_clear_2 nb nt  1024 (0 : Int32) cdz cch
set_option maxHeartbeats 4000000 in
set_option maxRecDepth 100000 in
theorem c_DR_clear {l : Launch} {G : GG} {ad : Nat → Nat} {nb : Nat} {nt : Nat} {sz : Nat} {cfa : Int32} {cle : Int32} {cwr : Int32} {csl : Int32} {cst : Int32} {cen : Int32} {cby : (Nat → Int32)} {cto : (Nat → Int32)} {csh : (Nat → Int32)} {cdz : Int32} {cch : (Nat → Int32)} {cva : (Nat → Int32)} {css : Int32} {cve : (Nat → Int32)} {cro : (Nat → Int32)} {crc : Int32} {cma : (Nat → Int32)} {cbi : (Nat → Int32)} {ces : (Nat → Int32)} {cbl : (Nat → Int32)} {crt : (Nat → Int32)}  (hok : ok_DR_clear nb nt cdz cch) : CtV l y_DR_clear b_DR_clear 2 none rm_DR_clear G (cC G ad nb nt cfa cle cwr csl cst cen cby cto csh cdz cch cva css cve cro crc cma cbi ces cbl crt) sz [.ref (ad 6)] (eqV (f_DR_clear cdz cch)) (fun u : Int32 × (Nat → Int32) => (cC G ad nb nt cfa cle cwr csl cst cen cby cto csh u.1 u.2 cva css cve cro crc cma cbi ces cbl crt)) := by
  generalize hres : f_DR_clear cdz cch = res
  refine Met_of (Qc := fun A => va_Qv (eqV res) (Wb G A (fun u : Int32 × (Nat → Int32) => (cC G ad nb nt cfa cle cwr csl cst cen cby cto csh u.1 u.2 cva css cve cro crc cma cbi ces cbl crt))) A) (by decide) (Nat.le_of_ble_eq_true rfl) ?_
  intro p e s m below meth c hadm hx hb hr hml hown hlocks ht hK A hA hP hD hS ls hl
  have hC : Cx p l e s m (([.ref (ad 6)] : List Value)).toArray meth c y_DR_clear b_DR_clear 2 none "BookTrees$Draft" G A := ⟨hx, hb, hr, hml, hown, hlocks, ht, hK, hA⟩
  have hown : s.vm.findClass "BookTrees$Draft" = some m.cls := hown
  have hl : lv_has ls 2 [(0, .ref (ad 6))] := hl
  rw [f_DR_clear] at hres
  rw [ok_DR_clear] at hok
  refine lv_iconst (v := (0 : Int32)) hx hb d_DR_clear_0 (by decide) ?_
  refine lv_istore_n (lv' := [(1, .int (0 : Int32)), (0, .ref (ad 6))]) hx hb d_DR_clear_1 rfl hl (by decide) rfl (fun ls hl => ?_)
  exact w_DR_clear_2 hC 1024 (0 : Int32) cdz cch _ _ _ hok hres hP hD hS (lv_sub hl [1, 0] rfl)
/-! ===== BookTrees.undo()I ===== -/
abbrev rm_BT_undo : Room := { frames := 2, cells := 0, slots := 0, locals := 40 }
def f_BT_undo  (cfa : Int32) (cdz : Int32) (cch : (Nat → Int32)) : Int32 × Int32 × (Nat → Int32) := bindc (f_BT_requirePower cfa) (fun z_1 => bindc (f_DR_size cdz) (fun z_8 => bindc (f_DR_clear cdz cch) (fun z_16 => (z_8.1, (z_16.1, z_16.2)))))
def ok_BT_undo (nb : Nat) (nt : Nat)  (cfa : Int32) (cdz : Int32) (cch : (Nat → Int32)) : Prop := ok_BT_requirePower nb nt cfa ∧ bindp (f_BT_requirePower cfa) (fun z_1 => bindp (f_DR_size cdz) (fun z_8 => ok_DR_clear nb nt cdz cch))
set_option maxHeartbeats 4000000 in
set_option maxRecDepth 100000 in
theorem c_BT_undo {l : Launch} {G : GG} {ad : Nat → Nat} {nb : Nat} {nt : Nat} {sz : Nat} {cfa : Int32} {cle : Int32} {cwr : Int32} {csl : Int32} {cst : Int32} {cen : Int32} {cby : (Nat → Int32)} {cto : (Nat → Int32)} {csh : (Nat → Int32)} {cdz : Int32} {cch : (Nat → Int32)} {cva : (Nat → Int32)} {css : Int32} {cve : (Nat → Int32)} {cro : (Nat → Int32)} {crc : Int32} {cma : (Nat → Int32)} {cbi : (Nat → Int32)} {ces : (Nat → Int32)} {cbl : (Nat → Int32)} {crt : (Nat → Int32)}  (hok : ok_BT_undo nb nt cfa cdz cch) : CtI l y_BT_undo b_BT_undo 2 (some .int) rm_BT_undo G (cC G ad nb nt cfa cle cwr csl cst cen cby cto csh cdz cch cva css cve cro crc cma cbi ces cbl crt) sz [.ref (ad 0)] (eqP (f_BT_undo cfa cdz cch)) (fun u : Int32 × (Nat → Int32) => (cC G ad nb nt cfa cle cwr csl cst cen cby cto csh u.1 u.2 cva css cve cro crc cma cbi ces cbl crt)) := by
  generalize hres : f_BT_undo cfa cdz cch = res
  refine Met_of (Qc := fun A => va_Qi (eqP res) (Wb G A (fun u : Int32 × (Nat → Int32) => (cC G ad nb nt cfa cle cwr csl cst cen cby cto csh u.1 u.2 cva css cve cro crc cma cbi ces cbl crt))) A) (by decide) (Nat.le_of_ble_eq_true rfl) ?_
  intro p e s m below meth c hadm hx hb hr hml hown hlocks ht hK A hA hP hD hS ls hl
  have hC : Cx p l e s m (([.ref (ad 0)] : List Value)).toArray meth c y_BT_undo b_BT_undo 2 (some .int) "BookTrees" G A := ⟨hx, hb, hr, hml, hown, hlocks, ht, hK, hA⟩
  have hown : s.vm.findClass "BookTrees" = some m.cls := hown
  have hl : lv_has ls 2 [(0, .ref (ad 0))] := hl
  rw [f_BT_undo] at hres
  rw [ok_BT_undo] at hok
  refine lv_aload_n hx hb d_BT_undo_0 rfl (lv_at hl 0 rfl) ?_
  obtain ⟨hk_1, hok⟩ := hok
  refine go_vz (run_V hx hb hml hown ht hK hP hD (c_BT_requirePower hk_1) (cw_V ht km_BT_54 ki_BT_requirePower ks_BT_requirePower ini_BT kd_BT_requirePower kh_BT_requirePower ⟨Nat.le_of_ble_eq_true rfl, Nat.le_of_ble_eq_true rfl⟩ rfl rfl) (q0 := 0) (ci := 0) (As := []) (rest := []) rfl rfl rfl hl.1 rfl (Nat.le_of_ble_eq_true rfl) d_BT_undo_1 ⟨Nat.zero_le _, Nat.zero_le _⟩) hD hS hA (fun z_1 H locs hz_1 hP hD hS => ?_)
  have hres := bindc_eq hz_1 hres
  have hok := bindp_eq hz_1 hok
  have hP : va_P G.1 classes (cC G ad nb nt cfa cle cwr csl cst cen cby cto csh cdz cch cva css cve cro crc cma cbi ces cbl crt) H := hP
  have hD : va_D A (cC G ad nb nt cfa cle cwr csl cst cen cby cto csh cdz cch cva css cve cro crc cma cbi ces cbl crt) := hD
  refine lv_aload_n hx hb d_BT_undo_4 rfl (lv_at hl 0 rfl) ?_
  refine va_get (D := G.1) (ci := 0) (C := R_BT) (T := F_BT) (N := 5) hx hb ht in_BT hown hK hP 0 rfl rfl 2 (by decide) (ht _ kf_BT_28) (fun _ h9 => h9) rfl d_BT_undo_5 ?_
  refine go_iz (run_V hx hb hml hown ht hK hP hD (c_DR_size) (cw_V ht km_BT_61 ki_DR_size ks_DR_size ini_DR kd_DR_size kh_DR_size ⟨Nat.le_of_ble_eq_true rfl, Nat.le_of_ble_eq_true rfl⟩ rfl rfl) (q0 := 6) (ci := 3) (As := []) (rest := []) rfl rfl rfl hl.1 rfl (Nat.le_of_ble_eq_true rfl) d_BT_undo_8 ⟨Nat.zero_le _, Nat.zero_le _⟩) hD hS hA (fun z_8 H locs hz_8 hP hD hS => ?_)
  have hres := bindc_eq hz_8 hres
  have hok := bindp_eq hz_8 hok
  have hP : va_P G.1 classes (cC G ad nb nt cfa cle cwr csl cst cen cby cto csh cdz cch cva css cve cro crc cma cbi ces cbl crt) H := hP
  have hD : va_D A (cC G ad nb nt cfa cle cwr csl cst cen cby cto csh cdz cch cva css cve cro crc cma cbi ces cbl crt) := hD
  refine lv_istore_n (lv' := [(1, .int z_8.1), (0, .ref (ad 0))]) hx hb d_BT_undo_11 rfl hl (by decide) rfl (fun ls hl => ?_)
  refine lv_aload_n hx hb d_BT_undo_12 rfl (lv_at hl 1 rfl) ?_
  refine va_get (D := G.1) (ci := 0) (C := R_BT) (T := F_BT) (N := 5) hx hb ht in_BT hown hK hP 0 rfl rfl 2 (by decide) (ht _ kf_BT_28) (fun _ h9 => h9) rfl d_BT_undo_13 ?_
  have hk_16 := hok
  refine go_vz (run_V hx hb hml hown ht hK hP hD (c_DR_clear hk_16) (cw_V ht km_BT_69 ki_DR_clear ks_DR_clear ini_DR kd_DR_clear kh_DR_clear ⟨Nat.le_of_ble_eq_true rfl, Nat.le_of_ble_eq_true rfl⟩ rfl rfl) (q0 := 6) (ci := 3) (As := []) (rest := []) rfl rfl rfl hl.1 rfl (Nat.le_of_ble_eq_true rfl) d_BT_undo_16 ⟨Nat.zero_le _, Nat.zero_le _⟩) hD hS hA (fun z_16 H locs hz_16 hP hD hS => ?_)
  have hres := bindc_eq hz_16 hres
  have hP : va_P G.1 classes (cC G ad nb nt cfa cle cwr csl cst cen cby cto csh z_16.1 z_16.2 cva css cve cro crc cma cbi ces cbl crt) H := hP
  have hD : va_D A (cC G ad nb nt cfa cle cwr csl cst cen cby cto csh z_16.1 z_16.2 cva css cve cro crc cma cbi ces cbl crt) := hD
  refine lv_iload_n hx hb d_BT_undo_19 rfl (lv_at hl 0 rfl) ?_
  exact en_i (w1 := (fun u : Int32 × (Nat → Int32) => (cC G ad nb nt cfa cle cwr csl cst cen cby cto csh u.1 u.2 cva css cve cro crc cma cbi ces cbl crt))) (z_16.1, z_16.2) hx hb hr hlocks hK hP hD hS hres d_BT_undo_20
/-! ===== BookTrees$Draft.isDropped(I)Z ===== -/
abbrev rm_DR_isDropped : Room := { frames := 0, cells := 0, slots := 0, locals := 0 }
def f_DR_isDropped (p0 : Int32) (cch : (Nat → Int32)) : Int32 × Unit := if (cch p0.toNatClampNeg) = (2 : Int32) then ((1 : Int32), ()) else ((0 : Int32), ())
def ok_DR_isDropped (nb : Nat) (nt : Nat) (p0 : Int32) (cch : (Nat → Int32)) : Prop := vp_in p0 512
set_option maxHeartbeats 4000000 in
set_option maxRecDepth 100000 in
theorem c_DR_isDropped {l : Launch} {G : GG} {ad : Nat → Nat} {nb : Nat} {nt : Nat} {sz : Nat} {cfa : Int32} {cle : Int32} {cwr : Int32} {csl : Int32} {cst : Int32} {cen : Int32} {cby : (Nat → Int32)} {cto : (Nat → Int32)} {csh : (Nat → Int32)} {cdz : Int32} {cch : (Nat → Int32)} {cva : (Nat → Int32)} {css : Int32} {cve : (Nat → Int32)} {cro : (Nat → Int32)} {crc : Int32} {cma : (Nat → Int32)} {cbi : (Nat → Int32)} {ces : (Nat → Int32)} {cbl : (Nat → Int32)} {crt : (Nat → Int32)} {p0 : Int32} (hok : ok_DR_isDropped nb nt p0 cch) : CtI l y_DR_isDropped b_DR_isDropped 2 (some .boolean) rm_DR_isDropped G (cC G ad nb nt cfa cle cwr csl cst cen cby cto csh cdz cch cva css cve cro crc cma cbi ces cbl crt) sz [.ref (ad 6), .int p0] (eqP (f_DR_isDropped p0 cch)) (fun _ : Unit => (cC G ad nb nt cfa cle cwr csl cst cen cby cto csh cdz cch cva css cve cro crc cma cbi ces cbl crt)) := by
  generalize hres : f_DR_isDropped p0 cch = res
  refine Met_of (Qc := fun A => va_Qi (eqP res) (Wb G A (fun _ : Unit => (cC G ad nb nt cfa cle cwr csl cst cen cby cto csh cdz cch cva css cve cro crc cma cbi ces cbl crt))) A) (by decide) (Nat.le_of_ble_eq_true rfl) ?_
  intro p e s m below meth c hadm hx hb hr hml hown hlocks ht hK A hA hP hD hS ls hl
  have hC : Cx p l e s m (([.ref (ad 6), .int p0] : List Value)).toArray meth c y_DR_isDropped b_DR_isDropped 2 (some .boolean) "BookTrees$Draft" G A := ⟨hx, hb, hr, hml, hown, hlocks, ht, hK, hA⟩
  have hown : s.vm.findClass "BookTrees$Draft" = some m.cls := hown
  have hl : lv_has ls 2 [(0, .ref (ad 6)), (1, .int p0)] := hl
  rw [f_DR_isDropped] at hres
  rw [ok_DR_isDropped] at hok
  refine lv_aload_n hx hb d_DR_isDropped_0 rfl (lv_at hl 0 rfl) ?_
  refine va_get (D := G.1) (ci := 3) (C := R_DR) (T := F_DR) (N := 3) hx hb ht in_DR hown hK hP 6 rfl rfl 0 (by decide) (ht _ kf_DR_9) (fun _ h9 => h9) rfl d_DR_isDropped_1 ?_
  refine lv_iload_n hx hb d_DR_isDropped_4 rfl (lv_at hl 1 rfl) ?_
  have hi_5 := hok
  refine va_iald hx hb hK hP 7 0 rfl rfl hi_5 d_DR_isDropped_5 ?_
  refine lv_iconst (v := (2 : Int32)) hx hb d_DR_isDropped_6 (by decide) ?_
  refine lv_icmp_ne (tgt := 14) hx hb d_DR_isDropped_7 (by decide) (fun c_7 => ?_) (fun c_7 => ?_)
  · have hres := it_f c_7 hres
    refine lv_iconst (v := (0 : Int32)) hx hb d_DR_isDropped_14 (by decide) ?_
    exact en_z (w1 := (fun _ : Unit => (cC G ad nb nt cfa cle cwr csl cst cen cby cto csh cdz cch cva css cve cro crc cma cbi ces cbl crt))) () hx hb hr hlocks hK hP hD hS hres isB_0 d_DR_isDropped_15
  · have hres := it_t c_7 hres
    refine lv_iconst (v := (1 : Int32)) hx hb d_DR_isDropped_10 (by decide) ?_
    refine lv_goto (tgt := 15) hx hb d_DR_isDropped_11 (by decide) ?_
    exact en_z (w1 := (fun _ : Unit => (cC G ad nb nt cfa cle cwr csl cst cen cby cto csh cdz cch cva css cve cro crc cma cbi ces cbl crt))) () hx hb hr hlocks hK hP hD hS hres isB_1 d_DR_isDropped_15
/-! ===== BookTrees$Draft.valueOf(I)I ===== -/
abbrev rm_DR_valueOf : Room := { frames := 0, cells := 0, slots := 0, locals := 0 }
def f_DR_valueOf (p0 : Int32) (cva : (Nat → Int32)) : Int32 × Unit := (cva p0.toNatClampNeg, ())
def ok_DR_valueOf (nb : Nat) (nt : Nat) (p0 : Int32) (cva : (Nat → Int32)) : Prop := vp_in p0 512
set_option maxHeartbeats 4000000 in
set_option maxRecDepth 100000 in
theorem c_DR_valueOf {l : Launch} {G : GG} {ad : Nat → Nat} {nb : Nat} {nt : Nat} {sz : Nat} {cfa : Int32} {cle : Int32} {cwr : Int32} {csl : Int32} {cst : Int32} {cen : Int32} {cby : (Nat → Int32)} {cto : (Nat → Int32)} {csh : (Nat → Int32)} {cdz : Int32} {cch : (Nat → Int32)} {cva : (Nat → Int32)} {css : Int32} {cve : (Nat → Int32)} {cro : (Nat → Int32)} {crc : Int32} {cma : (Nat → Int32)} {cbi : (Nat → Int32)} {ces : (Nat → Int32)} {cbl : (Nat → Int32)} {crt : (Nat → Int32)} {p0 : Int32} (hok : ok_DR_valueOf nb nt p0 cva) : CtI l y_DR_valueOf b_DR_valueOf 2 (some .int) rm_DR_valueOf G (cC G ad nb nt cfa cle cwr csl cst cen cby cto csh cdz cch cva css cve cro crc cma cbi ces cbl crt) sz [.ref (ad 6), .int p0] (eqP (f_DR_valueOf p0 cva)) (fun _ : Unit => (cC G ad nb nt cfa cle cwr csl cst cen cby cto csh cdz cch cva css cve cro crc cma cbi ces cbl crt)) := by
  generalize hres : f_DR_valueOf p0 cva = res
  refine Met_of (Qc := fun A => va_Qi (eqP res) (Wb G A (fun _ : Unit => (cC G ad nb nt cfa cle cwr csl cst cen cby cto csh cdz cch cva css cve cro crc cma cbi ces cbl crt))) A) (by decide) (Nat.le_of_ble_eq_true rfl) ?_
  intro p e s m below meth c hadm hx hb hr hml hown hlocks ht hK A hA hP hD hS ls hl
  have hC : Cx p l e s m (([.ref (ad 6), .int p0] : List Value)).toArray meth c y_DR_valueOf b_DR_valueOf 2 (some .int) "BookTrees$Draft" G A := ⟨hx, hb, hr, hml, hown, hlocks, ht, hK, hA⟩
  have hown : s.vm.findClass "BookTrees$Draft" = some m.cls := hown
  have hl : lv_has ls 2 [(0, .ref (ad 6)), (1, .int p0)] := hl
  rw [f_DR_valueOf] at hres
  rw [ok_DR_valueOf] at hok
  refine lv_aload_n hx hb d_DR_valueOf_0 rfl (lv_at hl 0 rfl) ?_
  refine va_get (D := G.1) (ci := 3) (C := R_DR) (T := F_DR) (N := 3) hx hb ht in_DR hown hK hP 6 rfl rfl 1 (by decide) (ht _ kf_DR_15) (fun _ h9 => h9) rfl d_DR_valueOf_1 ?_
  refine lv_iload_n hx hb d_DR_valueOf_4 rfl (lv_at hl 1 rfl) ?_
  have hi_5 := hok
  refine va_iald hx hb hK hP 8 0 rfl rfl hi_5 d_DR_valueOf_5 ?_
  exact en_i (w1 := (fun _ : Unit => (cC G ad nb nt cfa cle cwr csl cst cen cby cto csh cdz cch cva css cve cro crc cma cbi ces cbl crt))) () hx hb hr hlocks hK hP hD hS hres d_DR_valueOf_6
/-! ===== BookTrees$Shelf.newestRoot()I ===== -/
abbrev rm_SH_newestRoot : Room := { frames := 0, cells := 0, slots := 0, locals := 0 }
def f_SH_newestRoot  (css : Int32) (cro : (Nat → Int32)) : Int32 × Unit := if css = 0 then ((-1 : Int32), ()) else (cro (css - (1 : Int32)).toNatClampNeg, ())
def ok_SH_newestRoot (nb : Nat) (nt : Nat)  (css : Int32) (cro : (Nat → Int32)) : Prop := (css = 0 → True) ∧ (¬ css = 0 → vp_in (css - (1 : Int32)) 200)
set_option maxHeartbeats 4000000 in
set_option maxRecDepth 100000 in
theorem c_SH_newestRoot {l : Launch} {G : GG} {ad : Nat → Nat} {nb : Nat} {nt : Nat} {sz : Nat} {cfa : Int32} {cle : Int32} {cwr : Int32} {csl : Int32} {cst : Int32} {cen : Int32} {cby : (Nat → Int32)} {cto : (Nat → Int32)} {csh : (Nat → Int32)} {cdz : Int32} {cch : (Nat → Int32)} {cva : (Nat → Int32)} {css : Int32} {cve : (Nat → Int32)} {cro : (Nat → Int32)} {crc : Int32} {cma : (Nat → Int32)} {cbi : (Nat → Int32)} {ces : (Nat → Int32)} {cbl : (Nat → Int32)} {crt : (Nat → Int32)}  (hok : ok_SH_newestRoot nb nt css cro) : CtI l y_SH_newestRoot b_SH_newestRoot 1 (some .int) rm_SH_newestRoot G (cC G ad nb nt cfa cle cwr csl cst cen cby cto csh cdz cch cva css cve cro crc cma cbi ces cbl crt) sz [.ref (ad 9)] (eqP (f_SH_newestRoot css cro)) (fun _ : Unit => (cC G ad nb nt cfa cle cwr csl cst cen cby cto csh cdz cch cva css cve cro crc cma cbi ces cbl crt)) := by
  generalize hres : f_SH_newestRoot css cro = res
  refine Met_of (Qc := fun A => va_Qi (eqP res) (Wb G A (fun _ : Unit => (cC G ad nb nt cfa cle cwr csl cst cen cby cto csh cdz cch cva css cve cro crc cma cbi ces cbl crt))) A) (by decide) (Nat.le_of_ble_eq_true rfl) ?_
  intro p e s m below meth c hadm hx hb hr hml hown hlocks ht hK A hA hP hD hS ls hl
  have hC : Cx p l e s m (([.ref (ad 9)] : List Value)).toArray meth c y_SH_newestRoot b_SH_newestRoot 1 (some .int) "BookTrees$Shelf" G A := ⟨hx, hb, hr, hml, hown, hlocks, ht, hK, hA⟩
  have hown : s.vm.findClass "BookTrees$Shelf" = some m.cls := hown
  have hl : lv_has ls 1 [(0, .ref (ad 9))] := hl
  rw [f_SH_newestRoot] at hres
  rw [ok_SH_newestRoot] at hok
  refine lv_aload_n hx hb d_SH_newestRoot_0 rfl (lv_at hl 0 rfl) ?_
  refine va_get (D := G.1) (ci := 4) (C := R_SH) (T := F_SH) (N := 3) hx hb ht in_SH hown hK hP 9 rfl rfl 2 (by decide) (ht _ kf_SH_20) (fun _ h9 => h9) rfl d_SH_newestRoot_1 ?_
  refine lv_if_ne (tgt := 11) hx hb d_SH_newestRoot_4 (by decide) (fun c_4 => ?_) (fun c_4 => ?_)
  · have hres := it_f c_4 hres
    have hok := hok.2 c_4
    refine lv_aload_n hx hb d_SH_newestRoot_11 rfl (lv_at hl 0 rfl) ?_
    refine va_get (D := G.1) (ci := 4) (C := R_SH) (T := F_SH) (N := 3) hx hb ht in_SH hown hK hP 9 rfl rfl 1 (by decide) (ht _ kf_SH_17) (fun _ h9 => h9) rfl d_SH_newestRoot_12 ?_
    refine lv_aload_n hx hb d_SH_newestRoot_15 rfl (lv_at hl 0 rfl) ?_
    refine va_get (D := G.1) (ci := 4) (C := R_SH) (T := F_SH) (N := 3) hx hb ht in_SH hown hK hP 9 rfl rfl 2 (by decide) (ht _ kf_SH_20) (fun _ h9 => h9) rfl d_SH_newestRoot_16 ?_
    refine lv_iconst (v := (1 : Int32)) hx hb d_SH_newestRoot_19 (by decide) ?_
    refine lv_isub hx hb d_SH_newestRoot_20 ?_
    have hi_21 := hok
    refine va_iald hx hb hK hP 11 0 rfl rfl hi_21 d_SH_newestRoot_21 ?_
    exact en_i (w1 := (fun _ : Unit => (cC G ad nb nt cfa cle cwr csl cst cen cby cto csh cdz cch cva css cve cro crc cma cbi ces cbl crt))) () hx hb hr hlocks hK hP hD hS hres d_SH_newestRoot_22
  · have hres := it_t c_4 hres
    refine lv_iconst (v := (-1 : Int32)) hx hb d_SH_newestRoot_7 (by decide) ?_
    refine lv_goto (tgt := 22) hx hb d_SH_newestRoot_8 (by decide) ?_
    exact en_i (w1 := (fun _ : Unit => (cC G ad nb nt cfa cle cwr csl cst cen cby cto csh cdz cch cva css cve cro crc cma cbi ces cbl crt))) () hx hb hr hlocks hK hP hD hS hres d_SH_newestRoot_22
/-! ===== BookTrees$Roll.isUsed(I)Z ===== -/
abbrev rm_RL_isUsed : Room := { frames := 0, cells := 0, slots := 0, locals := 0 }
def f_RL_isUsed (p0 : Int32) (cst : Int32) (cen : Int32) : Int32 × Unit := if p0 < cst then ((0 : Int32), ()) else if cen ≤ p0 then ((0 : Int32), ()) else ((1 : Int32), ())
set_option maxHeartbeats 4000000 in
set_option maxRecDepth 100000 in
theorem c_RL_isUsed {l : Launch} {G : GG} {ad : Nat → Nat} {nb : Nat} {nt : Nat} {sz : Nat} {cfa : Int32} {cle : Int32} {cwr : Int32} {csl : Int32} {cst : Int32} {cen : Int32} {cby : (Nat → Int32)} {cto : (Nat → Int32)} {csh : (Nat → Int32)} {cdz : Int32} {cch : (Nat → Int32)} {cva : (Nat → Int32)} {css : Int32} {cve : (Nat → Int32)} {cro : (Nat → Int32)} {crc : Int32} {cma : (Nat → Int32)} {cbi : (Nat → Int32)} {ces : (Nat → Int32)} {cbl : (Nat → Int32)} {crt : (Nat → Int32)} {p0 : Int32} : CtI l y_RL_isUsed b_RL_isUsed 2 (some .boolean) rm_RL_isUsed G (cC G ad nb nt cfa cle cwr csl cst cen cby cto csh cdz cch cva css cve cro crc cma cbi ces cbl crt) sz [.ref (ad 2), .int p0] (eqP (f_RL_isUsed p0 cst cen)) (fun _ : Unit => (cC G ad nb nt cfa cle cwr csl cst cen cby cto csh cdz cch cva css cve cro crc cma cbi ces cbl crt)) := by
  generalize hres : f_RL_isUsed p0 cst cen = res
  refine Met_of (Qc := fun A => va_Qi (eqP res) (Wb G A (fun _ : Unit => (cC G ad nb nt cfa cle cwr csl cst cen cby cto csh cdz cch cva css cve cro crc cma cbi ces cbl crt))) A) (by decide) (Nat.le_of_ble_eq_true rfl) ?_
  intro p e s m below meth c hadm hx hb hr hml hown hlocks ht hK A hA hP hD hS ls hl
  have hC : Cx p l e s m (([.ref (ad 2), .int p0] : List Value)).toArray meth c y_RL_isUsed b_RL_isUsed 2 (some .boolean) "BookTrees$Roll" G A := ⟨hx, hb, hr, hml, hown, hlocks, ht, hK, hA⟩
  have hown : s.vm.findClass "BookTrees$Roll" = some m.cls := hown
  have hl : lv_has ls 2 [(0, .ref (ad 2)), (1, .int p0)] := hl
  rw [f_RL_isUsed] at hres
  refine lv_iload_n hx hb d_RL_isUsed_0 rfl (lv_at hl 1 rfl) ?_
  refine lv_aload_n hx hb d_RL_isUsed_1 rfl (lv_at hl 0 rfl) ?_
  refine va_get (D := G.1) (ci := 2) (C := R_RL) (T := F_RL) (N := 7) hx hb ht in_RL hown hK hP 2 rfl rfl 5 (by decide) (ht _ kf_RL_39) (fun _ h9 => h9) rfl d_RL_isUsed_2 ?_
  refine lv_icmp_lt (tgt := 20) hx hb d_RL_isUsed_5 (by decide) (fun c_5 => ?_) (fun c_5 => ?_)
  · have hres := it_t c_5 hres
    refine lv_iconst (v := (0 : Int32)) hx hb d_RL_isUsed_20 (by decide) ?_
    exact en_z (w1 := (fun _ : Unit => (cC G ad nb nt cfa cle cwr csl cst cen cby cto csh cdz cch cva css cve cro crc cma cbi ces cbl crt))) () hx hb hr hlocks hK hP hD hS hres isB_0 d_RL_isUsed_21
  · have hres := it_f c_5 hres
    refine lv_iload_n hx hb d_RL_isUsed_8 rfl (lv_at hl 1 rfl) ?_
    refine lv_aload_n hx hb d_RL_isUsed_9 rfl (lv_at hl 0 rfl) ?_
    refine va_get (D := G.1) (ci := 2) (C := R_RL) (T := F_RL) (N := 7) hx hb ht in_RL hown hK hP 2 rfl rfl 6 (by decide) (ht _ kf_RL_42) (fun _ h9 => h9) rfl d_RL_isUsed_10 ?_
    refine lv_icmp_ge (tgt := 20) hx hb d_RL_isUsed_13 (by decide) (fun c_13 => ?_) (fun c_13 => ?_)
    · have hres := it_t c_13 hres
      refine lv_iconst (v := (0 : Int32)) hx hb d_RL_isUsed_20 (by decide) ?_
      exact en_z (w1 := (fun _ : Unit => (cC G ad nb nt cfa cle cwr csl cst cen cby cto csh cdz cch cva css cve cro crc cma cbi ces cbl crt))) () hx hb hr hlocks hK hP hD hS hres isB_0 d_RL_isUsed_21
    · have hres := it_f c_13 hres
      refine lv_iconst (v := (1 : Int32)) hx hb d_RL_isUsed_16 (by decide) ?_
      refine lv_goto (tgt := 21) hx hb d_RL_isUsed_17 (by decide) ?_
      exact en_z (w1 := (fun _ : Unit => (cC G ad nb nt cfa cle cwr csl cst cen cby cto csh cdz cch cva css cve cro crc cma cbi ces cbl crt))) () hx hb hr hlocks hK hP hD hS hres isB_1 d_RL_isUsed_21
/-! ===== java/lang/Math.floorMod(II)I ===== -/
abbrev rm_JM_floorMod : Room := { frames := 0, cells := 0, slots := 0, locals := 0 }
def f_JM_floorMod (p0 : Int32) (p1 : Int32)  : Int32 × Unit := if 0 ≤ (p0 ^^^ p1) then (p0 - p0 / p1 * p1, ()) else if (p0 - p0 / p1 * p1) = 0 then (p0 - p0 / p1 * p1, ()) else ((p0 - p0 / p1 * p1) + p1, ())
def ok_JM_floorMod (nb : Nat) (nt : Nat) (p0 : Int32) (p1 : Int32)  : Prop := ¬ p1 = 0
set_option maxHeartbeats 4000000 in
set_option maxRecDepth 100000 in
theorem c_JM_floorMod {l : Launch} {G : GG} {ad : Nat → Nat} {nb : Nat} {nt : Nat} {sz : Nat} {cfa : Int32} {cle : Int32} {cwr : Int32} {csl : Int32} {cst : Int32} {cen : Int32} {cby : (Nat → Int32)} {cto : (Nat → Int32)} {csh : (Nat → Int32)} {cdz : Int32} {cch : (Nat → Int32)} {cva : (Nat → Int32)} {css : Int32} {cve : (Nat → Int32)} {cro : (Nat → Int32)} {crc : Int32} {cma : (Nat → Int32)} {cbi : (Nat → Int32)} {ces : (Nat → Int32)} {cbl : (Nat → Int32)} {crt : (Nat → Int32)} {p0 : Int32} {p1 : Int32} (hok : ok_JM_floorMod nb nt p0 p1) : CtI l y_JM_floorMod b_JM_floorMod 3 (some .int) rm_JM_floorMod G (cC G ad nb nt cfa cle cwr csl cst cen cby cto csh cdz cch cva css cve cro crc cma cbi ces cbl crt) sz [.int p0, .int p1] (eqP (f_JM_floorMod p0 p1)) (fun _ : Unit => (cC G ad nb nt cfa cle cwr csl cst cen cby cto csh cdz cch cva css cve cro crc cma cbi ces cbl crt)) := by
  generalize hres : f_JM_floorMod p0 p1 = res
  refine Met_ofF (Qc := fun A => va_Qi (eqP res) (Wb G A (fun _ : Unit => (cC G ad nb nt cfa cle cwr csl cst cen cby cto csh cdz cch cva css cve cro crc cma cbi ces cbl crt))) A) (by decide +kernel) (Nat.le_of_ble_eq_true rfl) ?_
  intro p e s m below meth c hadm hx hb hr hml hown hlocks ht hK A hA hP hD hS ls hl
  have hC : Cx p l e s m (([.int p0, .int p1] : List Value)).toArray meth c y_JM_floorMod b_JM_floorMod 3 (some .int) "java/lang/Math" G A := ⟨hx, hb, hr, hml, hown, hlocks, ht, hK, hA⟩
  have hown : s.vm.findClass "java/lang/Math" = some m.cls := hown
  have hl : lv_has ls 3 [(0, .int p0), (1, .int p1)] := hl
  rw [f_JM_floorMod] at hres
  rw [ok_JM_floorMod] at hok
  refine lv_iload_n hx hb d_JM_floorMod_0 rfl (lv_at hl 0 rfl) ?_
  refine lv_iload_n hx hb d_JM_floorMod_1 rfl (lv_at hl 1 rfl) ?_
  have hn_2 := hok
  refine lv_irem hx hb d_JM_floorMod_2 hn_2 ?_
  refine lv_istore_n (lv' := [(2, .int (p0 - p0 / p1 * p1)), (0, .int p0), (1, .int p1)]) hx hb d_JM_floorMod_3 rfl hl (by decide) rfl (fun ls hl => ?_)
  refine lv_iload_n hx hb d_JM_floorMod_4 rfl (lv_at hl 1 rfl) ?_
  refine lv_iload_n hx hb d_JM_floorMod_5 rfl (lv_at hl 2 rfl) ?_
  refine lv_ixor hx hb d_JM_floorMod_6 ?_
  refine lv_if_ge (tgt := 18) hx hb d_JM_floorMod_7 (by decide) (fun c_7 => ?_) (fun c_7 => ?_)
  · have hres := it_t c_7 hres
    refine lv_iload_n hx hb d_JM_floorMod_18 rfl (lv_at hl 0 rfl) ?_
    exact en_i (w1 := (fun _ : Unit => (cC G ad nb nt cfa cle cwr csl cst cen cby cto csh cdz cch cva css cve cro crc cma cbi ces cbl crt))) () hx hb hr hlocks hK hP hD hS hres d_JM_floorMod_19
  · have hres := it_f c_7 hres
    refine lv_iload_n hx hb d_JM_floorMod_10 rfl (lv_at hl 0 rfl) ?_
    refine lv_if_eq (tgt := 18) hx hb d_JM_floorMod_11 (by decide) (fun c_11 => ?_) (fun c_11 => ?_)
    · have hres := it_t c_11 hres
      refine lv_iload_n hx hb d_JM_floorMod_18 rfl (lv_at hl 0 rfl) ?_
      exact en_i (w1 := (fun _ : Unit => (cC G ad nb nt cfa cle cwr csl cst cen cby cto csh cdz cch cva css cve cro crc cma cbi ces cbl crt))) () hx hb hr hlocks hK hP hD hS hres d_JM_floorMod_19
    · have hres := it_f c_11 hres
      refine lv_iload_n hx hb d_JM_floorMod_14 rfl (lv_at hl 0 rfl) ?_
      refine lv_iload_n hx hb d_JM_floorMod_15 rfl (lv_at hl 2 rfl) ?_
      refine lv_iadd hx hb d_JM_floorMod_16 ?_
      exact en_i (w1 := (fun _ : Unit => (cC G ad nb nt cfa cle cwr csl cst cen cby cto csh cdz cch cva css cve cro crc cma cbi ces cbl crt))) () hx hb hr hlocks hK hP hD hS hres d_JM_floorMod_17
/-! ===== BookTrees$Roll.offsetOf(I)I ===== -/
abbrev rm_RL_offsetOf : Room := { frames := 1, cells := 0, slots := 0, locals := 22 }
def f_RL_offsetOf (p0 : Int32) (csl : Int32) : Int32 × Unit := bindc (f_JM_floorMod p0 csl) (fun z_5 => (z_5.1 * (64 : Int32), ()))
def ok_RL_offsetOf (nb : Nat) (nt : Nat) (p0 : Int32) (csl : Int32) : Prop := ok_JM_floorMod nb nt p0 csl
set_option maxHeartbeats 4000000 in
set_option maxRecDepth 100000 in
theorem c_RL_offsetOf {l : Launch} {G : GG} {ad : Nat → Nat} {nb : Nat} {nt : Nat} {sz : Nat} {cfa : Int32} {cle : Int32} {cwr : Int32} {csl : Int32} {cst : Int32} {cen : Int32} {cby : (Nat → Int32)} {cto : (Nat → Int32)} {csh : (Nat → Int32)} {cdz : Int32} {cch : (Nat → Int32)} {cva : (Nat → Int32)} {css : Int32} {cve : (Nat → Int32)} {cro : (Nat → Int32)} {crc : Int32} {cma : (Nat → Int32)} {cbi : (Nat → Int32)} {ces : (Nat → Int32)} {cbl : (Nat → Int32)} {crt : (Nat → Int32)} {p0 : Int32} (hok : ok_RL_offsetOf nb nt p0 csl) : CtI l y_RL_offsetOf b_RL_offsetOf 2 (some .int) rm_RL_offsetOf G (cC G ad nb nt cfa cle cwr csl cst cen cby cto csh cdz cch cva css cve cro crc cma cbi ces cbl crt) sz [.ref (ad 2), .int p0] (eqP (f_RL_offsetOf p0 csl)) (fun _ : Unit => (cC G ad nb nt cfa cle cwr csl cst cen cby cto csh cdz cch cva css cve cro crc cma cbi ces cbl crt)) := by
  generalize hres : f_RL_offsetOf p0 csl = res
  refine Met_of (Qc := fun A => va_Qi (eqP res) (Wb G A (fun _ : Unit => (cC G ad nb nt cfa cle cwr csl cst cen cby cto csh cdz cch cva css cve cro crc cma cbi ces cbl crt))) A) (by decide) (Nat.le_of_ble_eq_true rfl) ?_
  intro p e s m below meth c hadm hx hb hr hml hown hlocks ht hK A hA hP hD hS ls hl
  have hC : Cx p l e s m (([.ref (ad 2), .int p0] : List Value)).toArray meth c y_RL_offsetOf b_RL_offsetOf 2 (some .int) "BookTrees$Roll" G A := ⟨hx, hb, hr, hml, hown, hlocks, ht, hK, hA⟩
  have hown : s.vm.findClass "BookTrees$Roll" = some m.cls := hown
  have hl : lv_has ls 2 [(0, .ref (ad 2)), (1, .int p0)] := hl
  rw [f_RL_offsetOf] at hres
  rw [ok_RL_offsetOf] at hok
  refine lv_iload_n hx hb d_RL_offsetOf_0 rfl (lv_at hl 1 rfl) ?_
  refine lv_aload_n hx hb d_RL_offsetOf_1 rfl (lv_at hl 0 rfl) ?_
  refine va_get (D := G.1) (ci := 2) (C := R_RL) (T := F_RL) (N := 7) hx hb ht in_RL hown hK hP 2 rfl rfl 1 (by decide) (ht _ kf_RL_28) (fun _ h9 => h9) rfl d_RL_offsetOf_2 ?_
  have hk_5 := hok
  refine go_iz (run_S hx hb hml hown ht hK hP hD (c_JM_floorMod hk_5) (cw_S ht km_RL_113 kt_JM_floorMod ini_JM kd_JM_floorMod kh_JM_floorMod ⟨Nat.le_of_ble_eq_true rfl, Nat.le_of_ble_eq_true rfl⟩ rfl rfl) (As := [.int p0, .int csl]) (rest := []) rfl hl.1 rfl (Nat.le_of_ble_eq_true rfl) d_RL_offsetOf_5 ⟨Nat.zero_le _, Nat.zero_le _⟩) hD hS hA (fun z_5 H locs hz_5 hP hD hS => ?_)
  have hres := bindc_eq hz_5 hres
  have hP : va_P G.1 classes (cC G ad nb nt cfa cle cwr csl cst cen cby cto csh cdz cch cva css cve cro crc cma cbi ces cbl crt) H := hP
  have hD : va_D A (cC G ad nb nt cfa cle cwr csl cst cen cby cto csh cdz cch cva css cve cro crc cma cbi ces cbl crt) := hD
  refine lv_bipush (v := (64 : Int32)) hx hb d_RL_offsetOf_8 (by decide) ?_
  refine lv_imul hx hb d_RL_offsetOf_10 ?_
  exact en_i (w1 := (fun _ : Unit => (cC G ad nb nt cfa cle cwr csl cst cen cby cto csh cdz cch cva css cve cro crc cma cbi ces cbl crt))) () hx hb hr hlocks hK hP hD hS hres d_RL_offsetOf_11
/-! ===== BookTrees$Roll.intAt([BI)I ===== -/
abbrev rm_RL_intAt : Room := { frames := 0, cells := 0, slots := 0, locals := 0 }
def f_RL_intAt (p0 : Int32) (cby : (Nat → Int32)) : Int32 × Unit := ((((((cby p0.toNatClampNeg) &&& (255 : Int32)) <<< ((24 : Int32) &&& 31)) ||| (((cby (p0 + (1 : Int32)).toNatClampNeg) &&& (255 : Int32)) <<< ((16 : Int32) &&& 31))) ||| (((cby (p0 + (2 : Int32)).toNatClampNeg) &&& (255 : Int32)) <<< ((8 : Int32) &&& 31))) ||| ((cby (p0 + (3 : Int32)).toNatClampNeg) &&& (255 : Int32)), ())
def ok_RL_intAt (nb : Nat) (nt : Nat) (p0 : Int32) (cby : (Nat → Int32)) : Prop := vp_in p0 nb ∧ (vp_in (p0 + (1 : Int32)) nb ∧ (vp_in (p0 + (2 : Int32)) nb ∧ (vp_in (p0 + (3 : Int32)) nb)))
set_option maxHeartbeats 4000000 in
set_option maxRecDepth 100000 in
theorem c_RL_intAt {l : Launch} {G : GG} {ad : Nat → Nat} {nb : Nat} {nt : Nat} {sz : Nat} {cfa : Int32} {cle : Int32} {cwr : Int32} {csl : Int32} {cst : Int32} {cen : Int32} {cby : (Nat → Int32)} {cto : (Nat → Int32)} {csh : (Nat → Int32)} {cdz : Int32} {cch : (Nat → Int32)} {cva : (Nat → Int32)} {css : Int32} {cve : (Nat → Int32)} {cro : (Nat → Int32)} {crc : Int32} {cma : (Nat → Int32)} {cbi : (Nat → Int32)} {ces : (Nat → Int32)} {cbl : (Nat → Int32)} {crt : (Nat → Int32)} {p0 : Int32} (hok : ok_RL_intAt nb nt p0 cby) : CtI l y_RL_intAt b_RL_intAt 2 (some .int) rm_RL_intAt G (cC G ad nb nt cfa cle cwr csl cst cen cby cto csh cdz cch cva css cve cro crc cma cbi ces cbl crt) sz [.ref (ad 3), .int p0] (eqP (f_RL_intAt p0 cby)) (fun _ : Unit => (cC G ad nb nt cfa cle cwr csl cst cen cby cto csh cdz cch cva css cve cro crc cma cbi ces cbl crt)) := by
  generalize hres : f_RL_intAt p0 cby = res
  refine Met_of (Qc := fun A => va_Qi (eqP res) (Wb G A (fun _ : Unit => (cC G ad nb nt cfa cle cwr csl cst cen cby cto csh cdz cch cva css cve cro crc cma cbi ces cbl crt))) A) (by decide) (Nat.le_of_ble_eq_true rfl) ?_
  intro p e s m below meth c hadm hx hb hr hml hown hlocks ht hK A hA hP hD hS ls hl
  have hC : Cx p l e s m (([.ref (ad 3), .int p0] : List Value)).toArray meth c y_RL_intAt b_RL_intAt 2 (some .int) "BookTrees$Roll" G A := ⟨hx, hb, hr, hml, hown, hlocks, ht, hK, hA⟩
  have hown : s.vm.findClass "BookTrees$Roll" = some m.cls := hown
  have hl : lv_has ls 2 [(0, .ref (ad 3)), (1, .int p0)] := hl
  rw [f_RL_intAt] at hres
  rw [ok_RL_intAt] at hok
  refine lv_aload_n hx hb d_RL_intAt_0 rfl (lv_at hl 0 rfl) ?_
  refine lv_iload_n hx hb d_RL_intAt_1 rfl (lv_at hl 1 rfl) ?_
  obtain ⟨hi_2, hok⟩ := hok
  refine va_bald hx hb hK hP 3 2 rfl rfl hi_2 d_RL_intAt_2 ?_
  refine lv_sipush (v := (255 : Int32)) hx hb d_RL_intAt_3 (by decide) ?_
  refine lv_iand hx hb d_RL_intAt_6 ?_
  refine lv_bipush (v := (24 : Int32)) hx hb d_RL_intAt_7 (by decide) ?_
  refine lv_ishl hx hb d_RL_intAt_9 ?_
  refine lv_aload_n hx hb d_RL_intAt_10 rfl (lv_at hl 0 rfl) ?_
  refine lv_iload_n hx hb d_RL_intAt_11 rfl (lv_at hl 1 rfl) ?_
  refine lv_iconst (v := (1 : Int32)) hx hb d_RL_intAt_12 (by decide) ?_
  refine lv_iadd hx hb d_RL_intAt_13 ?_
  obtain ⟨hi_14, hok⟩ := hok
  refine va_bald hx hb hK hP 3 2 rfl rfl hi_14 d_RL_intAt_14 ?_
  refine lv_sipush (v := (255 : Int32)) hx hb d_RL_intAt_15 (by decide) ?_
  refine lv_iand hx hb d_RL_intAt_18 ?_
  refine lv_bipush (v := (16 : Int32)) hx hb d_RL_intAt_19 (by decide) ?_
  refine lv_ishl hx hb d_RL_intAt_21 ?_
  refine lv_ior hx hb d_RL_intAt_22 ?_
  refine lv_aload_n hx hb d_RL_intAt_23 rfl (lv_at hl 0 rfl) ?_
  refine lv_iload_n hx hb d_RL_intAt_24 rfl (lv_at hl 1 rfl) ?_
  refine lv_iconst (v := (2 : Int32)) hx hb d_RL_intAt_25 (by decide) ?_
  refine lv_iadd hx hb d_RL_intAt_26 ?_
  obtain ⟨hi_27, hok⟩ := hok
  refine va_bald hx hb hK hP 3 2 rfl rfl hi_27 d_RL_intAt_27 ?_
  refine lv_sipush (v := (255 : Int32)) hx hb d_RL_intAt_28 (by decide) ?_
  refine lv_iand hx hb d_RL_intAt_31 ?_
  refine lv_bipush (v := (8 : Int32)) hx hb d_RL_intAt_32 (by decide) ?_
  refine lv_ishl hx hb d_RL_intAt_34 ?_
  refine lv_ior hx hb d_RL_intAt_35 ?_
  refine lv_aload_n hx hb d_RL_intAt_36 rfl (lv_at hl 0 rfl) ?_
  refine lv_iload_n hx hb d_RL_intAt_37 rfl (lv_at hl 1 rfl) ?_
  refine lv_iconst (v := (3 : Int32)) hx hb d_RL_intAt_38 (by decide) ?_
  refine lv_iadd hx hb d_RL_intAt_39 ?_
  have hi_40 := hok
  refine va_bald hx hb hK hP 3 2 rfl rfl hi_40 d_RL_intAt_40 ?_
  refine lv_sipush (v := (255 : Int32)) hx hb d_RL_intAt_41 (by decide) ?_
  refine lv_iand hx hb d_RL_intAt_44 ?_
  refine lv_ior hx hb d_RL_intAt_45 ?_
  exact en_i (w1 := (fun _ : Unit => (cC G ad nb nt cfa cle cwr csl cst cen cby cto csh cdz cch cva css cve cro crc cma cbi ces cbl crt))) () hx hb hr hlocks hK hP hD hS hres d_RL_intAt_46
/-! ===== BookTrees$Roll.sumOf([BI)J ===== -/
abbrev rm_RL_sumOf : Room := { frames := 0, cells := 0, slots := 0, locals := 0 }
def f_RL_sumOf_5 : Nat → Int32 → Int64 → Int32 → (Nat → Int32) → Int64 × Unit
  | 0, x1, x2, x4, cby => (0, ())
  | n + 1, x1, x2, x4, cby => if (56 : Int32) ≤ x4 then (x2, ()) else f_RL_sumOf_5 n x1 ((((x2 ^^^ (((cby (x1 + x4).toNatClampNeg) &&& (255 : Int32)).toInt64)) <<< ((47 : Int32).toInt64 &&& 63)) ||| (((x2 ^^^ (((cby (x1 + x4).toNatClampNeg) &&& (255 : Int32)).toInt64)).toUInt64 >>> ((17 : Int32).toInt64.toUInt64 &&& Int64.toUInt64 63)).toInt64)) * (-4417276706812531889 : Int64)) (x4 + (1 : Int32)) cby
def ok_RL_sumOf_5 (nb : Nat) (nt : Nat) : Nat → Int32 → Int64 → Int32 → (Nat → Int32) → Prop
  | 0, _, _, _, _ => False
  | n + 1, x1, x2, x4, cby => ((56 : Int32) ≤ x4 → True) ∧ (¬ (56 : Int32) ≤ x4 → vp_in (x1 + x4) nb ∧ (ok_RL_sumOf_5 nb nt  n x1 ((((x2 ^^^ (((cby (x1 + x4).toNatClampNeg) &&& (255 : Int32)).toInt64)) <<< ((47 : Int32).toInt64 &&& 63)) ||| (((x2 ^^^ (((cby (x1 + x4).toNatClampNeg) &&& (255 : Int32)).toInt64)).toUInt64 >>> ((17 : Int32).toInt64.toUInt64 &&& Int64.toUInt64 63)).toInt64)) * (-4417276706812531889 : Int64)) (x4 + (1 : Int32)) cby))
set_option maxHeartbeats 4000000 in
set_option maxRecDepth 100000 in
theorem w_RL_sumOf_5 {p : Program} {l : Launch} {e : Env} {s : State} {m : MethodId} {args : Array Value} {below : List Frame} {meth : Method} {c : Code} {A : Nat → Prop} {G : GG} {ad : Nat → Nat} {nb : Nat} {nt : Nat} {cfa : Int32} {cle : Int32} {cwr : Int32} {csl : Int32} {cst : Int32} {cen : Int32} {cby : (Nat → Int32)} {cto : (Nat → Int32)} {csh : (Nat → Int32)} {cdz : Int32} {cch : (Nat → Int32)} {cva : (Nat → Int32)} {css : Int32} {cve : (Nat → Int32)} {cro : (Nat → Int32)} {crc : Int32} {cma : (Nat → Int32)} {cbi : (Nat → Int32)} {ces : (Nat → Int32)} {cbl : (Nat → Int32)} {crt : (Nat → Int32)} {res : Int64 × Unit} (hC : Cx p l e s m args meth c y_RL_sumOf b_RL_sumOf 7 (some .long) "BookTrees$Roll" G A) : ∀ (n : Nat) (x1 : Int32) (x2 : Int64) (x4 : Int32)  (H : Heap) (locs : List Loc) (ls : Array Slot), ok_RL_sumOf_5 nb nt n x1 x2 x4 cby → f_RL_sumOf_5 n x1 x2 x4 cby = res → va_P G.1 classes (cC G ad nb nt cfa cle cwr csl cst cen cby cto csh cdz cch cva css cve cro crc cma cbi ces cbl crt) H → va_D A (cC G ad nb nt cfa cle cwr csl cst cen cby cto csh cdz cch cva css cve cro crc cma cbi ces cbl crt) → va_S A s.heap H locs → lv_has ls 7 [(0, .ref (ad 3)), (1, .int x1), (2, .long x2), (4, .int x4)] → W p l e rm_RL_sumOf s m args below meth c H locs 0 0 (MQ below (va_Ql (eqP res) (Wb G A (fun _ : Unit => (cC G ad nb nt cfa cle cwr csl cst cen cby cto csh cdz cch cva css cve cro crc cma cbi ces cbl crt))) A) args s 0 0 A) (F0 m 5 ls []) := by
  obtain ⟨hx, hb, hr, hml, hown, hlocks, ht, hK, hA⟩ := id hC
  intro n
  induction n with
  | zero => intro x1 x2 x4 H locs ls hok; exact hok.elim
  | succ n ih =>
    intro x1 x2 x4 H locs ls hok hres hP hD hS hl
    rw [f_RL_sumOf_5] at hres
    rw [ok_RL_sumOf_5] at hok
    refine lv_iload hx hb d_RL_sumOf_5 (lv_at hl 3 rfl) ?_
    refine lv_bipush (v := (56 : Int32)) hx hb d_RL_sumOf_7 (by decide) ?_
    refine lv_icmp_ge (tgt := 49) hx hb d_RL_sumOf_9 (by decide) (fun c_9 => ?_) (fun c_9 => ?_)
    · have hres := it_t c_9 hres
      refine lv_lload_n hx hb d_RL_sumOf_49 rfl (lv_at hl 2 rfl) ?_
      exact en_l (w1 := (fun _ : Unit => (cC G ad nb nt cfa cle cwr csl cst cen cby cto csh cdz cch cva css cve cro crc cma cbi ces cbl crt))) () hx hb hr hlocks hK hP hD hS hres d_RL_sumOf_50
    · have hres := it_f c_9 hres
      have hok := hok.2 c_9
      refine lv_lload_n hx hb d_RL_sumOf_12 rfl (lv_at hl 2 rfl) ?_
      refine lv_aload_n hx hb d_RL_sumOf_13 rfl (lv_at hl 0 rfl) ?_
      refine lv_iload_n hx hb d_RL_sumOf_14 rfl (lv_at hl 1 rfl) ?_
      refine lv_iload hx hb d_RL_sumOf_15 (lv_at hl 3 rfl) ?_
      refine lv_iadd hx hb d_RL_sumOf_17 ?_
      obtain ⟨hi_18, hok⟩ := hok
      refine va_bald hx hb hK hP 3 2 rfl rfl hi_18 d_RL_sumOf_18 ?_
      refine lv_sipush (v := (255 : Int32)) hx hb d_RL_sumOf_19 (by decide) ?_
      refine lv_iand hx hb d_RL_sumOf_22 ?_
      refine lv_i2l hx hb d_RL_sumOf_23 rfl ?_
      refine lv_lxor hx hb d_RL_sumOf_24 ?_
      refine lv_lstore (lv' := [(5, .long (x2 ^^^ (((cby (x1 + x4).toNatClampNeg) &&& (255 : Int32)).toInt64))), (0, .ref (ad 3)), (1, .int x1), (2, .long x2), (4, .int x4)]) hx hb d_RL_sumOf_25 hl (by decide) rfl (fun ls hl => ?_)
      refine lv_lload hx hb d_RL_sumOf_27 (lv_at hl 0 rfl) ?_
      refine lv_bipush (v := (47 : Int32)) hx hb d_RL_sumOf_29 (by decide) ?_
      refine lv_lshl hx hb d_RL_sumOf_31 rfl ?_
      refine lv_lload hx hb d_RL_sumOf_32 (lv_at hl 0 rfl) ?_
      refine lv_bipush (v := (17 : Int32)) hx hb d_RL_sumOf_34 (by decide) ?_
      refine lv_lushr hx hb d_RL_sumOf_36 rfl ?_
      refine lv_lor hx hb d_RL_sumOf_37 ?_
      refine lv_ldc2 hx hb hown (ht _ kl_RL_116) d_RL_sumOf_38 ?_
      refine lv_lmul hx hb d_RL_sumOf_41 ?_
      refine lv_lstore_n (lv' := [(2, .long ((((x2 ^^^ (((cby (x1 + x4).toNatClampNeg) &&& (255 : Int32)).toInt64)) <<< ((47 : Int32).toInt64 &&& 63)) ||| (((x2 ^^^ (((cby (x1 + x4).toNatClampNeg) &&& (255 : Int32)).toInt64)).toUInt64 >>> ((17 : Int32).toInt64.toUInt64 &&& Int64.toUInt64 63)).toInt64)) * (-4417276706812531889 : Int64))), (5, .long (x2 ^^^ (((cby (x1 + x4).toNatClampNeg) &&& (255 : Int32)).toInt64))), (0, .ref (ad 3)), (1, .int x1), (4, .int x4)]) hx hb d_RL_sumOf_42 rfl hl (by decide) rfl (fun ls hl => ?_)
      refine lv_iinc (v := x4 + (1 : Int32)) (lv' := [(4, .int (x4 + (1 : Int32))), (2, .long ((((x2 ^^^ (((cby (x1 + x4).toNatClampNeg) &&& (255 : Int32)).toInt64)) <<< ((47 : Int32).toInt64 &&& 63)) ||| (((x2 ^^^ (((cby (x1 + x4).toNatClampNeg) &&& (255 : Int32)).toInt64)).toUInt64 >>> ((17 : Int32).toInt64.toUInt64 &&& Int64.toUInt64 63)).toInt64)) * (-4417276706812531889 : Int64))), (5, .long (x2 ^^^ (((cby (x1 + x4).toNatClampNeg) &&& (255 : Int32)).toInt64))), (0, .ref (ad 3)), (1, .int x1)]) hx hb d_RL_sumOf_43 hl (k := 4) rfl rfl (by decide) rfl (fun ls hl => ?_)
      refine lv_goto (tgt := 5) hx hb d_RL_sumOf_46 (by decide) ?_
      exact ih x1 ((((x2 ^^^ (((cby (x1 + x4).toNatClampNeg) &&& (255 : Int32)).toInt64)) <<< ((47 : Int32).toInt64 &&& 63)) ||| (((x2 ^^^ (((cby (x1 + x4).toNatClampNeg) &&& (255 : Int32)).toInt64)).toUInt64 >>> ((17 : Int32).toInt64.toUInt64 &&& Int64.toUInt64 63)).toInt64)) * (-4417276706812531889 : Int64)) (x4 + (1 : Int32)) _ _ _ hok hres hP hD hS (lv_sub hl [3, 4, 1, 0] rfl)
def f_RL_sumOf (p0 : Int32) (cby : (Nat → Int32)) : Int64 × Unit := f_RL_sumOf_5 1024 p0 (0 : Int64) (0 : Int32) cby
def ok_RL_sumOf (nb : Nat) (nt : Nat) (p0 : Int32) (cby : (Nat → Int32)) : Prop := ok_RL_sumOf_5 nb nt  1024 p0 (0 : Int64) (0 : Int32) cby
set_option maxHeartbeats 4000000 in
set_option maxRecDepth 100000 in
theorem c_RL_sumOf {l : Launch} {G : GG} {ad : Nat → Nat} {nb : Nat} {nt : Nat} {sz : Nat} {cfa : Int32} {cle : Int32} {cwr : Int32} {csl : Int32} {cst : Int32} {cen : Int32} {cby : (Nat → Int32)} {cto : (Nat → Int32)} {csh : (Nat → Int32)} {cdz : Int32} {cch : (Nat → Int32)} {cva : (Nat → Int32)} {css : Int32} {cve : (Nat → Int32)} {cro : (Nat → Int32)} {crc : Int32} {cma : (Nat → Int32)} {cbi : (Nat → Int32)} {ces : (Nat → Int32)} {cbl : (Nat → Int32)} {crt : (Nat → Int32)} {p0 : Int32} (hok : ok_RL_sumOf nb nt p0 cby) : CtL l y_RL_sumOf b_RL_sumOf 7 (some .long) rm_RL_sumOf G (cC G ad nb nt cfa cle cwr csl cst cen cby cto csh cdz cch cva css cve cro crc cma cbi ces cbl crt) sz [.ref (ad 3), .int p0] (eqP (f_RL_sumOf p0 cby)) (fun _ : Unit => (cC G ad nb nt cfa cle cwr csl cst cen cby cto csh cdz cch cva css cve cro crc cma cbi ces cbl crt)) := by
  generalize hres : f_RL_sumOf p0 cby = res
  refine Met_of (Qc := fun A => va_Ql (eqP res) (Wb G A (fun _ : Unit => (cC G ad nb nt cfa cle cwr csl cst cen cby cto csh cdz cch cva css cve cro crc cma cbi ces cbl crt))) A) (by decide) (Nat.le_of_ble_eq_true rfl) ?_
  intro p e s m below meth c hadm hx hb hr hml hown hlocks ht hK A hA hP hD hS ls hl
  have hC : Cx p l e s m (([.ref (ad 3), .int p0] : List Value)).toArray meth c y_RL_sumOf b_RL_sumOf 7 (some .long) "BookTrees$Roll" G A := ⟨hx, hb, hr, hml, hown, hlocks, ht, hK, hA⟩
  have hown : s.vm.findClass "BookTrees$Roll" = some m.cls := hown
  have hl : lv_has ls 7 [(0, .ref (ad 3)), (1, .int p0)] := hl
  rw [f_RL_sumOf] at hres
  rw [ok_RL_sumOf] at hok
  refine lv_lconst (v := (0 : Int64)) hx hb d_RL_sumOf_0 (by decide) ?_
  refine lv_lstore_n (lv' := [(2, .long (0 : Int64)), (0, .ref (ad 3)), (1, .int p0)]) hx hb d_RL_sumOf_1 rfl hl (by decide) rfl (fun ls hl => ?_)
  refine lv_iconst (v := (0 : Int32)) hx hb d_RL_sumOf_2 (by decide) ?_
  refine lv_istore (lv' := [(4, .int (0 : Int32)), (2, .long (0 : Int64)), (0, .ref (ad 3)), (1, .int p0)]) hx hb d_RL_sumOf_3 hl (by decide) rfl (fun ls hl => ?_)
  exact w_RL_sumOf_5 hC 1024 p0 (0 : Int64) (0 : Int32) _ _ _ hok hres hP hD hS (lv_sub hl [2, 3, 1, 0] rfl)
/-! ===== BookTrees$Roll.isSumRight(I)Z ===== -/
abbrev rm_RL_isSumRight : Room := { frames := 1, cells := 0, slots := 0, locals := 26 }
def f_RL_isSumRight (p0 : Int32) (cby : (Nat → Int32)) (cto : (Nat → Int32)) : Int32 × Unit := bindc (f_RL_sumOf p0 cby) (fun z_5 => if (cto (p0 / (64 : Int32)).toNatClampNeg) = 0 then bindc (f_RL_intAt (p0 + (56 : Int32)) cby) (fun z_29 => if z_29.1 = (((z_5.1.toUInt64 >>> ((32 : Int32).toInt64.toUInt64 &&& Int64.toUInt64 63)).toInt64).toInt32) then bindc (f_RL_intAt ((p0 + (56 : Int32)) + (4 : Int32)) cby) (fun z_50 => if z_50.1 = z_5.1.toInt32 then ((1 : Int32), ()) else ((0 : Int32), ())) else ((0 : Int32), ())) else ((0 : Int32), ()))
def ok_RL_isSumRight (nb : Nat) (nt : Nat) (p0 : Int32) (cby : (Nat → Int32)) (cto : (Nat → Int32)) : Prop := ok_RL_sumOf nb nt p0 cby ∧ bindp (f_RL_sumOf p0 cby) (fun z_5 => vp_in (p0 / (64 : Int32)) nt ∧ (((cto (p0 / (64 : Int32)).toNatClampNeg) = 0 → ok_RL_intAt nb nt (p0 + (56 : Int32)) cby ∧ bindp (f_RL_intAt (p0 + (56 : Int32)) cby) (fun z_29 => (z_29.1 = (((z_5.1.toUInt64 >>> ((32 : Int32).toInt64.toUInt64 &&& Int64.toUInt64 63)).toInt64).toInt32) → ok_RL_intAt nb nt ((p0 + (56 : Int32)) + (4 : Int32)) cby) ∧ (¬ z_29.1 = (((z_5.1.toUInt64 >>> ((32 : Int32).toInt64.toUInt64 &&& Int64.toUInt64 63)).toInt64).toInt32) → True))) ∧ (¬ (cto (p0 / (64 : Int32)).toNatClampNeg) = 0 → True)))
set_option maxHeartbeats 4000000 in
set_option maxRecDepth 100000 in
theorem c_RL_isSumRight {l : Launch} {G : GG} {ad : Nat → Nat} {nb : Nat} {nt : Nat} {sz : Nat} {cfa : Int32} {cle : Int32} {cwr : Int32} {csl : Int32} {cst : Int32} {cen : Int32} {cby : (Nat → Int32)} {cto : (Nat → Int32)} {csh : (Nat → Int32)} {cdz : Int32} {cch : (Nat → Int32)} {cva : (Nat → Int32)} {css : Int32} {cve : (Nat → Int32)} {cro : (Nat → Int32)} {crc : Int32} {cma : (Nat → Int32)} {cbi : (Nat → Int32)} {ces : (Nat → Int32)} {cbl : (Nat → Int32)} {crt : (Nat → Int32)} {p0 : Int32} (hok : ok_RL_isSumRight nb nt p0 cby cto) : CtI l y_RL_isSumRight b_RL_isSumRight 4 (some .boolean) rm_RL_isSumRight G (cC G ad nb nt cfa cle cwr csl cst cen cby cto csh cdz cch cva css cve cro crc cma cbi ces cbl crt) sz [.ref (ad 2), .int p0] (eqP (f_RL_isSumRight p0 cby cto)) (fun _ : Unit => (cC G ad nb nt cfa cle cwr csl cst cen cby cto csh cdz cch cva css cve cro crc cma cbi ces cbl crt)) := by
  generalize hres : f_RL_isSumRight p0 cby cto = res
  refine Met_of (Qc := fun A => va_Qi (eqP res) (Wb G A (fun _ : Unit => (cC G ad nb nt cfa cle cwr csl cst cen cby cto csh cdz cch cva css cve cro crc cma cbi ces cbl crt))) A) (by decide) (Nat.le_of_ble_eq_true rfl) ?_
  intro p e s m below meth c hadm hx hb hr hml hown hlocks ht hK A hA hP hD hS ls hl
  have hC : Cx p l e s m (([.ref (ad 2), .int p0] : List Value)).toArray meth c y_RL_isSumRight b_RL_isSumRight 4 (some .boolean) "BookTrees$Roll" G A := ⟨hx, hb, hr, hml, hown, hlocks, ht, hK, hA⟩
  have hown : s.vm.findClass "BookTrees$Roll" = some m.cls := hown
  have hl : lv_has ls 4 [(0, .ref (ad 2)), (1, .int p0)] := hl
  rw [f_RL_isSumRight] at hres
  rw [ok_RL_isSumRight] at hok
  refine lv_aload_n hx hb d_RL_isSumRight_0 rfl (lv_at hl 0 rfl) ?_
  refine va_get (D := G.1) (ci := 2) (C := R_RL) (T := F_RL) (N := 7) hx hb ht in_RL hown hK hP 2 rfl rfl 2 (by decide) (ht _ kf_RL_32) (fun _ h9 => h9) rfl d_RL_isSumRight_1 ?_
  refine lv_iload_n hx hb d_RL_isSumRight_4 rfl (lv_at hl 1 rfl) ?_
  obtain ⟨hk_5, hok⟩ := hok
  refine go_lz (run_S hx hb hml hown ht hK hP hD (c_RL_sumOf hk_5) (cw_S ht km_RL_109 kt_RL_sumOf ini_RL kd_RL_sumOf kh_RL_sumOf ⟨Nat.le_of_ble_eq_true rfl, Nat.le_of_ble_eq_true rfl⟩ rfl rfl) (As := [.ref (ad 3), .int p0]) (rest := []) rfl hl.1 rfl (Nat.le_of_ble_eq_true rfl) d_RL_isSumRight_5 ⟨Nat.zero_le _, Nat.zero_le _⟩) hD hS hA (fun z_5 H locs hz_5 hP hD hS => ?_)
  have hres := bindc_eq hz_5 hres
  have hok := bindp_eq hz_5 hok
  have hP : va_P G.1 classes (cC G ad nb nt cfa cle cwr csl cst cen cby cto csh cdz cch cva css cve cro crc cma cbi ces cbl crt) H := hP
  have hD : va_D A (cC G ad nb nt cfa cle cwr csl cst cen cby cto csh cdz cch cva css cve cro crc cma cbi ces cbl crt) := hD
  refine lv_lstore_n (lv' := [(2, .long z_5.1), (0, .ref (ad 2)), (1, .int p0)]) hx hb d_RL_isSumRight_8 rfl hl (by decide) rfl (fun ls hl => ?_)
  refine lv_aload_n hx hb d_RL_isSumRight_9 rfl (lv_at hl 1 rfl) ?_
  refine va_get (D := G.1) (ci := 2) (C := R_RL) (T := F_RL) (N := 7) hx hb ht in_RL hown hK hP 2 rfl rfl 3 (by decide) (ht _ kf_RL_35) (fun _ h9 => h9) rfl d_RL_isSumRight_10 ?_
  refine lv_iload_n hx hb d_RL_isSumRight_13 rfl (lv_at hl 2 rfl) ?_
  refine lv_bipush (v := (64 : Int32)) hx hb d_RL_isSumRight_14 (by decide) ?_
  refine lv_idiv hx hb d_RL_isSumRight_16 (by decide) ?_
  obtain ⟨hi_17, hok⟩ := hok
  refine va_zald hx hb hK hP 4 1 rfl rfl hi_17 d_RL_isSumRight_17 ?_
  refine lv_if_ne (tgt := 62) hx hb d_RL_isSumRight_18 (by decide) (fun c_18 => ?_) (fun c_18 => ?_)
  · have hres := it_f c_18 hres
    refine lv_iconst (v := (0 : Int32)) hx hb d_RL_isSumRight_62 (by decide) ?_
    exact en_z (w1 := (fun _ : Unit => (cC G ad nb nt cfa cle cwr csl cst cen cby cto csh cdz cch cva css cve cro crc cma cbi ces cbl crt))) () hx hb hr hlocks hK hP hD hS hres isB_0 d_RL_isSumRight_63
  · have hres := it_t c_18 hres
    have hok := hok.1 c_18
    refine lv_aload_n hx hb d_RL_isSumRight_21 rfl (lv_at hl 1 rfl) ?_
    refine va_get (D := G.1) (ci := 2) (C := R_RL) (T := F_RL) (N := 7) hx hb ht in_RL hown hK hP 2 rfl rfl 2 (by decide) (ht _ kf_RL_32) (fun _ h9 => h9) rfl d_RL_isSumRight_22 ?_
    refine lv_iload_n hx hb d_RL_isSumRight_25 rfl (lv_at hl 2 rfl) ?_
    refine lv_bipush (v := (56 : Int32)) hx hb d_RL_isSumRight_26 (by decide) ?_
    refine lv_iadd hx hb d_RL_isSumRight_28 ?_
    obtain ⟨hk_29, hok⟩ := hok
    refine go_iz (run_S hx hb hml hown ht hK hP hD (c_RL_intAt hk_29) (cw_S ht km_RL_56 kt_RL_intAt ini_RL kd_RL_intAt kh_RL_intAt ⟨Nat.le_of_ble_eq_true rfl, Nat.le_of_ble_eq_true rfl⟩ rfl rfl) (As := [.ref (ad 3), .int (p0 + (56 : Int32))]) (rest := []) rfl hl.1 rfl (Nat.le_of_ble_eq_true rfl) d_RL_isSumRight_29 ⟨Nat.zero_le _, Nat.zero_le _⟩) hD hS hA (fun z_29 H locs hz_29 hP hD hS => ?_)
    have hres := bindc_eq hz_29 hres
    have hok := bindp_eq hz_29 hok
    have hP : va_P G.1 classes (cC G ad nb nt cfa cle cwr csl cst cen cby cto csh cdz cch cva css cve cro crc cma cbi ces cbl crt) H := hP
    have hD : va_D A (cC G ad nb nt cfa cle cwr csl cst cen cby cto csh cdz cch cva css cve cro crc cma cbi ces cbl crt) := hD
    refine lv_lload_n hx hb d_RL_isSumRight_32 rfl (lv_at hl 0 rfl) ?_
    refine lv_bipush (v := (32 : Int32)) hx hb d_RL_isSumRight_33 (by decide) ?_
    refine lv_lushr hx hb d_RL_isSumRight_35 rfl ?_
    refine lv_l2i hx hb d_RL_isSumRight_36 rfl ?_
    refine lv_icmp_ne (tgt := 62) hx hb d_RL_isSumRight_37 (by decide) (fun c_37 => ?_) (fun c_37 => ?_)
    · have hres := it_f c_37 hres
      refine lv_iconst (v := (0 : Int32)) hx hb d_RL_isSumRight_62 (by decide) ?_
      exact en_z (w1 := (fun _ : Unit => (cC G ad nb nt cfa cle cwr csl cst cen cby cto csh cdz cch cva css cve cro crc cma cbi ces cbl crt))) () hx hb hr hlocks hK hP hD hS hres isB_0 d_RL_isSumRight_63
    · have hres := it_t c_37 hres
      have hok := hok.1 c_37
      refine lv_aload_n hx hb d_RL_isSumRight_40 rfl (lv_at hl 1 rfl) ?_
      refine va_get (D := G.1) (ci := 2) (C := R_RL) (T := F_RL) (N := 7) hx hb ht in_RL hown hK hP 2 rfl rfl 2 (by decide) (ht _ kf_RL_32) (fun _ h9 => h9) rfl d_RL_isSumRight_41 ?_
      refine lv_iload_n hx hb d_RL_isSumRight_44 rfl (lv_at hl 2 rfl) ?_
      refine lv_bipush (v := (56 : Int32)) hx hb d_RL_isSumRight_45 (by decide) ?_
      refine lv_iadd hx hb d_RL_isSumRight_47 ?_
      refine lv_iconst (v := (4 : Int32)) hx hb d_RL_isSumRight_48 (by decide) ?_
      refine lv_iadd hx hb d_RL_isSumRight_49 ?_
      have hk_50 := hok
      refine go_iz (run_S hx hb hml hown ht hK hP hD (c_RL_intAt hk_50) (cw_S ht km_RL_56 kt_RL_intAt ini_RL kd_RL_intAt kh_RL_intAt ⟨Nat.le_of_ble_eq_true rfl, Nat.le_of_ble_eq_true rfl⟩ rfl rfl) (As := [.ref (ad 3), .int ((p0 + (56 : Int32)) + (4 : Int32))]) (rest := []) rfl hl.1 rfl (Nat.le_of_ble_eq_true rfl) d_RL_isSumRight_50 ⟨Nat.zero_le _, Nat.zero_le _⟩) hD hS hA (fun z_50 H locs hz_50 hP hD hS => ?_)
      have hres := bindc_eq hz_50 hres
      have hP : va_P G.1 classes (cC G ad nb nt cfa cle cwr csl cst cen cby cto csh cdz cch cva css cve cro crc cma cbi ces cbl crt) H := hP
      have hD : va_D A (cC G ad nb nt cfa cle cwr csl cst cen cby cto csh cdz cch cva css cve cro crc cma cbi ces cbl crt) := hD
      refine lv_lload_n hx hb d_RL_isSumRight_53 rfl (lv_at hl 0 rfl) ?_
      refine lv_l2i hx hb d_RL_isSumRight_54 rfl ?_
      refine lv_icmp_ne (tgt := 62) hx hb d_RL_isSumRight_55 (by decide) (fun c_55 => ?_) (fun c_55 => ?_)
      · have hres := it_f c_55 hres
        refine lv_iconst (v := (0 : Int32)) hx hb d_RL_isSumRight_62 (by decide) ?_
        exact en_z (w1 := (fun _ : Unit => (cC G ad nb nt cfa cle cwr csl cst cen cby cto csh cdz cch cva css cve cro crc cma cbi ces cbl crt))) () hx hb hr hlocks hK hP hD hS hres isB_0 d_RL_isSumRight_63
      · have hres := it_t c_55 hres
        refine lv_iconst (v := (1 : Int32)) hx hb d_RL_isSumRight_58 (by decide) ?_
        refine lv_goto (tgt := 63) hx hb d_RL_isSumRight_59 (by decide) ?_
        exact en_z (w1 := (fun _ : Unit => (cC G ad nb nt cfa cle cwr csl cst cen cby cto csh cdz cch cva css cve cro crc cma cbi ces cbl crt))) () hx hb hr hlocks hK hP hD hS hres isB_1 d_RL_isSumRight_63
/-! ===== BookTrees$Roll.isSound(I)Z ===== -/
abbrev rm_RL_isSound : Room := { frames := 2, cells := 0, slots := 0, locals := 49 }
def f_RL_isSound (p0 : Int32) (csl : Int32) (cby : (Nat → Int32)) (cto : (Nat → Int32)) : Int32 × Unit := bindc (f_RL_offsetOf p0 csl) (fun z_2 => bindc (f_RL_intAt (z_2.1 + (40 : Int32)) cby) (fun z_14 => if z_14.1 = p0 then bindc (f_RL_isSumRight z_2.1 cby cto) (fun z_23 => if z_23.1 = 0 then ((0 : Int32), ()) else ((1 : Int32), ())) else ((0 : Int32), ())))
def ok_RL_isSound (nb : Nat) (nt : Nat) (p0 : Int32) (csl : Int32) (cby : (Nat → Int32)) (cto : (Nat → Int32)) : Prop := ok_RL_offsetOf nb nt p0 csl ∧ bindp (f_RL_offsetOf p0 csl) (fun z_2 => ok_RL_intAt nb nt (z_2.1 + (40 : Int32)) cby ∧ bindp (f_RL_intAt (z_2.1 + (40 : Int32)) cby) (fun z_14 => (z_14.1 = p0 → ok_RL_isSumRight nb nt z_2.1 cby cto) ∧ (¬ z_14.1 = p0 → True)))
set_option maxHeartbeats 4000000 in
set_option maxRecDepth 100000 in
theorem c_RL_isSound {l : Launch} {G : GG} {ad : Nat → Nat} {nb : Nat} {nt : Nat} {sz : Nat} {cfa : Int32} {cle : Int32} {cwr : Int32} {csl : Int32} {cst : Int32} {cen : Int32} {cby : (Nat → Int32)} {cto : (Nat → Int32)} {csh : (Nat → Int32)} {cdz : Int32} {cch : (Nat → Int32)} {cva : (Nat → Int32)} {css : Int32} {cve : (Nat → Int32)} {cro : (Nat → Int32)} {crc : Int32} {cma : (Nat → Int32)} {cbi : (Nat → Int32)} {ces : (Nat → Int32)} {cbl : (Nat → Int32)} {crt : (Nat → Int32)} {p0 : Int32} (hok : ok_RL_isSound nb nt p0 csl cby cto) : CtI l y_RL_isSound b_RL_isSound 3 (some .boolean) rm_RL_isSound G (cC G ad nb nt cfa cle cwr csl cst cen cby cto csh cdz cch cva css cve cro crc cma cbi ces cbl crt) sz [.ref (ad 2), .int p0] (eqP (f_RL_isSound p0 csl cby cto)) (fun _ : Unit => (cC G ad nb nt cfa cle cwr csl cst cen cby cto csh cdz cch cva css cve cro crc cma cbi ces cbl crt)) := by
  generalize hres : f_RL_isSound p0 csl cby cto = res
  refine Met_of (Qc := fun A => va_Qi (eqP res) (Wb G A (fun _ : Unit => (cC G ad nb nt cfa cle cwr csl cst cen cby cto csh cdz cch cva css cve cro crc cma cbi ces cbl crt))) A) (by decide) (Nat.le_of_ble_eq_true rfl) ?_
  intro p e s m below meth c hadm hx hb hr hml hown hlocks ht hK A hA hP hD hS ls hl
  have hC : Cx p l e s m (([.ref (ad 2), .int p0] : List Value)).toArray meth c y_RL_isSound b_RL_isSound 3 (some .boolean) "BookTrees$Roll" G A := ⟨hx, hb, hr, hml, hown, hlocks, ht, hK, hA⟩
  have hown : s.vm.findClass "BookTrees$Roll" = some m.cls := hown
  have hl : lv_has ls 3 [(0, .ref (ad 2)), (1, .int p0)] := hl
  rw [f_RL_isSound] at hres
  rw [ok_RL_isSound] at hok
  refine lv_aload_n hx hb d_RL_isSound_0 rfl (lv_at hl 0 rfl) ?_
  refine lv_iload_n hx hb d_RL_isSound_1 rfl (lv_at hl 1 rfl) ?_
  obtain ⟨hk_2, hok⟩ := hok
  refine go_iz (run_V hx hb hml hown ht hK hP hD (c_RL_offsetOf hk_2) (cw_V ht km_RL_45 ki_RL_offsetOf ks_RL_offsetOf ini_RL kd_RL_offsetOf kh_RL_offsetOf ⟨Nat.le_of_ble_eq_true rfl, Nat.le_of_ble_eq_true rfl⟩ rfl rfl) (q0 := 2) (ci := 2) (As := [.int p0]) (rest := []) rfl rfl rfl hl.1 rfl (Nat.le_of_ble_eq_true rfl) d_RL_isSound_2 ⟨Nat.zero_le _, Nat.zero_le _⟩) hD hS hA (fun z_2 H locs hz_2 hP hD hS => ?_)
  have hres := bindc_eq hz_2 hres
  have hok := bindp_eq hz_2 hok
  have hP : va_P G.1 classes (cC G ad nb nt cfa cle cwr csl cst cen cby cto csh cdz cch cva css cve cro crc cma cbi ces cbl crt) H := hP
  have hD : va_D A (cC G ad nb nt cfa cle cwr csl cst cen cby cto csh cdz cch cva css cve cro crc cma cbi ces cbl crt) := hD
  refine lv_istore_n (lv' := [(2, .int z_2.1), (0, .ref (ad 2)), (1, .int p0)]) hx hb d_RL_isSound_5 rfl hl (by decide) rfl (fun ls hl => ?_)
  refine lv_aload_n hx hb d_RL_isSound_6 rfl (lv_at hl 1 rfl) ?_
  refine va_get (D := G.1) (ci := 2) (C := R_RL) (T := F_RL) (N := 7) hx hb ht in_RL hown hK hP 2 rfl rfl 2 (by decide) (ht _ kf_RL_32) (fun _ h9 => h9) rfl d_RL_isSound_7 ?_
  refine lv_iload_n hx hb d_RL_isSound_10 rfl (lv_at hl 0 rfl) ?_
  refine lv_bipush (v := (40 : Int32)) hx hb d_RL_isSound_11 (by decide) ?_
  refine lv_iadd hx hb d_RL_isSound_13 ?_
  obtain ⟨hk_14, hok⟩ := hok
  refine go_iz (run_S hx hb hml hown ht hK hP hD (c_RL_intAt hk_14) (cw_S ht km_RL_56 kt_RL_intAt ini_RL kd_RL_intAt kh_RL_intAt ⟨Nat.le_of_ble_eq_true rfl, Nat.le_of_ble_eq_true rfl⟩ rfl rfl) (As := [.ref (ad 3), .int (z_2.1 + (40 : Int32))]) (rest := []) rfl hl.1 rfl (Nat.le_of_ble_eq_true rfl) d_RL_isSound_14 ⟨Nat.zero_le _, Nat.zero_le _⟩) hD hS hA (fun z_14 H locs hz_14 hP hD hS => ?_)
  have hres := bindc_eq hz_14 hres
  have hok := bindp_eq hz_14 hok
  have hP : va_P G.1 classes (cC G ad nb nt cfa cle cwr csl cst cen cby cto csh cdz cch cva css cve cro crc cma cbi ces cbl crt) H := hP
  have hD : va_D A (cC G ad nb nt cfa cle cwr csl cst cen cby cto csh cdz cch cva css cve cro crc cma cbi ces cbl crt) := hD
  refine lv_iload_n hx hb d_RL_isSound_17 rfl (lv_at hl 2 rfl) ?_
  refine lv_icmp_ne (tgt := 33) hx hb d_RL_isSound_18 (by decide) (fun c_18 => ?_) (fun c_18 => ?_)
  · have hres := it_f c_18 hres
    refine lv_iconst (v := (0 : Int32)) hx hb d_RL_isSound_33 (by decide) ?_
    exact en_z (w1 := (fun _ : Unit => (cC G ad nb nt cfa cle cwr csl cst cen cby cto csh cdz cch cva css cve cro crc cma cbi ces cbl crt))) () hx hb hr hlocks hK hP hD hS hres isB_0 d_RL_isSound_34
  · have hres := it_t c_18 hres
    have hok := hok.1 c_18
    refine lv_aload_n hx hb d_RL_isSound_21 rfl (lv_at hl 1 rfl) ?_
    refine lv_iload_n hx hb d_RL_isSound_22 rfl (lv_at hl 0 rfl) ?_
    have hk_23 := hok
    refine go_iz (run_V hx hb hml hown ht hK hP hD (c_RL_isSumRight hk_23) (cw_V ht km_RL_67 ki_RL_isSumRight ks_RL_isSumRight ini_RL kd_RL_isSumRight kh_RL_isSumRight ⟨Nat.le_of_ble_eq_true rfl, Nat.le_of_ble_eq_true rfl⟩ rfl rfl) (q0 := 2) (ci := 2) (As := [.int z_2.1]) (rest := []) rfl rfl rfl hl.1 rfl (Nat.le_of_ble_eq_true rfl) d_RL_isSound_23 ⟨Nat.zero_le _, Nat.zero_le _⟩) hD hS hA (fun z_23 H locs hz_23 hP hD hS => ?_)
    have hres := bindc_eq hz_23 hres
    have hP : va_P G.1 classes (cC G ad nb nt cfa cle cwr csl cst cen cby cto csh cdz cch cva css cve cro crc cma cbi ces cbl crt) H := hP
    have hD : va_D A (cC G ad nb nt cfa cle cwr csl cst cen cby cto csh cdz cch cva css cve cro crc cma cbi ces cbl crt) := hD
    refine lv_if_eq (tgt := 33) hx hb d_RL_isSound_26 (by decide) (fun c_26 => ?_) (fun c_26 => ?_)
    · have hres := it_t c_26 hres
      refine lv_iconst (v := (0 : Int32)) hx hb d_RL_isSound_33 (by decide) ?_
      exact en_z (w1 := (fun _ : Unit => (cC G ad nb nt cfa cle cwr csl cst cen cby cto csh cdz cch cva css cve cro crc cma cbi ces cbl crt))) () hx hb hr hlocks hK hP hD hS hres isB_0 d_RL_isSound_34
    · have hres := it_f c_26 hres
      refine lv_iconst (v := (1 : Int32)) hx hb d_RL_isSound_29 (by decide) ?_
      refine lv_goto (tgt := 34) hx hb d_RL_isSound_30 (by decide) ?_
      exact en_z (w1 := (fun _ : Unit => (cC G ad nb nt cfa cle cwr csl cst cen cby cto csh cdz cch cva css cve cro crc cma cbi ces cbl crt))) () hx hb hr hlocks hK hP hD hS hres isB_1 d_RL_isSound_34
/-! ===== BookTrees$Roll.byteOf(II)I ===== -/
abbrev rm_RL_byteOf : Room := { frames := 2, cells := 0, slots := 0, locals := 43 }
def f_RL_byteOf (p0 : Int32) (p1 : Int32) (csl : Int32) (cby : (Nat → Int32)) : Int32 × Unit := bindc (f_RL_offsetOf p0 csl) (fun z_6 => ((cby (z_6.1 + p1).toNatClampNeg) &&& (255 : Int32), ()))
def ok_RL_byteOf (nb : Nat) (nt : Nat) (p0 : Int32) (p1 : Int32) (csl : Int32) (cby : (Nat → Int32)) : Prop := ok_RL_offsetOf nb nt p0 csl ∧ bindp (f_RL_offsetOf p0 csl) (fun z_6 => vp_in (z_6.1 + p1) nb)
set_option maxHeartbeats 4000000 in
set_option maxRecDepth 100000 in
theorem c_RL_byteOf {l : Launch} {G : GG} {ad : Nat → Nat} {nb : Nat} {nt : Nat} {sz : Nat} {cfa : Int32} {cle : Int32} {cwr : Int32} {csl : Int32} {cst : Int32} {cen : Int32} {cby : (Nat → Int32)} {cto : (Nat → Int32)} {csh : (Nat → Int32)} {cdz : Int32} {cch : (Nat → Int32)} {cva : (Nat → Int32)} {css : Int32} {cve : (Nat → Int32)} {cro : (Nat → Int32)} {crc : Int32} {cma : (Nat → Int32)} {cbi : (Nat → Int32)} {ces : (Nat → Int32)} {cbl : (Nat → Int32)} {crt : (Nat → Int32)} {p0 : Int32} {p1 : Int32} (hok : ok_RL_byteOf nb nt p0 p1 csl cby) : CtI l y_RL_byteOf b_RL_byteOf 3 (some .int) rm_RL_byteOf G (cC G ad nb nt cfa cle cwr csl cst cen cby cto csh cdz cch cva css cve cro crc cma cbi ces cbl crt) sz [.ref (ad 2), .int p0, .int p1] (eqP (f_RL_byteOf p0 p1 csl cby)) (fun _ : Unit => (cC G ad nb nt cfa cle cwr csl cst cen cby cto csh cdz cch cva css cve cro crc cma cbi ces cbl crt)) := by
  generalize hres : f_RL_byteOf p0 p1 csl cby = res
  refine Met_of (Qc := fun A => va_Qi (eqP res) (Wb G A (fun _ : Unit => (cC G ad nb nt cfa cle cwr csl cst cen cby cto csh cdz cch cva css cve cro crc cma cbi ces cbl crt))) A) (by decide) (Nat.le_of_ble_eq_true rfl) ?_
  intro p e s m below meth c hadm hx hb hr hml hown hlocks ht hK A hA hP hD hS ls hl
  have hC : Cx p l e s m (([.ref (ad 2), .int p0, .int p1] : List Value)).toArray meth c y_RL_byteOf b_RL_byteOf 3 (some .int) "BookTrees$Roll" G A := ⟨hx, hb, hr, hml, hown, hlocks, ht, hK, hA⟩
  have hown : s.vm.findClass "BookTrees$Roll" = some m.cls := hown
  have hl : lv_has ls 3 [(0, .ref (ad 2)), (1, .int p0), (2, .int p1)] := hl
  rw [f_RL_byteOf] at hres
  rw [ok_RL_byteOf] at hok
  refine lv_aload_n hx hb d_RL_byteOf_0 rfl (lv_at hl 0 rfl) ?_
  refine va_get (D := G.1) (ci := 2) (C := R_RL) (T := F_RL) (N := 7) hx hb ht in_RL hown hK hP 2 rfl rfl 2 (by decide) (ht _ kf_RL_32) (fun _ h9 => h9) rfl d_RL_byteOf_1 ?_
  refine lv_aload_n hx hb d_RL_byteOf_4 rfl (lv_at hl 0 rfl) ?_
  refine lv_iload_n hx hb d_RL_byteOf_5 rfl (lv_at hl 1 rfl) ?_
  obtain ⟨hk_6, hok⟩ := hok
  refine go_iz (run_V hx hb hml hown ht hK hP hD (c_RL_offsetOf hk_6) (cw_V ht km_RL_45 ki_RL_offsetOf ks_RL_offsetOf ini_RL kd_RL_offsetOf kh_RL_offsetOf ⟨Nat.le_of_ble_eq_true rfl, Nat.le_of_ble_eq_true rfl⟩ rfl rfl) (q0 := 2) (ci := 2) (As := [.int p0]) (rest := [.ref (ad 3)]) rfl rfl rfl hl.1 rfl (Nat.le_of_ble_eq_true rfl) d_RL_byteOf_6 ⟨Nat.zero_le _, Nat.zero_le _⟩) hD hS hA (fun z_6 H locs hz_6 hP hD hS => ?_)
  have hres := bindc_eq hz_6 hres
  have hok := bindp_eq hz_6 hok
  have hP : va_P G.1 classes (cC G ad nb nt cfa cle cwr csl cst cen cby cto csh cdz cch cva css cve cro crc cma cbi ces cbl crt) H := hP
  have hD : va_D A (cC G ad nb nt cfa cle cwr csl cst cen cby cto csh cdz cch cva css cve cro crc cma cbi ces cbl crt) := hD
  refine lv_iload_n hx hb d_RL_byteOf_9 rfl (lv_at hl 2 rfl) ?_
  refine lv_iadd hx hb d_RL_byteOf_10 ?_
  have hi_11 := hok
  refine va_bald hx hb hK hP 3 2 rfl rfl hi_11 d_RL_byteOf_11 ?_
  refine lv_sipush (v := (255 : Int32)) hx hb d_RL_byteOf_12 (by decide) ?_
  refine lv_iand hx hb d_RL_byteOf_15 ?_
  exact en_i (w1 := (fun _ : Unit => (cC G ad nb nt cfa cle cwr csl cst cen cby cto csh cdz cch cva css cve cro crc cma cbi ces cbl crt))) () hx hb hr hlocks hK hP hD hS hres d_RL_byteOf_16
