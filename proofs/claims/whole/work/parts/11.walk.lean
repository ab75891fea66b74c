/-! ===== BookTrees$Roll.isBad(II)Z ===== -/
abbrev rm_RL_isBad : Room := { frames := 3, cells := 0, slots := 0, locals := 71 }
def f_RL_isBad (p0 : Int32) (p1 : Int32) (csl : Int32) (cst : Int32) (cen : Int32) (cby : (Nat → Int32)) (cto : (Nat → Int32)) : Int32 × Unit := bindc (f_RL_isUsed p0 cst cen) (fun z_2 => if z_2.1 = 0 then ((1 : Int32), ()) else bindc (f_RL_isSound p0 csl cby cto) (fun z_10 => if z_10.1 = 0 then ((1 : Int32), ()) else bindc (f_RL_byteOf p0 (0 : Int32) csl cby) (fun z_19 => if z_19.1 = p1 then ((0 : Int32), ()) else ((1 : Int32), ()))))
def ok_RL_isBad (nb : Nat) (nt : Nat) (p0 : Int32) (p1 : Int32) (csl : Int32) (cst : Int32) (cen : Int32) (cby : (Nat → Int32)) (cto : (Nat → Int32)) : Prop := bindp (f_RL_isUsed p0 cst cen) (fun z_2 => (z_2.1 = 0 → True) ∧ (¬ z_2.1 = 0 → ok_RL_isSound nb nt p0 csl cby cto ∧ bindp (f_RL_isSound p0 csl cby cto) (fun z_10 => (z_10.1 = 0 → True) ∧ (¬ z_10.1 = 0 → ok_RL_byteOf nb nt p0 (0 : Int32) csl cby))))
set_option maxHeartbeats 4000000 in
set_option maxRecDepth 100000 in
theorem c_RL_isBad {l : Launch} {G : GG} {ad : Nat → Nat} {nb : Nat} {nt : Nat} {sz : Nat} {cfa : Int32} {cle : Int32} {cwr : Int32} {csl : Int32} {cst : Int32} {cen : Int32} {cby : (Nat → Int32)} {cto : (Nat → Int32)} {csh : (Nat → Int32)} {cdz : Int32} {cch : (Nat → Int32)} {cva : (Nat → Int32)} {css : Int32} {cve : (Nat → Int32)} {cro : (Nat → Int32)} {crc : Int32} {cma : (Nat → Int32)} {cbi : (Nat → Int32)} {ces : (Nat → Int32)} {cbl : (Nat → Int32)} {crt : (Nat → Int32)} {p0 : Int32} {p1 : Int32} (hok : ok_RL_isBad nb nt p0 p1 csl cst cen cby cto) : CtI l y_RL_isBad b_RL_isBad 3 (some .boolean) rm_RL_isBad G (cC G ad nb nt cfa cle cwr csl cst cen cby cto csh cdz cch cva css cve cro crc cma cbi ces cbl crt) sz [.ref (ad 2), .int p0, .int p1] (eqP (f_RL_isBad p0 p1 csl cst cen cby cto)) (fun _ : Unit => (cC G ad nb nt cfa cle cwr csl cst cen cby cto csh cdz cch cva css cve cro crc cma cbi ces cbl crt)) := by
  generalize hres : f_RL_isBad p0 p1 csl cst cen cby cto = res
  refine Met_of (Qc := fun A => va_Qi (eqP res) (Wb G A (fun _ : Unit => (cC G ad nb nt cfa cle cwr csl cst cen cby cto csh cdz cch cva css cve cro crc cma cbi ces cbl crt))) A) (by decide) (Nat.le_of_ble_eq_true rfl) ?_
  intro p e s m below meth c hadm hx hb hr hml hown hlocks ht hK A hA hP hD hS ls hl
  have hC : Cx p l e s m (([.ref (ad 2), .int p0, .int p1] : List Value)).toArray meth c y_RL_isBad b_RL_isBad 3 (some .boolean) "BookTrees$Roll" G A := ⟨hx, hb, hr, hml, hown, hlocks, ht, hK, hA⟩
  have hown : s.vm.findClass "BookTrees$Roll" = some m.cls := hown
  have hl : lv_has ls 3 [(0, .ref (ad 2)), (1, .int p0), (2, .int p1)] := hl
  rw [f_RL_isBad] at hres
  rw [ok_RL_isBad] at hok
  refine lv_aload_n hx hb d_RL_isBad_0 rfl (lv_at hl 0 rfl) ?_
  refine lv_iload_n hx hb d_RL_isBad_1 rfl (lv_at hl 1 rfl) ?_
  refine go_iz (run_V hx hb hml hown ht hK hP hD (c_RL_isUsed) (cw_V ht km_RL_60 ki_RL_isUsed ks_RL_isUsed ini_RL kd_RL_isUsed kh_RL_isUsed ⟨Nat.le_of_ble_eq_true rfl, Nat.le_of_ble_eq_true rfl⟩ rfl rfl) (q0 := 2) (ci := 2) (As := [.int p0]) (rest := []) rfl rfl rfl hl.1 rfl (Nat.le_of_ble_eq_true rfl) d_RL_isBad_2 ⟨Nat.zero_le _, Nat.zero_le _⟩) hD hS hA (fun z_2 H locs hz_2 hP hD hS => ?_)
  have hres := bindc_eq hz_2 hres
  have hok := bindp_eq hz_2 hok
  have hP : va_P G.1 classes (cC G ad nb nt cfa cle cwr csl cst cen cby cto csh cdz cch cva css cve cro crc cma cbi ces cbl crt) H := hP
  have hD : va_D A (cC G ad nb nt cfa cle cwr csl cst cen cby cto csh cdz cch cva css cve cro crc cma cbi ces cbl crt) := hD
  refine lv_if_eq (tgt := 26) hx hb d_RL_isBad_5 (by decide) (fun c_5 => ?_) (fun c_5 => ?_)
  · have hres := it_t c_5 hres
    refine lv_iconst (v := (1 : Int32)) hx hb d_RL_isBad_26 (by decide) ?_
    refine lv_goto (tgt := 31) hx hb d_RL_isBad_27 (by decide) ?_
    exact en_z (w1 := (fun _ : Unit => (cC G ad nb nt cfa cle cwr csl cst cen cby cto csh cdz cch cva css cve cro crc cma cbi ces cbl crt))) () hx hb hr hlocks hK hP hD hS hres isB_1 d_RL_isBad_31
  · have hres := it_f c_5 hres
    have hok := hok.2 c_5
    refine lv_aload_n hx hb d_RL_isBad_8 rfl (lv_at hl 0 rfl) ?_
    refine lv_iload_n hx hb d_RL_isBad_9 rfl (lv_at hl 1 rfl) ?_
    obtain ⟨hk_10, hok⟩ := hok
    refine go_iz (run_V hx hb hml hown ht hK hP hD (c_RL_isSound hk_10) (cw_V ht km_RL_64 ki_RL_isSound ks_RL_isSound ini_RL kd_RL_isSound kh_RL_isSound ⟨Nat.le_of_ble_eq_true rfl, Nat.le_of_ble_eq_true rfl⟩ rfl rfl) (q0 := 2) (ci := 2) (As := [.int p0]) (rest := []) rfl rfl rfl hl.1 rfl (Nat.le_of_ble_eq_true rfl) d_RL_isBad_10 ⟨Nat.zero_le _, Nat.zero_le _⟩) hD hS hA (fun z_10 H locs hz_10 hP hD hS => ?_)
    have hres := bindc_eq hz_10 hres
    have hok := bindp_eq hz_10 hok
    have hP : va_P G.1 classes (cC G ad nb nt cfa cle cwr csl cst cen cby cto csh cdz cch cva css cve cro crc cma cbi ces cbl crt) H := hP
    have hD : va_D A (cC G ad nb nt cfa cle cwr csl cst cen cby cto csh cdz cch cva css cve cro crc cma cbi ces cbl crt) := hD
    refine lv_if_eq (tgt := 26) hx hb d_RL_isBad_13 (by decide) (fun c_13 => ?_) (fun c_13 => ?_)
    · have hres := it_t c_13 hres
      refine lv_iconst (v := (1 : Int32)) hx hb d_RL_isBad_26 (by decide) ?_
      refine lv_goto (tgt := 31) hx hb d_RL_isBad_27 (by decide) ?_
      exact en_z (w1 := (fun _ : Unit => (cC G ad nb nt cfa cle cwr csl cst cen cby cto csh cdz cch cva css cve cro crc cma cbi ces cbl crt))) () hx hb hr hlocks hK hP hD hS hres isB_1 d_RL_isBad_31
    · have hres := it_f c_13 hres
      have hok := hok.2 c_13
      refine lv_aload_n hx hb d_RL_isBad_16 rfl (lv_at hl 0 rfl) ?_
      refine lv_iload_n hx hb d_RL_isBad_17 rfl (lv_at hl 1 rfl) ?_
      refine lv_iconst (v := (0 : Int32)) hx hb d_RL_isBad_18 (by decide) ?_
      have hk_19 := hok
      refine go_iz (run_V hx hb hml hown ht hK hP hD (c_RL_byteOf hk_19) (cw_V ht km_RL_49 ki_RL_byteOf ks_RL_byteOf ini_RL kd_RL_byteOf kh_RL_byteOf ⟨Nat.le_of_ble_eq_true rfl, Nat.le_of_ble_eq_true rfl⟩ rfl rfl) (q0 := 2) (ci := 2) (As := [.int p0, .int (0 : Int32)]) (rest := []) rfl rfl rfl hl.1 rfl (Nat.le_of_ble_eq_true rfl) d_RL_isBad_19 ⟨Nat.zero_le _, Nat.zero_le _⟩) hD hS hA (fun z_19 H locs hz_19 hP hD hS => ?_)
      have hres := bindc_eq hz_19 hres
      have hP : va_P G.1 classes (cC G ad nb nt cfa cle cwr csl cst cen cby cto csh cdz cch cva css cve cro crc cma cbi ces cbl crt) H := hP
      have hD : va_D A (cC G ad nb nt cfa cle cwr csl cst cen cby cto csh cdz cch cva css cve cro crc cma cbi ces cbl crt) := hD
      refine lv_iload_n hx hb d_RL_isBad_22 rfl (lv_at hl 2 rfl) ?_
      refine lv_icmp_eq (tgt := 30) hx hb d_RL_isBad_23 (by decide) (fun c_23 => ?_) (fun c_23 => ?_)
      · have hres := it_t c_23 hres
        refine lv_iconst (v := (0 : Int32)) hx hb d_RL_isBad_30 (by decide) ?_
        exact en_z (w1 := (fun _ : Unit => (cC G ad nb nt cfa cle cwr csl cst cen cby cto csh cdz cch cva css cve cro crc cma cbi ces cbl crt))) () hx hb hr hlocks hK hP hD hS hres isB_0 d_RL_isBad_31
      · have hres := it_f c_23 hres
        refine lv_iconst (v := (1 : Int32)) hx hb d_RL_isBad_26 (by decide) ?_
        refine lv_goto (tgt := 31) hx hb d_RL_isBad_27 (by decide) ?_
        exact en_z (w1 := (fun _ : Unit => (cC G ad nb nt cfa cle cwr csl cst cen cby cto csh cdz cch cva css cve cro crc cma cbi ces cbl crt))) () hx hb hr hlocks hK hP hD hS hres isB_1 d_RL_isBad_31
/-! ===== BookTrees$Roll.hasBit(II)Z ===== -/
abbrev rm_RL_hasBit : Room := { frames := 3, cells := 0, slots := 0, locals := 65 }
def f_RL_hasBit (p0 : Int32) (p1 : Int32) (csl : Int32) (cby : (Nat → Int32)) : Int32 × Unit := bindc (f_RL_byteOf p0 (1 : Int32) csl cby) (fun z_3 => if ((z_3.1 >>> (p1 &&& 31)) &&& (1 : Int32)) = (1 : Int32) then ((1 : Int32), ()) else ((0 : Int32), ()))
def ok_RL_hasBit (nb : Nat) (nt : Nat) (p0 : Int32) (p1 : Int32) (csl : Int32) (cby : (Nat → Int32)) : Prop := ok_RL_byteOf nb nt p0 (1 : Int32) csl cby
set_option maxHeartbeats 4000000 in
set_option maxRecDepth 100000 in
theorem c_RL_hasBit {l : Launch} {G : GG} {ad : Nat → Nat} {nb : Nat} {nt : Nat} {sz : Nat} {cfa : Int32} {cle : Int32} {cwr : Int32} {csl : Int32} {cst : Int32} {cen : Int32} {cby : (Nat → Int32)} {cto : (Nat → Int32)} {csh : (Nat → Int32)} {cdz : Int32} {cch : (Nat → Int32)} {cva : (Nat → Int32)} {css : Int32} {cve : (Nat → Int32)} {cro : (Nat → Int32)} {crc : Int32} {cma : (Nat → Int32)} {cbi : (Nat → Int32)} {ces : (Nat → Int32)} {cbl : (Nat → Int32)} {crt : (Nat → Int32)} {p0 : Int32} {p1 : Int32} (hok : ok_RL_hasBit nb nt p0 p1 csl cby) : CtI l y_RL_hasBit b_RL_hasBit 3 (some .boolean) rm_RL_hasBit G (cC G ad nb nt cfa cle cwr csl cst cen cby cto csh cdz cch cva css cve cro crc cma cbi ces cbl crt) sz [.ref (ad 2), .int p0, .int p1] (eqP (f_RL_hasBit p0 p1 csl cby)) (fun _ : Unit => (cC G ad nb nt cfa cle cwr csl cst cen cby cto csh cdz cch cva css cve cro crc cma cbi ces cbl crt)) := by
  generalize hres : f_RL_hasBit p0 p1 csl cby = res
  refine Met_of (Qc := fun A => va_Qi (eqP res) (Wb G A (fun _ : Unit => (cC G ad nb nt cfa cle cwr csl cst cen cby cto csh cdz cch cva css cve cro crc cma cbi ces cbl crt))) A) (by decide) (Nat.le_of_ble_eq_true rfl) ?_
  intro p e s m below meth c hadm hx hb hr hml hown hlocks ht hK A hA hP hD hS ls hl
  have hC : Cx p l e s m (([.ref (ad 2), .int p0, .int p1] : List Value)).toArray meth c y_RL_hasBit b_RL_hasBit 3 (some .boolean) "BookTrees$Roll" G A := ⟨hx, hb, hr, hml, hown, hlocks, ht, hK, hA⟩
  have hown : s.vm.findClass "BookTrees$Roll" = some m.cls := hown
  have hl : lv_has ls 3 [(0, .ref (ad 2)), (1, .int p0), (2, .int p1)] := hl
  rw [f_RL_hasBit] at hres
  rw [ok_RL_hasBit] at hok
  refine lv_aload_n hx hb d_RL_hasBit_0 rfl (lv_at hl 0 rfl) ?_
  refine lv_iload_n hx hb d_RL_hasBit_1 rfl (lv_at hl 1 rfl) ?_
  refine lv_iconst (v := (1 : Int32)) hx hb d_RL_hasBit_2 (by decide) ?_
  have hk_3 := hok
  refine go_iz (run_V hx hb hml hown ht hK hP hD (c_RL_byteOf hk_3) (cw_V ht km_RL_49 ki_RL_byteOf ks_RL_byteOf ini_RL kd_RL_byteOf kh_RL_byteOf ⟨Nat.le_of_ble_eq_true rfl, Nat.le_of_ble_eq_true rfl⟩ rfl rfl) (q0 := 2) (ci := 2) (As := [.int p0, .int (1 : Int32)]) (rest := []) rfl rfl rfl hl.1 rfl (Nat.le_of_ble_eq_true rfl) d_RL_hasBit_3 ⟨Nat.zero_le _, Nat.zero_le _⟩) hD hS hA (fun z_3 H locs hz_3 hP hD hS => ?_)
  have hres := bindc_eq hz_3 hres
  have hP : va_P G.1 classes (cC G ad nb nt cfa cle cwr csl cst cen cby cto csh cdz cch cva css cve cro crc cma cbi ces cbl crt) H := hP
  have hD : va_D A (cC G ad nb nt cfa cle cwr csl cst cen cby cto csh cdz cch cva css cve cro crc cma cbi ces cbl crt) := hD
  refine lv_iload_n hx hb d_RL_hasBit_6 rfl (lv_at hl 2 rfl) ?_
  refine lv_ishr hx hb d_RL_hasBit_7 ?_
  refine lv_iconst (v := (1 : Int32)) hx hb d_RL_hasBit_8 (by decide) ?_
  refine lv_iand hx hb d_RL_hasBit_9 ?_
  refine lv_iconst (v := (1 : Int32)) hx hb d_RL_hasBit_10 (by decide) ?_
  refine lv_icmp_ne (tgt := 18) hx hb d_RL_hasBit_11 (by decide) (fun c_11 => ?_) (fun c_11 => ?_)
  · have hres := it_f c_11 hres
    refine lv_iconst (v := (0 : Int32)) hx hb d_RL_hasBit_18 (by decide) ?_
    exact en_z (w1 := (fun _ : Unit => (cC G ad nb nt cfa cle cwr csl cst cen cby cto csh cdz cch cva css cve cro crc cma cbi ces cbl crt))) () hx hb hr hlocks hK hP hD hS hres isB_0 d_RL_hasBit_19
  · have hres := it_t c_11 hres
    refine lv_iconst (v := (1 : Int32)) hx hb d_RL_hasBit_14 (by decide) ?_
    refine lv_goto (tgt := 19) hx hb d_RL_hasBit_15 (by decide) ?_
    exact en_z (w1 := (fun _ : Unit => (cC G ad nb nt cfa cle cwr csl cst cen cby cto csh cdz cch cva css cve cro crc cma cbi ces cbl crt))) () hx hb hr hlocks hK hP hD hS hres isB_1 d_RL_hasBit_19
/-! ===== BookTrees$Roll.entryOf(II)I ===== -/
abbrev rm_RL_entryOf : Room := { frames := 2, cells := 0, slots := 0, locals := 43 }
def f_RL_entryOf (p0 : Int32) (p1 : Int32) (csl : Int32) (cby : (Nat → Int32)) : Int32 × Unit := bindc (f_RL_offsetOf p0 csl) (fun z_6 => bindc (f_RL_intAt ((z_6.1 + (8 : Int32)) + ((4 : Int32) * p1)) cby) (fun z_16 => (z_16.1, ())))
def ok_RL_entryOf (nb : Nat) (nt : Nat) (p0 : Int32) (p1 : Int32) (csl : Int32) (cby : (Nat → Int32)) : Prop := ok_RL_offsetOf nb nt p0 csl ∧ bindp (f_RL_offsetOf p0 csl) (fun z_6 => ok_RL_intAt nb nt ((z_6.1 + (8 : Int32)) + ((4 : Int32) * p1)) cby)
set_option maxHeartbeats 4000000 in
set_option maxRecDepth 100000 in
theorem c_RL_entryOf {l : Launch} {G : GG} {ad : Nat → Nat} {nb : Nat} {nt : Nat} {sz : Nat} {cfa : Int32} {cle : Int32} {cwr : Int32} {csl : Int32} {cst : Int32} {cen : Int32} {cby : (Nat → Int32)} {cto : (Nat → Int32)} {csh : (Nat → Int32)} {cdz : Int32} {cch : (Nat → Int32)} {cva : (Nat → Int32)} {css : Int32} {cve : (Nat → Int32)} {cro : (Nat → Int32)} {crc : Int32} {cma : (Nat → Int32)} {cbi : (Nat → Int32)} {ces : (Nat → Int32)} {cbl : (Nat → Int32)} {crt : (Nat → Int32)} {p0 : Int32} {p1 : Int32} (hok : ok_RL_entryOf nb nt p0 p1 csl cby) : CtI l y_RL_entryOf b_RL_entryOf 3 (some .int) rm_RL_entryOf G (cC G ad nb nt cfa cle cwr csl cst cen cby cto csh cdz cch cva css cve cro crc cma cbi ces cbl crt) sz [.ref (ad 2), .int p0, .int p1] (eqP (f_RL_entryOf p0 p1 csl cby)) (fun _ : Unit => (cC G ad nb nt cfa cle cwr csl cst cen cby cto csh cdz cch cva css cve cro crc cma cbi ces cbl crt)) := by
  generalize hres : f_RL_entryOf p0 p1 csl cby = res
  refine Met_of (Qc := fun A => va_Qi (eqP res) (Wb G A (fun _ : Unit => (cC G ad nb nt cfa cle cwr csl cst cen cby cto csh cdz cch cva css cve cro crc cma cbi ces cbl crt))) A) (by decide) (Nat.le_of_ble_eq_true rfl) ?_
  intro p e s m below meth c hadm hx hb hr hml hown hlocks ht hK A hA hP hD hS ls hl
  have hC : Cx p l e s m (([.ref (ad 2), .int p0, .int p1] : List Value)).toArray meth c y_RL_entryOf b_RL_entryOf 3 (some .int) "BookTrees$Roll" G A := ⟨hx, hb, hr, hml, hown, hlocks, ht, hK, hA⟩
  have hown : s.vm.findClass "BookTrees$Roll" = some m.cls := hown
  have hl : lv_has ls 3 [(0, .ref (ad 2)), (1, .int p0), (2, .int p1)] := hl
  rw [f_RL_entryOf] at hres
  rw [ok_RL_entryOf] at hok
  refine lv_aload_n hx hb d_RL_entryOf_0 rfl (lv_at hl 0 rfl) ?_
  refine va_get (D := G.1) (ci := 2) (C := R_RL) (T := F_RL) (N := 7) hx hb ht in_RL hown hK hP 2 rfl rfl 2 (by decide) (ht _ kf_RL_32) (fun _ h9 => h9) rfl d_RL_entryOf_1 ?_
  refine lv_aload_n hx hb d_RL_entryOf_4 rfl (lv_at hl 0 rfl) ?_
  refine lv_iload_n hx hb d_RL_entryOf_5 rfl (lv_at hl 1 rfl) ?_
  obtain ⟨hk_6, hok⟩ := hok
  refine go_iz (run_V hx hb hml hown ht hK hP hD (c_RL_offsetOf hk_6) (cw_V ht km_RL_45 ki_RL_offsetOf ks_RL_offsetOf ini_RL kd_RL_offsetOf kh_RL_offsetOf ⟨Nat.le_of_ble_eq_true rfl, Nat.le_of_ble_eq_true rfl⟩ rfl rfl) (q0 := 2) (ci := 2) (As := [.int p0]) (rest := [.ref (ad 3)]) rfl rfl rfl hl.1 rfl (Nat.le_of_ble_eq_true rfl) d_RL_entryOf_6 ⟨Nat.zero_le _, Nat.zero_le _⟩) hD hS hA (fun z_6 H locs hz_6 hP hD hS => ?_)
  have hres := bindc_eq hz_6 hres
  have hok := bindp_eq hz_6 hok
  have hP : va_P G.1 classes (cC G ad nb nt cfa cle cwr csl cst cen cby cto csh cdz cch cva css cve cro crc cma cbi ces cbl crt) H := hP
  have hD : va_D A (cC G ad nb nt cfa cle cwr csl cst cen cby cto csh cdz cch cva css cve cro crc cma cbi ces cbl crt) := hD
  refine lv_bipush (v := (8 : Int32)) hx hb d_RL_entryOf_9 (by decide) ?_
  refine lv_iadd hx hb d_RL_entryOf_11 ?_
  refine lv_iconst (v := (4 : Int32)) hx hb d_RL_entryOf_12 (by decide) ?_
  refine lv_iload_n hx hb d_RL_entryOf_13 rfl (lv_at hl 2 rfl) ?_
  refine lv_imul hx hb d_RL_entryOf_14 ?_
  refine lv_iadd hx hb d_RL_entryOf_15 ?_
  have hk_16 := hok
  refine go_iz (run_S hx hb hml hown ht hK hP hD (c_RL_intAt hk_16) (cw_S ht km_RL_56 kt_RL_intAt ini_RL kd_RL_intAt kh_RL_intAt ⟨Nat.le_of_ble_eq_true rfl, Nat.le_of_ble_eq_true rfl⟩ rfl rfl) (As := [.ref (ad 3), .int ((z_6.1 + (8 : Int32)) + ((4 : Int32) * p1))]) (rest := []) rfl hl.1 rfl (Nat.le_of_ble_eq_true rfl) d_RL_entryOf_16 ⟨Nat.zero_le _, Nat.zero_le _⟩) hD hS hA (fun z_16 H locs hz_16 hP hD hS => ?_)
  have hres := bindc_eq hz_16 hres
  have hP : va_P G.1 classes (cC G ad nb nt cfa cle cwr csl cst cen cby cto csh cdz cch cva css cve cro crc cma cbi ces cbl crt) H := hP
  have hD : va_D A (cC G ad nb nt cfa cle cwr csl cst cen cby cto csh cdz cch cva css cve cro crc cma cbi ces cbl crt) := hD
  exact en_i (w1 := (fun _ : Unit => (cC G ad nb nt cfa cle cwr csl cst cen cby cto csh cdz cch cva css cve cro crc cma cbi ces cbl crt))) () hx hb hr hlocks hK hP hD hS hres d_RL_entryOf_19
/-! ===== BookTrees.childBlock(III)I ===== -/
abbrev rm_BT_childBlock : Room := { frames := 4, cells := 0, slots := 0, locals := 93 }
def f_BT_childBlock (p0 : Int32) (p1 : Int32) (p2 : Int32) (csl : Int32) (cst : Int32) (cen : Int32) (cby : (Nat → Int32)) (cto : (Nat → Int32)) : Int32 × Unit := if p0 = (-1 : Int32) then (p0, ()) else if p0 = (-2 : Int32) then (p0, ()) else bindc (f_RL_hasBit p0 p1 csl cby) (fun z_19 => if z_19.1 = 0 then ((-1 : Int32), ()) else bindc (f_RL_entryOf p0 p1 csl cby) (fun z_33 => bindc (f_RL_isBad z_33.1 p2 csl cst cen cby cto) (fun z_45 => if z_45.1 = 0 then (z_33.1, ()) else ((-2 : Int32), ()))))
def ok_BT_childBlock (nb : Nat) (nt : Nat) (p0 : Int32) (p1 : Int32) (p2 : Int32) (csl : Int32) (cst : Int32) (cen : Int32) (cby : (Nat → Int32)) (cto : (Nat → Int32)) : Prop := (p0 = (-1 : Int32) → True) ∧ (¬ p0 = (-1 : Int32) → (p0 = (-2 : Int32) → True) ∧ (¬ p0 = (-2 : Int32) → ok_RL_hasBit nb nt p0 p1 csl cby ∧ bindp (f_RL_hasBit p0 p1 csl cby) (fun z_19 => (z_19.1 = 0 → True) ∧ (¬ z_19.1 = 0 → ok_RL_entryOf nb nt p0 p1 csl cby ∧ bindp (f_RL_entryOf p0 p1 csl cby) (fun z_33 => ok_RL_isBad nb nt z_33.1 p2 csl cst cen cby cto)))))
set_option maxHeartbeats 4000000 in
set_option maxRecDepth 100000 in
theorem c_BT_childBlock {l : Launch} {G : GG} {ad : Nat → Nat} {nb : Nat} {nt : Nat} {sz : Nat} {cfa : Int32} {cle : Int32} {cwr : Int32} {csl : Int32} {cst : Int32} {cen : Int32} {cby : (Nat → Int32)} {cto : (Nat → Int32)} {csh : (Nat → Int32)} {cdz : Int32} {cch : (Nat → Int32)} {cva : (Nat → Int32)} {css : Int32} {cve : (Nat → Int32)} {cro : (Nat → Int32)} {crc : Int32} {cma : (Nat → Int32)} {cbi : (Nat → Int32)} {ces : (Nat → Int32)} {cbl : (Nat → Int32)} {crt : (Nat → Int32)} {p0 : Int32} {p1 : Int32} {p2 : Int32} (hok : ok_BT_childBlock nb nt p0 p1 p2 csl cst cen cby cto) : CtI l y_BT_childBlock b_BT_childBlock 5 (some .int) rm_BT_childBlock G (cC G ad nb nt cfa cle cwr csl cst cen cby cto csh cdz cch cva css cve cro crc cma cbi ces cbl crt) sz [.ref (ad 0), .int p0, .int p1, .int p2] (eqP (f_BT_childBlock p0 p1 p2 csl cst cen cby cto)) (fun _ : Unit => (cC G ad nb nt cfa cle cwr csl cst cen cby cto csh cdz cch cva css cve cro crc cma cbi ces cbl crt)) := by
  generalize hres : f_BT_childBlock p0 p1 p2 csl cst cen cby cto = res
  refine Met_of (Qc := fun A => va_Qi (eqP res) (Wb G A (fun _ : Unit => (cC G ad nb nt cfa cle cwr csl cst cen cby cto csh cdz cch cva css cve cro crc cma cbi ces cbl crt))) A) (by decide) (Nat.le_of_ble_eq_true rfl) ?_
  intro p e s m below meth c hadm hx hb hr hml hown hlocks ht hK A hA hP hD hS ls hl
  have hC : Cx p l e s m (([.ref (ad 0), .int p0, .int p1, .int p2] : List Value)).toArray meth c y_BT_childBlock b_BT_childBlock 5 (some .int) "BookTrees" G A := ⟨hx, hb, hr, hml, hown, hlocks, ht, hK, hA⟩
  have hown : s.vm.findClass "BookTrees" = some m.cls := hown
  have hl : lv_has ls 5 [(0, .ref (ad 0)), (1, .int p0), (2, .int p1), (3, .int p2)] := hl
  rw [f_BT_childBlock] at hres
  rw [ok_BT_childBlock] at hok
  refine lv_iload_n hx hb d_BT_childBlock_0 rfl (lv_at hl 1 rfl) ?_
  refine lv_iconst (v := (-1 : Int32)) hx hb d_BT_childBlock_1 (by decide) ?_
  refine lv_icmp_eq (tgt := 11) hx hb d_BT_childBlock_2 (by decide) (fun c_2 => ?_) (fun c_2 => ?_)
  · have hres := it_t c_2 hres
    refine lv_iload_n hx hb d_BT_childBlock_11 rfl (lv_at hl 1 rfl) ?_
    exact en_i (w1 := (fun _ : Unit => (cC G ad nb nt cfa cle cwr csl cst cen cby cto csh cdz cch cva css cve cro crc cma cbi ces cbl crt))) () hx hb hr hlocks hK hP hD hS hres d_BT_childBlock_12
  · have hres := it_f c_2 hres
    have hok := hok.2 c_2
    refine lv_iload_n hx hb d_BT_childBlock_5 rfl (lv_at hl 1 rfl) ?_
    refine lv_bipush (v := (-2 : Int32)) hx hb d_BT_childBlock_6 (by decide) ?_
    refine lv_icmp_ne (tgt := 13) hx hb d_BT_childBlock_8 (by decide) (fun c_8 => ?_) (fun c_8 => ?_)
    · have hres := it_f c_8 hres
      have hok := hok.2 c_8
      refine lv_aload_n hx hb d_BT_childBlock_13 rfl (lv_at hl 0 rfl) ?_
      refine va_get (D := G.1) (ci := 0) (C := R_BT) (T := F_BT) (N := 5) hx hb ht in_BT hown hK hP 0 rfl rfl 1 (by decide) (ht _ kf_BT_21) (fun _ h9 => h9) rfl d_BT_childBlock_14 ?_
      refine lv_iload_n hx hb d_BT_childBlock_17 rfl (lv_at hl 1 rfl) ?_
      refine lv_iload_n hx hb d_BT_childBlock_18 rfl (lv_at hl 2 rfl) ?_
      obtain ⟨hk_19, hok⟩ := hok
      refine go_iz (run_V hx hb hml hown ht hK hP hD (c_RL_hasBit hk_19) (cw_V ht km_BT_209 ki_RL_hasBit ks_RL_hasBit ini_RL kd_RL_hasBit kh_RL_hasBit ⟨Nat.le_of_ble_eq_true rfl, Nat.le_of_ble_eq_true rfl⟩ rfl rfl) (q0 := 2) (ci := 2) (As := [.int p0, .int p1]) (rest := []) rfl rfl rfl hl.1 rfl (Nat.le_of_ble_eq_true rfl) d_BT_childBlock_19 ⟨Nat.zero_le _, Nat.zero_le _⟩) hD hS hA (fun z_19 H locs hz_19 hP hD hS => ?_)
      have hres := bindc_eq hz_19 hres
      have hok := bindp_eq hz_19 hok
      have hP : va_P G.1 classes (cC G ad nb nt cfa cle cwr csl cst cen cby cto csh cdz cch cva css cve cro crc cma cbi ces cbl crt) H := hP
      have hD : va_D A (cC G ad nb nt cfa cle cwr csl cst cen cby cto csh cdz cch cva css cve cro crc cma cbi ces cbl crt) := hD
      refine lv_if_ne (tgt := 27) hx hb d_BT_childBlock_22 (by decide) (fun c_22 => ?_) (fun c_22 => ?_)
      · have hres := it_f c_22 hres
        have hok := hok.2 c_22
        refine lv_aload_n hx hb d_BT_childBlock_27 rfl (lv_at hl 0 rfl) ?_
        refine va_get (D := G.1) (ci := 0) (C := R_BT) (T := F_BT) (N := 5) hx hb ht in_BT hown hK hP 0 rfl rfl 1 (by decide) (ht _ kf_BT_21) (fun _ h9 => h9) rfl d_BT_childBlock_28 ?_
        refine lv_iload_n hx hb d_BT_childBlock_31 rfl (lv_at hl 1 rfl) ?_
        refine lv_iload_n hx hb d_BT_childBlock_32 rfl (lv_at hl 2 rfl) ?_
        obtain ⟨hk_33, hok⟩ := hok
        refine go_iz (run_V hx hb hml hown ht hK hP hD (c_RL_entryOf hk_33) (cw_V ht km_BT_130 ki_RL_entryOf ks_RL_entryOf ini_RL kd_RL_entryOf kh_RL_entryOf ⟨Nat.le_of_ble_eq_true rfl, Nat.le_of_ble_eq_true rfl⟩ rfl rfl) (q0 := 2) (ci := 2) (As := [.int p0, .int p1]) (rest := []) rfl rfl rfl hl.1 rfl (Nat.le_of_ble_eq_true rfl) d_BT_childBlock_33 ⟨Nat.zero_le _, Nat.zero_le _⟩) hD hS hA (fun z_33 H locs hz_33 hP hD hS => ?_)
        have hres := bindc_eq hz_33 hres
        have hok := bindp_eq hz_33 hok
        have hP : va_P G.1 classes (cC G ad nb nt cfa cle cwr csl cst cen cby cto csh cdz cch cva css cve cro crc cma cbi ces cbl crt) H := hP
        have hD : va_D A (cC G ad nb nt cfa cle cwr csl cst cen cby cto csh cdz cch cva css cve cro crc cma cbi ces cbl crt) := hD
        refine lv_istore (lv' := [(4, .int z_33.1), (0, .ref (ad 0)), (1, .int p0), (2, .int p1), (3, .int p2)]) hx hb d_BT_childBlock_36 hl (by decide) rfl (fun ls hl => ?_)
        refine lv_aload_n hx hb d_BT_childBlock_38 rfl (lv_at hl 1 rfl) ?_
        refine va_get (D := G.1) (ci := 0) (C := R_BT) (T := F_BT) (N := 5) hx hb ht in_BT hown hK hP 0 rfl rfl 1 (by decide) (ht _ kf_BT_21) (fun _ h9 => h9) rfl d_BT_childBlock_39 ?_
        refine lv_iload hx hb d_BT_childBlock_42 (lv_at hl 0 rfl) ?_
        refine lv_iload_n hx hb d_BT_childBlock_44 rfl (lv_at hl 4 rfl) ?_
        have hk_45 := hok
        refine go_iz (run_V hx hb hml hown ht hK hP hD (c_RL_isBad hk_45) (cw_V ht km_BT_126 ki_RL_isBad ks_RL_isBad ini_RL kd_RL_isBad kh_RL_isBad ⟨Nat.le_of_ble_eq_true rfl, Nat.le_of_ble_eq_true rfl⟩ rfl rfl) (q0 := 2) (ci := 2) (As := [.int z_33.1, .int p2]) (rest := []) rfl rfl rfl hl.1 rfl (Nat.le_of_ble_eq_true rfl) d_BT_childBlock_45 ⟨Nat.zero_le _, Nat.zero_le _⟩) hD hS hA (fun z_45 H locs hz_45 hP hD hS => ?_)
        have hres := bindc_eq hz_45 hres
        have hP : va_P G.1 classes (cC G ad nb nt cfa cle cwr csl cst cen cby cto csh cdz cch cva css cve cro crc cma cbi ces cbl crt) H := hP
        have hD : va_D A (cC G ad nb nt cfa cle cwr csl cst cen cby cto csh cdz cch cva css cve cro crc cma cbi ces cbl crt) := hD
        refine lv_if_eq (tgt := 56) hx hb d_BT_childBlock_48 (by decide) (fun c_48 => ?_) (fun c_48 => ?_)
        · have hres := it_t c_48 hres
          refine lv_iload hx hb d_BT_childBlock_56 (lv_at hl 0 rfl) ?_
          exact en_i (w1 := (fun _ : Unit => (cC G ad nb nt cfa cle cwr csl cst cen cby cto csh cdz cch cva css cve cro crc cma cbi ces cbl crt))) () hx hb hr hlocks hK hP hD hS hres d_BT_childBlock_58
        · have hres := it_f c_48 hres
          refine lv_bipush (v := (-2 : Int32)) hx hb d_BT_childBlock_51 (by decide) ?_
          refine lv_goto (tgt := 58) hx hb d_BT_childBlock_53 (by decide) ?_
          exact en_i (w1 := (fun _ : Unit => (cC G ad nb nt cfa cle cwr csl cst cen cby cto csh cdz cch cva css cve cro crc cma cbi ces cbl crt))) () hx hb hr hlocks hK hP hD hS hres d_BT_childBlock_58
      · have hres := it_t c_22 hres
        refine lv_iconst (v := (-1 : Int32)) hx hb d_BT_childBlock_25 (by decide) ?_
        exact en_i (w1 := (fun _ : Unit => (cC G ad nb nt cfa cle cwr csl cst cen cby cto csh cdz cch cva css cve cro crc cma cbi ces cbl crt))) () hx hb hr hlocks hK hP hD hS hres d_BT_childBlock_26
    · have hres := it_t c_8 hres
      refine lv_iload_n hx hb d_BT_childBlock_11 rfl (lv_at hl 1 rfl) ?_
      exact en_i (w1 := (fun _ : Unit => (cC G ad nb nt cfa cle cwr csl cst cen cby cto csh cdz cch cva css cve cro crc cma cbi ces cbl crt))) () hx hb hr hlocks hK hP hD hS hres d_BT_childBlock_12
/-! ===== BookTrees.leafBlock(II)I ===== -/
abbrev rm_BT_leafBlock : Room := { frames := 5, cells := 0, slots := 0, locals := 117 }
def f_BT_leafBlock (p0 : Int32) (p1 : Int32) (csl : Int32) (cst : Int32) (cen : Int32) (cby : (Nat → Int32)) (cto : (Nat → Int32)) : Int32 × Unit := if p0 = (-1 : Int32) then ((-1 : Int32), ()) else bindc (f_RL_isBad p0 (4 : Int32) csl cst cen cby cto) (fun z_13 => if z_13.1 = 0 then bindc (f_BT_childBlock p0 (0 : Int32) (3 : Int32) csl cst cen cby cto) (fun z_26 => bindc (f_BT_childBlock z_26.1 (p1 >>> ((3 : Int32) &&& 31)) (2 : Int32) csl cst cen cby cto) (fun z_36 => bindc (f_BT_childBlock z_36.1 (p1 &&& (7 : Int32)) (1 : Int32) csl cst cen cby cto) (fun z_49 => (z_49.1, ())))) else ((-2 : Int32), ()))
def ok_BT_leafBlock (nb : Nat) (nt : Nat) (p0 : Int32) (p1 : Int32) (csl : Int32) (cst : Int32) (cen : Int32) (cby : (Nat → Int32)) (cto : (Nat → Int32)) : Prop := (p0 = (-1 : Int32) → True) ∧ (¬ p0 = (-1 : Int32) → ok_RL_isBad nb nt p0 (4 : Int32) csl cst cen cby cto ∧ bindp (f_RL_isBad p0 (4 : Int32) csl cst cen cby cto) (fun z_13 => (z_13.1 = 0 → ok_BT_childBlock nb nt p0 (0 : Int32) (3 : Int32) csl cst cen cby cto ∧ bindp (f_BT_childBlock p0 (0 : Int32) (3 : Int32) csl cst cen cby cto) (fun z_26 => ok_BT_childBlock nb nt z_26.1 (p1 >>> ((3 : Int32) &&& 31)) (2 : Int32) csl cst cen cby cto ∧ bindp (f_BT_childBlock z_26.1 (p1 >>> ((3 : Int32) &&& 31)) (2 : Int32) csl cst cen cby cto) (fun z_36 => ok_BT_childBlock nb nt z_36.1 (p1 &&& (7 : Int32)) (1 : Int32) csl cst cen cby cto))) ∧ (¬ z_13.1 = 0 → True)))
set_option maxHeartbeats 4000000 in
set_option maxRecDepth 100000 in
theorem c_BT_leafBlock {l : Launch} {G : GG} {ad : Nat → Nat} {nb : Nat} {nt : Nat} {sz : Nat} {cfa : Int32} {cle : Int32} {cwr : Int32} {csl : Int32} {cst : Int32} {cen : Int32} {cby : (Nat → Int32)} {cto : (Nat → Int32)} {csh : (Nat → Int32)} {cdz : Int32} {cch : (Nat → Int32)} {cva : (Nat → Int32)} {css : Int32} {cve : (Nat → Int32)} {cro : (Nat → Int32)} {crc : Int32} {cma : (Nat → Int32)} {cbi : (Nat → Int32)} {ces : (Nat → Int32)} {cbl : (Nat → Int32)} {crt : (Nat → Int32)} {p0 : Int32} {p1 : Int32} (hok : ok_BT_leafBlock nb nt p0 p1 csl cst cen cby cto) : CtI l y_BT_leafBlock b_BT_leafBlock 5 (some .int) rm_BT_leafBlock G (cC G ad nb nt cfa cle cwr csl cst cen cby cto csh cdz cch cva css cve cro crc cma cbi ces cbl crt) sz [.ref (ad 0), .int p0, .int p1] (eqP (f_BT_leafBlock p0 p1 csl cst cen cby cto)) (fun _ : Unit => (cC G ad nb nt cfa cle cwr csl cst cen cby cto csh cdz cch cva css cve cro crc cma cbi ces cbl crt)) := by
  generalize hres : f_BT_leafBlock p0 p1 csl cst cen cby cto = res
  refine Met_of (Qc := fun A => va_Qi (eqP res) (Wb G A (fun _ : Unit => (cC G ad nb nt cfa cle cwr csl cst cen cby cto csh cdz cch cva css cve cro crc cma cbi ces cbl crt))) A) (by decide) (Nat.le_of_ble_eq_true rfl) ?_
  intro p e s m below meth c hadm hx hb hr hml hown hlocks ht hK A hA hP hD hS ls hl
  have hC : Cx p l e s m (([.ref (ad 0), .int p0, .int p1] : List Value)).toArray meth c y_BT_leafBlock b_BT_leafBlock 5 (some .int) "BookTrees" G A := ⟨hx, hb, hr, hml, hown, hlocks, ht, hK, hA⟩
  have hown : s.vm.findClass "BookTrees" = some m.cls := hown
  have hl : lv_has ls 5 [(0, .ref (ad 0)), (1, .int p0), (2, .int p1)] := hl
  rw [f_BT_leafBlock] at hres
  rw [ok_BT_leafBlock] at hok
  refine lv_iload_n hx hb d_BT_leafBlock_0 rfl (lv_at hl 1 rfl) ?_
  refine lv_iconst (v := (-1 : Int32)) hx hb d_BT_leafBlock_1 (by decide) ?_
  refine lv_icmp_ne (tgt := 7) hx hb d_BT_leafBlock_2 (by decide) (fun c_2 => ?_) (fun c_2 => ?_)
  · have hres := it_f c_2 hres
    have hok := hok.2 c_2
    refine lv_aload_n hx hb d_BT_leafBlock_7 rfl (lv_at hl 0 rfl) ?_
    refine va_get (D := G.1) (ci := 0) (C := R_BT) (T := F_BT) (N := 5) hx hb ht in_BT hown hK hP 0 rfl rfl 1 (by decide) (ht _ kf_BT_21) (fun _ h9 => h9) rfl d_BT_leafBlock_8 ?_
    refine lv_iload_n hx hb d_BT_leafBlock_11 rfl (lv_at hl 1 rfl) ?_
    refine lv_iconst (v := (4 : Int32)) hx hb d_BT_leafBlock_12 (by decide) ?_
    obtain ⟨hk_13, hok⟩ := hok
    refine go_iz (run_V hx hb hml hown ht hK hP hD (c_RL_isBad hk_13) (cw_V ht km_BT_126 ki_RL_isBad ks_RL_isBad ini_RL kd_RL_isBad kh_RL_isBad ⟨Nat.le_of_ble_eq_true rfl, Nat.le_of_ble_eq_true rfl⟩ rfl rfl) (q0 := 2) (ci := 2) (As := [.int p0, .int (4 : Int32)]) (rest := []) rfl rfl rfl hl.1 rfl (Nat.le_of_ble_eq_true rfl) d_BT_leafBlock_13 ⟨Nat.zero_le _, Nat.zero_le _⟩) hD hS hA (fun z_13 H locs hz_13 hP hD hS => ?_)
    have hres := bindc_eq hz_13 hres
    have hok := bindp_eq hz_13 hok
    have hP : va_P G.1 classes (cC G ad nb nt cfa cle cwr csl cst cen cby cto csh cdz cch cva css cve cro crc cma cbi ces cbl crt) H := hP
    have hD : va_D A (cC G ad nb nt cfa cle cwr csl cst cen cby cto csh cdz cch cva css cve cro crc cma cbi ces cbl crt) := hD
    refine lv_if_eq (tgt := 22) hx hb d_BT_leafBlock_16 (by decide) (fun c_16 => ?_) (fun c_16 => ?_)
    · have hres := it_t c_16 hres
      have hok := hok.1 c_16
      refine lv_aload_n hx hb d_BT_leafBlock_22 rfl (lv_at hl 0 rfl) ?_
      refine lv_iload_n hx hb d_BT_leafBlock_23 rfl (lv_at hl 1 rfl) ?_
      refine lv_iconst (v := (0 : Int32)) hx hb d_BT_leafBlock_24 (by decide) ?_
      refine lv_iconst (v := (3 : Int32)) hx hb d_BT_leafBlock_25 (by decide) ?_
      obtain ⟨hk_26, hok⟩ := hok
      refine go_iz (run_V hx hb hml hown ht hK hP hD (c_BT_childBlock hk_26) (cw_V ht km_BT_212 ki_BT_childBlock ks_BT_childBlock ini_BT kd_BT_childBlock kh_BT_childBlock ⟨Nat.le_of_ble_eq_true rfl, Nat.le_of_ble_eq_true rfl⟩ rfl rfl) (q0 := 0) (ci := 0) (As := [.int p0, .int (0 : Int32), .int (3 : Int32)]) (rest := []) rfl rfl rfl hl.1 rfl (Nat.le_of_ble_eq_true rfl) d_BT_leafBlock_26 ⟨Nat.zero_le _, Nat.zero_le _⟩) hD hS hA (fun z_26 H locs hz_26 hP hD hS => ?_)
      have hres := bindc_eq hz_26 hres
      have hok := bindp_eq hz_26 hok
      have hP : va_P G.1 classes (cC G ad nb nt cfa cle cwr csl cst cen cby cto csh cdz cch cva css cve cro crc cma cbi ces cbl crt) H := hP
      have hD : va_D A (cC G ad nb nt cfa cle cwr csl cst cen cby cto csh cdz cch cva css cve cro crc cma cbi ces cbl crt) := hD
      refine lv_istore_n (lv' := [(3, .int z_26.1), (0, .ref (ad 0)), (1, .int p0), (2, .int p1)]) hx hb d_BT_leafBlock_29 rfl hl (by decide) rfl (fun ls hl => ?_)
      refine lv_aload_n hx hb d_BT_leafBlock_30 rfl (lv_at hl 1 rfl) ?_
      refine lv_iload_n hx hb d_BT_leafBlock_31 rfl (lv_at hl 0 rfl) ?_
      refine lv_iload_n hx hb d_BT_leafBlock_32 rfl (lv_at hl 3 rfl) ?_
      refine lv_iconst (v := (3 : Int32)) hx hb d_BT_leafBlock_33 (by decide) ?_
      refine lv_ishr hx hb d_BT_leafBlock_34 ?_
      refine lv_iconst (v := (2 : Int32)) hx hb d_BT_leafBlock_35 (by decide) ?_
      obtain ⟨hk_36, hok⟩ := hok
      refine go_iz (run_V hx hb hml hown ht hK hP hD (c_BT_childBlock hk_36) (cw_V ht km_BT_212 ki_BT_childBlock ks_BT_childBlock ini_BT kd_BT_childBlock kh_BT_childBlock ⟨Nat.le_of_ble_eq_true rfl, Nat.le_of_ble_eq_true rfl⟩ rfl rfl) (q0 := 0) (ci := 0) (As := [.int z_26.1, .int (p1 >>> ((3 : Int32) &&& 31)), .int (2 : Int32)]) (rest := []) rfl rfl rfl hl.1 rfl (Nat.le_of_ble_eq_true rfl) d_BT_leafBlock_36 ⟨Nat.zero_le _, Nat.zero_le _⟩) hD hS hA (fun z_36 H locs hz_36 hP hD hS => ?_)
      have hres := bindc_eq hz_36 hres
      have hok := bindp_eq hz_36 hok
      have hP : va_P G.1 classes (cC G ad nb nt cfa cle cwr csl cst cen cby cto csh cdz cch cva css cve cro crc cma cbi ces cbl crt) H := hP
      have hD : va_D A (cC G ad nb nt cfa cle cwr csl cst cen cby cto csh cdz cch cva css cve cro crc cma cbi ces cbl crt) := hD
      refine lv_istore (lv' := [(4, .int z_36.1), (3, .int z_26.1), (0, .ref (ad 0)), (1, .int p0), (2, .int p1)]) hx hb d_BT_leafBlock_39 hl (by decide) rfl (fun ls hl => ?_)
      refine lv_aload_n hx hb d_BT_leafBlock_41 rfl (lv_at hl 2 rfl) ?_
      refine lv_iload hx hb d_BT_leafBlock_42 (lv_at hl 0 rfl) ?_
      refine lv_iload_n hx hb d_BT_leafBlock_44 rfl (lv_at hl 4 rfl) ?_
      refine lv_bipush (v := (7 : Int32)) hx hb d_BT_leafBlock_45 (by decide) ?_
      refine lv_iand hx hb d_BT_leafBlock_47 ?_
      refine lv_iconst (v := (1 : Int32)) hx hb d_BT_leafBlock_48 (by decide) ?_
      have hk_49 := hok
      refine go_iz (run_V hx hb hml hown ht hK hP hD (c_BT_childBlock hk_49) (cw_V ht km_BT_212 ki_BT_childBlock ks_BT_childBlock ini_BT kd_BT_childBlock kh_BT_childBlock ⟨Nat.le_of_ble_eq_true rfl, Nat.le_of_ble_eq_true rfl⟩ rfl rfl) (q0 := 0) (ci := 0) (As := [.int z_36.1, .int (p1 &&& (7 : Int32)), .int (1 : Int32)]) (rest := []) rfl rfl rfl hl.1 rfl (Nat.le_of_ble_eq_true rfl) d_BT_leafBlock_49 ⟨Nat.zero_le _, Nat.zero_le _⟩) hD hS hA (fun z_49 H locs hz_49 hP hD hS => ?_)
      have hres := bindc_eq hz_49 hres
      have hP : va_P G.1 classes (cC G ad nb nt cfa cle cwr csl cst cen cby cto csh cdz cch cva css cve cro crc cma cbi ces cbl crt) H := hP
      have hD : va_D A (cC G ad nb nt cfa cle cwr csl cst cen cby cto csh cdz cch cva css cve cro crc cma cbi ces cbl crt) := hD
      exact en_i (w1 := (fun _ : Unit => (cC G ad nb nt cfa cle cwr csl cst cen cby cto csh cdz cch cva css cve cro crc cma cbi ces cbl crt))) () hx hb hr hlocks hK hP hD hS hres d_BT_leafBlock_52
    · have hres := it_f c_16 hres
      refine lv_bipush (v := (-2 : Int32)) hx hb d_BT_leafBlock_19 (by decide) ?_
      exact en_i (w1 := (fun _ : Unit => (cC G ad nb nt cfa cle cwr csl cst cen cby cto csh cdz cch cva css cve cro crc cma cbi ces cbl crt))) () hx hb hr hlocks hK hP hD hS hres d_BT_leafBlock_21
  · have hres := it_t c_2 hres
    refine lv_iconst (v := (-1 : Int32)) hx hb d_BT_leafBlock_5 (by decide) ?_
    exact en_i (w1 := (fun _ : Unit => (cC G ad nb nt cfa cle cwr csl cst cen cby cto csh cdz cch cva css cve cro crc cma cbi ces cbl crt))) () hx hb hr hlocks hK hP hD hS hres d_BT_leafBlock_6
/-! ===== BookTrees.rowOf(II)J ===== -/
abbrev rm_BT_rowOf : Room := { frames := 6, cells := 0, slots := 0, locals := 141 }
def f_BT_rowOf (p0 : Int32) (p1 : Int32) (csl : Int32) (cst : Int32) (cen : Int32) (cby : (Nat → Int32)) (cto : (Nat → Int32)) : Int64 × Unit := bindc (f_BT_leafBlock p0 (p1 >>> ((3 : Int32) &&& 31)) csl cst cen cby cto) (fun z_5 => if z_5.1 = (-2 : Int32) then ((1000000000001 : Int64), ()) else if z_5.1 = (-1 : Int32) then ((1000000000000 : Int64), ()) else bindc (f_RL_hasBit z_5.1 (p1 &&& (7 : Int32)) csl cby) (fun z_33 => if z_33.1 = 0 then ((1000000000000 : Int64), ()) else bindc (f_RL_entryOf z_5.1 (p1 &&& (7 : Int32)) csl cby) (fun z_52 => (z_52.1.toInt64, ()))))
def ok_BT_rowOf (nb : Nat) (nt : Nat) (p0 : Int32) (p1 : Int32) (csl : Int32) (cst : Int32) (cen : Int32) (cby : (Nat → Int32)) (cto : (Nat → Int32)) : Prop := ok_BT_leafBlock nb nt p0 (p1 >>> ((3 : Int32) &&& 31)) csl cst cen cby cto ∧ bindp (f_BT_leafBlock p0 (p1 >>> ((3 : Int32) &&& 31)) csl cst cen cby cto) (fun z_5 => (z_5.1 = (-2 : Int32) → True) ∧ (¬ z_5.1 = (-2 : Int32) → (z_5.1 = (-1 : Int32) → True) ∧ (¬ z_5.1 = (-1 : Int32) → ok_RL_hasBit nb nt z_5.1 (p1 &&& (7 : Int32)) csl cby ∧ bindp (f_RL_hasBit z_5.1 (p1 &&& (7 : Int32)) csl cby) (fun z_33 => (z_33.1 = 0 → True) ∧ (¬ z_33.1 = 0 → ok_RL_entryOf nb nt z_5.1 (p1 &&& (7 : Int32)) csl cby)))))
set_option maxHeartbeats 4000000 in
set_option maxRecDepth 100000 in
theorem c_BT_rowOf {l : Launch} {G : GG} {ad : Nat → Nat} {nb : Nat} {nt : Nat} {sz : Nat} {cfa : Int32} {cle : Int32} {cwr : Int32} {csl : Int32} {cst : Int32} {cen : Int32} {cby : (Nat → Int32)} {cto : (Nat → Int32)} {csh : (Nat → Int32)} {cdz : Int32} {cch : (Nat → Int32)} {cva : (Nat → Int32)} {css : Int32} {cve : (Nat → Int32)} {cro : (Nat → Int32)} {crc : Int32} {cma : (Nat → Int32)} {cbi : (Nat → Int32)} {ces : (Nat → Int32)} {cbl : (Nat → Int32)} {crt : (Nat → Int32)} {p0 : Int32} {p1 : Int32} (hok : ok_BT_rowOf nb nt p0 p1 csl cst cen cby cto) : CtL l y_BT_rowOf b_BT_rowOf 4 (some .long) rm_BT_rowOf G (cC G ad nb nt cfa cle cwr csl cst cen cby cto csh cdz cch cva css cve cro crc cma cbi ces cbl crt) sz [.ref (ad 0), .int p0, .int p1] (eqP (f_BT_rowOf p0 p1 csl cst cen cby cto)) (fun _ : Unit => (cC G ad nb nt cfa cle cwr csl cst cen cby cto csh cdz cch cva css cve cro crc cma cbi ces cbl crt)) := by
  generalize hres : f_BT_rowOf p0 p1 csl cst cen cby cto = res
  refine Met_of (Qc := fun A => va_Ql (eqP res) (Wb G A (fun _ : Unit => (cC G ad nb nt cfa cle cwr csl cst cen cby cto csh cdz cch cva css cve cro crc cma cbi ces cbl crt))) A) (by decide) (Nat.le_of_ble_eq_true rfl) ?_
  intro p e s m below meth c hadm hx hb hr hml hown hlocks ht hK A hA hP hD hS ls hl
  have hC : Cx p l e s m (([.ref (ad 0), .int p0, .int p1] : List Value)).toArray meth c y_BT_rowOf b_BT_rowOf 4 (some .long) "BookTrees" G A := ⟨hx, hb, hr, hml, hown, hlocks, ht, hK, hA⟩
  have hown : s.vm.findClass "BookTrees" = some m.cls := hown
  have hl : lv_has ls 4 [(0, .ref (ad 0)), (1, .int p0), (2, .int p1)] := hl
  rw [f_BT_rowOf] at hres
  rw [ok_BT_rowOf] at hok
  refine lv_aload_n hx hb d_BT_rowOf_0 rfl (lv_at hl 0 rfl) ?_
  refine lv_iload_n hx hb d_BT_rowOf_1 rfl (lv_at hl 1 rfl) ?_
  refine lv_iload_n hx hb d_BT_rowOf_2 rfl (lv_at hl 2 rfl) ?_
  refine lv_iconst (v := (3 : Int32)) hx hb d_BT_rowOf_3 (by decide) ?_
  refine lv_ishr hx hb d_BT_rowOf_4 ?_
  obtain ⟨hk_5, hok⟩ := hok
  refine go_iz (run_V hx hb hml hown ht hK hP hD (c_BT_leafBlock hk_5) (cw_V ht km_BT_119 ki_BT_leafBlock ks_BT_leafBlock ini_BT kd_BT_leafBlock kh_BT_leafBlock ⟨Nat.le_of_ble_eq_true rfl, Nat.le_of_ble_eq_true rfl⟩ rfl rfl) (q0 := 0) (ci := 0) (As := [.int p0, .int (p1 >>> ((3 : Int32) &&& 31))]) (rest := []) rfl rfl rfl hl.1 rfl (Nat.le_of_ble_eq_true rfl) d_BT_rowOf_5 ⟨Nat.zero_le _, Nat.zero_le _⟩) hD hS hA (fun z_5 H locs hz_5 hP hD hS => ?_)
  have hres := bindc_eq hz_5 hres
  have hok := bindp_eq hz_5 hok
  have hP : va_P G.1 classes (cC G ad nb nt cfa cle cwr csl cst cen cby cto csh cdz cch cva css cve cro crc cma cbi ces cbl crt) H := hP
  have hD : va_D A (cC G ad nb nt cfa cle cwr csl cst cen cby cto csh cdz cch cva css cve cro crc cma cbi ces cbl crt) := hD
  refine lv_istore_n (lv' := [(3, .int z_5.1), (0, .ref (ad 0)), (1, .int p0), (2, .int p1)]) hx hb d_BT_rowOf_8 rfl hl (by decide) rfl (fun ls hl => ?_)
  refine lv_iload_n hx hb d_BT_rowOf_9 rfl (lv_at hl 0 rfl) ?_
  refine lv_bipush (v := (-2 : Int32)) hx hb d_BT_rowOf_10 (by decide) ?_
  refine lv_icmp_ne (tgt := 19) hx hb d_BT_rowOf_12 (by decide) (fun c_12 => ?_) (fun c_12 => ?_)
  · have hres := it_f c_12 hres
    have hok := hok.2 c_12
    refine lv_iload_n hx hb d_BT_rowOf_19 rfl (lv_at hl 0 rfl) ?_
    refine lv_iconst (v := (-1 : Int32)) hx hb d_BT_rowOf_20 (by decide) ?_
    refine lv_icmp_eq (tgt := 39) hx hb d_BT_rowOf_21 (by decide) (fun c_21 => ?_) (fun c_21 => ?_)
    · have hres := it_t c_21 hres
      refine lv_ldc2 hx hb hown (ht _ kl_BT_75) d_BT_rowOf_39 ?_
      exact en_l (w1 := (fun _ : Unit => (cC G ad nb nt cfa cle cwr csl cst cen cby cto csh cdz cch cva css cve cro crc cma cbi ces cbl crt))) () hx hb hr hlocks hK hP hD hS hres d_BT_rowOf_42
    · have hres := it_f c_21 hres
      have hok := hok.2 c_21
      refine lv_aload_n hx hb d_BT_rowOf_24 rfl (lv_at hl 1 rfl) ?_
      refine va_get (D := G.1) (ci := 0) (C := R_BT) (T := F_BT) (N := 5) hx hb ht in_BT hown hK hP 0 rfl rfl 1 (by decide) (ht _ kf_BT_21) (fun _ h9 => h9) rfl d_BT_rowOf_25 ?_
      refine lv_iload_n hx hb d_BT_rowOf_28 rfl (lv_at hl 0 rfl) ?_
      refine lv_iload_n hx hb d_BT_rowOf_29 rfl (lv_at hl 3 rfl) ?_
      refine lv_bipush (v := (7 : Int32)) hx hb d_BT_rowOf_30 (by decide) ?_
      refine lv_iand hx hb d_BT_rowOf_32 ?_
      obtain ⟨hk_33, hok⟩ := hok
      refine go_iz (run_V hx hb hml hown ht hK hP hD (c_RL_hasBit hk_33) (cw_V ht km_BT_209 ki_RL_hasBit ks_RL_hasBit ini_RL kd_RL_hasBit kh_RL_hasBit ⟨Nat.le_of_ble_eq_true rfl, Nat.le_of_ble_eq_true rfl⟩ rfl rfl) (q0 := 2) (ci := 2) (As := [.int z_5.1, .int (p1 &&& (7 : Int32))]) (rest := []) rfl rfl rfl hl.1 rfl (Nat.le_of_ble_eq_true rfl) d_BT_rowOf_33 ⟨Nat.zero_le _, Nat.zero_le _⟩) hD hS hA (fun z_33 H locs hz_33 hP hD hS => ?_)
      have hres := bindc_eq hz_33 hres
      have hok := bindp_eq hz_33 hok
      have hP : va_P G.1 classes (cC G ad nb nt cfa cle cwr csl cst cen cby cto csh cdz cch cva css cve cro crc cma cbi ces cbl crt) H := hP
      have hD : va_D A (cC G ad nb nt cfa cle cwr csl cst cen cby cto csh cdz cch cva css cve cro crc cma cbi ces cbl crt) := hD
      refine lv_if_ne (tgt := 43) hx hb d_BT_rowOf_36 (by decide) (fun c_36 => ?_) (fun c_36 => ?_)
      · have hres := it_f c_36 hres
        have hok := hok.2 c_36
        refine lv_aload_n hx hb d_BT_rowOf_43 rfl (lv_at hl 1 rfl) ?_
        refine va_get (D := G.1) (ci := 0) (C := R_BT) (T := F_BT) (N := 5) hx hb ht in_BT hown hK hP 0 rfl rfl 1 (by decide) (ht _ kf_BT_21) (fun _ h9 => h9) rfl d_BT_rowOf_44 ?_
        refine lv_iload_n hx hb d_BT_rowOf_47 rfl (lv_at hl 0 rfl) ?_
        refine lv_iload_n hx hb d_BT_rowOf_48 rfl (lv_at hl 3 rfl) ?_
        refine lv_bipush (v := (7 : Int32)) hx hb d_BT_rowOf_49 (by decide) ?_
        refine lv_iand hx hb d_BT_rowOf_51 ?_
        have hk_52 := hok
        refine go_iz (run_V hx hb hml hown ht hK hP hD (c_RL_entryOf hk_52) (cw_V ht km_BT_130 ki_RL_entryOf ks_RL_entryOf ini_RL kd_RL_entryOf kh_RL_entryOf ⟨Nat.le_of_ble_eq_true rfl, Nat.le_of_ble_eq_true rfl⟩ rfl rfl) (q0 := 2) (ci := 2) (As := [.int z_5.1, .int (p1 &&& (7 : Int32))]) (rest := []) rfl rfl rfl hl.1 rfl (Nat.le_of_ble_eq_true rfl) d_BT_rowOf_52 ⟨Nat.zero_le _, Nat.zero_le _⟩) hD hS hA (fun z_52 H locs hz_52 hP hD hS => ?_)
        have hres := bindc_eq hz_52 hres
        have hP : va_P G.1 classes (cC G ad nb nt cfa cle cwr csl cst cen cby cto csh cdz cch cva css cve cro crc cma cbi ces cbl crt) H := hP
        have hD : va_D A (cC G ad nb nt cfa cle cwr csl cst cen cby cto csh cdz cch cva css cve cro crc cma cbi ces cbl crt) := hD
        refine lv_i2l hx hb d_BT_rowOf_55 rfl ?_
        exact en_l (w1 := (fun _ : Unit => (cC G ad nb nt cfa cle cwr csl cst cen cby cto csh cdz cch cva css cve cro crc cma cbi ces cbl crt))) () hx hb hr hlocks hK hP hD hS hres d_BT_rowOf_56
      · have hres := it_t c_36 hres
        refine lv_ldc2 hx hb hown (ht _ kl_BT_75) d_BT_rowOf_39 ?_
        exact en_l (w1 := (fun _ : Unit => (cC G ad nb nt cfa cle cwr csl cst cen cby cto csh cdz cch cva css cve cro crc cma cbi ces cbl crt))) () hx hb hr hlocks hK hP hD hS hres d_BT_rowOf_42
  · have hres := it_t c_12 hres
    refine lv_ldc2 hx hb hown (ht _ kl_BT_207) d_BT_rowOf_15 ?_
    exact en_l (w1 := (fun _ : Unit => (cC G ad nb nt cfa cle cwr csl cst cen cby cto csh cdz cch cva css cve cro crc cma cbi ces cbl crt))) () hx hb hr hlocks hK hP hD hS hres d_BT_rowOf_18
/-! ===== BookTrees.get(I)J ===== -/
abbrev rm_BT_get : Room := { frames := 7, cells := 0, slots := 0, locals := 164 }
def f_BT_get (p0 : Int32) (cfa : Int32) (csl : Int32) (cst : Int32) (cen : Int32) (cby : (Nat → Int32)) (cto : (Nat → Int32)) (cch : (Nat → Int32)) (cva : (Nat → Int32)) (css : Int32) (cro : (Nat → Int32)) : Int64 × Unit := bindc (f_BT_isKey p0) (fun z_3 => bindc (f_BT_requireArgument z_3.1) (fun z_6 => bindc (f_BT_requirePower cfa) (fun z_10 => bindc (f_DR_isDropped p0 cch) (fun z_18 => if z_18.1 = 0 then bindc (f_DR_has p0 cch) (fun z_33 => if z_33.1 = 0 then bindc (f_SH_newestRoot css cro) (fun z_56 => bindc (f_BT_rowOf z_56.1 p0 csl cst cen cby cto) (fun z_60 => (z_60.1, ()))) else bindc (f_DR_valueOf p0 cva) (fun z_44 => (z_44.1.toInt64, ()))) else ((1000000000000 : Int64), ())))))
def ok_BT_get (nb : Nat) (nt : Nat) (p0 : Int32) (cfa : Int32) (csl : Int32) (cst : Int32) (cen : Int32) (cby : (Nat → Int32)) (cto : (Nat → Int32)) (cch : (Nat → Int32)) (cva : (Nat → Int32)) (css : Int32) (cro : (Nat → Int32)) : Prop := bindp (f_BT_isKey p0) (fun z_3 => ok_BT_requireArgument nb nt z_3.1 ∧ bindp (f_BT_requireArgument z_3.1) (fun z_6 => ok_BT_requirePower nb nt cfa ∧ bindp (f_BT_requirePower cfa) (fun z_10 => ok_DR_isDropped nb nt p0 cch ∧ bindp (f_DR_isDropped p0 cch) (fun z_18 => (z_18.1 = 0 → ok_DR_has nb nt p0 cch ∧ bindp (f_DR_has p0 cch) (fun z_33 => (z_33.1 = 0 → ok_SH_newestRoot nb nt css cro ∧ bindp (f_SH_newestRoot css cro) (fun z_56 => ok_BT_rowOf nb nt z_56.1 p0 csl cst cen cby cto)) ∧ (¬ z_33.1 = 0 → ok_DR_valueOf nb nt p0 cva))) ∧ (¬ z_18.1 = 0 → True)))))
set_option maxHeartbeats 4000000 in
set_option maxRecDepth 100000 in
theorem c_BT_get {l : Launch} {G : GG} {ad : Nat → Nat} {nb : Nat} {nt : Nat} {sz : Nat} {cfa : Int32} {cle : Int32} {cwr : Int32} {csl : Int32} {cst : Int32} {cen : Int32} {cby : (Nat → Int32)} {cto : (Nat → Int32)} {csh : (Nat → Int32)} {cdz : Int32} {cch : (Nat → Int32)} {cva : (Nat → Int32)} {css : Int32} {cve : (Nat → Int32)} {cro : (Nat → Int32)} {crc : Int32} {cma : (Nat → Int32)} {cbi : (Nat → Int32)} {ces : (Nat → Int32)} {cbl : (Nat → Int32)} {crt : (Nat → Int32)} {p0 : Int32} (hok : ok_BT_get nb nt p0 cfa csl cst cen cby cto cch cva css cro) : CtL l y_BT_get b_BT_get 2 (some .long) rm_BT_get G (cC G ad nb nt cfa cle cwr csl cst cen cby cto csh cdz cch cva css cve cro crc cma cbi ces cbl crt) sz [.ref (ad 0), .int p0] (eqP (f_BT_get p0 cfa csl cst cen cby cto cch cva css cro)) (fun _ : Unit => (cC G ad nb nt cfa cle cwr csl cst cen cby cto csh cdz cch cva css cve cro crc cma cbi ces cbl crt)) := by
  generalize hres : f_BT_get p0 cfa csl cst cen cby cto cch cva css cro = res
  refine Met_of (Qc := fun A => va_Ql (eqP res) (Wb G A (fun _ : Unit => (cC G ad nb nt cfa cle cwr csl cst cen cby cto csh cdz cch cva css cve cro crc cma cbi ces cbl crt))) A) (by decide) (Nat.le_of_ble_eq_true rfl) ?_
  intro p e s m below meth c hadm hx hb hr hml hown hlocks ht hK A hA hP hD hS ls hl
  have hC : Cx p l e s m (([.ref (ad 0), .int p0] : List Value)).toArray meth c y_BT_get b_BT_get 2 (some .long) "BookTrees" G A := ⟨hx, hb, hr, hml, hown, hlocks, ht, hK, hA⟩
  have hown : s.vm.findClass "BookTrees" = some m.cls := hown
  have hl : lv_has ls 2 [(0, .ref (ad 0)), (1, .int p0)] := hl
  rw [f_BT_get] at hres
  rw [ok_BT_get] at hok
  refine lv_aload_n hx hb d_BT_get_0 rfl (lv_at hl 0 rfl) ?_
  refine lv_aload_n hx hb d_BT_get_1 rfl (lv_at hl 0 rfl) ?_
  refine lv_iload_n hx hb d_BT_get_2 rfl (lv_at hl 1 rfl) ?_
  refine go_iz (run_V hx hb hml hown ht hK hP hD (c_BT_isKey) (cw_V ht km_BT_46 ki_BT_isKey ks_BT_isKey ini_BT kd_BT_isKey kh_BT_isKey ⟨Nat.le_of_ble_eq_true rfl, Nat.le_of_ble_eq_true rfl⟩ rfl rfl) (q0 := 0) (ci := 0) (As := [.int p0]) (rest := [.ref (ad 0)]) rfl rfl rfl hl.1 rfl (Nat.le_of_ble_eq_true rfl) d_BT_get_3 ⟨Nat.zero_le _, Nat.zero_le _⟩) hD hS hA (fun z_3 H locs hz_3 hP hD hS => ?_)
  have hres := bindc_eq hz_3 hres
  have hok := bindp_eq hz_3 hok
  have hP : va_P G.1 classes (cC G ad nb nt cfa cle cwr csl cst cen cby cto csh cdz cch cva css cve cro crc cma cbi ces cbl crt) H := hP
  have hD : va_D A (cC G ad nb nt cfa cle cwr csl cst cen cby cto csh cdz cch cva css cve cro crc cma cbi ces cbl crt) := hD
  obtain ⟨hk_6, hok⟩ := hok
  refine go_vz (run_V hx hb hml hown ht hK hP hD (c_BT_requireArgument hk_6) (cw_V ht km_BT_50 ki_BT_requireArgument ks_BT_requireArgument ini_BT kd_BT_requireArgument kh_BT_requireArgument ⟨Nat.le_of_ble_eq_true rfl, Nat.le_of_ble_eq_true rfl⟩ rfl rfl) (q0 := 0) (ci := 0) (As := [.int z_3.1]) (rest := []) rfl rfl rfl hl.1 rfl (Nat.le_of_ble_eq_true rfl) d_BT_get_6 ⟨Nat.zero_le _, Nat.zero_le _⟩) hD hS hA (fun z_6 H locs hz_6 hP hD hS => ?_)
  have hres := bindc_eq hz_6 hres
  have hok := bindp_eq hz_6 hok
  have hP : va_P G.1 classes (cC G ad nb nt cfa cle cwr csl cst cen cby cto csh cdz cch cva css cve cro crc cma cbi ces cbl crt) H := hP
  have hD : va_D A (cC G ad nb nt cfa cle cwr csl cst cen cby cto csh cdz cch cva css cve cro crc cma cbi ces cbl crt) := hD
  refine lv_aload_n hx hb d_BT_get_9 rfl (lv_at hl 0 rfl) ?_
  obtain ⟨hk_10, hok⟩ := hok
  refine go_vz (run_V hx hb hml hown ht hK hP hD (c_BT_requirePower hk_10) (cw_V ht km_BT_54 ki_BT_requirePower ks_BT_requirePower ini_BT kd_BT_requirePower kh_BT_requirePower ⟨Nat.le_of_ble_eq_true rfl, Nat.le_of_ble_eq_true rfl⟩ rfl rfl) (q0 := 0) (ci := 0) (As := []) (rest := []) rfl rfl rfl hl.1 rfl (Nat.le_of_ble_eq_true rfl) d_BT_get_10 ⟨Nat.zero_le _, Nat.zero_le _⟩) hD hS hA (fun z_10 H locs hz_10 hP hD hS => ?_)
  have hres := bindc_eq hz_10 hres
  have hok := bindp_eq hz_10 hok
  have hP : va_P G.1 classes (cC G ad nb nt cfa cle cwr csl cst cen cby cto csh cdz cch cva css cve cro crc cma cbi ces cbl crt) H := hP
  have hD : va_D A (cC G ad nb nt cfa cle cwr csl cst cen cby cto csh cdz cch cva css cve cro crc cma cbi ces cbl crt) := hD
  refine lv_aload_n hx hb d_BT_get_13 rfl (lv_at hl 0 rfl) ?_
  refine va_get (D := G.1) (ci := 0) (C := R_BT) (T := F_BT) (N := 5) hx hb ht in_BT hown hK hP 0 rfl rfl 2 (by decide) (ht _ kf_BT_28) (fun _ h9 => h9) rfl d_BT_get_14 ?_
  refine lv_iload_n hx hb d_BT_get_17 rfl (lv_at hl 1 rfl) ?_
  obtain ⟨hk_18, hok⟩ := hok
  refine go_iz (run_V hx hb hml hown ht hK hP hD (c_DR_isDropped hk_18) (cw_V ht km_BT_72 ki_DR_isDropped ks_DR_isDropped ini_DR kd_DR_isDropped kh_DR_isDropped ⟨Nat.le_of_ble_eq_true rfl, Nat.le_of_ble_eq_true rfl⟩ rfl rfl) (q0 := 6) (ci := 3) (As := [.int p0]) (rest := []) rfl rfl rfl hl.1 rfl (Nat.le_of_ble_eq_true rfl) d_BT_get_18 ⟨Nat.zero_le _, Nat.zero_le _⟩) hD hS hA (fun z_18 H locs hz_18 hP hD hS => ?_)
  have hres := bindc_eq hz_18 hres
  have hok := bindp_eq hz_18 hok
  have hP : va_P G.1 classes (cC G ad nb nt cfa cle cwr csl cst cen cby cto csh cdz cch cva css cve cro crc cma cbi ces cbl crt) H := hP
  have hD : va_D A (cC G ad nb nt cfa cle cwr csl cst cen cby cto csh cdz cch cva css cve cro crc cma cbi ces cbl crt) := hD
  refine lv_if_eq (tgt := 28) hx hb d_BT_get_21 (by decide) (fun c_21 => ?_) (fun c_21 => ?_)
  · have hres := it_t c_21 hres
    have hok := hok.1 c_21
    refine lv_aload_n hx hb d_BT_get_28 rfl (lv_at hl 0 rfl) ?_
    refine va_get (D := G.1) (ci := 0) (C := R_BT) (T := F_BT) (N := 5) hx hb ht in_BT hown hK hP 0 rfl rfl 2 (by decide) (ht _ kf_BT_28) (fun _ h9 => h9) rfl d_BT_get_29 ?_
    refine lv_iload_n hx hb d_BT_get_32 rfl (lv_at hl 1 rfl) ?_
    obtain ⟨hk_33, hok⟩ := hok
    refine go_iz (run_V hx hb hml hown ht hK hP hD (c_DR_has hk_33) (cw_V ht km_BT_77 ki_DR_has ks_DR_has ini_DR kd_DR_has kh_DR_has ⟨Nat.le_of_ble_eq_true rfl, Nat.le_of_ble_eq_true rfl⟩ rfl rfl) (q0 := 6) (ci := 3) (As := [.int p0]) (rest := []) rfl rfl rfl hl.1 rfl (Nat.le_of_ble_eq_true rfl) d_BT_get_33 ⟨Nat.zero_le _, Nat.zero_le _⟩) hD hS hA (fun z_33 H locs hz_33 hP hD hS => ?_)
    have hres := bindc_eq hz_33 hres
    have hok := bindp_eq hz_33 hok
    have hP : va_P G.1 classes (cC G ad nb nt cfa cle cwr csl cst cen cby cto csh cdz cch cva css cve cro crc cma cbi ces cbl crt) H := hP
    have hD : va_D A (cC G ad nb nt cfa cle cwr csl cst cen cby cto csh cdz cch cva css cve cro crc cma cbi ces cbl crt) := hD
    refine lv_if_eq (tgt := 51) hx hb d_BT_get_36 (by decide) (fun c_36 => ?_) (fun c_36 => ?_)
    · have hres := it_t c_36 hres
      have hok := hok.1 c_36
      refine lv_aload_n hx hb d_BT_get_51 rfl (lv_at hl 0 rfl) ?_
      refine lv_aload_n hx hb d_BT_get_52 rfl (lv_at hl 0 rfl) ?_
      refine va_get (D := G.1) (ci := 0) (C := R_BT) (T := F_BT) (N := 5) hx hb ht in_BT hown hK hP 0 rfl rfl 3 (by decide) (ht _ kf_BT_35) (fun _ h9 => h9) rfl d_BT_get_53 ?_
      obtain ⟨hk_56, hok⟩ := hok
      refine go_iz (run_V hx hb hml hown ht hK hP hD (c_SH_newestRoot hk_56) (cw_V ht km_BT_84 ki_SH_newestRoot ks_SH_newestRoot ini_SH kd_SH_newestRoot kh_SH_newestRoot ⟨Nat.le_of_ble_eq_true rfl, Nat.le_of_ble_eq_true rfl⟩ rfl rfl) (q0 := 9) (ci := 4) (As := []) (rest := [.ref (ad 0)]) rfl rfl rfl hl.1 rfl (Nat.le_of_ble_eq_true rfl) d_BT_get_56 ⟨Nat.zero_le _, Nat.zero_le _⟩) hD hS hA (fun z_56 H locs hz_56 hP hD hS => ?_)
      have hres := bindc_eq hz_56 hres
      have hok := bindp_eq hz_56 hok
      have hP : va_P G.1 classes (cC G ad nb nt cfa cle cwr csl cst cen cby cto csh cdz cch cva css cve cro crc cma cbi ces cbl crt) H := hP
      have hD : va_D A (cC G ad nb nt cfa cle cwr csl cst cen cby cto csh cdz cch cva css cve cro crc cma cbi ces cbl crt) := hD
      refine lv_iload_n hx hb d_BT_get_59 rfl (lv_at hl 1 rfl) ?_
      have hk_60 := hok
      refine go_lz (run_V hx hb hml hown ht hK hP hD (c_BT_rowOf hk_60) (cw_V ht km_BT_87 ki_BT_rowOf ks_BT_rowOf ini_BT kd_BT_rowOf kh_BT_rowOf ⟨Nat.le_of_ble_eq_true rfl, Nat.le_of_ble_eq_true rfl⟩ rfl rfl) (q0 := 0) (ci := 0) (As := [.int z_56.1, .int p0]) (rest := []) rfl rfl rfl hl.1 rfl (Nat.le_of_ble_eq_true rfl) d_BT_get_60 ⟨Nat.zero_le _, Nat.zero_le _⟩) hD hS hA (fun z_60 H locs hz_60 hP hD hS => ?_)
      have hres := bindc_eq hz_60 hres
      have hP : va_P G.1 classes (cC G ad nb nt cfa cle cwr csl cst cen cby cto csh cdz cch cva css cve cro crc cma cbi ces cbl crt) H := hP
      have hD : va_D A (cC G ad nb nt cfa cle cwr csl cst cen cby cto csh cdz cch cva css cve cro crc cma cbi ces cbl crt) := hD
      exact en_l (w1 := (fun _ : Unit => (cC G ad nb nt cfa cle cwr csl cst cen cby cto csh cdz cch cva css cve cro crc cma cbi ces cbl crt))) () hx hb hr hlocks hK hP hD hS hres d_BT_get_63
    · have hres := it_f c_36 hres
      have hok := hok.2 c_36
      refine lv_aload_n hx hb d_BT_get_39 rfl (lv_at hl 0 rfl) ?_
      refine va_get (D := G.1) (ci := 0) (C := R_BT) (T := F_BT) (N := 5) hx hb ht in_BT hown hK hP 0 rfl rfl 2 (by decide) (ht _ kf_BT_28) (fun _ h9 => h9) rfl d_BT_get_40 ?_
      refine lv_iload_n hx hb d_BT_get_43 rfl (lv_at hl 1 rfl) ?_
      have hk_44 := hok
      refine go_iz (run_V hx hb hml hown ht hK hP hD (c_DR_valueOf hk_44) (cw_V ht km_BT_80 ki_DR_valueOf ks_DR_valueOf ini_DR kd_DR_valueOf kh_DR_valueOf ⟨Nat.le_of_ble_eq_true rfl, Nat.le_of_ble_eq_true rfl⟩ rfl rfl) (q0 := 6) (ci := 3) (As := [.int p0]) (rest := []) rfl rfl rfl hl.1 rfl (Nat.le_of_ble_eq_true rfl) d_BT_get_44 ⟨Nat.zero_le _, Nat.zero_le _⟩) hD hS hA (fun z_44 H locs hz_44 hP hD hS => ?_)
      have hres := bindc_eq hz_44 hres
      have hP : va_P G.1 classes (cC G ad nb nt cfa cle cwr csl cst cen cby cto csh cdz cch cva css cve cro crc cma cbi ces cbl crt) H := hP
      have hD : va_D A (cC G ad nb nt cfa cle cwr csl cst cen cby cto csh cdz cch cva css cve cro crc cma cbi ces cbl crt) := hD
      refine lv_i2l hx hb d_BT_get_47 rfl ?_
      refine lv_goto (tgt := 63) hx hb d_BT_get_48 (by decide) ?_
      exact en_l (w1 := (fun _ : Unit => (cC G ad nb nt cfa cle cwr csl cst cen cby cto csh cdz cch cva css cve cro crc cma cbi ces cbl crt))) () hx hb hr hlocks hK hP hD hS hres d_BT_get_63
  · have hres := it_f c_21 hres
    refine lv_ldc2 hx hb hown (ht _ kl_BT_75) d_BT_get_24 ?_
    exact en_l (w1 := (fun _ : Unit => (cC G ad nb nt cfa cle cwr csl cst cen cby cto csh cdz cch cva css cve cro crc cma cbi ces cbl crt))) () hx hb hr hlocks hK hP hD hS hres d_BT_get_27
/-! ===== BookTrees$Shelf.newest()I ===== -/
abbrev rm_SH_newest : Room := { frames := 0, cells := 0, slots := 0, locals := 0 }
def f_SH_newest  (css : Int32) (cve : (Nat → Int32)) : Int32 × Unit := if css = 0 then ((0 : Int32), ()) else (cve (css - (1 : Int32)).toNatClampNeg, ())
def ok_SH_newest (nb : Nat) (nt : Nat)  (css : Int32) (cve : (Nat → Int32)) : Prop := (css = 0 → True) ∧ (¬ css = 0 → vp_in (css - (1 : Int32)) 200)
set_option maxHeartbeats 4000000 in
set_option maxRecDepth 100000 in
theorem c_SH_newest {l : Launch} {G : GG} {ad : Nat → Nat} {nb : Nat} {nt : Nat} {sz : Nat} {cfa : Int32} {cle : Int32} {cwr : Int32} {csl : Int32} {cst : Int32} {cen : Int32} {cby : (Nat → Int32)} {cto : (Nat → Int32)} {csh : (Nat → Int32)} {cdz : Int32} {cch : (Nat → Int32)} {cva : (Nat → Int32)} {css : Int32} {cve : (Nat → Int32)} {cro : (Nat → Int32)} {crc : Int32} {cma : (Nat → Int32)} {cbi : (Nat → Int32)} {ces : (Nat → Int32)} {cbl : (Nat → Int32)} {crt : (Nat → Int32)}  (hok : ok_SH_newest nb nt css cve) : CtI l y_SH_newest b_SH_newest 1 (some .int) rm_SH_newest G (cC G ad nb nt cfa cle cwr csl cst cen cby cto csh cdz cch cva css cve cro crc cma cbi ces cbl crt) sz [.ref (ad 9)] (eqP (f_SH_newest css cve)) (fun _ : Unit => (cC G ad nb nt cfa cle cwr csl cst cen cby cto csh cdz cch cva css cve cro crc cma cbi ces cbl crt)) := by
  generalize hres : f_SH_newest css cve = res
  refine Met_of (Qc := fun A => va_Qi (eqP res) (Wb G A (fun _ : Unit => (cC G ad nb nt cfa cle cwr csl cst cen cby cto csh cdz cch cva css cve cro crc cma cbi ces cbl crt))) A) (by decide) (Nat.le_of_ble_eq_true rfl) ?_
  intro p e s m below meth c hadm hx hb hr hml hown hlocks ht hK A hA hP hD hS ls hl
  have hC : Cx p l e s m (([.ref (ad 9)] : List Value)).toArray meth c y_SH_newest b_SH_newest 1 (some .int) "BookTrees$Shelf" G A := ⟨hx, hb, hr, hml, hown, hlocks, ht, hK, hA⟩
  have hown : s.vm.findClass "BookTrees$Shelf" = some m.cls := hown
  have hl : lv_has ls 1 [(0, .ref (ad 9))] := hl
  rw [f_SH_newest] at hres
  rw [ok_SH_newest] at hok
  refine lv_aload_n hx hb d_SH_newest_0 rfl (lv_at hl 0 rfl) ?_
  refine va_get (D := G.1) (ci := 4) (C := R_SH) (T := F_SH) (N := 3) hx hb ht in_SH hown hK hP 9 rfl rfl 2 (by decide) (ht _ kf_SH_20) (fun _ h9 => h9) rfl d_SH_newest_1 ?_
  refine lv_if_ne (tgt := 11) hx hb d_SH_newest_4 (by decide) (fun c_4 => ?_) (fun c_4 => ?_)
  · have hres := it_f c_4 hres
    have hok := hok.2 c_4
    refine lv_aload_n hx hb d_SH_newest_11 rfl (lv_at hl 0 rfl) ?_
    refine va_get (D := G.1) (ci := 4) (C := R_SH) (T := F_SH) (N := 3) hx hb ht in_SH hown hK hP 9 rfl rfl 0 (by decide) (ht _ kf_SH_11) (fun _ h9 => h9) rfl d_SH_newest_12 ?_
    refine lv_aload_n hx hb d_SH_newest_15 rfl (lv_at hl 0 rfl) ?_
    refine va_get (D := G.1) (ci := 4) (C := R_SH) (T := F_SH) (N := 3) hx hb ht in_SH hown hK hP 9 rfl rfl 2 (by decide) (ht _ kf_SH_20) (fun _ h9 => h9) rfl d_SH_newest_16 ?_
    refine lv_iconst (v := (1 : Int32)) hx hb d_SH_newest_19 (by decide) ?_
    refine lv_isub hx hb d_SH_newest_20 ?_
    have hi_21 := hok
    refine va_iald hx hb hK hP 10 0 rfl rfl hi_21 d_SH_newest_21 ?_
    exact en_i (w1 := (fun _ : Unit => (cC G ad nb nt cfa cle cwr csl cst cen cby cto csh cdz cch cva css cve cro crc cma cbi ces cbl crt))) () hx hb hr hlocks hK hP hD hS hres d_SH_newest_22
  · have hres := it_t c_4 hres
    refine lv_iconst (v := (0 : Int32)) hx hb d_SH_newest_7 (by decide) ?_
    refine lv_goto (tgt := 22) hx hb d_SH_newest_8 (by decide) ?_
    exact en_i (w1 := (fun _ : Unit => (cC G ad nb nt cfa cle cwr csl cst cen cby cto csh cdz cch cva css cve cro crc cma cbi ces cbl crt))) () hx hb hr hlocks hK hP hD hS hres d_SH_newest_22
/-! ===== BookTrees$Pages.clear()V ===== -/
abbrev rm_PG_clear : Room := { frames := 0, cells := 0, slots := 0, locals := 0 }
def f_PG_clear_30 : Nat → Int32 → Int32 → (Nat → Int32) → (Nat → Int32) → (Nat → Int32) → Int32 × (Nat → Int32) × (Nat → Int32) × (Nat → Int32)
  | 0, x1, crc, cma, cbi, ces => (crc, cma, cbi, ces)
  | n + 1, x1, crc, cma, cbi, ces => if (584 : Int32) ≤ x1 then ((0 : Int32), cma, cbi, ces) else f_PG_clear_30 n (x1 + (1 : Int32)) crc cma cbi (upd ces x1.toNatClampNeg (0 : Int32))
def ok_PG_clear_30 (nb : Nat) (nt : Nat) : Nat → Int32 → Int32 → (Nat → Int32) → (Nat → Int32) → (Nat → Int32) → Prop
  | 0, _, _, _, _, _ => False
  | n + 1, x1, crc, cma, cbi, ces => ((584 : Int32) ≤ x1 → True) ∧ (¬ (584 : Int32) ≤ x1 → vp_in x1 584 ∧ (ok_PG_clear_30 nb nt  n (x1 + (1 : Int32)) crc cma cbi (upd ces x1.toNatClampNeg (0 : Int32))))
set_option maxHeartbeats 4000000 in
set_option maxRecDepth 100000 in
theorem w_PG_clear_30 {p : Program} {l : Launch} {e : Env} {s : State} {m : MethodId} {args : Array Value} {below : List Frame} {meth : Method} {c : Code} {A : Nat → Prop} {G : GG} {ad : Nat → Nat} {nb : Nat} {nt : Nat} {cfa : Int32} {cle : Int32} {cwr : Int32} {csl : Int32} {cst : Int32} {cen : Int32} {cby : (Nat → Int32)} {cto : (Nat → Int32)} {csh : (Nat → Int32)} {cdz : Int32} {cch : (Nat → Int32)} {cva : (Nat → Int32)} {css : Int32} {cve : (Nat → Int32)} {cro : (Nat → Int32)} {cbl : (Nat → Int32)} {crt : (Nat → Int32)} {res : Int32 × (Nat → Int32) × (Nat → Int32) × (Nat → Int32)} (hC : Cx p l e s m args meth c y_PG_clear b_PG_clear 2 none "BookTrees$Pages" G A) : ∀ (n : Nat) (x1 : Int32) (crc : Int32) (cma : (Nat → Int32)) (cbi : (Nat → Int32)) (ces : (Nat → Int32)) (H : Heap) (locs : List Loc) (ls : Array Slot), ok_PG_clear_30 nb nt n x1 crc cma cbi ces → f_PG_clear_30 n x1 crc cma cbi ces = res → va_P G.1 classes (cC G ad nb nt cfa cle cwr csl cst cen cby cto csh cdz cch cva css cve cro crc cma cbi ces cbl crt) H → va_D A (cC G ad nb nt cfa cle cwr csl cst cen cby cto csh cdz cch cva css cve cro crc cma cbi ces cbl crt) → va_S A s.heap H locs → lv_has ls 2 [(0, .ref (ad 12)), (1, .int x1)] → W p l e rm_PG_clear s m args below meth c H locs 0 0 (MQ below (va_Qv (eqV res) (Wb G A (fun u : Int32 × (Nat → Int32) × (Nat → Int32) × (Nat → Int32) => (cC G ad nb nt cfa cle cwr csl cst cen cby cto csh cdz cch cva css cve cro u.1 u.2.1 u.2.2.1 u.2.2.2 cbl crt))) A) args s 0 0 A) (F0 m 30 ls []) := by
  obtain ⟨hx, hb, hr, hml, hown, hlocks, ht, hK, hA⟩ := id hC
  intro n
  induction n with
  | zero => intro x1 crc cma cbi ces H locs ls hok; exact hok.elim
  | succ n ih =>
    intro x1 crc cma cbi ces H locs ls hok hres hP hD hS hl
    rw [f_PG_clear_30] at hres
    rw [ok_PG_clear_30] at hok
    refine lv_iload_n hx hb d_PG_clear_30 rfl (lv_at hl 1 rfl) ?_
    refine lv_sipush (v := (584 : Int32)) hx hb d_PG_clear_31 (by decide) ?_
    refine lv_icmp_ge (tgt := 50) hx hb d_PG_clear_34 (by decide) (fun c_34 => ?_) (fun c_34 => ?_)
    · have hres := it_t c_34 hres
      refine lv_aload_n hx hb d_PG_clear_50 rfl (lv_at hl 0 rfl) ?_
      refine lv_iconst (v := (0 : Int32)) hx hb d_PG_clear_51 (by decide) ?_
      refine va_put (D := G.1) (ci := 5) (v := .int (0 : Int32)) (ty := .int) (C := R_PG) (T := F_PG) (N := 6) hx hb ht in_PG t_PG to_PG nm_PG hown hK hP hD hS 12 rfl rfl 5 (by decide) (ht _ kf_PG_28) (fun _ h9 => h9) rfl (to_PG 5 (by decide)) rfl rfl (Nat.le_of_ble_eq_true rfl) d_PG_clear_52 (fun H locs hP hD hS => ?_)
      have hP : va_P G.1 classes (cC G ad nb nt cfa cle cwr csl cst cen cby cto csh cdz cch cva css cve cro (0 : Int32) cma cbi ces cbl crt) H := hP
      have hD : va_D A (cC G ad nb nt cfa cle cwr csl cst cen cby cto csh cdz cch cva css cve cro (0 : Int32) cma cbi ces cbl crt) := hD
      exact en_v (w1 := (fun u : Int32 × (Nat → Int32) × (Nat → Int32) × (Nat → Int32) => (cC G ad nb nt cfa cle cwr csl cst cen cby cto csh cdz cch cva css cve cro u.1 u.2.1 u.2.2.1 u.2.2.2 cbl crt))) ((0 : Int32), cma, cbi, ces) hx hb hr hlocks hK hP hD hS hres d_PG_clear_55
    · have hres := it_f c_34 hres
      have hok := hok.2 c_34
      refine lv_aload_n hx hb d_PG_clear_37 rfl (lv_at hl 0 rfl) ?_
      refine va_get (D := G.1) (ci := 5) (C := R_PG) (T := F_PG) (N := 6) hx hb ht in_PG hown hK hP 12 rfl rfl 2 (by decide) (ht _ kf_PG_19) (fun _ h9 => h9) rfl d_PG_clear_38 ?_
      refine lv_iload_n hx hb d_PG_clear_41 rfl (lv_at hl 1 rfl) ?_
      refine lv_iconst (v := (0 : Int32)) hx hb d_PG_clear_42 (by decide) ?_
      obtain ⟨hi_43, hok⟩ := hok
      refine va_iast hx hb hK hP hD hS 15 0 rfl rfl hi_43 d_PG_clear_43 (fun H locs hP hD hS => ?_)
      have hP : va_P G.1 classes (cC G ad nb nt cfa cle cwr csl cst cen cby cto csh cdz cch cva css cve cro crc cma cbi (upd ces x1.toNatClampNeg (0 : Int32)) cbl crt) H := hP
      have hD : va_D A (cC G ad nb nt cfa cle cwr csl cst cen cby cto csh cdz cch cva css cve cro crc cma cbi (upd ces x1.toNatClampNeg (0 : Int32)) cbl crt) := hD
      refine lv_iinc (v := x1 + (1 : Int32)) (lv' := [(1, .int (x1 + (1 : Int32))), (0, .ref (ad 12))]) hx hb d_PG_clear_44 hl (k := 1) rfl rfl (by decide) rfl (fun ls hl => ?_)
      refine lv_goto (tgt := 30) hx hb d_PG_clear_47 (by decide) ?_
      exact ih (x1 + (1 : Int32)) crc cma cbi (upd ces x1.toNatClampNeg (0 : Int32)) _ _ _ hok hres hP hD hS (lv_sub hl [1, 0] rfl)
def f_PG_clear_2 : Nat → Int32 → Int32 → (Nat → Int32) → (Nat → Int32) → (Nat → Int32) → Int32 × (Nat → Int32) × (Nat → Int32) × (Nat → Int32)
  | 0, x1, crc, cma, cbi, ces => (crc, cma, cbi, ces)
  | n + 1, x1, crc, cma, cbi, ces => if (73 : Int32) ≤ x1 then f_PG_clear_30 1024 (0 : Int32) crc cma cbi ces else f_PG_clear_2 n (x1 + (1 : Int32)) crc (upd cma x1.toNatClampNeg (vp_nar .boolean (0 : Int32))) (upd cbi x1.toNatClampNeg (0 : Int32)) ces
def ok_PG_clear_2 (nb : Nat) (nt : Nat) : Nat → Int32 → Int32 → (Nat → Int32) → (Nat → Int32) → (Nat → Int32) → Prop
  | 0, _, _, _, _, _ => False
  | n + 1, x1, crc, cma, cbi, ces => ((73 : Int32) ≤ x1 → ok_PG_clear_30 nb nt  1024 (0 : Int32) crc cma cbi ces) ∧ (¬ (73 : Int32) ≤ x1 → vp_in x1 73 ∧ (vp_in x1 73 ∧ (ok_PG_clear_2 nb nt  n (x1 + (1 : Int32)) crc (upd cma x1.toNatClampNeg (vp_nar .boolean (0 : Int32))) (upd cbi x1.toNatClampNeg (0 : Int32)) ces)))
set_option maxHeartbeats 4000000 in
set_option maxRecDepth 100000 in
theorem w_PG_clear_2 {p : Program} {l : Launch} {e : Env} {s : State} {m : MethodId} {args : Array Value} {below : List Frame} {meth : Method} {c : Code} {A : Nat → Prop} {G : GG} {ad : Nat → Nat} {nb : Nat} {nt : Nat} {cfa : Int32} {cle : Int32} {cwr : Int32} {csl : Int32} {cst : Int32} {cen : Int32} {cby : (Nat → Int32)} {cto : (Nat → Int32)} {csh : (Nat → Int32)} {cdz : Int32} {cch : (Nat → Int32)} {cva : (Nat → Int32)} {css : Int32} {cve : (Nat → Int32)} {cro : (Nat → Int32)} {cbl : (Nat → Int32)} {crt : (Nat → Int32)} {res : Int32 × (Nat → Int32) × (Nat → Int32) × (Nat → Int32)} (hC : Cx p l e s m args meth c y_PG_clear b_PG_clear 2 none "BookTrees$Pages" G A) : ∀ (n : Nat) (x1 : Int32) (crc : Int32) (cma : (Nat → Int32)) (cbi : (Nat → Int32)) (ces : (Nat → Int32)) (H : Heap) (locs : List Loc) (ls : Array Slot), ok_PG_clear_2 nb nt n x1 crc cma cbi ces → f_PG_clear_2 n x1 crc cma cbi ces = res → va_P G.1 classes (cC G ad nb nt cfa cle cwr csl cst cen cby cto csh cdz cch cva css cve cro crc cma cbi ces cbl crt) H → va_D A (cC G ad nb nt cfa cle cwr csl cst cen cby cto csh cdz cch cva css cve cro crc cma cbi ces cbl crt) → va_S A s.heap H locs → lv_has ls 2 [(0, .ref (ad 12)), (1, .int x1)] → W p l e rm_PG_clear s m args below meth c H locs 0 0 (MQ below (va_Qv (eqV res) (Wb G A (fun u : Int32 × (Nat → Int32) × (Nat → Int32) × (Nat → Int32) => (cC G ad nb nt cfa cle cwr csl cst cen cby cto csh cdz cch cva css cve cro u.1 u.2.1 u.2.2.1 u.2.2.2 cbl crt))) A) args s 0 0 A) (F0 m 2 ls []) := by
  obtain ⟨hx, hb, hr, hml, hown, hlocks, ht, hK, hA⟩ := id hC
  intro n
  induction n with
  | zero => intro x1 crc cma cbi ces H locs ls hok; exact hok.elim
  | succ n ih =>
    intro x1 crc cma cbi ces H locs ls hok hres hP hD hS hl
    rw [f_PG_clear_2] at hres
    rw [ok_PG_clear_2] at hok
    refine lv_iload_n hx hb d_PG_clear_2 rfl (lv_at hl 1 rfl) ?_
    refine lv_bipush (v := (73 : Int32)) hx hb d_PG_clear_3 (by decide) ?_
    refine lv_icmp_ge (tgt := 28) hx hb d_PG_clear_5 (by decide) (fun c_5 => ?_) (fun c_5 => ?_)
    · have hres := it_t c_5 hres
      have hok := hok.1 c_5
      refine lv_iconst (v := (0 : Int32)) hx hb d_PG_clear_28 (by decide) ?_
      refine lv_istore_n (lv' := [(1, .int (0 : Int32)), (0, .ref (ad 12))]) hx hb d_PG_clear_29 rfl hl (by decide) rfl (fun ls hl => ?_)
      exact w_PG_clear_30 hC 1024 (0 : Int32) crc cma cbi ces _ _ _ hok hres hP hD hS (lv_sub hl [1, 0] rfl)
    · have hres := it_f c_5 hres
      have hok := hok.2 c_5
      refine lv_aload_n hx hb d_PG_clear_8 rfl (lv_at hl 0 rfl) ?_
      refine va_get (D := G.1) (ci := 5) (C := R_PG) (T := F_PG) (N := 6) hx hb ht in_PG hown hK hP 12 rfl rfl 0 (by decide) (ht _ kf_PG_11) (fun _ h9 => h9) rfl d_PG_clear_9 ?_
      refine lv_iload_n hx hb d_PG_clear_12 rfl (lv_at hl 1 rfl) ?_
      refine lv_iconst (v := (0 : Int32)) hx hb d_PG_clear_13 (by decide) ?_
      obtain ⟨hi_14, hok⟩ := hok
      refine va_zast hx hb hK hP hD hS 13 1 rfl rfl hi_14 d_PG_clear_14 (fun H locs hP hD hS => ?_)
      have hP : va_P G.1 classes (cC G ad nb nt cfa cle cwr csl cst cen cby cto csh cdz cch cva css cve cro crc (upd cma x1.toNatClampNeg (vp_nar .boolean (0 : Int32))) cbi ces cbl crt) H := hP
      have hD : va_D A (cC G ad nb nt cfa cle cwr csl cst cen cby cto csh cdz cch cva css cve cro crc (upd cma x1.toNatClampNeg (vp_nar .boolean (0 : Int32))) cbi ces cbl crt) := hD
      refine lv_aload_n hx hb d_PG_clear_15 rfl (lv_at hl 0 rfl) ?_
      refine va_get (D := G.1) (ci := 5) (C := R_PG) (T := F_PG) (N := 6) hx hb ht in_PG hown hK hP 12 rfl rfl 1 (by decide) (ht _ kf_PG_15) (fun _ h9 => h9) rfl d_PG_clear_16 ?_
      refine lv_iload_n hx hb d_PG_clear_19 rfl (lv_at hl 1 rfl) ?_
      refine lv_iconst (v := (0 : Int32)) hx hb d_PG_clear_20 (by decide) ?_
      obtain ⟨hi_21, hok⟩ := hok
      refine va_iast hx hb hK hP hD hS 14 0 rfl rfl hi_21 d_PG_clear_21 (fun H locs hP hD hS => ?_)
      have hP : va_P G.1 classes (cC G ad nb nt cfa cle cwr csl cst cen cby cto csh cdz cch cva css cve cro crc (upd cma x1.toNatClampNeg (vp_nar .boolean (0 : Int32))) (upd cbi x1.toNatClampNeg (0 : Int32)) ces cbl crt) H := hP
      have hD : va_D A (cC G ad nb nt cfa cle cwr csl cst cen cby cto csh cdz cch cva css cve cro crc (upd cma x1.toNatClampNeg (vp_nar .boolean (0 : Int32))) (upd cbi x1.toNatClampNeg (0 : Int32)) ces cbl crt) := hD
      refine lv_iinc (v := x1 + (1 : Int32)) (lv' := [(1, .int (x1 + (1 : Int32))), (0, .ref (ad 12))]) hx hb d_PG_clear_22 hl (k := 1) rfl rfl (by decide) rfl (fun ls hl => ?_)
      refine lv_goto (tgt := 2) hx hb d_PG_clear_25 (by decide) ?_
      exact ih (x1 + (1 : Int32)) crc (upd cma x1.toNatClampNeg (vp_nar .boolean (0 : Int32))) (upd cbi x1.toNatClampNeg (0 : Int32)) ces _ _ _ hok hres hP hD hS (lv_sub hl [1, 0] rfl)
def f_PG_clear  (crc : Int32) (cma : (Nat → Int32)) (cbi : (Nat → Int32)) (ces : (Nat → Int32)) : Int32 × (Nat → Int32) × (Nat → Int32) × (Nat → Int32) := f_PG_clear_2 1024 (0 : Int32) crc cma cbi ces
def ok_PG_clear (nb : Nat) (nt : Nat)  (crc : Int32) (cma : (Nat → Int32)) (cbi : (Nat → Int32)) (ces : (Nat → Int32)) : Prop := ok_PG_clear_2 nb nt  1024 (0 : Int32) crc cma cbi ces
set_option maxHeartbeats 4000000 in
set_option maxRecDepth 100000 in
theorem c_PG_clear {l : Launch} {G : GG} {ad : Nat → Nat} {nb : Nat} {nt : Nat} {sz : Nat} {cfa : Int32} {cle : Int32} {cwr : Int32} {csl : Int32} {cst : Int32} {cen : Int32} {cby : (Nat → Int32)} {cto : (Nat → Int32)} {csh : (Nat → Int32)} {cdz : Int32} {cch : (Nat → Int32)} {cva : (Nat → Int32)} {css : Int32} {cve : (Nat → Int32)} {cro : (Nat → Int32)} {crc : Int32} {cma : (Nat → Int32)} {cbi : (Nat → Int32)} {ces : (Nat → Int32)} {cbl : (Nat → Int32)} {crt : (Nat → Int32)}  (hok : ok_PG_clear nb nt crc cma cbi ces) : CtV l y_PG_clear b_PG_clear 2 none rm_PG_clear G (cC G ad nb nt cfa cle cwr csl cst cen cby cto csh cdz cch cva css cve cro crc cma cbi ces cbl crt) sz [.ref (ad 12)] (eqV (f_PG_clear crc cma cbi ces)) (fun u : Int32 × (Nat → Int32) × (Nat → Int32) × (Nat → Int32) => (cC G ad nb nt cfa cle cwr csl cst cen cby cto csh cdz cch cva css cve cro u.1 u.2.1 u.2.2.1 u.2.2.2 cbl crt)) := by
  generalize hres : f_PG_clear crc cma cbi ces = res
  refine Met_of (Qc := fun A => va_Qv (eqV res) (Wb G A (fun u : Int32 × (Nat → Int32) × (Nat → Int32) × (Nat → Int32) => (cC G ad nb nt cfa cle cwr csl cst cen cby cto csh cdz cch cva css cve cro u.1 u.2.1 u.2.2.1 u.2.2.2 cbl crt))) A) (by decide) (Nat.le_of_ble_eq_true rfl) ?_
  intro p e s m below meth c hadm hx hb hr hml hown hlocks ht hK A hA hP hD hS ls hl
  have hC : Cx p l e s m (([.ref (ad 12)] : List Value)).toArray meth c y_PG_clear b_PG_clear 2 none "BookTrees$Pages" G A := ⟨hx, hb, hr, hml, hown, hlocks, ht, hK, hA⟩
  have hown : s.vm.findClass "BookTrees$Pages" = some m.cls := hown
  have hl : lv_has ls 2 [(0, .ref (ad 12))] := hl
  rw [f_PG_clear] at hres
  rw [ok_PG_clear] at hok
  refine lv_iconst (v := (0 : Int32)) hx hb d_PG_clear_0 (by decide) ?_
  refine lv_istore_n (lv' := [(1, .int (0 : Int32)), (0, .ref (ad 12))]) hx hb d_PG_clear_1 rfl hl (by decide) rfl (fun ls hl => ?_)
  exact w_PG_clear_2 hC 1024 (0 : Int32) crc cma cbi ces _ _ _ hok hres hP hD hS (lv_sub hl [1, 0] rfl)
/-! ===== BookTrees$Pages.parentOf(I)I ===== -/
abbrev rm_PG_parentOf : Room := { frames := 0, cells := 0, slots := 0, locals := 0 }
def f_PG_parentOf (p0 : Int32)  : Int32 × Unit := ((64 : Int32) + (p0 >>> ((3 : Int32) &&& 31)), ())
set_option maxHeartbeats 4000000 in
set_option maxRecDepth 100000 in
theorem c_PG_parentOf {l : Launch} {G : GG} {ad : Nat → Nat} {nb : Nat} {nt : Nat} {sz : Nat} {cfa : Int32} {cle : Int32} {cwr : Int32} {csl : Int32} {cst : Int32} {cen : Int32} {cby : (Nat → Int32)} {cto : (Nat → Int32)} {csh : (Nat → Int32)} {cdz : Int32} {cch : (Nat → Int32)} {cva : (Nat → Int32)} {css : Int32} {cve : (Nat → Int32)} {cro : (Nat → Int32)} {crc : Int32} {cma : (Nat → Int32)} {cbi : (Nat → Int32)} {ces : (Nat → Int32)} {cbl : (Nat → Int32)} {crt : (Nat → Int32)} {p0 : Int32} : CtI l y_PG_parentOf b_PG_parentOf 1 (some .int) rm_PG_parentOf G (cC G ad nb nt cfa cle cwr csl cst cen cby cto csh cdz cch cva css cve cro crc cma cbi ces cbl crt) sz [.int p0] (eqP (f_PG_parentOf p0)) (fun _ : Unit => (cC G ad nb nt cfa cle cwr csl cst cen cby cto csh cdz cch cva css cve cro crc cma cbi ces cbl crt)) := by
  generalize hres : f_PG_parentOf p0 = res
  refine Met_of (Qc := fun A => va_Qi (eqP res) (Wb G A (fun _ : Unit => (cC G ad nb nt cfa cle cwr csl cst cen cby cto csh cdz cch cva css cve cro crc cma cbi ces cbl crt))) A) (by decide) (Nat.le_of_ble_eq_true rfl) ?_
  intro p e s m below meth c hadm hx hb hr hml hown hlocks ht hK A hA hP hD hS ls hl
  have hC : Cx p l e s m (([.int p0] : List Value)).toArray meth c y_PG_parentOf b_PG_parentOf 1 (some .int) "BookTrees$Pages" G A := ⟨hx, hb, hr, hml, hown, hlocks, ht, hK, hA⟩
  have hown : s.vm.findClass "BookTrees$Pages" = some m.cls := hown
  have hl : lv_has ls 1 [(0, .int p0)] := hl
  rw [f_PG_parentOf] at hres
  refine lv_bipush (v := (64 : Int32)) hx hb d_PG_parentOf_0 (by decide) ?_
  refine lv_iload_n hx hb d_PG_parentOf_2 rfl (lv_at hl 0 rfl) ?_
  refine lv_iconst (v := (3 : Int32)) hx hb d_PG_parentOf_3 (by decide) ?_
  refine lv_ishr hx hb d_PG_parentOf_4 ?_
  refine lv_iadd hx hb d_PG_parentOf_5 ?_
  exact en_i (w1 := (fun _ : Unit => (cC G ad nb nt cfa cle cwr csl cst cen cby cto csh cdz cch cva css cve cro crc cma cbi ces cbl crt))) () hx hb hr hlocks hK hP hD hS hres d_PG_parentOf_6
/-! ===== BookTrees$Pages.markKeysOf(LBookTrees$Draft;)V ===== -/
abbrev rm_PG_markKeysOf : Room := { frames := 1, cells := 0, slots := 0, locals := 21 }
def f_PG_markKeysOf_2 : Nat → Int32 → (Nat → Int32) → (Nat → Int32) → (Nat → Int32)
  | 0, x2, cch, cma => cma
  | n + 1, x2, cch, cma => if (512 : Int32) ≤ x2 then cma else bindc (f_DR_has x2 cch) (fun z_11 => if z_11.1 = 0 then f_PG_markKeysOf_2 n (x2 + (1 : Int32)) cch cma else bindc (f_PG_parentOf (x2 >>> ((3 : Int32) &&& 31))) (fun z_33 => f_PG_markKeysOf_2 n (x2 + (1 : Int32)) cch (upd (upd (upd cma (x2 >>> ((3 : Int32) &&& 31)).toNatClampNeg (vp_nar .boolean (1 : Int32))) z_33.1.toNatClampNeg (vp_nar .boolean (1 : Int32))) (72 : Int32).toNatClampNeg (vp_nar .boolean (1 : Int32)))))
def ok_PG_markKeysOf_2 (nb : Nat) (nt : Nat) : Nat → Int32 → (Nat → Int32) → (Nat → Int32) → Prop
  | 0, _, _, _ => False
  | n + 1, x2, cch, cma => ((512 : Int32) ≤ x2 → True) ∧ (¬ (512 : Int32) ≤ x2 → ok_DR_has nb nt x2 cch ∧ bindp (f_DR_has x2 cch) (fun z_11 => (z_11.1 = 0 → ok_PG_markKeysOf_2 nb nt  n (x2 + (1 : Int32)) cch cma) ∧ (¬ z_11.1 = 0 → vp_in (x2 >>> ((3 : Int32) &&& 31)) 73 ∧ (bindp (f_PG_parentOf (x2 >>> ((3 : Int32) &&& 31))) (fun z_33 => vp_in z_33.1 73 ∧ (vp_in (72 : Int32) 73 ∧ (ok_PG_markKeysOf_2 nb nt  n (x2 + (1 : Int32)) cch (upd (upd (upd cma (x2 >>> ((3 : Int32) &&& 31)).toNatClampNeg (vp_nar .boolean (1 : Int32))) z_33.1.toNatClampNeg (vp_nar .boolean (1 : Int32))) (72 : Int32).toNatClampNeg (vp_nar .boolean (1 : Int32))))))))))
set_option maxHeartbeats 4000000 in
set_option maxRecDepth 100000 in
theorem w_PG_markKeysOf_2 {p : Program} {l : Launch} {e : Env} {s : State} {m : MethodId} {args : Array Value} {below : List Frame} {meth : Method} {c : Code} {A : Nat → Prop} {G : GG} {ad : Nat → Nat} {nb : Nat} {nt : Nat} {cfa : Int32} {cle : Int32} {cwr : Int32} {csl : Int32} {cst : Int32} {cen : Int32} {cby : (Nat → Int32)} {cto : (Nat → Int32)} {csh : (Nat → Int32)} {cdz : Int32} {cch : (Nat → Int32)} {cva : (Nat → Int32)} {css : Int32} {cve : (Nat → Int32)} {cro : (Nat → Int32)} {crc : Int32} {cbi : (Nat → Int32)} {ces : (Nat → Int32)} {cbl : (Nat → Int32)} {crt : (Nat → Int32)} {res : (Nat → Int32)} (hC : Cx p l e s m args meth c y_PG_markKeysOf b_PG_markKeysOf 4 none "BookTrees$Pages" G A) : ∀ (n : Nat) (x2 : Int32) (cma : (Nat → Int32)) (H : Heap) (locs : List Loc) (ls : Array Slot), ok_PG_markKeysOf_2 nb nt n x2 cch cma → f_PG_markKeysOf_2 n x2 cch cma = res → va_P G.1 classes (cC G ad nb nt cfa cle cwr csl cst cen cby cto csh cdz cch cva css cve cro crc cma cbi ces cbl crt) H → va_D A (cC G ad nb nt cfa cle cwr csl cst cen cby cto csh cdz cch cva css cve cro crc cma cbi ces cbl crt) → va_S A s.heap H locs → lv_has ls 4 [(0, .ref (ad 12)), (1, .ref (ad 6)), (2, .int x2)] → W p l e rm_PG_markKeysOf s m args below meth c H locs 0 0 (MQ below (va_Qv (eqV res) (Wb G A (fun u : (Nat → Int32) => (cC G ad nb nt cfa cle cwr csl cst cen cby cto csh cdz cch cva css cve cro crc u cbi ces cbl crt))) A) args s 0 0 A) (F0 m 2 ls []) := by
  obtain ⟨hx, hb, hr, hml, hown, hlocks, ht, hK, hA⟩ := id hC
  intro n
  induction n with
  | zero => intro x2 cma H locs ls hok; exact hok.elim
  | succ n ih =>
    intro x2 cma H locs ls hok hres hP hD hS hl
    rw [f_PG_markKeysOf_2] at hres
    rw [ok_PG_markKeysOf_2] at hok
    refine lv_iload_n hx hb d_PG_markKeysOf_2 rfl (lv_at hl 2 rfl) ?_
    refine lv_sipush (v := (512 : Int32)) hx hb d_PG_markKeysOf_3 (by decide) ?_
    refine lv_icmp_ge (tgt := 52) hx hb d_PG_markKeysOf_6 (by decide) (fun c_6 => ?_) (fun c_6 => ?_)
    · have hres := it_t c_6 hres
      exact en_v (w1 := (fun u : (Nat → Int32) => (cC G ad nb nt cfa cle cwr csl cst cen cby cto csh cdz cch cva css cve cro crc u cbi ces cbl crt))) cma hx hb hr hlocks hK hP hD hS hres d_PG_markKeysOf_52
    · have hres := it_f c_6 hres
      have hok := hok.2 c_6
      refine lv_aload_n hx hb d_PG_markKeysOf_9 rfl (lv_at hl 1 rfl) ?_
      refine lv_iload_n hx hb d_PG_markKeysOf_10 rfl (lv_at hl 2 rfl) ?_
      obtain ⟨hk_11, hok⟩ := hok
      refine go_iz (run_V hx hb hml hown ht hK hP hD (c_DR_has hk_11) (cw_V ht km_PG_32 ki_DR_has ks_DR_has ini_DR kd_DR_has kh_DR_has ⟨Nat.le_of_ble_eq_true rfl, Nat.le_of_ble_eq_true rfl⟩ rfl rfl) (q0 := 6) (ci := 3) (As := [.int x2]) (rest := []) rfl rfl rfl hl.1 rfl (Nat.le_of_ble_eq_true rfl) d_PG_markKeysOf_11 ⟨Nat.zero_le _, Nat.zero_le _⟩) hD hS hA (fun z_11 H locs hz_11 hP hD hS => ?_)
      have hres := bindc_eq hz_11 hres
      have hok := bindp_eq hz_11 hok
      have hP : va_P G.1 classes (cC G ad nb nt cfa cle cwr csl cst cen cby cto csh cdz cch cva css cve cro crc cma cbi ces cbl crt) H := hP
      have hD : va_D A (cC G ad nb nt cfa cle cwr csl cst cen cby cto csh cdz cch cva css cve cro crc cma cbi ces cbl crt) := hD
      refine lv_if_eq (tgt := 46) hx hb d_PG_markKeysOf_14 (by decide) (fun c_14 => ?_) (fun c_14 => ?_)
      · have hres := it_t c_14 hres
        have hok := hok.1 c_14
        refine lv_iinc (v := x2 + (1 : Int32)) (lv' := [(2, .int (x2 + (1 : Int32))), (0, .ref (ad 12)), (1, .ref (ad 6))]) hx hb d_PG_markKeysOf_46 hl (k := 2) rfl rfl (by decide) rfl (fun ls hl => ?_)
        refine lv_goto (tgt := 2) hx hb d_PG_markKeysOf_49 (by decide) ?_
        exact ih (x2 + (1 : Int32)) cma _ _ _ hok hres hP hD hS (lv_sub hl [1, 2, 0] rfl)
      · have hres := it_f c_14 hres
        have hok := hok.2 c_14
        refine lv_iload_n hx hb d_PG_markKeysOf_17 rfl (lv_at hl 2 rfl) ?_
        refine lv_iconst (v := (3 : Int32)) hx hb d_PG_markKeysOf_18 (by decide) ?_
        refine lv_ishr hx hb d_PG_markKeysOf_19 ?_
        refine lv_istore_n (lv' := [(3, .int (x2 >>> ((3 : Int32) &&& 31))), (0, .ref (ad 12)), (1, .ref (ad 6)), (2, .int x2)]) hx hb d_PG_markKeysOf_20 rfl hl (by decide) rfl (fun ls hl => ?_)
        refine lv_aload_n hx hb d_PG_markKeysOf_21 rfl (lv_at hl 1 rfl) ?_
        refine va_get (D := G.1) (ci := 5) (C := R_PG) (T := F_PG) (N := 6) hx hb ht in_PG hown hK hP 12 rfl rfl 0 (by decide) (ht _ kf_PG_11) (fun _ h9 => h9) rfl d_PG_markKeysOf_22 ?_
        refine lv_iload_n hx hb d_PG_markKeysOf_25 rfl (lv_at hl 0 rfl) ?_
        refine lv_iconst (v := (1 : Int32)) hx hb d_PG_markKeysOf_26 (by decide) ?_
        obtain ⟨hi_27, hok⟩ := hok
        refine va_zast hx hb hK hP hD hS 13 1 rfl rfl hi_27 d_PG_markKeysOf_27 (fun H locs hP hD hS => ?_)
        have hP : va_P G.1 classes (cC G ad nb nt cfa cle cwr csl cst cen cby cto csh cdz cch cva css cve cro crc (upd cma (x2 >>> ((3 : Int32) &&& 31)).toNatClampNeg (vp_nar .boolean (1 : Int32))) cbi ces cbl crt) H := hP
        have hD : va_D A (cC G ad nb nt cfa cle cwr csl cst cen cby cto csh cdz cch cva css cve cro crc (upd cma (x2 >>> ((3 : Int32) &&& 31)).toNatClampNeg (vp_nar .boolean (1 : Int32))) cbi ces cbl crt) := hD
        refine lv_aload_n hx hb d_PG_markKeysOf_28 rfl (lv_at hl 1 rfl) ?_
        refine va_get (D := G.1) (ci := 5) (C := R_PG) (T := F_PG) (N := 6) hx hb ht in_PG hown hK hP 12 rfl rfl 0 (by decide) (ht _ kf_PG_11) (fun _ h9 => h9) rfl d_PG_markKeysOf_29 ?_
        refine lv_iload_n hx hb d_PG_markKeysOf_32 rfl (lv_at hl 0 rfl) ?_
        refine go_iz (run_S hx hb hml hown ht hK hP hD (c_PG_parentOf) (cw_S ht km_PG_38 kt_PG_parentOf ini_PG kd_PG_parentOf kh_PG_parentOf ⟨Nat.le_of_ble_eq_true rfl, Nat.le_of_ble_eq_true rfl⟩ rfl rfl) (As := [.int (x2 >>> ((3 : Int32) &&& 31))]) (rest := [.ref (ad 13)]) rfl hl.1 rfl (Nat.le_of_ble_eq_true rfl) d_PG_markKeysOf_33 ⟨Nat.zero_le _, Nat.zero_le _⟩) hD hS hA (fun z_33 H locs hz_33 hP hD hS => ?_)
        have hres := bindc_eq hz_33 hres
        have hok := bindp_eq hz_33 hok
        have hP : va_P G.1 classes (cC G ad nb nt cfa cle cwr csl cst cen cby cto csh cdz cch cva css cve cro crc (upd cma (x2 >>> ((3 : Int32) &&& 31)).toNatClampNeg (vp_nar .boolean (1 : Int32))) cbi ces cbl crt) H := hP
        have hD : va_D A (cC G ad nb nt cfa cle cwr csl cst cen cby cto csh cdz cch cva css cve cro crc (upd cma (x2 >>> ((3 : Int32) &&& 31)).toNatClampNeg (vp_nar .boolean (1 : Int32))) cbi ces cbl crt) := hD
        refine lv_iconst (v := (1 : Int32)) hx hb d_PG_markKeysOf_36 (by decide) ?_
        obtain ⟨hi_37, hok⟩ := hok
        refine va_zast hx hb hK hP hD hS 13 1 rfl rfl hi_37 d_PG_markKeysOf_37 (fun H locs hP hD hS => ?_)
        have hP : va_P G.1 classes (cC G ad nb nt cfa cle cwr csl cst cen cby cto csh cdz cch cva css cve cro crc (upd (upd cma (x2 >>> ((3 : Int32) &&& 31)).toNatClampNeg (vp_nar .boolean (1 : Int32))) z_33.1.toNatClampNeg (vp_nar .boolean (1 : Int32))) cbi ces cbl crt) H := hP
        have hD : va_D A (cC G ad nb nt cfa cle cwr csl cst cen cby cto csh cdz cch cva css cve cro crc (upd (upd cma (x2 >>> ((3 : Int32) &&& 31)).toNatClampNeg (vp_nar .boolean (1 : Int32))) z_33.1.toNatClampNeg (vp_nar .boolean (1 : Int32))) cbi ces cbl crt) := hD
        refine lv_aload_n hx hb d_PG_markKeysOf_38 rfl (lv_at hl 1 rfl) ?_
        refine va_get (D := G.1) (ci := 5) (C := R_PG) (T := F_PG) (N := 6) hx hb ht in_PG hown hK hP 12 rfl rfl 0 (by decide) (ht _ kf_PG_11) (fun _ h9 => h9) rfl d_PG_markKeysOf_39 ?_
        refine lv_bipush (v := (72 : Int32)) hx hb d_PG_markKeysOf_42 (by decide) ?_
        refine lv_iconst (v := (1 : Int32)) hx hb d_PG_markKeysOf_44 (by decide) ?_
        obtain ⟨hi_45, hok⟩ := hok
        refine va_zast hx hb hK hP hD hS 13 1 rfl rfl hi_45 d_PG_markKeysOf_45 (fun H locs hP hD hS => ?_)
        have hP : va_P G.1 classes (cC G ad nb nt cfa cle cwr csl cst cen cby cto csh cdz cch cva css cve cro crc (upd (upd (upd cma (x2 >>> ((3 : Int32) &&& 31)).toNatClampNeg (vp_nar .boolean (1 : Int32))) z_33.1.toNatClampNeg (vp_nar .boolean (1 : Int32))) (72 : Int32).toNatClampNeg (vp_nar .boolean (1 : Int32))) cbi ces cbl crt) H := hP
        have hD : va_D A (cC G ad nb nt cfa cle cwr csl cst cen cby cto csh cdz cch cva css cve cro crc (upd (upd (upd cma (x2 >>> ((3 : Int32) &&& 31)).toNatClampNeg (vp_nar .boolean (1 : Int32))) z_33.1.toNatClampNeg (vp_nar .boolean (1 : Int32))) (72 : Int32).toNatClampNeg (vp_nar .boolean (1 : Int32))) cbi ces cbl crt) := hD
        refine lv_iinc (v := x2 + (1 : Int32)) (lv' := [(2, .int (x2 + (1 : Int32))), (3, .int (x2 >>> ((3 : Int32) &&& 31))), (0, .ref (ad 12)), (1, .ref (ad 6))]) hx hb d_PG_markKeysOf_46 hl (k := 3) rfl rfl (by decide) rfl (fun ls hl => ?_)
        refine lv_goto (tgt := 2) hx hb d_PG_markKeysOf_49 (by decide) ?_
        exact ih (x2 + (1 : Int32)) (upd (upd (upd cma (x2 >>> ((3 : Int32) &&& 31)).toNatClampNeg (vp_nar .boolean (1 : Int32))) z_33.1.toNatClampNeg (vp_nar .boolean (1 : Int32))) (72 : Int32).toNatClampNeg (vp_nar .boolean (1 : Int32))) _ _ _ hok hres hP hD hS (lv_sub hl [2, 3, 0] rfl)
def f_PG_markKeysOf  (cch : (Nat → Int32)) (cma : (Nat → Int32)) : (Nat → Int32) := f_PG_markKeysOf_2 1024 (0 : Int32) cch cma
def ok_PG_markKeysOf (nb : Nat) (nt : Nat)  (cch : (Nat → Int32)) (cma : (Nat → Int32)) : Prop := ok_PG_markKeysOf_2 nb nt  1024 (0 : Int32) cch cma
set_option maxHeartbeats 4000000 in
set_option maxRecDepth 100000 in
theorem c_PG_markKeysOf {l : Launch} {G : GG} {ad : Nat → Nat} {nb : Nat} {nt : Nat} {sz : Nat} {cfa : Int32} {cle : Int32} {cwr : Int32} {csl : Int32} {cst : Int32} {cen : Int32} {cby : (Nat → Int32)} {cto : (Nat → Int32)} {csh : (Nat → Int32)} {cdz : Int32} {cch : (Nat → Int32)} {cva : (Nat → Int32)} {css : Int32} {cve : (Nat → Int32)} {cro : (Nat → Int32)} {crc : Int32} {cma : (Nat → Int32)} {cbi : (Nat → Int32)} {ces : (Nat → Int32)} {cbl : (Nat → Int32)} {crt : (Nat → Int32)}  (hok : ok_PG_markKeysOf nb nt cch cma) : CtV l y_PG_markKeysOf b_PG_markKeysOf 4 none rm_PG_markKeysOf G (cC G ad nb nt cfa cle cwr csl cst cen cby cto csh cdz cch cva css cve cro crc cma cbi ces cbl crt) sz [.ref (ad 12), .ref (ad 6)] (eqV (f_PG_markKeysOf cch cma)) (fun u : (Nat → Int32) => (cC G ad nb nt cfa cle cwr csl cst cen cby cto csh cdz cch cva css cve cro crc u cbi ces cbl crt)) := by
  generalize hres : f_PG_markKeysOf cch cma = res
  refine Met_of (Qc := fun A => va_Qv (eqV res) (Wb G A (fun u : (Nat → Int32) => (cC G ad nb nt cfa cle cwr csl cst cen cby cto csh cdz cch cva css cve cro crc u cbi ces cbl crt))) A) (by decide) (Nat.le_of_ble_eq_true rfl) ?_
  intro p e s m below meth c hadm hx hb hr hml hown hlocks ht hK A hA hP hD hS ls hl
  have hC : Cx p l e s m (([.ref (ad 12), .ref (ad 6)] : List Value)).toArray meth c y_PG_markKeysOf b_PG_markKeysOf 4 none "BookTrees$Pages" G A := ⟨hx, hb, hr, hml, hown, hlocks, ht, hK, hA⟩
  have hown : s.vm.findClass "BookTrees$Pages" = some m.cls := hown
  have hl : lv_has ls 4 [(0, .ref (ad 12)), (1, .ref (ad 6))] := hl
  rw [f_PG_markKeysOf] at hres
  rw [ok_PG_markKeysOf] at hok
  refine lv_iconst (v := (0 : Int32)) hx hb d_PG_markKeysOf_0 (by decide) ?_
  refine lv_istore_n (lv' := [(2, .int (0 : Int32)), (0, .ref (ad 12)), (1, .ref (ad 6))]) hx hb d_PG_markKeysOf_1 rfl hl (by decide) rfl (fun ls hl => ?_)
  exact w_PG_markKeysOf_2 hC 1024 (0 : Int32) cma _ _ _ hok hres hP hD hS (lv_sub hl [1, 2, 0] rfl)
/-! ===== BookTrees$Pages.kindOf(I)I ===== -/
abbrev rm_PG_kindOf : Room := { frames := 0, cells := 0, slots := 0, locals := 0 }
def f_PG_kindOf (p0 : Int32)  : Int32 × Unit := if p0 = (72 : Int32) then ((3 : Int32), ()) else if (64 : Int32) ≤ p0 then ((2 : Int32), ()) else ((1 : Int32), ())
set_option maxHeartbeats 4000000 in
set_option maxRecDepth 100000 in
theorem c_PG_kindOf {l : Launch} {G : GG} {ad : Nat → Nat} {nb : Nat} {nt : Nat} {sz : Nat} {cfa : Int32} {cle : Int32} {cwr : Int32} {csl : Int32} {cst : Int32} {cen : Int32} {cby : (Nat → Int32)} {cto : (Nat → Int32)} {csh : (Nat → Int32)} {cdz : Int32} {cch : (Nat → Int32)} {cva : (Nat → Int32)} {css : Int32} {cve : (Nat → Int32)} {cro : (Nat → Int32)} {crc : Int32} {cma : (Nat → Int32)} {cbi : (Nat → Int32)} {ces : (Nat → Int32)} {cbl : (Nat → Int32)} {crt : (Nat → Int32)} {p0 : Int32} : CtI l y_PG_kindOf b_PG_kindOf 1 (some .int) rm_PG_kindOf G (cC G ad nb nt cfa cle cwr csl cst cen cby cto csh cdz cch cva css cve cro crc cma cbi ces cbl crt) sz [.int p0] (eqP (f_PG_kindOf p0)) (fun _ : Unit => (cC G ad nb nt cfa cle cwr csl cst cen cby cto csh cdz cch cva css cve cro crc cma cbi ces cbl crt)) := by
  generalize hres : f_PG_kindOf p0 = res
  refine Met_of (Qc := fun A => va_Qi (eqP res) (Wb G A (fun _ : Unit => (cC G ad nb nt cfa cle cwr csl cst cen cby cto csh cdz cch cva css cve cro crc cma cbi ces cbl crt))) A) (by decide) (Nat.le_of_ble_eq_true rfl) ?_
  intro p e s m below meth c hadm hx hb hr hml hown hlocks ht hK A hA hP hD hS ls hl
  have hC : Cx p l e s m (([.int p0] : List Value)).toArray meth c y_PG_kindOf b_PG_kindOf 1 (some .int) "BookTrees$Pages" G A := ⟨hx, hb, hr, hml, hown, hlocks, ht, hK, hA⟩
  have hown : s.vm.findClass "BookTrees$Pages" = some m.cls := hown
  have hl : lv_has ls 1 [(0, .int p0)] := hl
  rw [f_PG_kindOf] at hres
  refine lv_iload_n hx hb d_PG_kindOf_0 rfl (lv_at hl 0 rfl) ?_
  refine lv_bipush (v := (72 : Int32)) hx hb d_PG_kindOf_1 (by decide) ?_
  refine lv_icmp_ne (tgt := 8) hx hb d_PG_kindOf_3 (by decide) (fun c_3 => ?_) (fun c_3 => ?_)
  · have hres := it_f c_3 hres
    refine lv_iload_n hx hb d_PG_kindOf_8 rfl (lv_at hl 0 rfl) ?_
    refine lv_bipush (v := (64 : Int32)) hx hb d_PG_kindOf_9 (by decide) ?_
    refine lv_icmp_ge (tgt := 18) hx hb d_PG_kindOf_11 (by decide) (fun c_11 => ?_) (fun c_11 => ?_)
    · have hres := it_t c_11 hres
      refine lv_iconst (v := (2 : Int32)) hx hb d_PG_kindOf_18 (by decide) ?_
      exact en_i (w1 := (fun _ : Unit => (cC G ad nb nt cfa cle cwr csl cst cen cby cto csh cdz cch cva css cve cro crc cma cbi ces cbl crt))) () hx hb hr hlocks hK hP hD hS hres d_PG_kindOf_19
    · have hres := it_f c_11 hres
      refine lv_iconst (v := (1 : Int32)) hx hb d_PG_kindOf_14 (by decide) ?_
      refine lv_goto (tgt := 19) hx hb d_PG_kindOf_15 (by decide) ?_
      exact en_i (w1 := (fun _ : Unit => (cC G ad nb nt cfa cle cwr csl cst cen cby cto csh cdz cch cva css cve cro crc cma cbi ces cbl crt))) () hx hb hr hlocks hK hP hD hS hres d_PG_kindOf_19
  · have hres := it_t c_3 hres
    refine lv_iconst (v := (3 : Int32)) hx hb d_PG_kindOf_6 (by decide) ?_
    exact en_i (w1 := (fun _ : Unit => (cC G ad nb nt cfa cle cwr csl cst cen cby cto csh cdz cch cva css cve cro crc cma cbi ces cbl crt))) () hx hb hr hlocks hK hP hD hS hres d_PG_kindOf_7
/-! ===== BookTrees$Pages.setEntry(IIZI)V ===== -/
abbrev rm_PG_setEntry : Room := { frames := 0, cells := 0, slots := 0, locals := 0 }
def f_PG_setEntry (p0 : Int32) (p1 : Int32) (p2 : Int32) (p3 : Int32) (cbi : (Nat → Int32)) (ces : (Nat → Int32)) : (Nat → Int32) × (Nat → Int32) := if p2 = 0 then (if p2 = 0 then (upd cbi p0.toNatClampNeg ((cbi p0.toNatClampNeg) &&& (((1 : Int32) <<< (p1 &&& 31)) ^^^ (-1 : Int32))), upd ces ((p0 * (8 : Int32)) + p1).toNatClampNeg (0 : Int32)) else (upd cbi p0.toNatClampNeg ((cbi p0.toNatClampNeg) &&& (((1 : Int32) <<< (p1 &&& 31)) ^^^ (-1 : Int32))), upd ces ((p0 * (8 : Int32)) + p1).toNatClampNeg p3)) else if p2 = 0 then (upd cbi p0.toNatClampNeg ((cbi p0.toNatClampNeg) ||| ((1 : Int32) <<< (p1 &&& 31))), upd ces ((p0 * (8 : Int32)) + p1).toNatClampNeg (0 : Int32)) else (upd cbi p0.toNatClampNeg ((cbi p0.toNatClampNeg) ||| ((1 : Int32) <<< (p1 &&& 31))), upd ces ((p0 * (8 : Int32)) + p1).toNatClampNeg p3)
def ok_PG_setEntry (nb : Nat) (nt : Nat) (p0 : Int32) (p1 : Int32) (p2 : Int32) (p3 : Int32) (cbi : (Nat → Int32)) (ces : (Nat → Int32)) : Prop := (p2 = 0 → vp_in p0 73 ∧ (vp_in p0 73 ∧ ((p2 = 0 → vp_in ((p0 * (8 : Int32)) + p1) 584) ∧ (¬ p2 = 0 → vp_in ((p0 * (8 : Int32)) + p1) 584)))) ∧ (¬ p2 = 0 → vp_in p0 73 ∧ (vp_in p0 73 ∧ ((p2 = 0 → vp_in ((p0 * (8 : Int32)) + p1) 584) ∧ (¬ p2 = 0 → vp_in ((p0 * (8 : Int32)) + p1) 584))))
set_option maxHeartbeats 4000000 in
set_option maxRecDepth 100000 in
theorem c_PG_setEntry {l : Launch} {G : GG} {ad : Nat → Nat} {nb : Nat} {nt : Nat} {sz : Nat} {cfa : Int32} {cle : Int32} {cwr : Int32} {csl : Int32} {cst : Int32} {cen : Int32} {cby : (Nat → Int32)} {cto : (Nat → Int32)} {csh : (Nat → Int32)} {cdz : Int32} {cch : (Nat → Int32)} {cva : (Nat → Int32)} {css : Int32} {cve : (Nat → Int32)} {cro : (Nat → Int32)} {crc : Int32} {cma : (Nat → Int32)} {cbi : (Nat → Int32)} {ces : (Nat → Int32)} {cbl : (Nat → Int32)} {crt : (Nat → Int32)} {p0 : Int32} {p1 : Int32} {p2 : Int32} {p3 : Int32} (hok : ok_PG_setEntry nb nt p0 p1 p2 p3 cbi ces) : CtV l y_PG_setEntry b_PG_setEntry 6 none rm_PG_setEntry G (cC G ad nb nt cfa cle cwr csl cst cen cby cto csh cdz cch cva css cve cro crc cma cbi ces cbl crt) sz [.ref (ad 12), .int p0, .int p1, .int p2, .int p3] (eqV (f_PG_setEntry p0 p1 p2 p3 cbi ces)) (fun u : (Nat → Int32) × (Nat → Int32) => (cC G ad nb nt cfa cle cwr csl cst cen cby cto csh cdz cch cva css cve cro crc cma u.1 u.2 cbl crt)) := by
  generalize hres : f_PG_setEntry p0 p1 p2 p3 cbi ces = res
  refine Met_of (Qc := fun A => va_Qv (eqV res) (Wb G A (fun u : (Nat → Int32) × (Nat → Int32) => (cC G ad nb nt cfa cle cwr csl cst cen cby cto csh cdz cch cva css cve cro crc cma u.1 u.2 cbl crt))) A) (by decide) (Nat.le_of_ble_eq_true rfl) ?_
  intro p e s m below meth c hadm hx hb hr hml hown hlocks ht hK A hA hP hD hS ls hl
  have hC : Cx p l e s m (([.ref (ad 12), .int p0, .int p1, .int p2, .int p3] : List Value)).toArray meth c y_PG_setEntry b_PG_setEntry 6 none "BookTrees$Pages" G A := ⟨hx, hb, hr, hml, hown, hlocks, ht, hK, hA⟩
  have hown : s.vm.findClass "BookTrees$Pages" = some m.cls := hown
  have hl : lv_has ls 6 [(0, .ref (ad 12)), (1, .int p0), (2, .int p1), (3, .int p2), (4, .int p3)] := hl
  rw [f_PG_setEntry] at hres
  rw [ok_PG_setEntry] at hok
  refine lv_iconst (v := (1 : Int32)) hx hb d_PG_setEntry_0 (by decide) ?_
  refine lv_iload_n hx hb d_PG_setEntry_1 rfl (lv_at hl 2 rfl) ?_
  refine lv_ishl hx hb d_PG_setEntry_2 ?_
  refine lv_istore (lv' := [(5, .int ((1 : Int32) <<< (p1 &&& 31))), (0, .ref (ad 12)), (1, .int p0), (2, .int p1), (3, .int p2), (4, .int p3)]) hx hb d_PG_setEntry_3 hl (by decide) rfl (fun ls hl => ?_)
  refine lv_aload_n hx hb d_PG_setEntry_5 rfl (lv_at hl 1 rfl) ?_
  refine va_get (D := G.1) (ci := 5) (C := R_PG) (T := F_PG) (N := 6) hx hb ht in_PG hown hK hP 12 rfl rfl 1 (by decide) (ht _ kf_PG_15) (fun _ h9 => h9) rfl d_PG_setEntry_6 ?_
  refine lv_iload_n hx hb d_PG_setEntry_9 rfl (lv_at hl 2 rfl) ?_
  refine lv_iload_n hx hb d_PG_setEntry_10 rfl (lv_at hl 4 rfl) ?_
  refine lv_if_eq (tgt := 26) hx hb d_PG_setEntry_11 (by decide) (fun c_11 => ?_) (fun c_11 => ?_)
  · have hres := it_t c_11 hres
    have hok := hok.1 c_11
    refine lv_aload_n hx hb d_PG_setEntry_26 rfl (lv_at hl 1 rfl) ?_
    refine va_get (D := G.1) (ci := 5) (C := R_PG) (T := F_PG) (N := 6) hx hb ht in_PG hown hK hP 12 rfl rfl 1 (by decide) (ht _ kf_PG_15) (fun _ h9 => h9) rfl d_PG_setEntry_27 ?_
    refine lv_iload_n hx hb d_PG_setEntry_30 rfl (lv_at hl 2 rfl) ?_
    obtain ⟨hi_31, hok⟩ := hok
    refine va_iald hx hb hK hP 14 0 rfl rfl hi_31 d_PG_setEntry_31 ?_
    refine lv_iload hx hb d_PG_setEntry_32 (lv_at hl 0 rfl) ?_
    refine lv_iconst (v := (-1 : Int32)) hx hb d_PG_setEntry_34 (by decide) ?_
    refine lv_ixor hx hb d_PG_setEntry_35 ?_
    refine lv_iand hx hb d_PG_setEntry_36 ?_
    obtain ⟨hi_37, hok⟩ := hok
    refine va_iast hx hb hK hP hD hS 14 0 rfl rfl hi_37 d_PG_setEntry_37 (fun H locs hP hD hS => ?_)
    have hP : va_P G.1 classes (cC G ad nb nt cfa cle cwr csl cst cen cby cto csh cdz cch cva css cve cro crc cma (upd cbi p0.toNatClampNeg ((cbi p0.toNatClampNeg) &&& (((1 : Int32) <<< (p1 &&& 31)) ^^^ (-1 : Int32)))) ces cbl crt) H := hP
    have hD : va_D A (cC G ad nb nt cfa cle cwr csl cst cen cby cto csh cdz cch cva css cve cro crc cma (upd cbi p0.toNatClampNeg ((cbi p0.toNatClampNeg) &&& (((1 : Int32) <<< (p1 &&& 31)) ^^^ (-1 : Int32)))) ces cbl crt) := hD
    refine lv_aload_n hx hb d_PG_setEntry_38 rfl (lv_at hl 1 rfl) ?_
    refine va_get (D := G.1) (ci := 5) (C := R_PG) (T := F_PG) (N := 6) hx hb ht in_PG hown hK hP 12 rfl rfl 2 (by decide) (ht _ kf_PG_19) (fun _ h9 => h9) rfl d_PG_setEntry_39 ?_
    refine lv_iload_n hx hb d_PG_setEntry_42 rfl (lv_at hl 2 rfl) ?_
    refine lv_bipush (v := (8 : Int32)) hx hb d_PG_setEntry_43 (by decide) ?_
    refine lv_imul hx hb d_PG_setEntry_45 ?_
    refine lv_iload_n hx hb d_PG_setEntry_46 rfl (lv_at hl 3 rfl) ?_
    refine lv_iadd hx hb d_PG_setEntry_47 ?_
    refine lv_iload_n hx hb d_PG_setEntry_48 rfl (lv_at hl 4 rfl) ?_
    refine lv_if_eq (tgt := 57) hx hb d_PG_setEntry_49 (by decide) (fun c_49 => ?_) (fun c_49 => ?_)
    · have hres := it_t c_49 hres
      have hok := hok.1 c_49
      refine lv_iconst (v := (0 : Int32)) hx hb d_PG_setEntry_57 (by decide) ?_
      have hi_58 := hok
      refine va_iast hx hb hK hP hD hS 15 0 rfl rfl hi_58 d_PG_setEntry_58 (fun H locs hP hD hS => ?_)
      have hP : va_P G.1 classes (cC G ad nb nt cfa cle cwr csl cst cen cby cto csh cdz cch cva css cve cro crc cma (upd cbi p0.toNatClampNeg ((cbi p0.toNatClampNeg) &&& (((1 : Int32) <<< (p1 &&& 31)) ^^^ (-1 : Int32)))) (upd ces ((p0 * (8 : Int32)) + p1).toNatClampNeg (0 : Int32)) cbl crt) H := hP
      have hD : va_D A (cC G ad nb nt cfa cle cwr csl cst cen cby cto csh cdz cch cva css cve cro crc cma (upd cbi p0.toNatClampNeg ((cbi p0.toNatClampNeg) &&& (((1 : Int32) <<< (p1 &&& 31)) ^^^ (-1 : Int32)))) (upd ces ((p0 * (8 : Int32)) + p1).toNatClampNeg (0 : Int32)) cbl crt) := hD
      exact en_v (w1 := (fun u : (Nat → Int32) × (Nat → Int32) => (cC G ad nb nt cfa cle cwr csl cst cen cby cto csh cdz cch cva css cve cro crc cma u.1 u.2 cbl crt))) (upd cbi p0.toNatClampNeg ((cbi p0.toNatClampNeg) &&& (((1 : Int32) <<< (p1 &&& 31)) ^^^ (-1 : Int32))), upd ces ((p0 * (8 : Int32)) + p1).toNatClampNeg (0 : Int32)) hx hb hr hlocks hK hP hD hS hres d_PG_setEntry_59
    · have hres := it_f c_49 hres
      have hok := hok.2 c_49
      refine lv_iload hx hb d_PG_setEntry_52 (lv_at hl 5 rfl) ?_
      refine lv_goto (tgt := 58) hx hb d_PG_setEntry_54 (by decide) ?_
      have hi_58 := hok
      refine va_iast hx hb hK hP hD hS 15 0 rfl rfl hi_58 d_PG_setEntry_58 (fun H locs hP hD hS => ?_)
      have hP : va_P G.1 classes (cC G ad nb nt cfa cle cwr csl cst cen cby cto csh cdz cch cva css cve cro crc cma (upd cbi p0.toNatClampNeg ((cbi p0.toNatClampNeg) &&& (((1 : Int32) <<< (p1 &&& 31)) ^^^ (-1 : Int32)))) (upd ces ((p0 * (8 : Int32)) + p1).toNatClampNeg p3) cbl crt) H := hP
      have hD : va_D A (cC G ad nb nt cfa cle cwr csl cst cen cby cto csh cdz cch cva css cve cro crc cma (upd cbi p0.toNatClampNeg ((cbi p0.toNatClampNeg) &&& (((1 : Int32) <<< (p1 &&& 31)) ^^^ (-1 : Int32)))) (upd ces ((p0 * (8 : Int32)) + p1).toNatClampNeg p3) cbl crt) := hD
      exact en_v (w1 := (fun u : (Nat → Int32) × (Nat → Int32) => (cC G ad nb nt cfa cle cwr csl cst cen cby cto csh cdz cch cva css cve cro crc cma u.1 u.2 cbl crt))) (upd cbi p0.toNatClampNeg ((cbi p0.toNatClampNeg) &&& (((1 : Int32) <<< (p1 &&& 31)) ^^^ (-1 : Int32))), upd ces ((p0 * (8 : Int32)) + p1).toNatClampNeg p3) hx hb hr hlocks hK hP hD hS hres d_PG_setEntry_59
  · have hres := it_f c_11 hres
    have hok := hok.2 c_11
    refine lv_aload_n hx hb d_PG_setEntry_14 rfl (lv_at hl 1 rfl) ?_
    refine va_get (D := G.1) (ci := 5) (C := R_PG) (T := F_PG) (N := 6) hx hb ht in_PG hown hK hP 12 rfl rfl 1 (by decide) (ht _ kf_PG_15) (fun _ h9 => h9) rfl d_PG_setEntry_15 ?_
    refine lv_iload_n hx hb d_PG_setEntry_18 rfl (lv_at hl 2 rfl) ?_
    obtain ⟨hi_19, hok⟩ := hok
    refine va_iald hx hb hK hP 14 0 rfl rfl hi_19 d_PG_setEntry_19 ?_
    refine lv_iload hx hb d_PG_setEntry_20 (lv_at hl 0 rfl) ?_
    refine lv_ior hx hb d_PG_setEntry_22 ?_
    refine lv_goto (tgt := 37) hx hb d_PG_setEntry_23 (by decide) ?_
    obtain ⟨hi_37, hok⟩ := hok
    refine va_iast hx hb hK hP hD hS 14 0 rfl rfl hi_37 d_PG_setEntry_37 (fun H locs hP hD hS => ?_)
    have hP : va_P G.1 classes (cC G ad nb nt cfa cle cwr csl cst cen cby cto csh cdz cch cva css cve cro crc cma (upd cbi p0.toNatClampNeg ((cbi p0.toNatClampNeg) ||| ((1 : Int32) <<< (p1 &&& 31)))) ces cbl crt) H := hP
    have hD : va_D A (cC G ad nb nt cfa cle cwr csl cst cen cby cto csh cdz cch cva css cve cro crc cma (upd cbi p0.toNatClampNeg ((cbi p0.toNatClampNeg) ||| ((1 : Int32) <<< (p1 &&& 31)))) ces cbl crt) := hD
    refine lv_aload_n hx hb d_PG_setEntry_38 rfl (lv_at hl 1 rfl) ?_
    refine va_get (D := G.1) (ci := 5) (C := R_PG) (T := F_PG) (N := 6) hx hb ht in_PG hown hK hP 12 rfl rfl 2 (by decide) (ht _ kf_PG_19) (fun _ h9 => h9) rfl d_PG_setEntry_39 ?_
    refine lv_iload_n hx hb d_PG_setEntry_42 rfl (lv_at hl 2 rfl) ?_
    refine lv_bipush (v := (8 : Int32)) hx hb d_PG_setEntry_43 (by decide) ?_
    refine lv_imul hx hb d_PG_setEntry_45 ?_
    refine lv_iload_n hx hb d_PG_setEntry_46 rfl (lv_at hl 3 rfl) ?_
    refine lv_iadd hx hb d_PG_setEntry_47 ?_
    refine lv_iload_n hx hb d_PG_setEntry_48 rfl (lv_at hl 4 rfl) ?_
    refine lv_if_eq (tgt := 57) hx hb d_PG_setEntry_49 (by decide) (fun c_49 => ?_) (fun c_49 => ?_)
    · have hres := it_t c_49 hres
      have hok := hok.1 c_49
      refine lv_iconst (v := (0 : Int32)) hx hb d_PG_setEntry_57 (by decide) ?_
      have hi_58 := hok
      refine va_iast hx hb hK hP hD hS 15 0 rfl rfl hi_58 d_PG_setEntry_58 (fun H locs hP hD hS => ?_)
      have hP : va_P G.1 classes (cC G ad nb nt cfa cle cwr csl cst cen cby cto csh cdz cch cva css cve cro crc cma (upd cbi p0.toNatClampNeg ((cbi p0.toNatClampNeg) ||| ((1 : Int32) <<< (p1 &&& 31)))) (upd ces ((p0 * (8 : Int32)) + p1).toNatClampNeg (0 : Int32)) cbl crt) H := hP
      have hD : va_D A (cC G ad nb nt cfa cle cwr csl cst cen cby cto csh cdz cch cva css cve cro crc cma (upd cbi p0.toNatClampNeg ((cbi p0.toNatClampNeg) ||| ((1 : Int32) <<< (p1 &&& 31)))) (upd ces ((p0 * (8 : Int32)) + p1).toNatClampNeg (0 : Int32)) cbl crt) := hD
      exact en_v (w1 := (fun u : (Nat → Int32) × (Nat → Int32) => (cC G ad nb nt cfa cle cwr csl cst cen cby cto csh cdz cch cva css cve cro crc cma u.1 u.2 cbl crt))) (upd cbi p0.toNatClampNeg ((cbi p0.toNatClampNeg) ||| ((1 : Int32) <<< (p1 &&& 31))), upd ces ((p0 * (8 : Int32)) + p1).toNatClampNeg (0 : Int32)) hx hb hr hlocks hK hP hD hS hres d_PG_setEntry_59
    · have hres := it_f c_49 hres
      have hok := hok.2 c_49
      refine lv_iload hx hb d_PG_setEntry_52 (lv_at hl 5 rfl) ?_
      refine lv_goto (tgt := 58) hx hb d_PG_setEntry_54 (by decide) ?_
      have hi_58 := hok
      refine va_iast hx hb hK hP hD hS 15 0 rfl rfl hi_58 d_PG_setEntry_58 (fun H locs hP hD hS => ?_)
      have hP : va_P G.1 classes (cC G ad nb nt cfa cle cwr csl cst cen cby cto csh cdz cch cva css cve cro crc cma (upd cbi p0.toNatClampNeg ((cbi p0.toNatClampNeg) ||| ((1 : Int32) <<< (p1 &&& 31)))) (upd ces ((p0 * (8 : Int32)) + p1).toNatClampNeg p3) cbl crt) H := hP
      have hD : va_D A (cC G ad nb nt cfa cle cwr csl cst cen cby cto csh cdz cch cva css cve cro crc cma (upd cbi p0.toNatClampNeg ((cbi p0.toNatClampNeg) ||| ((1 : Int32) <<< (p1 &&& 31)))) (upd ces ((p0 * (8 : Int32)) + p1).toNatClampNeg p3) cbl crt) := hD
      exact en_v (w1 := (fun u : (Nat → Int32) × (Nat → Int32) => (cC G ad nb nt cfa cle cwr csl cst cen cby cto csh cdz cch cva css cve cro crc cma u.1 u.2 cbl crt))) (upd cbi p0.toNatClampNeg ((cbi p0.toNatClampNeg) ||| ((1 : Int32) <<< (p1 &&& 31))), upd ces ((p0 * (8 : Int32)) + p1).toNatClampNeg p3) hx hb hr hlocks hK hP hD hS hres d_PG_setEntry_59
/-! ===== BookTrees$Pages.readPage(LBookTrees$Roll;II)Z ===== -/
abbrev rm_PG_readPage : Room := { frames := 4, cells := 0, slots := 0, locals := 93 }
def f_PG_readPage_17 : Nat → Int32 → Int32 → Int32 → Int32 → Int32 → Int32 → (Nat → Int32) → (Nat → Int32) → (Nat → Int32) → (Nat → Int32) → Int32 × (Nat → Int32) × (Nat → Int32)
  | 0, x2, x3, x4, csl, cst, cen, cby, cto, cbi, ces => (0, (cbi, ces))
  | n + 1, x2, x3, x4, csl, cst, cen, cby, cto, cbi, ces => if (8 : Int32) ≤ x4 then ((1 : Int32), (cbi, ces)) else bindc (f_RL_hasBit x3 x4 csl cby) (fun z_32 => bindc (f_RL_entryOf x3 x4 csl cby) (fun z_39 => bindc (f_PG_setEntry x2 x4 z_32.1 z_39.1 cbi ces) (fun z_42 => f_PG_readPage_17 n x2 x3 (x4 + (1 : Int32)) csl cst cen cby cto z_42.1 z_42.2)))
def ok_PG_readPage_17 (nb : Nat) (nt : Nat) : Nat → Int32 → Int32 → Int32 → Int32 → Int32 → Int32 → (Nat → Int32) → (Nat → Int32) → (Nat → Int32) → (Nat → Int32) → Prop
  | 0, _, _, _, _, _, _, _, _, _, _ => False
  | n + 1, x2, x3, x4, csl, cst, cen, cby, cto, cbi, ces => ((8 : Int32) ≤ x4 → True) ∧ (¬ (8 : Int32) ≤ x4 → ok_RL_hasBit nb nt x3 x4 csl cby ∧ bindp (f_RL_hasBit x3 x4 csl cby) (fun z_32 => ok_RL_entryOf nb nt x3 x4 csl cby ∧ bindp (f_RL_entryOf x3 x4 csl cby) (fun z_39 => ok_PG_setEntry nb nt x2 x4 z_32.1 z_39.1 cbi ces ∧ bindp (f_PG_setEntry x2 x4 z_32.1 z_39.1 cbi ces) (fun z_42 => ok_PG_readPage_17 nb nt  n x2 x3 (x4 + (1 : Int32)) csl cst cen cby cto z_42.1 z_42.2))))
set_option maxHeartbeats 4000000 in
set_option maxRecDepth 100000 in
theorem w_PG_readPage_17 {p : Program} {l : Launch} {e : Env} {s : State} {m : MethodId} {args : Array Value} {below : List Frame} {meth : Method} {c : Code} {A : Nat → Prop} {G : GG} {ad : Nat → Nat} {nb : Nat} {nt : Nat} {cfa : Int32} {cle : Int32} {cwr : Int32} {csl : Int32} {cst : Int32} {cen : Int32} {cby : (Nat → Int32)} {cto : (Nat → Int32)} {csh : (Nat → Int32)} {cdz : Int32} {cch : (Nat → Int32)} {cva : (Nat → Int32)} {css : Int32} {cve : (Nat → Int32)} {cro : (Nat → Int32)} {crc : Int32} {cma : (Nat → Int32)} {cbl : (Nat → Int32)} {crt : (Nat → Int32)} {res : Int32 × (Nat → Int32) × (Nat → Int32)} (hC : Cx p l e s m args meth c y_PG_readPage b_PG_readPage 5 (some .boolean) "BookTrees$Pages" G A) : ∀ (n : Nat) (x2 : Int32) (x3 : Int32) (x4 : Int32) (cbi : (Nat → Int32)) (ces : (Nat → Int32)) (H : Heap) (locs : List Loc) (ls : Array Slot), ok_PG_readPage_17 nb nt n x2 x3 x4 csl cst cen cby cto cbi ces → f_PG_readPage_17 n x2 x3 x4 csl cst cen cby cto cbi ces = res → va_P G.1 classes (cC G ad nb nt cfa cle cwr csl cst cen cby cto csh cdz cch cva css cve cro crc cma cbi ces cbl crt) H → va_D A (cC G ad nb nt cfa cle cwr csl cst cen cby cto csh cdz cch cva css cve cro crc cma cbi ces cbl crt) → va_S A s.heap H locs → lv_has ls 5 [(0, .ref (ad 12)), (1, .ref (ad 2)), (2, .int x2), (3, .int x3), (4, .int x4)] → W p l e rm_PG_readPage s m args below meth c H locs 0 0 (MQ below (va_Qi (eqP res) (Wb G A (fun u : (Nat → Int32) × (Nat → Int32) => (cC G ad nb nt cfa cle cwr csl cst cen cby cto csh cdz cch cva css cve cro crc cma u.1 u.2 cbl crt))) A) args s 0 0 A) (F0 m 17 ls []) := by
  obtain ⟨hx, hb, hr, hml, hown, hlocks, ht, hK, hA⟩ := id hC
  intro n
  induction n with
  | zero => intro x2 x3 x4 cbi ces H locs ls hok; exact hok.elim
  | succ n ih =>
    intro x2 x3 x4 cbi ces H locs ls hok hres hP hD hS hl
    rw [f_PG_readPage_17] at hres
    rw [ok_PG_readPage_17] at hok
    refine lv_iload hx hb d_PG_readPage_17 (lv_at hl 4 rfl) ?_
    refine lv_bipush (v := (8 : Int32)) hx hb d_PG_readPage_19 (by decide) ?_
    refine lv_icmp_ge (tgt := 51) hx hb d_PG_readPage_21 (by decide) (fun c_21 => ?_) (fun c_21 => ?_)
    · have hres := it_t c_21 hres
      refine lv_iconst (v := (1 : Int32)) hx hb d_PG_readPage_51 (by decide) ?_
      exact en_z (w1 := (fun u : (Nat → Int32) × (Nat → Int32) => (cC G ad nb nt cfa cle cwr csl cst cen cby cto csh cdz cch cva css cve cro crc cma u.1 u.2 cbl crt))) (cbi, ces) hx hb hr hlocks hK hP hD hS hres isB_1 d_PG_readPage_52
    · have hres := it_f c_21 hres
      have hok := hok.2 c_21
      refine lv_aload_n hx hb d_PG_readPage_24 rfl (lv_at hl 0 rfl) ?_
      refine lv_iload_n hx hb d_PG_readPage_25 rfl (lv_at hl 2 rfl) ?_
      refine lv_iload hx hb d_PG_readPage_26 (lv_at hl 4 rfl) ?_
      refine lv_aload_n hx hb d_PG_readPage_28 rfl (lv_at hl 1 rfl) ?_
      refine lv_iload_n hx hb d_PG_readPage_29 rfl (lv_at hl 3 rfl) ?_
      refine lv_iload hx hb d_PG_readPage_30 (lv_at hl 4 rfl) ?_
      obtain ⟨hk_32, hok⟩ := hok
      refine go_iz (run_V hx hb hml hown ht hK hP hD (c_RL_hasBit hk_32) (cw_V ht km_PG_52 ki_RL_hasBit ks_RL_hasBit ini_RL kd_RL_hasBit kh_RL_hasBit ⟨Nat.le_of_ble_eq_true rfl, Nat.le_of_ble_eq_true rfl⟩ rfl rfl) (q0 := 2) (ci := 2) (As := [.int x3, .int x4]) (rest := [.int x4, .int x2, .ref (ad 12)]) rfl rfl rfl hl.1 rfl (Nat.le_of_ble_eq_true rfl) d_PG_readPage_32 ⟨Nat.zero_le _, Nat.zero_le _⟩) hD hS hA (fun z_32 H locs hz_32 hP hD hS => ?_)
      have hres := bindc_eq hz_32 hres
      have hok := bindp_eq hz_32 hok
      have hP : va_P G.1 classes (cC G ad nb nt cfa cle cwr csl cst cen cby cto csh cdz cch cva css cve cro crc cma cbi ces cbl crt) H := hP
      have hD : va_D A (cC G ad nb nt cfa cle cwr csl cst cen cby cto csh cdz cch cva css cve cro crc cma cbi ces cbl crt) := hD
      refine lv_aload_n hx hb d_PG_readPage_35 rfl (lv_at hl 1 rfl) ?_
      refine lv_iload_n hx hb d_PG_readPage_36 rfl (lv_at hl 3 rfl) ?_
      refine lv_iload hx hb d_PG_readPage_37 (lv_at hl 4 rfl) ?_
      obtain ⟨hk_39, hok⟩ := hok
      refine go_iz (run_V hx hb hml hown ht hK hP hD (c_RL_entryOf hk_39) (cw_V ht km_PG_48 ki_RL_entryOf ks_RL_entryOf ini_RL kd_RL_entryOf kh_RL_entryOf ⟨Nat.le_of_ble_eq_true rfl, Nat.le_of_ble_eq_true rfl⟩ rfl rfl) (q0 := 2) (ci := 2) (As := [.int x3, .int x4]) (rest := [.int z_32.1, .int x4, .int x2, .ref (ad 12)]) rfl rfl rfl hl.1 rfl (Nat.le_of_ble_eq_true rfl) d_PG_readPage_39 ⟨Nat.zero_le _, Nat.zero_le _⟩) hD hS hA (fun z_39 H locs hz_39 hP hD hS => ?_)
      have hres := bindc_eq hz_39 hres
      have hok := bindp_eq hz_39 hok
      have hP : va_P G.1 classes (cC G ad nb nt cfa cle cwr csl cst cen cby cto csh cdz cch cva css cve cro crc cma cbi ces cbl crt) H := hP
      have hD : va_D A (cC G ad nb nt cfa cle cwr csl cst cen cby cto csh cdz cch cva css cve cro crc cma cbi ces cbl crt) := hD
      obtain ⟨hk_42, hok⟩ := hok
      refine go_vz (run_V hx hb hml hown ht hK hP hD (c_PG_setEntry hk_42) (cw_V ht km_PG_74 ki_PG_setEntry ks_PG_setEntry ini_PG kd_PG_setEntry kh_PG_setEntry ⟨Nat.le_of_ble_eq_true rfl, Nat.le_of_ble_eq_true rfl⟩ rfl rfl) (q0 := 12) (ci := 5) (As := [.int x2, .int x4, .int z_32.1, .int z_39.1]) (rest := []) rfl rfl rfl hl.1 rfl (Nat.le_of_ble_eq_true rfl) d_PG_readPage_42 ⟨Nat.zero_le _, Nat.zero_le _⟩) hD hS hA (fun z_42 H locs hz_42 hP hD hS => ?_)
      have hres := bindc_eq hz_42 hres
      have hok := bindp_eq hz_42 hok
      have hP : va_P G.1 classes (cC G ad nb nt cfa cle cwr csl cst cen cby cto csh cdz cch cva css cve cro crc cma z_42.1 z_42.2 cbl crt) H := hP
      have hD : va_D A (cC G ad nb nt cfa cle cwr csl cst cen cby cto csh cdz cch cva css cve cro crc cma z_42.1 z_42.2 cbl crt) := hD
      refine lv_iinc (v := x4 + (1 : Int32)) (lv' := [(4, .int (x4 + (1 : Int32))), (0, .ref (ad 12)), (1, .ref (ad 2)), (2, .int x2), (3, .int x3)]) hx hb d_PG_readPage_45 hl (k := 4) rfl rfl (by decide) rfl (fun ls hl => ?_)
      refine lv_goto (tgt := 17) hx hb d_PG_readPage_48 (by decide) ?_
      exact ih x2 x3 (x4 + (1 : Int32)) z_42.1 z_42.2 _ _ _ hok hres hP hD hS (lv_sub hl [1, 2, 3, 4, 0] rfl)
def f_PG_readPage (p0 : Int32) (p1 : Int32) (csl : Int32) (cst : Int32) (cen : Int32) (cby : (Nat → Int32)) (cto : (Nat → Int32)) (cbi : (Nat → Int32)) (ces : (Nat → Int32)) : Int32 × (Nat → Int32) × (Nat → Int32) := bindc (f_PG_kindOf p0) (fun z_3 => bindc (f_RL_isBad p1 z_3.1 csl cst cen cby cto) (fun z_6 => if z_6.1 = 0 then f_PG_readPage_17 1024 p0 p1 (0 : Int32) csl cst cen cby cto cbi ces else ((0 : Int32), (cbi, ces))))
def ok_PG_readPage (nb : Nat) (nt : Nat) (p0 : Int32) (p1 : Int32) (csl : Int32) (cst : Int32) (cen : Int32) (cby : (Nat → Int32)) (cto : (Nat → Int32)) (cbi : (Nat → Int32)) (ces : (Nat → Int32)) : Prop := bindp (f_PG_kindOf p0) (fun z_3 => ok_RL_isBad nb nt p1 z_3.1 csl cst cen cby cto ∧ bindp (f_RL_isBad p1 z_3.1 csl cst cen cby cto) (fun z_6 => (z_6.1 = 0 → ok_PG_readPage_17 nb nt  1024 p0 p1 (0 : Int32) csl cst cen cby cto cbi ces) ∧ (¬ z_6.1 = 0 → True)))
set_option maxHeartbeats 4000000 in
set_option maxRecDepth 100000 in
theorem c_PG_readPage {l : Launch} {G : GG} {ad : Nat → Nat} {nb : Nat} {nt : Nat} {sz : Nat} {cfa : Int32} {cle : Int32} {cwr : Int32} {csl : Int32} {cst : Int32} {cen : Int32} {cby : (Nat → Int32)} {cto : (Nat → Int32)} {csh : (Nat → Int32)} {cdz : Int32} {cch : (Nat → Int32)} {cva : (Nat → Int32)} {css : Int32} {cve : (Nat → Int32)} {cro : (Nat → Int32)} {crc : Int32} {cma : (Nat → Int32)} {cbi : (Nat → Int32)} {ces : (Nat → Int32)} {cbl : (Nat → Int32)} {crt : (Nat → Int32)} {p0 : Int32} {p1 : Int32} (hok : ok_PG_readPage nb nt p0 p1 csl cst cen cby cto cbi ces) : CtI l y_PG_readPage b_PG_readPage 5 (some .boolean) rm_PG_readPage G (cC G ad nb nt cfa cle cwr csl cst cen cby cto csh cdz cch cva css cve cro crc cma cbi ces cbl crt) sz [.ref (ad 12), .ref (ad 2), .int p0, .int p1] (eqP (f_PG_readPage p0 p1 csl cst cen cby cto cbi ces)) (fun u : (Nat → Int32) × (Nat → Int32) => (cC G ad nb nt cfa cle cwr csl cst cen cby cto csh cdz cch cva css cve cro crc cma u.1 u.2 cbl crt)) := by
  generalize hres : f_PG_readPage p0 p1 csl cst cen cby cto cbi ces = res
  refine Met_of (Qc := fun A => va_Qi (eqP res) (Wb G A (fun u : (Nat → Int32) × (Nat → Int32) => (cC G ad nb nt cfa cle cwr csl cst cen cby cto csh cdz cch cva css cve cro crc cma u.1 u.2 cbl crt))) A) (by decide) (Nat.le_of_ble_eq_true rfl) ?_
  intro p e s m below meth c hadm hx hb hr hml hown hlocks ht hK A hA hP hD hS ls hl
  have hC : Cx p l e s m (([.ref (ad 12), .ref (ad 2), .int p0, .int p1] : List Value)).toArray meth c y_PG_readPage b_PG_readPage 5 (some .boolean) "BookTrees$Pages" G A := ⟨hx, hb, hr, hml, hown, hlocks, ht, hK, hA⟩
  have hown : s.vm.findClass "BookTrees$Pages" = some m.cls := hown
  have hl : lv_has ls 5 [(0, .ref (ad 12)), (1, .ref (ad 2)), (2, .int p0), (3, .int p1)] := hl
  rw [f_PG_readPage] at hres
  rw [ok_PG_readPage] at hok
  refine lv_aload_n hx hb d_PG_readPage_0 rfl (lv_at hl 1 rfl) ?_
  refine lv_iload_n hx hb d_PG_readPage_1 rfl (lv_at hl 3 rfl) ?_
  refine lv_iload_n hx hb d_PG_readPage_2 rfl (lv_at hl 2 rfl) ?_
  refine go_iz (run_S hx hb hml hown ht hK hP hD (c_PG_kindOf) (cw_S ht km_PG_78 kt_PG_kindOf ini_PG kd_PG_kindOf kh_PG_kindOf ⟨Nat.le_of_ble_eq_true rfl, Nat.le_of_ble_eq_true rfl⟩ rfl rfl) (As := [.int p0]) (rest := [.int p1, .ref (ad 2)]) rfl hl.1 rfl (Nat.le_of_ble_eq_true rfl) d_PG_readPage_3 ⟨Nat.zero_le _, Nat.zero_le _⟩) hD hS hA (fun z_3 H locs hz_3 hP hD hS => ?_)
  have hres := bindc_eq hz_3 hres
  have hok := bindp_eq hz_3 hok
  have hP : va_P G.1 classes (cC G ad nb nt cfa cle cwr csl cst cen cby cto csh cdz cch cva css cve cro crc cma cbi ces cbl crt) H := hP
  have hD : va_D A (cC G ad nb nt cfa cle cwr csl cst cen cby cto csh cdz cch cva css cve cro crc cma cbi ces cbl crt) := hD
  obtain ⟨hk_6, hok⟩ := hok
  refine go_iz (run_V hx hb hml hown ht hK hP hD (c_RL_isBad hk_6) (cw_V ht km_PG_42 ki_RL_isBad ks_RL_isBad ini_RL kd_RL_isBad kh_RL_isBad ⟨Nat.le_of_ble_eq_true rfl, Nat.le_of_ble_eq_true rfl⟩ rfl rfl) (q0 := 2) (ci := 2) (As := [.int p1, .int z_3.1]) (rest := []) rfl rfl rfl hl.1 rfl (Nat.le_of_ble_eq_true rfl) d_PG_readPage_6 ⟨Nat.zero_le _, Nat.zero_le _⟩) hD hS hA (fun z_6 H locs hz_6 hP hD hS => ?_)
  have hres := bindc_eq hz_6 hres
  have hok := bindp_eq hz_6 hok
  have hP : va_P G.1 classes (cC G ad nb nt cfa cle cwr csl cst cen cby cto csh cdz cch cva css cve cro crc cma cbi ces cbl crt) H := hP
  have hD : va_D A (cC G ad nb nt cfa cle cwr csl cst cen cby cto csh cdz cch cva css cve cro crc cma cbi ces cbl crt) := hD
  refine lv_if_eq (tgt := 14) hx hb d_PG_readPage_9 (by decide) (fun c_9 => ?_) (fun c_9 => ?_)
  · have hres := it_t c_9 hres
    have hok := hok.1 c_9
    refine lv_iconst (v := (0 : Int32)) hx hb d_PG_readPage_14 (by decide) ?_
    refine lv_istore (lv' := [(4, .int (0 : Int32)), (0, .ref (ad 12)), (1, .ref (ad 2)), (2, .int p0), (3, .int p1)]) hx hb d_PG_readPage_15 hl (by decide) rfl (fun ls hl => ?_)
    exact w_PG_readPage_17 hC 1024 p0 p1 (0 : Int32) cbi ces _ _ _ hok hres hP hD hS (lv_sub hl [1, 2, 3, 4, 0] rfl)
  · have hres := it_f c_9 hres
    refine lv_iconst (v := (0 : Int32)) hx hb d_PG_readPage_12 (by decide) ?_
    exact en_z (w1 := (fun u : (Nat → Int32) × (Nat → Int32) => (cC G ad nb nt cfa cle cwr csl cst cen cby cto csh cdz cch cva css cve cro crc cma u.1 u.2 cbl crt))) (cbi, ces) hx hb hr hlocks hK hP hD hS hres isB_0 d_PG_readPage_13
