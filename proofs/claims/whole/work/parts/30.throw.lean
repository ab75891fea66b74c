/-! the two methods that throw, and the public methods through them -/
def excOf (k : Nat) : String := if k = 1 then IAE else ISE
theorem ins_IAE : Cond.instantiable IAE 6 ∈ lw_g := gw (List.mem_of_getElem? (i := 324) (by decide +kernel)) rfl
theorem ins_ISE : Cond.instantiable ISE 6 ∈ lw_g := gw (List.mem_of_getElem? (i := 394) (by decide +kernel)) rfl
theorem ini_IAE : Cond.initialized IAE ∈ lw_g := gw (List.mem_of_getElem? (i := 66) (by decide +kernel)) rfl
theorem ini_ISE : Cond.initialized ISE ∈ lw_g := gw (List.mem_of_getElem? (i := 67) (by decide +kernel)) rfl

abbrev rmT_RA : Room := { frames := 6, cells := 1, slots := 6, locals := 82 }
abbrev rmT_RP : Room := { frames := 6, cells := 1, slots := 6, locals := 82 }
set_option maxHeartbeats 4000000 in
set_option maxRecDepth 100000 in
theorem cT_BT_requireArgument {l : Launch} {G : GG} {ad : Nat → Nat} {nb : Nat} {nt : Nat} {sz : Nat} {cfa : Int32} {cle : Int32} {cwr : Int32} {csl : Int32} {cst : Int32} {cen : Int32} {cby : (Nat → Int32)} {cto : (Nat → Int32)} {csh : (Nat → Int32)} {cdz : Int32} {cch : (Nat → Int32)} {cva : (Nat → Int32)} {css : Int32} {cve : (Nat → Int32)} {cro : (Nat → Int32)} {crc : Int32} {cma : (Nat → Int32)} {cbi : (Nat → Int32)} {ces : (Nat → Int32)} {cbl : (Nat → Int32)} {crt : (Nat → Int32)} {p0 : Int32} (hfl : l.flags = flags0) (h0 : p0 = 0) : CtT l y_BT_requireArgument b_BT_requireArgument 2 none rmT_RA G (cC G ad nb nt cfa cle cwr csl cst cen cby cto csh cdz cch cva css cve cro crc cma cbi ces cbl crt) sz [.ref (ad 0), .int p0] IAE := by
  refine MetT_of (by decide) (Nat.le_of_ble_eq_true rfl) ?_
  intro p e s m below meth c hadm hx hb hr hml hown hlocks hex ht hK A hA hZ hP hD hS ls hl
  have hl : lv_has ls 2 [(0, .ref (ad 0)), (1, .int p0)] := hl
  refine lv_iload_n hx hb d_BT_requireArgument_0 rfl (lv_at hl 1 rfl) ?_
  refine lv_if_ne (tgt := 14) hx hb d_BT_requireArgument_1 (by decide) (fun c_1 => absurd h0 c_1) (fun _ => ?_)
  exact thr_row (ia := 195) (ib := 197) (ic := 199) (tx := TX1) hfl hx hb hml hown hlocks hex ht hK hZ hA hP hD (by decide +kernel) atoms_IAE kc_BT_195 ins_IAE ini_IAE hZ.2.1.1 hl.1 d_BT_requireArgument_4 d_BT_requireArgument_7 d_BT_requireArgument_8 d_BT_requireArgument_10 d_BT_requireArgument_13 (by decide) (by decide) (by decide) (by decide)
set_option maxHeartbeats 4000000 in
set_option maxRecDepth 100000 in
theorem cR_PW_hasFailed {l : Launch} {G : GG} {ad : Nat → Nat} {nb : Nat} {nt : Nat} {sz : Nat} {cfa : Int32} {cle : Int32} {cwr : Int32} {csl : Int32} {cst : Int32} {cen : Int32} {cby : (Nat → Int32)} {cto : (Nat → Int32)} {csh : (Nat → Int32)} {cdz : Int32} {cch : (Nat → Int32)} {cva : (Nat → Int32)} {css : Int32} {cve : (Nat → Int32)} {cro : (Nat → Int32)} {crc : Int32} {cma : (Nat → Int32)} {cbi : (Nat → Int32)} {ces : (Nat → Int32)} {cbl : (Nat → Int32)} {crt : (Nat → Int32)} (hok : isB cfa) : Met l y_PW_hasFailed (lw_ws y_PW_hasFailed b_PW_hasFailed 1 (some .boolean)) { frames := 0, cells := 0, slots := 0, locals := 0 } (va_Pc [.ref (ad 1)] (Wp G (cC G ad nb nt cfa cle cwr csl cst cen cby cto csh cdz cch cva css cve cro crc cma cbi ces cbl crt) sz)) (QcRead cfa) 0 0 (fun _ => False) := by
  refine Met.ofW (cc := b_PW_hasFailed) (maxL := 1) (ret := some .boolean) (by decide) rfl ?_
  intro p e s m args below meth c s₁ B hml hv
  obtain ⟨rfl, hsz, hP, hK, hD0⟩ := hv
  have hts := atoms_spec (ws := lw_ws y_PW_hasFailed b_PW_hasFailed 1 (some .boolean)) B.pre
  have ht : ∀ w ∈ lw_g, w.before _ s = true := fun w h => hts w (List.mem_cons_of_mem _ h)
  have hx := B.exec
  have hb := B.bytes
  have hown : s.vm.findClass "BookTrees$Power" = some m.cls := findClass_of_methodNamed B.named
  rw [lg_entry_eq]
  have hl := lv_entry ([.ref (ad 1)]) (n := 1) (Nat.le_of_ble_eq_true rfl)
  generalize (lg_sl ([.ref (ad 1)]) ++ List.replicate (1 - (lg_sl ([.ref (ad 1)])).length) Slot.unset).toArray = ls at hl ⊢
  have hl : lv_has ls 1 [(0, .ref (ad 1))] := hl
  refine lv_aload_n hx hb d_PW_hasFailed_0 rfl (lv_at hl 0 rfl) ?_
  refine va_get (D := G.1) (ci := 1) (C := R_PW) (T := F_PW) (N := 3) hx hb ht in_PW hown hK hP 1 rfl rfl 0 (by decide) (ht _ kf_PW_15) (fun _ h9 => h9) rfl d_PW_hasFailed_1 ?_
  exact W.zret hx hb B.returns hok (fun t ht hW => ⟨rfl, ht⟩) (fun q h => by cases h) d_PW_hasFailed_4 B.notSynchronized
set_option maxHeartbeats 4000000 in
set_option maxRecDepth 100000 in
theorem cT_BT_requirePower {l : Launch} {G : GG} {ad : Nat → Nat} {nb : Nat} {nt : Nat} {sz : Nat} {cfa : Int32} {cle : Int32} {cwr : Int32} {csl : Int32} {cst : Int32} {cen : Int32} {cby : (Nat → Int32)} {cto : (Nat → Int32)} {csh : (Nat → Int32)} {cdz : Int32} {cch : (Nat → Int32)} {cva : (Nat → Int32)} {css : Int32} {cve : (Nat → Int32)} {cro : (Nat → Int32)} {crc : Int32} {cma : (Nat → Int32)} {cbi : (Nat → Int32)} {ces : (Nat → Int32)} {cbl : (Nat → Int32)} {crt : (Nat → Int32)} (hfl : l.flags = flags0) (hok : isB cfa) (h0 : ¬ cfa = 0) : CtT l y_BT_requirePower b_BT_requirePower 1 none rmT_RP G (cC G ad nb nt cfa cle cwr csl cst cen cby cto csh cdz cch cva css cve cro crc cma cbi ces cbl crt) sz [.ref (ad 0)] ISE := by
  refine MetT_of (by decide) (Nat.le_of_ble_eq_true rfl) ?_
  intro p e s m below meth c hadm hx hb hr hml hown hlocks hex ht hK A hA hZ hP hD hS ls hl
  have hown : s.vm.findClass "BookTrees" = some m.cls := hown
  have hl : lv_has ls 1 [(0, .ref (ad 0))] := hl
  refine lv_aload_n hx hb d_BT_requirePower_0 rfl (lv_at hl 0 rfl) ?_
  refine va_get (D := G.1) (ci := 0) (C := R_BT) (T := F_BT) (N := 5) hx hb ht in_BT hown hK hP 0 rfl rfl 0 (by decide) (ht _ kf_BT_10) (fun _ h9 => h9) rfl d_BT_requirePower_1 ?_
  refine W.callR (r := cfa) (W.runV (As := []) (rest := []) (b := ad 1) (g := F0 m 4 ls [.ref (ad 1)]) ⟨hx, hb, hml, hown, ht⟩ (cR_PW_hasFailed hok) (cw_V ht km_BT_169 ki_PW_hasFailed ks_PW_hasFailed ini_PW kd_PW_hasFailed kh_PW_hasFailed ⟨Nat.le_of_ble_eq_true rfl, Nat.le_of_ble_eq_true rfl⟩ rfl rfl) ⟨Wp_blind, va_recv (ci := 1) (q0 := 1) hK hP rfl rfl, fun U hU hW => ⟨rfl, by rw [hU], by rw [hU]; exact hP, va_K.moved hW.alike hK, hD.weaken (fun _ _ _ _ => trivial)⟩⟩ rfl rfl hl.1 rfl (lv_room (Nat.le_of_ble_eq_true rfl)) d_BT_requirePower_4 ⟨Nat.zero_le _, Nat.zero_le _⟩) ?_
  refine W.eq (g2 := F0 m 7 ls [.int cfa]) rfl ?_
  refine lv_if_eq (tgt := 20) hx hb d_BT_requirePower_7 (by decide) (fun c_1 => absurd c_1 h0) (fun _ => ?_)
  exact thr_row (ia := 202) (ib := 204) (ic := 206) (tx := TX2) hfl hx hb hml hown hlocks hex ht hK hZ hA hP hD (by decide +kernel) atoms_ISE kc_BT_202 ins_ISE ini_ISE hZ.2.1.2 hl.1 d_BT_requirePower_10 d_BT_requirePower_13 d_BT_requirePower_14 d_BT_requirePower_16 d_BT_requirePower_19 (by decide) (by decide) (by decide) (by decide)
/-! ===== throws: put ===== -/
abbrev rmT_BT_put : Room := { frames := 7, cells := 1, slots := 6, locals := 103 }
def th_BT_put (p0 : Int32) (p1 : Int32) (cfa : Int32) : Nat := bindc (f_BT_isKey p0) (fun z_3 => if z_3.1 = 0 then 1 else (if cfa = 0 then 0 else 2))
def okT_BT_put (nb : Nat) (nt : Nat) (p0 : Int32) (p1 : Int32) (cfa : Int32) : Prop := bindp (f_BT_isKey p0) (fun z_3 => (¬ z_3.1 = 0 → isB cfa))
set_option maxHeartbeats 4000000 in
set_option maxRecDepth 100000 in
theorem cT_BT_put {l : Launch} {G : GG} {ad : Nat → Nat} {nb : Nat} {nt : Nat} {sz : Nat} {cfa : Int32} {cle : Int32} {cwr : Int32} {csl : Int32} {cst : Int32} {cen : Int32} {cby : (Nat → Int32)} {cto : (Nat → Int32)} {csh : (Nat → Int32)} {cdz : Int32} {cch : (Nat → Int32)} {cva : (Nat → Int32)} {css : Int32} {cve : (Nat → Int32)} {cro : (Nat → Int32)} {crc : Int32} {cma : (Nat → Int32)} {cbi : (Nat → Int32)} {ces : (Nat → Int32)} {cbl : (Nat → Int32)} {crt : (Nat → Int32)} {p0 : Int32} {p1 : Int32} {k : Nat} (hfl : l.flags = flags0) (hok : okT_BT_put nb nt p0 p1 cfa) (hres : th_BT_put p0 p1 cfa = k) (hk : ¬ k = 0) : CtT l y_BT_put b_BT_put 3 (some .int) rmT_BT_put G (cC G ad nb nt cfa cle cwr csl cst cen cby cto csh cdz cch cva css cve cro crc cma cbi ces cbl crt) sz [.ref (ad 0), .int p0, .int p1] (excOf k) := by
  refine MetT_of (by decide) (Nat.le_of_ble_eq_true rfl) ?_
  intro p e s m below meth c hadm hx hb hr hml hown hlocks hex ht hK A hA hZ hP hD hS ls hl
  have hown : s.vm.findClass "BookTrees" = some m.cls := hown
  have hl : lv_has ls 3 [(0, .ref (ad 0)), (1, .int p0), (2, .int p1)] := hl
  rw [th_BT_put] at hres
  rw [okT_BT_put] at hok
  refine lv_aload_n hx hb d_BT_put_0 rfl (lv_at hl 0 rfl) ?_
  refine lv_aload_n hx hb d_BT_put_1 rfl (lv_at hl 0 rfl) ?_
  refine lv_iload_n hx hb d_BT_put_2 rfl (lv_at hl 1 rfl) ?_
  refine go_iz (run_V hx hb hml hown ht hK hP hD (c_BT_isKey) (cw_V ht km_BT_46 ki_BT_isKey ks_BT_isKey ini_BT kd_BT_isKey kh_BT_isKey ⟨Nat.le_of_ble_eq_true rfl, Nat.le_of_ble_eq_true rfl⟩ rfl rfl) (q0 := 0) (ci := 0) (As := [.int p0]) (rest := [.ref (ad 0)]) rfl rfl rfl hl.1 rfl (Nat.le_of_ble_eq_true rfl) d_BT_put_3 ⟨Nat.zero_le _, Nat.zero_le _⟩) hD hS hA (fun z_3 H locs hz_3 hP hD hS => ?_)
  have hres := bindc_eq hz_3 hres
  have hok := bindp_eq hz_3 hok
  have hP : va_P G.1 classes (cC G ad nb nt cfa cle cwr csl cst cen cby cto csh cdz cch cva css cve cro crc cma cbi ces cbl crt) H := hP
  have hD : va_D A (cC G ad nb nt cfa cle cwr csl cst cen cby cto csh cdz cch cva css cve cro crc cma cbi ces cbl crt) := hD
  by_cases c_6 : z_3.1 = 0
  · have hres := it_t c_6 hres
    subst hres
    exact out_T (X := IAE) (run_VT hx hb hml hown ht hK hP hD (hZ.kept (fun a h1 h2 => hS.2.1 a h1 h2)) (cT_BT_requireArgument hfl c_6) (cw_V ht km_BT_50 ki_BT_requireArgument ks_BT_requireArgument ini_BT kd_BT_requireArgument kh_BT_requireArgument ⟨Nat.le_of_ble_eq_true rfl, Nat.le_of_ble_eq_true rfl⟩ rfl rfl) (q0 := 0) (ci := 0) (As := [.int z_3.1]) (rest := []) rfl rfl rfl hl.1 rfl (Nat.le_of_ble_eq_true rfl) d_BT_put_6 ⟨by decide, by decide⟩) hlocks hex hD hS hA
  · have hres := it_f c_6 hres
    have hok := hok c_6
    refine go_vz (run_V hx hb hml hown ht hK hP hD (c_BT_requireArgument (by rw [ok_BT_requireArgument]; exact ⟨fun h => c_6 h, fun h => trivial⟩)) (cw_V ht km_BT_50 ki_BT_requireArgument ks_BT_requireArgument ini_BT kd_BT_requireArgument kh_BT_requireArgument ⟨Nat.le_of_ble_eq_true rfl, Nat.le_of_ble_eq_true rfl⟩ rfl rfl) (q0 := 0) (ci := 0) (As := [.int z_3.1]) (rest := []) rfl rfl rfl hl.1 rfl (Nat.le_of_ble_eq_true rfl) d_BT_put_6 ⟨Nat.zero_le _, Nat.zero_le _⟩) hD hS hA (fun z_6 H locs hz_6 hP hD hS => ?_)
    have hP : va_P G.1 classes (cC G ad nb nt cfa cle cwr csl cst cen cby cto csh cdz cch cva css cve cro crc cma cbi ces cbl crt) H := hP
    have hD : va_D A (cC G ad nb nt cfa cle cwr csl cst cen cby cto csh cdz cch cva css cve cro crc cma cbi ces cbl crt) := hD
    refine lv_aload_n hx hb d_BT_put_9 rfl (lv_at hl 0 rfl) ?_
    by_cases c_10 : cfa = 0
    · exact absurd (it_t c_10 hres).symm hk
    · have hres := it_f c_10 hres
      subst hres
      exact out_T (X := ISE) (run_VT hx hb hml hown ht hK hP hD (hZ.kept (fun a h1 h2 => hS.2.1 a h1 h2)) (cT_BT_requirePower hfl hok c_10) (cw_V ht km_BT_54 ki_BT_requirePower ks_BT_requirePower ini_BT kd_BT_requirePower kh_BT_requirePower ⟨Nat.le_of_ble_eq_true rfl, Nat.le_of_ble_eq_true rfl⟩ rfl rfl) (q0 := 0) (ci := 0) (As := []) (rest := []) rfl rfl rfl hl.1 rfl (Nat.le_of_ble_eq_true rfl) d_BT_put_10 ⟨by decide, by decide⟩) hlocks hex hD hS hA
/-! ===== throws: drop ===== -/
abbrev rmT_BT_drop : Room := { frames := 7, cells := 1, slots := 6, locals := 103 }
def th_BT_drop (p0 : Int32) (cfa : Int32) : Nat := bindc (f_BT_isKey p0) (fun z_3 => if z_3.1 = 0 then 1 else (if cfa = 0 then 0 else 2))
def okT_BT_drop (nb : Nat) (nt : Nat) (p0 : Int32) (cfa : Int32) : Prop := bindp (f_BT_isKey p0) (fun z_3 => (¬ z_3.1 = 0 → isB cfa))
set_option maxHeartbeats 4000000 in
set_option maxRecDepth 100000 in
theorem cT_BT_drop {l : Launch} {G : GG} {ad : Nat → Nat} {nb : Nat} {nt : Nat} {sz : Nat} {cfa : Int32} {cle : Int32} {cwr : Int32} {csl : Int32} {cst : Int32} {cen : Int32} {cby : (Nat → Int32)} {cto : (Nat → Int32)} {csh : (Nat → Int32)} {cdz : Int32} {cch : (Nat → Int32)} {cva : (Nat → Int32)} {css : Int32} {cve : (Nat → Int32)} {cro : (Nat → Int32)} {crc : Int32} {cma : (Nat → Int32)} {cbi : (Nat → Int32)} {ces : (Nat → Int32)} {cbl : (Nat → Int32)} {crt : (Nat → Int32)} {p0 : Int32} {k : Nat} (hfl : l.flags = flags0) (hok : okT_BT_drop nb nt p0 cfa) (hres : th_BT_drop p0 cfa = k) (hk : ¬ k = 0) : CtT l y_BT_drop b_BT_drop 2 (some .int) rmT_BT_drop G (cC G ad nb nt cfa cle cwr csl cst cen cby cto csh cdz cch cva css cve cro crc cma cbi ces cbl crt) sz [.ref (ad 0), .int p0] (excOf k) := by
  refine MetT_of (by decide) (Nat.le_of_ble_eq_true rfl) ?_
  intro p e s m below meth c hadm hx hb hr hml hown hlocks hex ht hK A hA hZ hP hD hS ls hl
  have hown : s.vm.findClass "BookTrees" = some m.cls := hown
  have hl : lv_has ls 2 [(0, .ref (ad 0)), (1, .int p0)] := hl
  rw [th_BT_drop] at hres
  rw [okT_BT_drop] at hok
  refine lv_aload_n hx hb d_BT_drop_0 rfl (lv_at hl 0 rfl) ?_
  refine lv_aload_n hx hb d_BT_drop_1 rfl (lv_at hl 0 rfl) ?_
  refine lv_iload_n hx hb d_BT_drop_2 rfl (lv_at hl 1 rfl) ?_
  refine go_iz (run_V hx hb hml hown ht hK hP hD (c_BT_isKey) (cw_V ht km_BT_46 ki_BT_isKey ks_BT_isKey ini_BT kd_BT_isKey kh_BT_isKey ⟨Nat.le_of_ble_eq_true rfl, Nat.le_of_ble_eq_true rfl⟩ rfl rfl) (q0 := 0) (ci := 0) (As := [.int p0]) (rest := [.ref (ad 0)]) rfl rfl rfl hl.1 rfl (Nat.le_of_ble_eq_true rfl) d_BT_drop_3 ⟨Nat.zero_le _, Nat.zero_le _⟩) hD hS hA (fun z_3 H locs hz_3 hP hD hS => ?_)
  have hres := bindc_eq hz_3 hres
  have hok := bindp_eq hz_3 hok
  have hP : va_P G.1 classes (cC G ad nb nt cfa cle cwr csl cst cen cby cto csh cdz cch cva css cve cro crc cma cbi ces cbl crt) H := hP
  have hD : va_D A (cC G ad nb nt cfa cle cwr csl cst cen cby cto csh cdz cch cva css cve cro crc cma cbi ces cbl crt) := hD
  by_cases c_6 : z_3.1 = 0
  · have hres := it_t c_6 hres
    subst hres
    exact out_T (X := IAE) (run_VT hx hb hml hown ht hK hP hD (hZ.kept (fun a h1 h2 => hS.2.1 a h1 h2)) (cT_BT_requireArgument hfl c_6) (cw_V ht km_BT_50 ki_BT_requireArgument ks_BT_requireArgument ini_BT kd_BT_requireArgument kh_BT_requireArgument ⟨Nat.le_of_ble_eq_true rfl, Nat.le_of_ble_eq_true rfl⟩ rfl rfl) (q0 := 0) (ci := 0) (As := [.int z_3.1]) (rest := []) rfl rfl rfl hl.1 rfl (Nat.le_of_ble_eq_true rfl) d_BT_drop_6 ⟨by decide, by decide⟩) hlocks hex hD hS hA
  · have hres := it_f c_6 hres
    have hok := hok c_6
    refine go_vz (run_V hx hb hml hown ht hK hP hD (c_BT_requireArgument (by rw [ok_BT_requireArgument]; exact ⟨fun h => c_6 h, fun h => trivial⟩)) (cw_V ht km_BT_50 ki_BT_requireArgument ks_BT_requireArgument ini_BT kd_BT_requireArgument kh_BT_requireArgument ⟨Nat.le_of_ble_eq_true rfl, Nat.le_of_ble_eq_true rfl⟩ rfl rfl) (q0 := 0) (ci := 0) (As := [.int z_3.1]) (rest := []) rfl rfl rfl hl.1 rfl (Nat.le_of_ble_eq_true rfl) d_BT_drop_6 ⟨Nat.zero_le _, Nat.zero_le _⟩) hD hS hA (fun z_6 H locs hz_6 hP hD hS => ?_)
    have hP : va_P G.1 classes (cC G ad nb nt cfa cle cwr csl cst cen cby cto csh cdz cch cva css cve cro crc cma cbi ces cbl crt) H := hP
    have hD : va_D A (cC G ad nb nt cfa cle cwr csl cst cen cby cto csh cdz cch cva css cve cro crc cma cbi ces cbl crt) := hD
    refine lv_aload_n hx hb d_BT_drop_9 rfl (lv_at hl 0 rfl) ?_
    by_cases c_10 : cfa = 0
    · exact absurd (it_t c_10 hres).symm hk
    · have hres := it_f c_10 hres
      subst hres
      exact out_T (X := ISE) (run_VT hx hb hml hown ht hK hP hD (hZ.kept (fun a h1 h2 => hS.2.1 a h1 h2)) (cT_BT_requirePower hfl hok c_10) (cw_V ht km_BT_54 ki_BT_requirePower ks_BT_requirePower ini_BT kd_BT_requirePower kh_BT_requirePower ⟨Nat.le_of_ble_eq_true rfl, Nat.le_of_ble_eq_true rfl⟩ rfl rfl) (q0 := 0) (ci := 0) (As := []) (rest := []) rfl rfl rfl hl.1 rfl (Nat.le_of_ble_eq_true rfl) d_BT_drop_10 ⟨by decide, by decide⟩) hlocks hex hD hS hA
/-! ===== throws: undo ===== -/
abbrev rmT_BT_undo : Room := { frames := 7, cells := 1, slots := 6, locals := 103 }
def th_BT_undo  (cfa : Int32) : Nat := if cfa = 0 then 0 else 2
def okT_BT_undo (nb : Nat) (nt : Nat)  (cfa : Int32) : Prop := isB cfa
set_option maxHeartbeats 4000000 in
set_option maxRecDepth 100000 in
theorem cT_BT_undo {l : Launch} {G : GG} {ad : Nat → Nat} {nb : Nat} {nt : Nat} {sz : Nat} {cfa : Int32} {cle : Int32} {cwr : Int32} {csl : Int32} {cst : Int32} {cen : Int32} {cby : (Nat → Int32)} {cto : (Nat → Int32)} {csh : (Nat → Int32)} {cdz : Int32} {cch : (Nat → Int32)} {cva : (Nat → Int32)} {css : Int32} {cve : (Nat → Int32)} {cro : (Nat → Int32)} {crc : Int32} {cma : (Nat → Int32)} {cbi : (Nat → Int32)} {ces : (Nat → Int32)} {cbl : (Nat → Int32)} {crt : (Nat → Int32)}  {k : Nat} (hfl : l.flags = flags0) (hok : okT_BT_undo nb nt cfa) (hres : th_BT_undo cfa = k) (hk : ¬ k = 0) : CtT l y_BT_undo b_BT_undo 2 (some .int) rmT_BT_undo G (cC G ad nb nt cfa cle cwr csl cst cen cby cto csh cdz cch cva css cve cro crc cma cbi ces cbl crt) sz [.ref (ad 0)] (excOf k) := by
  refine MetT_of (by decide) (Nat.le_of_ble_eq_true rfl) ?_
  intro p e s m below meth c hadm hx hb hr hml hown hlocks hex ht hK A hA hZ hP hD hS ls hl
  have hown : s.vm.findClass "BookTrees" = some m.cls := hown
  have hl : lv_has ls 2 [(0, .ref (ad 0))] := hl
  rw [th_BT_undo] at hres
  rw [okT_BT_undo] at hok
  refine lv_aload_n hx hb d_BT_undo_0 rfl (lv_at hl 0 rfl) ?_
  by_cases c_1 : cfa = 0
  · exact absurd (it_t c_1 hres).symm hk
  · have hres := it_f c_1 hres
    subst hres
    exact out_T (X := ISE) (run_VT hx hb hml hown ht hK hP hD (hZ.kept (fun a h1 h2 => hS.2.1 a h1 h2)) (cT_BT_requirePower hfl hok c_1) (cw_V ht km_BT_54 ki_BT_requirePower ks_BT_requirePower ini_BT kd_BT_requirePower kh_BT_requirePower ⟨Nat.le_of_ble_eq_true rfl, Nat.le_of_ble_eq_true rfl⟩ rfl rfl) (q0 := 0) (ci := 0) (As := []) (rest := []) rfl rfl rfl hl.1 rfl (Nat.le_of_ble_eq_true rfl) d_BT_undo_1 ⟨by decide, by decide⟩) hlocks hex hD hS hA
/-! ===== throws: get ===== -/
abbrev rmT_BT_get : Room := { frames := 7, cells := 1, slots := 6, locals := 103 }
def th_BT_get (p0 : Int32) (cfa : Int32) : Nat := bindc (f_BT_isKey p0) (fun z_3 => if z_3.1 = 0 then 1 else (if cfa = 0 then 0 else 2))
def okT_BT_get (nb : Nat) (nt : Nat) (p0 : Int32) (cfa : Int32) : Prop := bindp (f_BT_isKey p0) (fun z_3 => (¬ z_3.1 = 0 → isB cfa))
set_option maxHeartbeats 4000000 in
set_option maxRecDepth 100000 in
theorem cT_BT_get {l : Launch} {G : GG} {ad : Nat → Nat} {nb : Nat} {nt : Nat} {sz : Nat} {cfa : Int32} {cle : Int32} {cwr : Int32} {csl : Int32} {cst : Int32} {cen : Int32} {cby : (Nat → Int32)} {cto : (Nat → Int32)} {csh : (Nat → Int32)} {cdz : Int32} {cch : (Nat → Int32)} {cva : (Nat → Int32)} {css : Int32} {cve : (Nat → Int32)} {cro : (Nat → Int32)} {crc : Int32} {cma : (Nat → Int32)} {cbi : (Nat → Int32)} {ces : (Nat → Int32)} {cbl : (Nat → Int32)} {crt : (Nat → Int32)} {p0 : Int32} {k : Nat} (hfl : l.flags = flags0) (hok : okT_BT_get nb nt p0 cfa) (hres : th_BT_get p0 cfa = k) (hk : ¬ k = 0) : CtT l y_BT_get b_BT_get 2 (some .long) rmT_BT_get G (cC G ad nb nt cfa cle cwr csl cst cen cby cto csh cdz cch cva css cve cro crc cma cbi ces cbl crt) sz [.ref (ad 0), .int p0] (excOf k) := by
  refine MetT_of (by decide) (Nat.le_of_ble_eq_true rfl) ?_
  intro p e s m below meth c hadm hx hb hr hml hown hlocks hex ht hK A hA hZ hP hD hS ls hl
  have hown : s.vm.findClass "BookTrees" = some m.cls := hown
  have hl : lv_has ls 2 [(0, .ref (ad 0)), (1, .int p0)] := hl
  rw [th_BT_get] at hres
  rw [okT_BT_get] at hok
  refine lv_aload_n hx hb d_BT_get_0 rfl (lv_at hl 0 rfl) ?_
  refine lv_aload_n hx hb d_BT_get_1 rfl (lv_at hl 0 rfl) ?_
  refine lv_iload_n hx hb d_BT_get_2 rfl (lv_at hl 1 rfl) ?_
  refine go_iz (run_V hx hb hml hown ht hK hP hD (c_BT_isKey) (cw_V ht km_BT_46 ki_BT_isKey ks_BT_isKey ini_BT kd_BT_isKey kh_BT_isKey ⟨Nat.le_of_ble_eq_true rfl, Nat.le_of_ble_eq_true rfl⟩ rfl rfl) (q0 := 0) (ci := 0) (As := [.int p0]) (rest := [.ref (ad 0)]) rfl rfl rfl hl.1 rfl (Nat.le_of_ble_eq_true rfl) d_BT_get_3 ⟨Nat.zero_le _, Nat.zero_le _⟩) hD hS hA (fun z_3 H locs hz_3 hP hD hS => ?_)
  have hres := bindc_eq hz_3 hres
  have hok := bindp_eq hz_3 hok
  have hP : va_P G.1 classes (cC G ad nb nt cfa cle cwr csl cst cen cby cto csh cdz cch cva css cve cro crc cma cbi ces cbl crt) H := hP
  have hD : va_D A (cC G ad nb nt cfa cle cwr csl cst cen cby cto csh cdz cch cva css cve cro crc cma cbi ces cbl crt) := hD
  by_cases c_6 : z_3.1 = 0
  · have hres := it_t c_6 hres
    subst hres
    exact out_T (X := IAE) (run_VT hx hb hml hown ht hK hP hD (hZ.kept (fun a h1 h2 => hS.2.1 a h1 h2)) (cT_BT_requireArgument hfl c_6) (cw_V ht km_BT_50 ki_BT_requireArgument ks_BT_requireArgument ini_BT kd_BT_requireArgument kh_BT_requireArgument ⟨Nat.le_of_ble_eq_true rfl, Nat.le_of_ble_eq_true rfl⟩ rfl rfl) (q0 := 0) (ci := 0) (As := [.int z_3.1]) (rest := []) rfl rfl rfl hl.1 rfl (Nat.le_of_ble_eq_true rfl) d_BT_get_6 ⟨by decide, by decide⟩) hlocks hex hD hS hA
  · have hres := it_f c_6 hres
    have hok := hok c_6
    refine go_vz (run_V hx hb hml hown ht hK hP hD (c_BT_requireArgument (by rw [ok_BT_requireArgument]; exact ⟨fun h => c_6 h, fun h => trivial⟩)) (cw_V ht km_BT_50 ki_BT_requireArgument ks_BT_requireArgument ini_BT kd_BT_requireArgument kh_BT_requireArgument ⟨Nat.le_of_ble_eq_true rfl, Nat.le_of_ble_eq_true rfl⟩ rfl rfl) (q0 := 0) (ci := 0) (As := [.int z_3.1]) (rest := []) rfl rfl rfl hl.1 rfl (Nat.le_of_ble_eq_true rfl) d_BT_get_6 ⟨Nat.zero_le _, Nat.zero_le _⟩) hD hS hA (fun z_6 H locs hz_6 hP hD hS => ?_)
    have hP : va_P G.1 classes (cC G ad nb nt cfa cle cwr csl cst cen cby cto csh cdz cch cva css cve cro crc cma cbi ces cbl crt) H := hP
    have hD : va_D A (cC G ad nb nt cfa cle cwr csl cst cen cby cto csh cdz cch cva css cve cro crc cma cbi ces cbl crt) := hD
    refine lv_aload_n hx hb d_BT_get_9 rfl (lv_at hl 0 rfl) ?_
    by_cases c_10 : cfa = 0
    · exact absurd (it_t c_10 hres).symm hk
    · have hres := it_f c_10 hres
      subst hres
      exact out_T (X := ISE) (run_VT hx hb hml hown ht hK hP hD (hZ.kept (fun a h1 h2 => hS.2.1 a h1 h2)) (cT_BT_requirePower hfl hok c_10) (cw_V ht km_BT_54 ki_BT_requirePower ks_BT_requirePower ini_BT kd_BT_requirePower kh_BT_requirePower ⟨Nat.le_of_ble_eq_true rfl, Nat.le_of_ble_eq_true rfl⟩ rfl rfl) (q0 := 0) (ci := 0) (As := []) (rest := []) rfl rfl rfl hl.1 rfl (Nat.le_of_ble_eq_true rfl) d_BT_get_10 ⟨by decide, by decide⟩) hlocks hex hD hS hA
/-! ===== throws: commit ===== -/
abbrev rmT_BT_commit : Room := { frames := 7, cells := 1, slots := 6, locals := 103 }
def th_BT_commit  (cfa : Int32) : Nat := if cfa = 0 then 0 else 2
def okT_BT_commit (nb : Nat) (nt : Nat)  (cfa : Int32) : Prop := isB cfa
set_option maxHeartbeats 4000000 in
set_option maxRecDepth 100000 in
theorem cT_BT_commit {l : Launch} {G : GG} {ad : Nat → Nat} {nb : Nat} {nt : Nat} {sz : Nat} {cfa : Int32} {cle : Int32} {cwr : Int32} {csl : Int32} {cst : Int32} {cen : Int32} {cby : (Nat → Int32)} {cto : (Nat → Int32)} {csh : (Nat → Int32)} {cdz : Int32} {cch : (Nat → Int32)} {cva : (Nat → Int32)} {css : Int32} {cve : (Nat → Int32)} {cro : (Nat → Int32)} {crc : Int32} {cma : (Nat → Int32)} {cbi : (Nat → Int32)} {ces : (Nat → Int32)} {cbl : (Nat → Int32)} {crt : (Nat → Int32)}  {k : Nat} (hfl : l.flags = flags0) (hok : okT_BT_commit nb nt cfa) (hres : th_BT_commit cfa = k) (hk : ¬ k = 0) : CtT l y_BT_commit b_BT_commit 2 (some .int) rmT_BT_commit G (cC G ad nb nt cfa cle cwr csl cst cen cby cto csh cdz cch cva css cve cro crc cma cbi ces cbl crt) sz [.ref (ad 0)] (excOf k) := by
  refine MetT_of (by decide) (Nat.le_of_ble_eq_true rfl) ?_
  intro p e s m below meth c hadm hx hb hr hml hown hlocks hex ht hK A hA hZ hP hD hS ls hl
  have hown : s.vm.findClass "BookTrees" = some m.cls := hown
  have hl : lv_has ls 2 [(0, .ref (ad 0))] := hl
  rw [th_BT_commit] at hres
  rw [okT_BT_commit] at hok
  refine lv_aload_n hx hb d_BT_commit_0 rfl (lv_at hl 0 rfl) ?_
  by_cases c_1 : cfa = 0
  · exact absurd (it_t c_1 hres).symm hk
  · have hres := it_f c_1 hres
    subst hres
    exact out_T (X := ISE) (run_VT hx hb hml hown ht hK hP hD (hZ.kept (fun a h1 h2 => hS.2.1 a h1 h2)) (cT_BT_requirePower hfl hok c_1) (cw_V ht km_BT_54 ki_BT_requirePower ks_BT_requirePower ini_BT kd_BT_requirePower kh_BT_requirePower ⟨Nat.le_of_ble_eq_true rfl, Nat.le_of_ble_eq_true rfl⟩ rfl rfl) (q0 := 0) (ci := 0) (As := []) (rest := []) rfl rfl rfl hl.1 rfl (Nat.le_of_ble_eq_true rfl) d_BT_commit_1 ⟨by decide, by decide⟩) hlocks hex hD hS hA
/-! ===== throws: copy ===== -/
abbrev rmT_BT_copy : Room := { frames := 7, cells := 1, slots := 6, locals := 103 }
def th_BT_copy  (cfa : Int32) : Nat := if cfa = 0 then 0 else 2
def okT_BT_copy (nb : Nat) (nt : Nat)  (cfa : Int32) : Prop := isB cfa
set_option maxHeartbeats 4000000 in
set_option maxRecDepth 100000 in
theorem cT_BT_copy {l : Launch} {G : GG} {ad : Nat → Nat} {nb : Nat} {nt : Nat} {sz : Nat} {cfa : Int32} {cle : Int32} {cwr : Int32} {csl : Int32} {cst : Int32} {cen : Int32} {cby : (Nat → Int32)} {cto : (Nat → Int32)} {csh : (Nat → Int32)} {cdz : Int32} {cch : (Nat → Int32)} {cva : (Nat → Int32)} {css : Int32} {cve : (Nat → Int32)} {cro : (Nat → Int32)} {crc : Int32} {cma : (Nat → Int32)} {cbi : (Nat → Int32)} {ces : (Nat → Int32)} {cbl : (Nat → Int32)} {crt : (Nat → Int32)}  {k : Nat} (hfl : l.flags = flags0) (hok : okT_BT_copy nb nt cfa) (hres : th_BT_copy cfa = k) (hk : ¬ k = 0) : CtT l y_BT_copy b_BT_copy 1 (some .int) rmT_BT_copy G (cC G ad nb nt cfa cle cwr csl cst cen cby cto csh cdz cch cva css cve cro crc cma cbi ces cbl crt) sz [.ref (ad 0)] (excOf k) := by
  refine MetT_of (by decide) (Nat.le_of_ble_eq_true rfl) ?_
  intro p e s m below meth c hadm hx hb hr hml hown hlocks hex ht hK A hA hZ hP hD hS ls hl
  have hown : s.vm.findClass "BookTrees" = some m.cls := hown
  have hl : lv_has ls 1 [(0, .ref (ad 0))] := hl
  rw [th_BT_copy] at hres
  rw [okT_BT_copy] at hok
  refine lv_aload_n hx hb d_BT_copy_0 rfl (lv_at hl 0 rfl) ?_
  by_cases c_1 : cfa = 0
  · exact absurd (it_t c_1 hres).symm hk
  · have hres := it_f c_1 hres
    subst hres
    exact out_T (X := ISE) (run_VT hx hb hml hown ht hK hP hD (hZ.kept (fun a h1 h2 => hS.2.1 a h1 h2)) (cT_BT_requirePower hfl hok c_1) (cw_V ht km_BT_54 ki_BT_requirePower ks_BT_requirePower ini_BT kd_BT_requirePower kh_BT_requirePower ⟨Nat.le_of_ble_eq_true rfl, Nat.le_of_ble_eq_true rfl⟩ rfl rfl) (q0 := 0) (ci := 0) (As := []) (rest := []) rfl rfl rfl hl.1 rfl (Nat.le_of_ble_eq_true rfl) d_BT_copy_1 ⟨by decide, by decide⟩) hlocks hex hD hS hA
/-! ===== throws: find ===== -/
abbrev rmT_BT_find : Room := { frames := 7, cells := 1, slots := 6, locals := 103 }
def th_BT_find (p0 : Int32) (p1 : Int32) (cfa : Int32) (cst : Int32) (css : Int32) (cve : (Nat → Int32)) (cro : (Nat → Int32)) : Nat := bindc (f_BT_isKept p0 cst css cve cro) (fun z_3 => if z_3.1 = 0 then (if (0 : Int32) = 0 then 1 else (if cfa = 0 then 0 else 2)) else bindc (f_BT_isKey p1) (fun z_11 => if z_11.1 = 0 then (if (0 : Int32) = 0 then 1 else (if cfa = 0 then 0 else 2)) else if (1 : Int32) = 0 then 1 else (if cfa = 0 then 0 else 2)))
def okT_BT_find (nb : Nat) (nt : Nat) (p0 : Int32) (p1 : Int32) (cfa : Int32) (cst : Int32) (css : Int32) (cve : (Nat → Int32)) (cro : (Nat → Int32)) : Prop := ok_BT_isKept nb nt p0 cst css cve cro ∧ bindp (f_BT_isKept p0 cst css cve cro) (fun z_3 => (z_3.1 = 0 → (¬ (0 : Int32) = 0 → isB cfa)) ∧ (¬ z_3.1 = 0 → bindp (f_BT_isKey p1) (fun z_11 => (z_11.1 = 0 → (¬ (0 : Int32) = 0 → isB cfa)) ∧ (¬ z_11.1 = 0 → (¬ (1 : Int32) = 0 → isB cfa)))))
set_option maxHeartbeats 4000000 in
set_option maxRecDepth 100000 in
theorem cT_BT_find {l : Launch} {G : GG} {ad : Nat → Nat} {nb : Nat} {nt : Nat} {sz : Nat} {cfa : Int32} {cle : Int32} {cwr : Int32} {csl : Int32} {cst : Int32} {cen : Int32} {cby : (Nat → Int32)} {cto : (Nat → Int32)} {csh : (Nat → Int32)} {cdz : Int32} {cch : (Nat → Int32)} {cva : (Nat → Int32)} {css : Int32} {cve : (Nat → Int32)} {cro : (Nat → Int32)} {crc : Int32} {cma : (Nat → Int32)} {cbi : (Nat → Int32)} {ces : (Nat → Int32)} {cbl : (Nat → Int32)} {crt : (Nat → Int32)} {p0 : Int32} {p1 : Int32} {k : Nat} (hfl : l.flags = flags0) (hok : okT_BT_find nb nt p0 p1 cfa cst css cve cro) (hres : th_BT_find p0 p1 cfa cst css cve cro = k) (hk : ¬ k = 0) : CtT l y_BT_find b_BT_find 3 (some .long) rmT_BT_find G (cC G ad nb nt cfa cle cwr csl cst cen cby cto csh cdz cch cva css cve cro crc cma cbi ces cbl crt) sz [.ref (ad 0), .int p0, .int p1] (excOf k) := by
  refine MetT_of (by decide) (Nat.le_of_ble_eq_true rfl) ?_
  intro p e s m below meth c hadm hx hb hr hml hown hlocks hex ht hK A hA hZ hP hD hS ls hl
  have hown : s.vm.findClass "BookTrees" = some m.cls := hown
  have hl : lv_has ls 3 [(0, .ref (ad 0)), (1, .int p0), (2, .int p1)] := hl
  rw [th_BT_find] at hres
  rw [okT_BT_find] at hok
  refine lv_aload_n hx hb d_BT_find_0 rfl (lv_at hl 0 rfl) ?_
  refine lv_aload_n hx hb d_BT_find_1 rfl (lv_at hl 0 rfl) ?_
  refine lv_iload_n hx hb d_BT_find_2 rfl (lv_at hl 1 rfl) ?_
  obtain ⟨hk_3, hok⟩ := hok
  refine go_iz (run_V hx hb hml hown ht hK hP hD (c_BT_isKept hk_3) (cw_V ht km_BT_113 ki_BT_isKept ks_BT_isKept ini_BT kd_BT_isKept kh_BT_isKept ⟨Nat.le_of_ble_eq_true rfl, Nat.le_of_ble_eq_true rfl⟩ rfl rfl) (q0 := 0) (ci := 0) (As := [.int p0]) (rest := [.ref (ad 0)]) rfl rfl rfl hl.1 rfl (Nat.le_of_ble_eq_true rfl) d_BT_find_3 ⟨Nat.zero_le _, Nat.zero_le _⟩) hD hS hA (fun z_3 H locs hz_3 hP hD hS => ?_)
  have hres := bindc_eq hz_3 hres
  have hok := bindp_eq hz_3 hok
  have hP : va_P G.1 classes (cC G ad nb nt cfa cle cwr csl cst cen cby cto csh cdz cch cva css cve cro crc cma cbi ces cbl crt) H := hP
  have hD : va_D A (cC G ad nb nt cfa cle cwr csl cst cen cby cto csh cdz cch cva css cve cro crc cma cbi ces cbl crt) := hD
  refine lv_if_eq (tgt := 21) hx hb d_BT_find_6 (by decide) (fun c_6 => ?_) (fun c_6 => ?_)
  · have hres := it_t c_6 hres
    have hok := hok.1 c_6
    refine lv_iconst (v := (0 : Int32)) hx hb d_BT_find_21 (by decide) ?_
    by_cases c_22 : (0 : Int32) = 0
    · have hres := it_t c_22 hres
      subst hres
      exact out_T (X := IAE) (run_VT hx hb hml hown ht hK hP hD (hZ.kept (fun a h1 h2 => hS.2.1 a h1 h2)) (cT_BT_requireArgument hfl c_22) (cw_V ht km_BT_50 ki_BT_requireArgument ks_BT_requireArgument ini_BT kd_BT_requireArgument kh_BT_requireArgument ⟨Nat.le_of_ble_eq_true rfl, Nat.le_of_ble_eq_true rfl⟩ rfl rfl) (q0 := 0) (ci := 0) (As := [.int (0 : Int32)]) (rest := []) rfl rfl rfl hl.1 rfl (Nat.le_of_ble_eq_true rfl) d_BT_find_22 ⟨by decide, by decide⟩) hlocks hex hD hS hA
    · have hres := it_f c_22 hres
      have hok := hok c_22
      refine go_vz (run_V hx hb hml hown ht hK hP hD (c_BT_requireArgument (by rw [ok_BT_requireArgument]; exact ⟨fun h => c_22 h, fun h => trivial⟩)) (cw_V ht km_BT_50 ki_BT_requireArgument ks_BT_requireArgument ini_BT kd_BT_requireArgument kh_BT_requireArgument ⟨Nat.le_of_ble_eq_true rfl, Nat.le_of_ble_eq_true rfl⟩ rfl rfl) (q0 := 0) (ci := 0) (As := [.int (0 : Int32)]) (rest := []) rfl rfl rfl hl.1 rfl (Nat.le_of_ble_eq_true rfl) d_BT_find_22 ⟨Nat.zero_le _, Nat.zero_le _⟩) hD hS hA (fun z_22 H locs hz_22 hP hD hS => ?_)
      have hP : va_P G.1 classes (cC G ad nb nt cfa cle cwr csl cst cen cby cto csh cdz cch cva css cve cro crc cma cbi ces cbl crt) H := hP
      have hD : va_D A (cC G ad nb nt cfa cle cwr csl cst cen cby cto csh cdz cch cva css cve cro crc cma cbi ces cbl crt) := hD
      refine lv_aload_n hx hb d_BT_find_25 rfl (lv_at hl 0 rfl) ?_
      by_cases c_26 : cfa = 0
      · exact absurd (it_t c_26 hres).symm hk
      · have hres := it_f c_26 hres
        subst hres
        exact out_T (X := ISE) (run_VT hx hb hml hown ht hK hP hD (hZ.kept (fun a h1 h2 => hS.2.1 a h1 h2)) (cT_BT_requirePower hfl hok c_26) (cw_V ht km_BT_54 ki_BT_requirePower ks_BT_requirePower ini_BT kd_BT_requirePower kh_BT_requirePower ⟨Nat.le_of_ble_eq_true rfl, Nat.le_of_ble_eq_true rfl⟩ rfl rfl) (q0 := 0) (ci := 0) (As := []) (rest := []) rfl rfl rfl hl.1 rfl (Nat.le_of_ble_eq_true rfl) d_BT_find_26 ⟨by decide, by decide⟩) hlocks hex hD hS hA
  · have hres := it_f c_6 hres
    have hok := hok.2 c_6
    refine lv_aload_n hx hb d_BT_find_9 rfl (lv_at hl 0 rfl) ?_
    refine lv_iload_n hx hb d_BT_find_10 rfl (lv_at hl 2 rfl) ?_
    refine go_iz (run_V hx hb hml hown ht hK hP hD (c_BT_isKey) (cw_V ht km_BT_46 ki_BT_isKey ks_BT_isKey ini_BT kd_BT_isKey kh_BT_isKey ⟨Nat.le_of_ble_eq_true rfl, Nat.le_of_ble_eq_true rfl⟩ rfl rfl) (q0 := 0) (ci := 0) (As := [.int p1]) (rest := [.ref (ad 0)]) rfl rfl rfl hl.1 rfl (Nat.le_of_ble_eq_true rfl) d_BT_find_11 ⟨Nat.zero_le _, Nat.zero_le _⟩) hD hS hA (fun z_11 H locs hz_11 hP hD hS => ?_)
    have hres := bindc_eq hz_11 hres
    have hok := bindp_eq hz_11 hok
    have hP : va_P G.1 classes (cC G ad nb nt cfa cle cwr csl cst cen cby cto csh cdz cch cva css cve cro crc cma cbi ces cbl crt) H := hP
    have hD : va_D A (cC G ad nb nt cfa cle cwr csl cst cen cby cto csh cdz cch cva css cve cro crc cma cbi ces cbl crt) := hD
    refine lv_if_eq (tgt := 21) hx hb d_BT_find_14 (by decide) (fun c_14 => ?_) (fun c_14 => ?_)
    · have hres := it_t c_14 hres
      have hok := hok.1 c_14
      refine lv_iconst (v := (0 : Int32)) hx hb d_BT_find_21 (by decide) ?_
      by_cases c_22 : (0 : Int32) = 0
      · have hres := it_t c_22 hres
        subst hres
        exact out_T (X := IAE) (run_VT hx hb hml hown ht hK hP hD (hZ.kept (fun a h1 h2 => hS.2.1 a h1 h2)) (cT_BT_requireArgument hfl c_22) (cw_V ht km_BT_50 ki_BT_requireArgument ks_BT_requireArgument ini_BT kd_BT_requireArgument kh_BT_requireArgument ⟨Nat.le_of_ble_eq_true rfl, Nat.le_of_ble_eq_true rfl⟩ rfl rfl) (q0 := 0) (ci := 0) (As := [.int (0 : Int32)]) (rest := []) rfl rfl rfl hl.1 rfl (Nat.le_of_ble_eq_true rfl) d_BT_find_22 ⟨by decide, by decide⟩) hlocks hex hD hS hA
      · have hres := it_f c_22 hres
        have hok := hok c_22
        refine go_vz (run_V hx hb hml hown ht hK hP hD (c_BT_requireArgument (by rw [ok_BT_requireArgument]; exact ⟨fun h => c_22 h, fun h => trivial⟩)) (cw_V ht km_BT_50 ki_BT_requireArgument ks_BT_requireArgument ini_BT kd_BT_requireArgument kh_BT_requireArgument ⟨Nat.le_of_ble_eq_true rfl, Nat.le_of_ble_eq_true rfl⟩ rfl rfl) (q0 := 0) (ci := 0) (As := [.int (0 : Int32)]) (rest := []) rfl rfl rfl hl.1 rfl (Nat.le_of_ble_eq_true rfl) d_BT_find_22 ⟨Nat.zero_le _, Nat.zero_le _⟩) hD hS hA (fun z_22 H locs hz_22 hP hD hS => ?_)
        have hP : va_P G.1 classes (cC G ad nb nt cfa cle cwr csl cst cen cby cto csh cdz cch cva css cve cro crc cma cbi ces cbl crt) H := hP
        have hD : va_D A (cC G ad nb nt cfa cle cwr csl cst cen cby cto csh cdz cch cva css cve cro crc cma cbi ces cbl crt) := hD
        refine lv_aload_n hx hb d_BT_find_25 rfl (lv_at hl 0 rfl) ?_
        by_cases c_26 : cfa = 0
        · exact absurd (it_t c_26 hres).symm hk
        · have hres := it_f c_26 hres
          subst hres
          exact out_T (X := ISE) (run_VT hx hb hml hown ht hK hP hD (hZ.kept (fun a h1 h2 => hS.2.1 a h1 h2)) (cT_BT_requirePower hfl hok c_26) (cw_V ht km_BT_54 ki_BT_requirePower ks_BT_requirePower ini_BT kd_BT_requirePower kh_BT_requirePower ⟨Nat.le_of_ble_eq_true rfl, Nat.le_of_ble_eq_true rfl⟩ rfl rfl) (q0 := 0) (ci := 0) (As := []) (rest := []) rfl rfl rfl hl.1 rfl (Nat.le_of_ble_eq_true rfl) d_BT_find_26 ⟨by decide, by decide⟩) hlocks hex hD hS hA
    · have hres := it_f c_14 hres
      have hok := hok.2 c_14
      refine lv_iconst (v := (1 : Int32)) hx hb d_BT_find_17 (by decide) ?_
      refine lv_goto (tgt := 22) hx hb d_BT_find_18 (by decide) ?_
      by_cases c_22 : (1 : Int32) = 0
      · have hres := it_t c_22 hres
        subst hres
        exact out_T (X := IAE) (run_VT hx hb hml hown ht hK hP hD (hZ.kept (fun a h1 h2 => hS.2.1 a h1 h2)) (cT_BT_requireArgument hfl c_22) (cw_V ht km_BT_50 ki_BT_requireArgument ks_BT_requireArgument ini_BT kd_BT_requireArgument kh_BT_requireArgument ⟨Nat.le_of_ble_eq_true rfl, Nat.le_of_ble_eq_true rfl⟩ rfl rfl) (q0 := 0) (ci := 0) (As := [.int (1 : Int32)]) (rest := []) rfl rfl rfl hl.1 rfl (Nat.le_of_ble_eq_true rfl) d_BT_find_22 ⟨by decide, by decide⟩) hlocks hex hD hS hA
      · have hres := it_f c_22 hres
        have hok := hok c_22
        refine go_vz (run_V hx hb hml hown ht hK hP hD (c_BT_requireArgument (by rw [ok_BT_requireArgument]; exact ⟨fun h => c_22 h, fun h => trivial⟩)) (cw_V ht km_BT_50 ki_BT_requireArgument ks_BT_requireArgument ini_BT kd_BT_requireArgument kh_BT_requireArgument ⟨Nat.le_of_ble_eq_true rfl, Nat.le_of_ble_eq_true rfl⟩ rfl rfl) (q0 := 0) (ci := 0) (As := [.int (1 : Int32)]) (rest := []) rfl rfl rfl hl.1 rfl (Nat.le_of_ble_eq_true rfl) d_BT_find_22 ⟨Nat.zero_le _, Nat.zero_le _⟩) hD hS hA (fun z_22 H locs hz_22 hP hD hS => ?_)
        have hP : va_P G.1 classes (cC G ad nb nt cfa cle cwr csl cst cen cby cto csh cdz cch cva css cve cro crc cma cbi ces cbl crt) H := hP
        have hD : va_D A (cC G ad nb nt cfa cle cwr csl cst cen cby cto csh cdz cch cva css cve cro crc cma cbi ces cbl crt) := hD
        refine lv_aload_n hx hb d_BT_find_25 rfl (lv_at hl 0 rfl) ?_
        by_cases c_26 : cfa = 0
        · exact absurd (it_t c_26 hres).symm hk
        · have hres := it_f c_26 hres
          subst hres
          exact out_T (X := ISE) (run_VT hx hb hml hown ht hK hP hD (hZ.kept (fun a h1 h2 => hS.2.1 a h1 h2)) (cT_BT_requirePower hfl hok c_26) (cw_V ht km_BT_54 ki_BT_requirePower ks_BT_requirePower ini_BT kd_BT_requirePower kh_BT_requirePower ⟨Nat.le_of_ble_eq_true rfl, Nat.le_of_ble_eq_true rfl⟩ rfl rfl) (q0 := 0) (ci := 0) (As := []) (rest := []) rfl rfl rfl hl.1 rfl (Nat.le_of_ble_eq_true rfl) d_BT_find_26 ⟨by decide, by decide⟩) hlocks hex hD hS hA
/-! ===== throws: next ===== -/
abbrev rmT_BT_next : Room := { frames := 7, cells := 1, slots := 6, locals := 103 }
def th_BT_next (p0 : Int32) (p1 : Int32) (cfa : Int32) (cst : Int32) (css : Int32) (cve : (Nat → Int32)) (cro : (Nat → Int32)) : Nat := bindc (f_BT_isKept p0 cst css cve cro) (fun z_3 => if z_3.1 = 0 then (if (0 : Int32) = 0 then 1 else (if cfa = 0 then 0 else 2)) else bindc (f_BT_isKey p1) (fun z_11 => if z_11.1 = 0 then (if (0 : Int32) = 0 then 1 else (if cfa = 0 then 0 else 2)) else if (1 : Int32) = 0 then 1 else (if cfa = 0 then 0 else 2)))
def okT_BT_next (nb : Nat) (nt : Nat) (p0 : Int32) (p1 : Int32) (cfa : Int32) (cst : Int32) (css : Int32) (cve : (Nat → Int32)) (cro : (Nat → Int32)) : Prop := ok_BT_isKept nb nt p0 cst css cve cro ∧ bindp (f_BT_isKept p0 cst css cve cro) (fun z_3 => (z_3.1 = 0 → (¬ (0 : Int32) = 0 → isB cfa)) ∧ (¬ z_3.1 = 0 → bindp (f_BT_isKey p1) (fun z_11 => (z_11.1 = 0 → (¬ (0 : Int32) = 0 → isB cfa)) ∧ (¬ z_11.1 = 0 → (¬ (1 : Int32) = 0 → isB cfa)))))
set_option maxHeartbeats 4000000 in
set_option maxRecDepth 100000 in
theorem cT_BT_next {l : Launch} {G : GG} {ad : Nat → Nat} {nb : Nat} {nt : Nat} {sz : Nat} {cfa : Int32} {cle : Int32} {cwr : Int32} {csl : Int32} {cst : Int32} {cen : Int32} {cby : (Nat → Int32)} {cto : (Nat → Int32)} {csh : (Nat → Int32)} {cdz : Int32} {cch : (Nat → Int32)} {cva : (Nat → Int32)} {css : Int32} {cve : (Nat → Int32)} {cro : (Nat → Int32)} {crc : Int32} {cma : (Nat → Int32)} {cbi : (Nat → Int32)} {ces : (Nat → Int32)} {cbl : (Nat → Int32)} {crt : (Nat → Int32)} {p0 : Int32} {p1 : Int32} {k : Nat} (hfl : l.flags = flags0) (hok : okT_BT_next nb nt p0 p1 cfa cst css cve cro) (hres : th_BT_next p0 p1 cfa cst css cve cro = k) (hk : ¬ k = 0) : CtT l y_BT_next b_BT_next 8 (some .int) rmT_BT_next G (cC G ad nb nt cfa cle cwr csl cst cen cby cto csh cdz cch cva css cve cro crc cma cbi ces cbl crt) sz [.ref (ad 0), .int p0, .int p1] (excOf k) := by
  refine MetT_of (by decide) (Nat.le_of_ble_eq_true rfl) ?_
  intro p e s m below meth c hadm hx hb hr hml hown hlocks hex ht hK A hA hZ hP hD hS ls hl
  have hown : s.vm.findClass "BookTrees" = some m.cls := hown
  have hl : lv_has ls 8 [(0, .ref (ad 0)), (1, .int p0), (2, .int p1)] := hl
  rw [th_BT_next] at hres
  rw [okT_BT_next] at hok
  refine lv_aload_n hx hb d_BT_next_0 rfl (lv_at hl 0 rfl) ?_
  refine lv_aload_n hx hb d_BT_next_1 rfl (lv_at hl 0 rfl) ?_
  refine lv_iload_n hx hb d_BT_next_2 rfl (lv_at hl 1 rfl) ?_
  obtain ⟨hk_3, hok⟩ := hok
  refine go_iz (run_V hx hb hml hown ht hK hP hD (c_BT_isKept hk_3) (cw_V ht km_BT_113 ki_BT_isKept ks_BT_isKept ini_BT kd_BT_isKept kh_BT_isKept ⟨Nat.le_of_ble_eq_true rfl, Nat.le_of_ble_eq_true rfl⟩ rfl rfl) (q0 := 0) (ci := 0) (As := [.int p0]) (rest := [.ref (ad 0)]) rfl rfl rfl hl.1 rfl (Nat.le_of_ble_eq_true rfl) d_BT_next_3 ⟨Nat.zero_le _, Nat.zero_le _⟩) hD hS hA (fun z_3 H locs hz_3 hP hD hS => ?_)
  have hres := bindc_eq hz_3 hres
  have hok := bindp_eq hz_3 hok
  have hP : va_P G.1 classes (cC G ad nb nt cfa cle cwr csl cst cen cby cto csh cdz cch cva css cve cro crc cma cbi ces cbl crt) H := hP
  have hD : va_D A (cC G ad nb nt cfa cle cwr csl cst cen cby cto csh cdz cch cva css cve cro crc cma cbi ces cbl crt) := hD
  refine lv_if_eq (tgt := 21) hx hb d_BT_next_6 (by decide) (fun c_6 => ?_) (fun c_6 => ?_)
  · have hres := it_t c_6 hres
    have hok := hok.1 c_6
    refine lv_iconst (v := (0 : Int32)) hx hb d_BT_next_21 (by decide) ?_
    by_cases c_22 : (0 : Int32) = 0
    · have hres := it_t c_22 hres
      subst hres
      exact out_T (X := IAE) (run_VT hx hb hml hown ht hK hP hD (hZ.kept (fun a h1 h2 => hS.2.1 a h1 h2)) (cT_BT_requireArgument hfl c_22) (cw_V ht km_BT_50 ki_BT_requireArgument ks_BT_requireArgument ini_BT kd_BT_requireArgument kh_BT_requireArgument ⟨Nat.le_of_ble_eq_true rfl, Nat.le_of_ble_eq_true rfl⟩ rfl rfl) (q0 := 0) (ci := 0) (As := [.int (0 : Int32)]) (rest := []) rfl rfl rfl hl.1 rfl (Nat.le_of_ble_eq_true rfl) d_BT_next_22 ⟨by decide, by decide⟩) hlocks hex hD hS hA
    · have hres := it_f c_22 hres
      have hok := hok c_22
      refine go_vz (run_V hx hb hml hown ht hK hP hD (c_BT_requireArgument (by rw [ok_BT_requireArgument]; exact ⟨fun h => c_22 h, fun h => trivial⟩)) (cw_V ht km_BT_50 ki_BT_requireArgument ks_BT_requireArgument ini_BT kd_BT_requireArgument kh_BT_requireArgument ⟨Nat.le_of_ble_eq_true rfl, Nat.le_of_ble_eq_true rfl⟩ rfl rfl) (q0 := 0) (ci := 0) (As := [.int (0 : Int32)]) (rest := []) rfl rfl rfl hl.1 rfl (Nat.le_of_ble_eq_true rfl) d_BT_next_22 ⟨Nat.zero_le _, Nat.zero_le _⟩) hD hS hA (fun z_22 H locs hz_22 hP hD hS => ?_)
      have hP : va_P G.1 classes (cC G ad nb nt cfa cle cwr csl cst cen cby cto csh cdz cch cva css cve cro crc cma cbi ces cbl crt) H := hP
      have hD : va_D A (cC G ad nb nt cfa cle cwr csl cst cen cby cto csh cdz cch cva css cve cro crc cma cbi ces cbl crt) := hD
      refine lv_aload_n hx hb d_BT_next_25 rfl (lv_at hl 0 rfl) ?_
      by_cases c_26 : cfa = 0
      · exact absurd (it_t c_26 hres).symm hk
      · have hres := it_f c_26 hres
        subst hres
        exact out_T (X := ISE) (run_VT hx hb hml hown ht hK hP hD (hZ.kept (fun a h1 h2 => hS.2.1 a h1 h2)) (cT_BT_requirePower hfl hok c_26) (cw_V ht km_BT_54 ki_BT_requirePower ks_BT_requirePower ini_BT kd_BT_requirePower kh_BT_requirePower ⟨Nat.le_of_ble_eq_true rfl, Nat.le_of_ble_eq_true rfl⟩ rfl rfl) (q0 := 0) (ci := 0) (As := []) (rest := []) rfl rfl rfl hl.1 rfl (Nat.le_of_ble_eq_true rfl) d_BT_next_26 ⟨by decide, by decide⟩) hlocks hex hD hS hA
  · have hres := it_f c_6 hres
    have hok := hok.2 c_6
    refine lv_aload_n hx hb d_BT_next_9 rfl (lv_at hl 0 rfl) ?_
    refine lv_iload_n hx hb d_BT_next_10 rfl (lv_at hl 2 rfl) ?_
    refine go_iz (run_V hx hb hml hown ht hK hP hD (c_BT_isKey) (cw_V ht km_BT_46 ki_BT_isKey ks_BT_isKey ini_BT kd_BT_isKey kh_BT_isKey ⟨Nat.le_of_ble_eq_true rfl, Nat.le_of_ble_eq_true rfl⟩ rfl rfl) (q0 := 0) (ci := 0) (As := [.int p1]) (rest := [.ref (ad 0)]) rfl rfl rfl hl.1 rfl (Nat.le_of_ble_eq_true rfl) d_BT_next_11 ⟨Nat.zero_le _, Nat.zero_le _⟩) hD hS hA (fun z_11 H locs hz_11 hP hD hS => ?_)
    have hres := bindc_eq hz_11 hres
    have hok := bindp_eq hz_11 hok
    have hP : va_P G.1 classes (cC G ad nb nt cfa cle cwr csl cst cen cby cto csh cdz cch cva css cve cro crc cma cbi ces cbl crt) H := hP
    have hD : va_D A (cC G ad nb nt cfa cle cwr csl cst cen cby cto csh cdz cch cva css cve cro crc cma cbi ces cbl crt) := hD
    refine lv_if_eq (tgt := 21) hx hb d_BT_next_14 (by decide) (fun c_14 => ?_) (fun c_14 => ?_)
    · have hres := it_t c_14 hres
      have hok := hok.1 c_14
      refine lv_iconst (v := (0 : Int32)) hx hb d_BT_next_21 (by decide) ?_
      by_cases c_22 : (0 : Int32) = 0
      · have hres := it_t c_22 hres
        subst hres
        exact out_T (X := IAE) (run_VT hx hb hml hown ht hK hP hD (hZ.kept (fun a h1 h2 => hS.2.1 a h1 h2)) (cT_BT_requireArgument hfl c_22) (cw_V ht km_BT_50 ki_BT_requireArgument ks_BT_requireArgument ini_BT kd_BT_requireArgument kh_BT_requireArgument ⟨Nat.le_of_ble_eq_true rfl, Nat.le_of_ble_eq_true rfl⟩ rfl rfl) (q0 := 0) (ci := 0) (As := [.int (0 : Int32)]) (rest := []) rfl rfl rfl hl.1 rfl (Nat.le_of_ble_eq_true rfl) d_BT_next_22 ⟨by decide, by decide⟩) hlocks hex hD hS hA
      · have hres := it_f c_22 hres
        have hok := hok c_22
        refine go_vz (run_V hx hb hml hown ht hK hP hD (c_BT_requireArgument (by rw [ok_BT_requireArgument]; exact ⟨fun h => c_22 h, fun h => trivial⟩)) (cw_V ht km_BT_50 ki_BT_requireArgument ks_BT_requireArgument ini_BT kd_BT_requireArgument kh_BT_requireArgument ⟨Nat.le_of_ble_eq_true rfl, Nat.le_of_ble_eq_true rfl⟩ rfl rfl) (q0 := 0) (ci := 0) (As := [.int (0 : Int32)]) (rest := []) rfl rfl rfl hl.1 rfl (Nat.le_of_ble_eq_true rfl) d_BT_next_22 ⟨Nat.zero_le _, Nat.zero_le _⟩) hD hS hA (fun z_22 H locs hz_22 hP hD hS => ?_)
        have hP : va_P G.1 classes (cC G ad nb nt cfa cle cwr csl cst cen cby cto csh cdz cch cva css cve cro crc cma cbi ces cbl crt) H := hP
        have hD : va_D A (cC G ad nb nt cfa cle cwr csl cst cen cby cto csh cdz cch cva css cve cro crc cma cbi ces cbl crt) := hD
        refine lv_aload_n hx hb d_BT_next_25 rfl (lv_at hl 0 rfl) ?_
        by_cases c_26 : cfa = 0
        · exact absurd (it_t c_26 hres).symm hk
        · have hres := it_f c_26 hres
          subst hres
          exact out_T (X := ISE) (run_VT hx hb hml hown ht hK hP hD (hZ.kept (fun a h1 h2 => hS.2.1 a h1 h2)) (cT_BT_requirePower hfl hok c_26) (cw_V ht km_BT_54 ki_BT_requirePower ks_BT_requirePower ini_BT kd_BT_requirePower kh_BT_requirePower ⟨Nat.le_of_ble_eq_true rfl, Nat.le_of_ble_eq_true rfl⟩ rfl rfl) (q0 := 0) (ci := 0) (As := []) (rest := []) rfl rfl rfl hl.1 rfl (Nat.le_of_ble_eq_true rfl) d_BT_next_26 ⟨by decide, by decide⟩) hlocks hex hD hS hA
    · have hres := it_f c_14 hres
      have hok := hok.2 c_14
      refine lv_iconst (v := (1 : Int32)) hx hb d_BT_next_17 (by decide) ?_
      refine lv_goto (tgt := 22) hx hb d_BT_next_18 (by decide) ?_
      by_cases c_22 : (1 : Int32) = 0
      · have hres := it_t c_22 hres
        subst hres
        exact out_T (X := IAE) (run_VT hx hb hml hown ht hK hP hD (hZ.kept (fun a h1 h2 => hS.2.1 a h1 h2)) (cT_BT_requireArgument hfl c_22) (cw_V ht km_BT_50 ki_BT_requireArgument ks_BT_requireArgument ini_BT kd_BT_requireArgument kh_BT_requireArgument ⟨Nat.le_of_ble_eq_true rfl, Nat.le_of_ble_eq_true rfl⟩ rfl rfl) (q0 := 0) (ci := 0) (As := [.int (1 : Int32)]) (rest := []) rfl rfl rfl hl.1 rfl (Nat.le_of_ble_eq_true rfl) d_BT_next_22 ⟨by decide, by decide⟩) hlocks hex hD hS hA
      · have hres := it_f c_22 hres
        have hok := hok c_22
        refine go_vz (run_V hx hb hml hown ht hK hP hD (c_BT_requireArgument (by rw [ok_BT_requireArgument]; exact ⟨fun h => c_22 h, fun h => trivial⟩)) (cw_V ht km_BT_50 ki_BT_requireArgument ks_BT_requireArgument ini_BT kd_BT_requireArgument kh_BT_requireArgument ⟨Nat.le_of_ble_eq_true rfl, Nat.le_of_ble_eq_true rfl⟩ rfl rfl) (q0 := 0) (ci := 0) (As := [.int (1 : Int32)]) (rest := []) rfl rfl rfl hl.1 rfl (Nat.le_of_ble_eq_true rfl) d_BT_next_22 ⟨Nat.zero_le _, Nat.zero_le _⟩) hD hS hA (fun z_22 H locs hz_22 hP hD hS => ?_)
        have hP : va_P G.1 classes (cC G ad nb nt cfa cle cwr csl cst cen cby cto csh cdz cch cva css cve cro crc cma cbi ces cbl crt) H := hP
        have hD : va_D A (cC G ad nb nt cfa cle cwr csl cst cen cby cto csh cdz cch cva css cve cro crc cma cbi ces cbl crt) := hD
        refine lv_aload_n hx hb d_BT_next_25 rfl (lv_at hl 0 rfl) ?_
        by_cases c_26 : cfa = 0
        · exact absurd (it_t c_26 hres).symm hk
        · have hres := it_f c_26 hres
          subst hres
          exact out_T (X := ISE) (run_VT hx hb hml hown ht hK hP hD (hZ.kept (fun a h1 h2 => hS.2.1 a h1 h2)) (cT_BT_requirePower hfl hok c_26) (cw_V ht km_BT_54 ki_BT_requirePower ks_BT_requirePower ini_BT kd_BT_requirePower kh_BT_requirePower ⟨Nat.le_of_ble_eq_true rfl, Nat.le_of_ble_eq_true rfl⟩ rfl rfl) (q0 := 0) (ci := 0) (As := []) (rest := []) rfl rfl rfl hl.1 rfl (Nat.le_of_ble_eq_true rfl) d_BT_next_26 ⟨by decide, by decide⟩) hlocks hex hD hS hA
/-! ===== throws: rows ===== -/
abbrev rmT_BT_rows : Room := { frames := 7, cells := 1, slots := 6, locals := 103 }
def th_BT_rows (p0 : Int32) (cfa : Int32) (cst : Int32) (css : Int32) (cve : (Nat → Int32)) (cro : (Nat → Int32)) : Nat := bindc (f_BT_isKept p0 cst css cve cro) (fun z_3 => if z_3.1 = 0 then 1 else (if cfa = 0 then 0 else 2))
def okT_BT_rows (nb : Nat) (nt : Nat) (p0 : Int32) (cfa : Int32) (cst : Int32) (css : Int32) (cve : (Nat → Int32)) (cro : (Nat → Int32)) : Prop := ok_BT_isKept nb nt p0 cst css cve cro ∧ bindp (f_BT_isKept p0 cst css cve cro) (fun z_3 => (¬ z_3.1 = 0 → isB cfa))
set_option maxHeartbeats 4000000 in
set_option maxRecDepth 100000 in
theorem cT_BT_rows {l : Launch} {G : GG} {ad : Nat → Nat} {nb : Nat} {nt : Nat} {sz : Nat} {cfa : Int32} {cle : Int32} {cwr : Int32} {csl : Int32} {cst : Int32} {cen : Int32} {cby : (Nat → Int32)} {cto : (Nat → Int32)} {csh : (Nat → Int32)} {cdz : Int32} {cch : (Nat → Int32)} {cva : (Nat → Int32)} {css : Int32} {cve : (Nat → Int32)} {cro : (Nat → Int32)} {crc : Int32} {cma : (Nat → Int32)} {cbi : (Nat → Int32)} {ces : (Nat → Int32)} {cbl : (Nat → Int32)} {crt : (Nat → Int32)} {p0 : Int32} {k : Nat} (hfl : l.flags = flags0) (hok : okT_BT_rows nb nt p0 cfa cst css cve cro) (hres : th_BT_rows p0 cfa cst css cve cro = k) (hk : ¬ k = 0) : CtT l y_BT_rows b_BT_rows 3 (some .int) rmT_BT_rows G (cC G ad nb nt cfa cle cwr csl cst cen cby cto csh cdz cch cva css cve cro crc cma cbi ces cbl crt) sz [.ref (ad 0), .int p0] (excOf k) := by
  refine MetT_of (by decide) (Nat.le_of_ble_eq_true rfl) ?_
  intro p e s m below meth c hadm hx hb hr hml hown hlocks hex ht hK A hA hZ hP hD hS ls hl
  have hown : s.vm.findClass "BookTrees" = some m.cls := hown
  have hl : lv_has ls 3 [(0, .ref (ad 0)), (1, .int p0)] := hl
  rw [th_BT_rows] at hres
  rw [okT_BT_rows] at hok
  refine lv_aload_n hx hb d_BT_rows_0 rfl (lv_at hl 0 rfl) ?_
  refine lv_aload_n hx hb d_BT_rows_1 rfl (lv_at hl 0 rfl) ?_
  refine lv_iload_n hx hb d_BT_rows_2 rfl (lv_at hl 1 rfl) ?_
  obtain ⟨hk_3, hok⟩ := hok
  refine go_iz (run_V hx hb hml hown ht hK hP hD (c_BT_isKept hk_3) (cw_V ht km_BT_113 ki_BT_isKept ks_BT_isKept ini_BT kd_BT_isKept kh_BT_isKept ⟨Nat.le_of_ble_eq_true rfl, Nat.le_of_ble_eq_true rfl⟩ rfl rfl) (q0 := 0) (ci := 0) (As := [.int p0]) (rest := [.ref (ad 0)]) rfl rfl rfl hl.1 rfl (Nat.le_of_ble_eq_true rfl) d_BT_rows_3 ⟨Nat.zero_le _, Nat.zero_le _⟩) hD hS hA (fun z_3 H locs hz_3 hP hD hS => ?_)
  have hres := bindc_eq hz_3 hres
  have hok := bindp_eq hz_3 hok
  have hP : va_P G.1 classes (cC G ad nb nt cfa cle cwr csl cst cen cby cto csh cdz cch cva css cve cro crc cma cbi ces cbl crt) H := hP
  have hD : va_D A (cC G ad nb nt cfa cle cwr csl cst cen cby cto csh cdz cch cva css cve cro crc cma cbi ces cbl crt) := hD
  by_cases c_6 : z_3.1 = 0
  · have hres := it_t c_6 hres
    subst hres
    exact out_T (X := IAE) (run_VT hx hb hml hown ht hK hP hD (hZ.kept (fun a h1 h2 => hS.2.1 a h1 h2)) (cT_BT_requireArgument hfl c_6) (cw_V ht km_BT_50 ki_BT_requireArgument ks_BT_requireArgument ini_BT kd_BT_requireArgument kh_BT_requireArgument ⟨Nat.le_of_ble_eq_true rfl, Nat.le_of_ble_eq_true rfl⟩ rfl rfl) (q0 := 0) (ci := 0) (As := [.int z_3.1]) (rest := []) rfl rfl rfl hl.1 rfl (Nat.le_of_ble_eq_true rfl) d_BT_rows_6 ⟨by decide, by decide⟩) hlocks hex hD hS hA
  · have hres := it_f c_6 hres
    have hok := hok c_6
    refine go_vz (run_V hx hb hml hown ht hK hP hD (c_BT_requireArgument (by rw [ok_BT_requireArgument]; exact ⟨fun h => c_6 h, fun h => trivial⟩)) (cw_V ht km_BT_50 ki_BT_requireArgument ks_BT_requireArgument ini_BT kd_BT_requireArgument kh_BT_requireArgument ⟨Nat.le_of_ble_eq_true rfl, Nat.le_of_ble_eq_true rfl⟩ rfl rfl) (q0 := 0) (ci := 0) (As := [.int z_3.1]) (rest := []) rfl rfl rfl hl.1 rfl (Nat.le_of_ble_eq_true rfl) d_BT_rows_6 ⟨Nat.zero_le _, Nat.zero_le _⟩) hD hS hA (fun z_6 H locs hz_6 hP hD hS => ?_)
    have hP : va_P G.1 classes (cC G ad nb nt cfa cle cwr csl cst cen cby cto csh cdz cch cva css cve cro crc cma cbi ces cbl crt) H := hP
    have hD : va_D A (cC G ad nb nt cfa cle cwr csl cst cen cby cto csh cdz cch cva css cve cro crc cma cbi ces cbl crt) := hD
    refine lv_aload_n hx hb d_BT_rows_9 rfl (lv_at hl 0 rfl) ?_
    by_cases c_10 : cfa = 0
    · exact absurd (it_t c_10 hres).symm hk
    · have hres := it_f c_10 hres
      subst hres
      exact out_T (X := ISE) (run_VT hx hb hml hown ht hK hP hD (hZ.kept (fun a h1 h2 => hS.2.1 a h1 h2)) (cT_BT_requirePower hfl hok c_10) (cw_V ht km_BT_54 ki_BT_requirePower ks_BT_requirePower ini_BT kd_BT_requirePower kh_BT_requirePower ⟨Nat.le_of_ble_eq_true rfl, Nat.le_of_ble_eq_true rfl⟩ rfl rfl) (q0 := 0) (ci := 0) (As := []) (rest := []) rfl rfl rfl hl.1 rfl (Nat.le_of_ble_eq_true rfl) d_BT_rows_10 ⟨by decide, by decide⟩) hlocks hex hD hS hA
/-! ===== throws: kept ===== -/
abbrev rmT_BT_kept : Room := { frames := 7, cells := 1, slots := 6, locals := 103 }
def th_BT_kept (p0 : Int32) (cfa : Int32) : Nat := if p0 < 0 then (if (0 : Int32) = 0 then 1 else (if cfa = 0 then 0 else 2)) else if (1 : Int32) = 0 then 1 else (if cfa = 0 then 0 else 2)
def okT_BT_kept (nb : Nat) (nt : Nat) (p0 : Int32) (cfa : Int32) : Prop := (p0 < 0 → (¬ (0 : Int32) = 0 → isB cfa)) ∧ (¬ p0 < 0 → (¬ (1 : Int32) = 0 → isB cfa))
set_option maxHeartbeats 4000000 in
set_option maxRecDepth 100000 in
theorem cT_BT_kept {l : Launch} {G : GG} {ad : Nat → Nat} {nb : Nat} {nt : Nat} {sz : Nat} {cfa : Int32} {cle : Int32} {cwr : Int32} {csl : Int32} {cst : Int32} {cen : Int32} {cby : (Nat → Int32)} {cto : (Nat → Int32)} {csh : (Nat → Int32)} {cdz : Int32} {cch : (Nat → Int32)} {cva : (Nat → Int32)} {css : Int32} {cve : (Nat → Int32)} {cro : (Nat → Int32)} {crc : Int32} {cma : (Nat → Int32)} {cbi : (Nat → Int32)} {ces : (Nat → Int32)} {cbl : (Nat → Int32)} {crt : (Nat → Int32)} {p0 : Int32} {k : Nat} (hfl : l.flags = flags0) (hok : okT_BT_kept nb nt p0 cfa) (hres : th_BT_kept p0 cfa = k) (hk : ¬ k = 0) : CtT l y_BT_kept b_BT_kept 2 (some .int) rmT_BT_kept G (cC G ad nb nt cfa cle cwr csl cst cen cby cto csh cdz cch cva css cve cro crc cma cbi ces cbl crt) sz [.ref (ad 0), .int p0] (excOf k) := by
  refine MetT_of (by decide) (Nat.le_of_ble_eq_true rfl) ?_
  intro p e s m below meth c hadm hx hb hr hml hown hlocks hex ht hK A hA hZ hP hD hS ls hl
  have hown : s.vm.findClass "BookTrees" = some m.cls := hown
  have hl : lv_has ls 2 [(0, .ref (ad 0)), (1, .int p0)] := hl
  rw [th_BT_kept] at hres
  rw [okT_BT_kept] at hok
  refine lv_aload_n hx hb d_BT_kept_0 rfl (lv_at hl 0 rfl) ?_
  refine lv_iload_n hx hb d_BT_kept_1 rfl (lv_at hl 1 rfl) ?_
  refine lv_if_lt (tgt := 9) hx hb d_BT_kept_2 (by decide) (fun c_2 => ?_) (fun c_2 => ?_)
  · have hres := it_t c_2 hres
    have hok := hok.1 c_2
    refine lv_iconst (v := (0 : Int32)) hx hb d_BT_kept_9 (by decide) ?_
    by_cases c_10 : (0 : Int32) = 0
    · have hres := it_t c_10 hres
      subst hres
      exact out_T (X := IAE) (run_VT hx hb hml hown ht hK hP hD (hZ.kept (fun a h1 h2 => hS.2.1 a h1 h2)) (cT_BT_requireArgument hfl c_10) (cw_V ht km_BT_50 ki_BT_requireArgument ks_BT_requireArgument ini_BT kd_BT_requireArgument kh_BT_requireArgument ⟨Nat.le_of_ble_eq_true rfl, Nat.le_of_ble_eq_true rfl⟩ rfl rfl) (q0 := 0) (ci := 0) (As := [.int (0 : Int32)]) (rest := []) rfl rfl rfl hl.1 rfl (Nat.le_of_ble_eq_true rfl) d_BT_kept_10 ⟨by decide, by decide⟩) hlocks hex hD hS hA
    · have hres := it_f c_10 hres
      have hok := hok c_10
      refine go_vz (run_V hx hb hml hown ht hK hP hD (c_BT_requireArgument (by rw [ok_BT_requireArgument]; exact ⟨fun h => c_10 h, fun h => trivial⟩)) (cw_V ht km_BT_50 ki_BT_requireArgument ks_BT_requireArgument ini_BT kd_BT_requireArgument kh_BT_requireArgument ⟨Nat.le_of_ble_eq_true rfl, Nat.le_of_ble_eq_true rfl⟩ rfl rfl) (q0 := 0) (ci := 0) (As := [.int (0 : Int32)]) (rest := []) rfl rfl rfl hl.1 rfl (Nat.le_of_ble_eq_true rfl) d_BT_kept_10 ⟨Nat.zero_le _, Nat.zero_le _⟩) hD hS hA (fun z_10 H locs hz_10 hP hD hS => ?_)
      have hP : va_P G.1 classes (cC G ad nb nt cfa cle cwr csl cst cen cby cto csh cdz cch cva css cve cro crc cma cbi ces cbl crt) H := hP
      have hD : va_D A (cC G ad nb nt cfa cle cwr csl cst cen cby cto csh cdz cch cva css cve cro crc cma cbi ces cbl crt) := hD
      refine lv_aload_n hx hb d_BT_kept_13 rfl (lv_at hl 0 rfl) ?_
      by_cases c_14 : cfa = 0
      · exact absurd (it_t c_14 hres).symm hk
      · have hres := it_f c_14 hres
        subst hres
        exact out_T (X := ISE) (run_VT hx hb hml hown ht hK hP hD (hZ.kept (fun a h1 h2 => hS.2.1 a h1 h2)) (cT_BT_requirePower hfl hok c_14) (cw_V ht km_BT_54 ki_BT_requirePower ks_BT_requirePower ini_BT kd_BT_requirePower kh_BT_requirePower ⟨Nat.le_of_ble_eq_true rfl, Nat.le_of_ble_eq_true rfl⟩ rfl rfl) (q0 := 0) (ci := 0) (As := []) (rest := []) rfl rfl rfl hl.1 rfl (Nat.le_of_ble_eq_true rfl) d_BT_kept_14 ⟨by decide, by decide⟩) hlocks hex hD hS hA
  · have hres := it_f c_2 hres
    have hok := hok.2 c_2
    refine lv_iconst (v := (1 : Int32)) hx hb d_BT_kept_5 (by decide) ?_
    refine lv_goto (tgt := 10) hx hb d_BT_kept_6 (by decide) ?_
    by_cases c_10 : (1 : Int32) = 0
    · have hres := it_t c_10 hres
      subst hres
      exact out_T (X := IAE) (run_VT hx hb hml hown ht hK hP hD (hZ.kept (fun a h1 h2 => hS.2.1 a h1 h2)) (cT_BT_requireArgument hfl c_10) (cw_V ht km_BT_50 ki_BT_requireArgument ks_BT_requireArgument ini_BT kd_BT_requireArgument kh_BT_requireArgument ⟨Nat.le_of_ble_eq_true rfl, Nat.le_of_ble_eq_true rfl⟩ rfl rfl) (q0 := 0) (ci := 0) (As := [.int (1 : Int32)]) (rest := []) rfl rfl rfl hl.1 rfl (Nat.le_of_ble_eq_true rfl) d_BT_kept_10 ⟨by decide, by decide⟩) hlocks hex hD hS hA
    · have hres := it_f c_10 hres
      have hok := hok c_10
      refine go_vz (run_V hx hb hml hown ht hK hP hD (c_BT_requireArgument (by rw [ok_BT_requireArgument]; exact ⟨fun h => c_10 h, fun h => trivial⟩)) (cw_V ht km_BT_50 ki_BT_requireArgument ks_BT_requireArgument ini_BT kd_BT_requireArgument kh_BT_requireArgument ⟨Nat.le_of_ble_eq_true rfl, Nat.le_of_ble_eq_true rfl⟩ rfl rfl) (q0 := 0) (ci := 0) (As := [.int (1 : Int32)]) (rest := []) rfl rfl rfl hl.1 rfl (Nat.le_of_ble_eq_true rfl) d_BT_kept_10 ⟨Nat.zero_le _, Nat.zero_le _⟩) hD hS hA (fun z_10 H locs hz_10 hP hD hS => ?_)
      have hP : va_P G.1 classes (cC G ad nb nt cfa cle cwr csl cst cen cby cto csh cdz cch cva css cve cro crc cma cbi ces cbl crt) H := hP
      have hD : va_D A (cC G ad nb nt cfa cle cwr csl cst cen cby cto csh cdz cch cva css cve cro crc cma cbi ces cbl crt) := hD
      refine lv_aload_n hx hb d_BT_kept_13 rfl (lv_at hl 0 rfl) ?_
      by_cases c_14 : cfa = 0
      · exact absurd (it_t c_14 hres).symm hk
      · have hres := it_f c_14 hres
        subst hres
        exact out_T (X := ISE) (run_VT hx hb hml hown ht hK hP hD (hZ.kept (fun a h1 h2 => hS.2.1 a h1 h2)) (cT_BT_requirePower hfl hok c_14) (cw_V ht km_BT_54 ki_BT_requirePower ks_BT_requirePower ini_BT kd_BT_requirePower kh_BT_requirePower ⟨Nat.le_of_ble_eq_true rfl, Nat.le_of_ble_eq_true rfl⟩ rfl rfl) (q0 := 0) (ci := 0) (As := []) (rest := []) rfl rfl rfl hl.1 rfl (Nat.le_of_ble_eq_true rfl) d_BT_kept_14 ⟨by decide, by decide⟩) hlocks hex hD hS hA
/-! ===== throws: crash ===== -/
abbrev rmT_BT_crash : Room := { frames := 7, cells := 1, slots := 6, locals := 103 }
def th_BT_crash (p0 : Int32) (cfa : Int32) : Nat := if p0 < (-1 : Int32) then (if (0 : Int32) = 0 then 1 else (if cfa = 0 then 0 else 2)) else if (100000 : Int32) < p0 then (if (0 : Int32) = 0 then 1 else (if cfa = 0 then 0 else 2)) else if (1 : Int32) = 0 then 1 else (if cfa = 0 then 0 else 2)
def okT_BT_crash (nb : Nat) (nt : Nat) (p0 : Int32) (cfa : Int32) : Prop := (p0 < (-1 : Int32) → (¬ (0 : Int32) = 0 → isB cfa)) ∧ (¬ p0 < (-1 : Int32) → ((100000 : Int32) < p0 → (¬ (0 : Int32) = 0 → isB cfa)) ∧ (¬ (100000 : Int32) < p0 → (¬ (1 : Int32) = 0 → isB cfa)))
set_option maxHeartbeats 4000000 in
set_option maxRecDepth 100000 in
theorem cT_BT_crash {l : Launch} {G : GG} {ad : Nat → Nat} {nb : Nat} {nt : Nat} {sz : Nat} {cfa : Int32} {cle : Int32} {cwr : Int32} {csl : Int32} {cst : Int32} {cen : Int32} {cby : (Nat → Int32)} {cto : (Nat → Int32)} {csh : (Nat → Int32)} {cdz : Int32} {cch : (Nat → Int32)} {cva : (Nat → Int32)} {css : Int32} {cve : (Nat → Int32)} {cro : (Nat → Int32)} {crc : Int32} {cma : (Nat → Int32)} {cbi : (Nat → Int32)} {ces : (Nat → Int32)} {cbl : (Nat → Int32)} {crt : (Nat → Int32)} {p0 : Int32} {k : Nat} (hfl : l.flags = flags0) (hok : okT_BT_crash nb nt p0 cfa) (hres : th_BT_crash p0 cfa = k) (hk : ¬ k = 0) : CtT l y_BT_crash b_BT_crash 2 none rmT_BT_crash G (cC G ad nb nt cfa cle cwr csl cst cen cby cto csh cdz cch cva css cve cro crc cma cbi ces cbl crt) sz [.ref (ad 0), .int p0] (excOf k) := by
  refine MetT_of (by decide) (Nat.le_of_ble_eq_true rfl) ?_
  intro p e s m below meth c hadm hx hb hr hml hown hlocks hex ht hK A hA hZ hP hD hS ls hl
  have hown : s.vm.findClass "BookTrees" = some m.cls := hown
  have hl : lv_has ls 2 [(0, .ref (ad 0)), (1, .int p0)] := hl
  rw [th_BT_crash] at hres
  rw [okT_BT_crash] at hok
  refine lv_aload_n hx hb d_BT_crash_0 rfl (lv_at hl 0 rfl) ?_
  refine lv_iload_n hx hb d_BT_crash_1 rfl (lv_at hl 1 rfl) ?_
  refine lv_iconst (v := (-1 : Int32)) hx hb d_BT_crash_2 (by decide) ?_
  refine lv_icmp_lt (tgt := 16) hx hb d_BT_crash_3 (by decide) (fun c_3 => ?_) (fun c_3 => ?_)
  · have hres := it_t c_3 hres
    have hok := hok.1 c_3
    refine lv_iconst (v := (0 : Int32)) hx hb d_BT_crash_16 (by decide) ?_
    by_cases c_17 : (0 : Int32) = 0
    · have hres := it_t c_17 hres
      subst hres
      exact out_T (X := IAE) (run_VT hx hb hml hown ht hK hP hD (hZ.kept (fun a h1 h2 => hS.2.1 a h1 h2)) (cT_BT_requireArgument hfl c_17) (cw_V ht km_BT_50 ki_BT_requireArgument ks_BT_requireArgument ini_BT kd_BT_requireArgument kh_BT_requireArgument ⟨Nat.le_of_ble_eq_true rfl, Nat.le_of_ble_eq_true rfl⟩ rfl rfl) (q0 := 0) (ci := 0) (As := [.int (0 : Int32)]) (rest := []) rfl rfl rfl hl.1 rfl (Nat.le_of_ble_eq_true rfl) d_BT_crash_17 ⟨by decide, by decide⟩) hlocks hex hD hS hA
    · have hres := it_f c_17 hres
      have hok := hok c_17
      refine go_vz (run_V hx hb hml hown ht hK hP hD (c_BT_requireArgument (by rw [ok_BT_requireArgument]; exact ⟨fun h => c_17 h, fun h => trivial⟩)) (cw_V ht km_BT_50 ki_BT_requireArgument ks_BT_requireArgument ini_BT kd_BT_requireArgument kh_BT_requireArgument ⟨Nat.le_of_ble_eq_true rfl, Nat.le_of_ble_eq_true rfl⟩ rfl rfl) (q0 := 0) (ci := 0) (As := [.int (0 : Int32)]) (rest := []) rfl rfl rfl hl.1 rfl (Nat.le_of_ble_eq_true rfl) d_BT_crash_17 ⟨Nat.zero_le _, Nat.zero_le _⟩) hD hS hA (fun z_17 H locs hz_17 hP hD hS => ?_)
      have hP : va_P G.1 classes (cC G ad nb nt cfa cle cwr csl cst cen cby cto csh cdz cch cva css cve cro crc cma cbi ces cbl crt) H := hP
      have hD : va_D A (cC G ad nb nt cfa cle cwr csl cst cen cby cto csh cdz cch cva css cve cro crc cma cbi ces cbl crt) := hD
      refine lv_aload_n hx hb d_BT_crash_20 rfl (lv_at hl 0 rfl) ?_
      by_cases c_21 : cfa = 0
      · exact absurd (it_t c_21 hres).symm hk
      · have hres := it_f c_21 hres
        subst hres
        exact out_T (X := ISE) (run_VT hx hb hml hown ht hK hP hD (hZ.kept (fun a h1 h2 => hS.2.1 a h1 h2)) (cT_BT_requirePower hfl hok c_21) (cw_V ht km_BT_54 ki_BT_requirePower ks_BT_requirePower ini_BT kd_BT_requirePower kh_BT_requirePower ⟨Nat.le_of_ble_eq_true rfl, Nat.le_of_ble_eq_true rfl⟩ rfl rfl) (q0 := 0) (ci := 0) (As := []) (rest := []) rfl rfl rfl hl.1 rfl (Nat.le_of_ble_eq_true rfl) d_BT_crash_21 ⟨by decide, by decide⟩) hlocks hex hD hS hA
  · have hres := it_f c_3 hres
    have hok := hok.2 c_3
    refine lv_iload_n hx hb d_BT_crash_6 rfl (lv_at hl 1 rfl) ?_
    refine lv_ldc hx hb hown (ht _ kk_BT_137) d_BT_crash_7 ?_
    refine lv_icmp_gt (tgt := 16) hx hb d_BT_crash_9 (by decide) (fun c_9 => ?_) (fun c_9 => ?_)
    · have hres := it_t c_9 hres
      have hok := hok.1 c_9
      refine lv_iconst (v := (0 : Int32)) hx hb d_BT_crash_16 (by decide) ?_
      by_cases c_17 : (0 : Int32) = 0
      · have hres := it_t c_17 hres
        subst hres
        exact out_T (X := IAE) (run_VT hx hb hml hown ht hK hP hD (hZ.kept (fun a h1 h2 => hS.2.1 a h1 h2)) (cT_BT_requireArgument hfl c_17) (cw_V ht km_BT_50 ki_BT_requireArgument ks_BT_requireArgument ini_BT kd_BT_requireArgument kh_BT_requireArgument ⟨Nat.le_of_ble_eq_true rfl, Nat.le_of_ble_eq_true rfl⟩ rfl rfl) (q0 := 0) (ci := 0) (As := [.int (0 : Int32)]) (rest := []) rfl rfl rfl hl.1 rfl (Nat.le_of_ble_eq_true rfl) d_BT_crash_17 ⟨by decide, by decide⟩) hlocks hex hD hS hA
      · have hres := it_f c_17 hres
        have hok := hok c_17
        refine go_vz (run_V hx hb hml hown ht hK hP hD (c_BT_requireArgument (by rw [ok_BT_requireArgument]; exact ⟨fun h => c_17 h, fun h => trivial⟩)) (cw_V ht km_BT_50 ki_BT_requireArgument ks_BT_requireArgument ini_BT kd_BT_requireArgument kh_BT_requireArgument ⟨Nat.le_of_ble_eq_true rfl, Nat.le_of_ble_eq_true rfl⟩ rfl rfl) (q0 := 0) (ci := 0) (As := [.int (0 : Int32)]) (rest := []) rfl rfl rfl hl.1 rfl (Nat.le_of_ble_eq_true rfl) d_BT_crash_17 ⟨Nat.zero_le _, Nat.zero_le _⟩) hD hS hA (fun z_17 H locs hz_17 hP hD hS => ?_)
        have hP : va_P G.1 classes (cC G ad nb nt cfa cle cwr csl cst cen cby cto csh cdz cch cva css cve cro crc cma cbi ces cbl crt) H := hP
        have hD : va_D A (cC G ad nb nt cfa cle cwr csl cst cen cby cto csh cdz cch cva css cve cro crc cma cbi ces cbl crt) := hD
        refine lv_aload_n hx hb d_BT_crash_20 rfl (lv_at hl 0 rfl) ?_
        by_cases c_21 : cfa = 0
        · exact absurd (it_t c_21 hres).symm hk
        · have hres := it_f c_21 hres
          subst hres
          exact out_T (X := ISE) (run_VT hx hb hml hown ht hK hP hD (hZ.kept (fun a h1 h2 => hS.2.1 a h1 h2)) (cT_BT_requirePower hfl hok c_21) (cw_V ht km_BT_54 ki_BT_requirePower ks_BT_requirePower ini_BT kd_BT_requirePower kh_BT_requirePower ⟨Nat.le_of_ble_eq_true rfl, Nat.le_of_ble_eq_true rfl⟩ rfl rfl) (q0 := 0) (ci := 0) (As := []) (rest := []) rfl rfl rfl hl.1 rfl (Nat.le_of_ble_eq_true rfl) d_BT_crash_21 ⟨by decide, by decide⟩) hlocks hex hD hS hA
    · have hres := it_f c_9 hres
      have hok := hok.2 c_9
      refine lv_iconst (v := (1 : Int32)) hx hb d_BT_crash_12 (by decide) ?_
      refine lv_goto (tgt := 17) hx hb d_BT_crash_13 (by decide) ?_
      by_cases c_17 : (1 : Int32) = 0
      · have hres := it_t c_17 hres
        subst hres
        exact out_T (X := IAE) (run_VT hx hb hml hown ht hK hP hD (hZ.kept (fun a h1 h2 => hS.2.1 a h1 h2)) (cT_BT_requireArgument hfl c_17) (cw_V ht km_BT_50 ki_BT_requireArgument ks_BT_requireArgument ini_BT kd_BT_requireArgument kh_BT_requireArgument ⟨Nat.le_of_ble_eq_true rfl, Nat.le_of_ble_eq_true rfl⟩ rfl rfl) (q0 := 0) (ci := 0) (As := [.int (1 : Int32)]) (rest := []) rfl rfl rfl hl.1 rfl (Nat.le_of_ble_eq_true rfl) d_BT_crash_17 ⟨by decide, by decide⟩) hlocks hex hD hS hA
      · have hres := it_f c_17 hres
        have hok := hok c_17
        refine go_vz (run_V hx hb hml hown ht hK hP hD (c_BT_requireArgument (by rw [ok_BT_requireArgument]; exact ⟨fun h => c_17 h, fun h => trivial⟩)) (cw_V ht km_BT_50 ki_BT_requireArgument ks_BT_requireArgument ini_BT kd_BT_requireArgument kh_BT_requireArgument ⟨Nat.le_of_ble_eq_true rfl, Nat.le_of_ble_eq_true rfl⟩ rfl rfl) (q0 := 0) (ci := 0) (As := [.int (1 : Int32)]) (rest := []) rfl rfl rfl hl.1 rfl (Nat.le_of_ble_eq_true rfl) d_BT_crash_17 ⟨Nat.zero_le _, Nat.zero_le _⟩) hD hS hA (fun z_17 H locs hz_17 hP hD hS => ?_)
        have hP : va_P G.1 classes (cC G ad nb nt cfa cle cwr csl cst cen cby cto csh cdz cch cva css cve cro crc cma cbi ces cbl crt) H := hP
        have hD : va_D A (cC G ad nb nt cfa cle cwr csl cst cen cby cto csh cdz cch cva css cve cro crc cma cbi ces cbl crt) := hD
        refine lv_aload_n hx hb d_BT_crash_20 rfl (lv_at hl 0 rfl) ?_
        by_cases c_21 : cfa = 0
        · exact absurd (it_t c_21 hres).symm hk
        · have hres := it_f c_21 hres
          subst hres
          exact out_T (X := ISE) (run_VT hx hb hml hown ht hK hP hD (hZ.kept (fun a h1 h2 => hS.2.1 a h1 h2)) (cT_BT_requirePower hfl hok c_21) (cw_V ht km_BT_54 ki_BT_requirePower ks_BT_requirePower ini_BT kd_BT_requirePower kh_BT_requirePower ⟨Nat.le_of_ble_eq_true rfl, Nat.le_of_ble_eq_true rfl⟩ rfl rfl) (q0 := 0) (ci := 0) (As := []) (rest := []) rfl rfl rfl hl.1 rfl (Nat.le_of_ble_eq_true rfl) d_BT_crash_21 ⟨by decide, by decide⟩) hlocks hex hD hS hA
/-! ===== throws: byteAt ===== -/
abbrev rmT_BT_byteAt : Room := { frames := 7, cells := 1, slots := 6, locals := 103 }
def th_BT_byteAt (p0 : Int32) (p1 : Int32) (cfa : Int32) (cst : Int32) (cen : Int32) : Nat := bindc (f_RL_isUsed p0 cst cen) (fun z_6 => if z_6.1 = 0 then (if (0 : Int32) = 0 then 1 else (if cfa = 0 then 0 else 2)) else bindc (f_BT_isByteIndex p1) (fun z_14 => if z_14.1 = 0 then (if (0 : Int32) = 0 then 1 else (if cfa = 0 then 0 else 2)) else if (1 : Int32) = 0 then 1 else (if cfa = 0 then 0 else 2)))
def okT_BT_byteAt (nb : Nat) (nt : Nat) (p0 : Int32) (p1 : Int32) (cfa : Int32) (cst : Int32) (cen : Int32) : Prop := bindp (f_RL_isUsed p0 cst cen) (fun z_6 => (z_6.1 = 0 → (¬ (0 : Int32) = 0 → isB cfa)) ∧ (¬ z_6.1 = 0 → bindp (f_BT_isByteIndex p1) (fun z_14 => (z_14.1 = 0 → (¬ (0 : Int32) = 0 → isB cfa)) ∧ (¬ z_14.1 = 0 → (¬ (1 : Int32) = 0 → isB cfa)))))
set_option maxHeartbeats 4000000 in
set_option maxRecDepth 100000 in
theorem cT_BT_byteAt {l : Launch} {G : GG} {ad : Nat → Nat} {nb : Nat} {nt : Nat} {sz : Nat} {cfa : Int32} {cle : Int32} {cwr : Int32} {csl : Int32} {cst : Int32} {cen : Int32} {cby : (Nat → Int32)} {cto : (Nat → Int32)} {csh : (Nat → Int32)} {cdz : Int32} {cch : (Nat → Int32)} {cva : (Nat → Int32)} {css : Int32} {cve : (Nat → Int32)} {cro : (Nat → Int32)} {crc : Int32} {cma : (Nat → Int32)} {cbi : (Nat → Int32)} {ces : (Nat → Int32)} {cbl : (Nat → Int32)} {crt : (Nat → Int32)} {p0 : Int32} {p1 : Int32} {k : Nat} (hfl : l.flags = flags0) (hok : okT_BT_byteAt nb nt p0 p1 cfa cst cen) (hres : th_BT_byteAt p0 p1 cfa cst cen = k) (hk : ¬ k = 0) : CtT l y_BT_byteAt b_BT_byteAt 3 (some .int) rmT_BT_byteAt G (cC G ad nb nt cfa cle cwr csl cst cen cby cto csh cdz cch cva css cve cro crc cma cbi ces cbl crt) sz [.ref (ad 0), .int p0, .int p1] (excOf k) := by
  refine MetT_of (by decide) (Nat.le_of_ble_eq_true rfl) ?_
  intro p e s m below meth c hadm hx hb hr hml hown hlocks hex ht hK A hA hZ hP hD hS ls hl
  have hown : s.vm.findClass "BookTrees" = some m.cls := hown
  have hl : lv_has ls 3 [(0, .ref (ad 0)), (1, .int p0), (2, .int p1)] := hl
  rw [th_BT_byteAt] at hres
  rw [okT_BT_byteAt] at hok
  refine lv_aload_n hx hb d_BT_byteAt_0 rfl (lv_at hl 0 rfl) ?_
  refine lv_aload_n hx hb d_BT_byteAt_1 rfl (lv_at hl 0 rfl) ?_
  refine va_get (D := G.1) (ci := 0) (C := R_BT) (T := F_BT) (N := 5) hx hb ht in_BT hown hK hP 0 rfl rfl 1 (by decide) (ht _ kf_BT_21) (fun _ h9 => h9) rfl d_BT_byteAt_2 ?_
  refine lv_iload_n hx hb d_BT_byteAt_5 rfl (lv_at hl 1 rfl) ?_
  refine go_iz (run_V hx hb hml hown ht hK hP hD (c_RL_isUsed) (cw_V ht km_BT_160 ki_RL_isUsed ks_RL_isUsed ini_RL kd_RL_isUsed kh_RL_isUsed ⟨Nat.le_of_ble_eq_true rfl, Nat.le_of_ble_eq_true rfl⟩ rfl rfl) (q0 := 2) (ci := 2) (As := [.int p0]) (rest := [.ref (ad 0)]) rfl rfl rfl hl.1 rfl (Nat.le_of_ble_eq_true rfl) d_BT_byteAt_6 ⟨Nat.zero_le _, Nat.zero_le _⟩) hD hS hA (fun z_6 H locs hz_6 hP hD hS => ?_)
  have hres := bindc_eq hz_6 hres
  have hok := bindp_eq hz_6 hok
  have hP : va_P G.1 classes (cC G ad nb nt cfa cle cwr csl cst cen cby cto csh cdz cch cva css cve cro crc cma cbi ces cbl crt) H := hP
  have hD : va_D A (cC G ad nb nt cfa cle cwr csl cst cen cby cto csh cdz cch cva css cve cro crc cma cbi ces cbl crt) := hD
  refine lv_if_eq (tgt := 24) hx hb d_BT_byteAt_9 (by decide) (fun c_9 => ?_) (fun c_9 => ?_)
  · have hres := it_t c_9 hres
    have hok := hok.1 c_9
    refine lv_iconst (v := (0 : Int32)) hx hb d_BT_byteAt_24 (by decide) ?_
    by_cases c_25 : (0 : Int32) = 0
    · have hres := it_t c_25 hres
      subst hres
      exact out_T (X := IAE) (run_VT hx hb hml hown ht hK hP hD (hZ.kept (fun a h1 h2 => hS.2.1 a h1 h2)) (cT_BT_requireArgument hfl c_25) (cw_V ht km_BT_50 ki_BT_requireArgument ks_BT_requireArgument ini_BT kd_BT_requireArgument kh_BT_requireArgument ⟨Nat.le_of_ble_eq_true rfl, Nat.le_of_ble_eq_true rfl⟩ rfl rfl) (q0 := 0) (ci := 0) (As := [.int (0 : Int32)]) (rest := []) rfl rfl rfl hl.1 rfl (Nat.le_of_ble_eq_true rfl) d_BT_byteAt_25 ⟨by decide, by decide⟩) hlocks hex hD hS hA
    · have hres := it_f c_25 hres
      have hok := hok c_25
      refine go_vz (run_V hx hb hml hown ht hK hP hD (c_BT_requireArgument (by rw [ok_BT_requireArgument]; exact ⟨fun h => c_25 h, fun h => trivial⟩)) (cw_V ht km_BT_50 ki_BT_requireArgument ks_BT_requireArgument ini_BT kd_BT_requireArgument kh_BT_requireArgument ⟨Nat.le_of_ble_eq_true rfl, Nat.le_of_ble_eq_true rfl⟩ rfl rfl) (q0 := 0) (ci := 0) (As := [.int (0 : Int32)]) (rest := []) rfl rfl rfl hl.1 rfl (Nat.le_of_ble_eq_true rfl) d_BT_byteAt_25 ⟨Nat.zero_le _, Nat.zero_le _⟩) hD hS hA (fun z_25 H locs hz_25 hP hD hS => ?_)
      have hP : va_P G.1 classes (cC G ad nb nt cfa cle cwr csl cst cen cby cto csh cdz cch cva css cve cro crc cma cbi ces cbl crt) H := hP
      have hD : va_D A (cC G ad nb nt cfa cle cwr csl cst cen cby cto csh cdz cch cva css cve cro crc cma cbi ces cbl crt) := hD
      refine lv_aload_n hx hb d_BT_byteAt_28 rfl (lv_at hl 0 rfl) ?_
      by_cases c_29 : cfa = 0
      · exact absurd (it_t c_29 hres).symm hk
      · have hres := it_f c_29 hres
        subst hres
        exact out_T (X := ISE) (run_VT hx hb hml hown ht hK hP hD (hZ.kept (fun a h1 h2 => hS.2.1 a h1 h2)) (cT_BT_requirePower hfl hok c_29) (cw_V ht km_BT_54 ki_BT_requirePower ks_BT_requirePower ini_BT kd_BT_requirePower kh_BT_requirePower ⟨Nat.le_of_ble_eq_true rfl, Nat.le_of_ble_eq_true rfl⟩ rfl rfl) (q0 := 0) (ci := 0) (As := []) (rest := []) rfl rfl rfl hl.1 rfl (Nat.le_of_ble_eq_true rfl) d_BT_byteAt_29 ⟨by decide, by decide⟩) hlocks hex hD hS hA
  · have hres := it_f c_9 hres
    have hok := hok.2 c_9
    refine lv_aload_n hx hb d_BT_byteAt_12 rfl (lv_at hl 0 rfl) ?_
    refine lv_iload_n hx hb d_BT_byteAt_13 rfl (lv_at hl 2 rfl) ?_
    refine go_iz (run_V hx hb hml hown ht hK hP hD (c_BT_isByteIndex) (cw_V ht km_BT_173 ki_BT_isByteIndex ks_BT_isByteIndex ini_BT kd_BT_isByteIndex kh_BT_isByteIndex ⟨Nat.le_of_ble_eq_true rfl, Nat.le_of_ble_eq_true rfl⟩ rfl rfl) (q0 := 0) (ci := 0) (As := [.int p1]) (rest := [.ref (ad 0)]) rfl rfl rfl hl.1 rfl (Nat.le_of_ble_eq_true rfl) d_BT_byteAt_14 ⟨Nat.zero_le _, Nat.zero_le _⟩) hD hS hA (fun z_14 H locs hz_14 hP hD hS => ?_)
    have hres := bindc_eq hz_14 hres
    have hok := bindp_eq hz_14 hok
    have hP : va_P G.1 classes (cC G ad nb nt cfa cle cwr csl cst cen cby cto csh cdz cch cva css cve cro crc cma cbi ces cbl crt) H := hP
    have hD : va_D A (cC G ad nb nt cfa cle cwr csl cst cen cby cto csh cdz cch cva css cve cro crc cma cbi ces cbl crt) := hD
    refine lv_if_eq (tgt := 24) hx hb d_BT_byteAt_17 (by decide) (fun c_17 => ?_) (fun c_17 => ?_)
    · have hres := it_t c_17 hres
      have hok := hok.1 c_17
      refine lv_iconst (v := (0 : Int32)) hx hb d_BT_byteAt_24 (by decide) ?_
      by_cases c_25 : (0 : Int32) = 0
      · have hres := it_t c_25 hres
        subst hres
        exact out_T (X := IAE) (run_VT hx hb hml hown ht hK hP hD (hZ.kept (fun a h1 h2 => hS.2.1 a h1 h2)) (cT_BT_requireArgument hfl c_25) (cw_V ht km_BT_50 ki_BT_requireArgument ks_BT_requireArgument ini_BT kd_BT_requireArgument kh_BT_requireArgument ⟨Nat.le_of_ble_eq_true rfl, Nat.le_of_ble_eq_true rfl⟩ rfl rfl) (q0 := 0) (ci := 0) (As := [.int (0 : Int32)]) (rest := []) rfl rfl rfl hl.1 rfl (Nat.le_of_ble_eq_true rfl) d_BT_byteAt_25 ⟨by decide, by decide⟩) hlocks hex hD hS hA
      · have hres := it_f c_25 hres
        have hok := hok c_25
        refine go_vz (run_V hx hb hml hown ht hK hP hD (c_BT_requireArgument (by rw [ok_BT_requireArgument]; exact ⟨fun h => c_25 h, fun h => trivial⟩)) (cw_V ht km_BT_50 ki_BT_requireArgument ks_BT_requireArgument ini_BT kd_BT_requireArgument kh_BT_requireArgument ⟨Nat.le_of_ble_eq_true rfl, Nat.le_of_ble_eq_true rfl⟩ rfl rfl) (q0 := 0) (ci := 0) (As := [.int (0 : Int32)]) (rest := []) rfl rfl rfl hl.1 rfl (Nat.le_of_ble_eq_true rfl) d_BT_byteAt_25 ⟨Nat.zero_le _, Nat.zero_le _⟩) hD hS hA (fun z_25 H locs hz_25 hP hD hS => ?_)
        have hP : va_P G.1 classes (cC G ad nb nt cfa cle cwr csl cst cen cby cto csh cdz cch cva css cve cro crc cma cbi ces cbl crt) H := hP
        have hD : va_D A (cC G ad nb nt cfa cle cwr csl cst cen cby cto csh cdz cch cva css cve cro crc cma cbi ces cbl crt) := hD
        refine lv_aload_n hx hb d_BT_byteAt_28 rfl (lv_at hl 0 rfl) ?_
        by_cases c_29 : cfa = 0
        · exact absurd (it_t c_29 hres).symm hk
        · have hres := it_f c_29 hres
          subst hres
          exact out_T (X := ISE) (run_VT hx hb hml hown ht hK hP hD (hZ.kept (fun a h1 h2 => hS.2.1 a h1 h2)) (cT_BT_requirePower hfl hok c_29) (cw_V ht km_BT_54 ki_BT_requirePower ks_BT_requirePower ini_BT kd_BT_requirePower kh_BT_requirePower ⟨Nat.le_of_ble_eq_true rfl, Nat.le_of_ble_eq_true rfl⟩ rfl rfl) (q0 := 0) (ci := 0) (As := []) (rest := []) rfl rfl rfl hl.1 rfl (Nat.le_of_ble_eq_true rfl) d_BT_byteAt_29 ⟨by decide, by decide⟩) hlocks hex hD hS hA
    · have hres := it_f c_17 hres
      have hok := hok.2 c_17
      refine lv_iconst (v := (1 : Int32)) hx hb d_BT_byteAt_20 (by decide) ?_
      refine lv_goto (tgt := 25) hx hb d_BT_byteAt_21 (by decide) ?_
      by_cases c_25 : (1 : Int32) = 0
      · have hres := it_t c_25 hres
        subst hres
        exact out_T (X := IAE) (run_VT hx hb hml hown ht hK hP hD (hZ.kept (fun a h1 h2 => hS.2.1 a h1 h2)) (cT_BT_requireArgument hfl c_25) (cw_V ht km_BT_50 ki_BT_requireArgument ks_BT_requireArgument ini_BT kd_BT_requireArgument kh_BT_requireArgument ⟨Nat.le_of_ble_eq_true rfl, Nat.le_of_ble_eq_true rfl⟩ rfl rfl) (q0 := 0) (ci := 0) (As := [.int (1 : Int32)]) (rest := []) rfl rfl rfl hl.1 rfl (Nat.le_of_ble_eq_true rfl) d_BT_byteAt_25 ⟨by decide, by decide⟩) hlocks hex hD hS hA
      · have hres := it_f c_25 hres
        have hok := hok c_25
        refine go_vz (run_V hx hb hml hown ht hK hP hD (c_BT_requireArgument (by rw [ok_BT_requireArgument]; exact ⟨fun h => c_25 h, fun h => trivial⟩)) (cw_V ht km_BT_50 ki_BT_requireArgument ks_BT_requireArgument ini_BT kd_BT_requireArgument kh_BT_requireArgument ⟨Nat.le_of_ble_eq_true rfl, Nat.le_of_ble_eq_true rfl⟩ rfl rfl) (q0 := 0) (ci := 0) (As := [.int (1 : Int32)]) (rest := []) rfl rfl rfl hl.1 rfl (Nat.le_of_ble_eq_true rfl) d_BT_byteAt_25 ⟨Nat.zero_le _, Nat.zero_le _⟩) hD hS hA (fun z_25 H locs hz_25 hP hD hS => ?_)
        have hP : va_P G.1 classes (cC G ad nb nt cfa cle cwr csl cst cen cby cto csh cdz cch cva css cve cro crc cma cbi ces cbl crt) H := hP
        have hD : va_D A (cC G ad nb nt cfa cle cwr csl cst cen cby cto csh cdz cch cva css cve cro crc cma cbi ces cbl crt) := hD
        refine lv_aload_n hx hb d_BT_byteAt_28 rfl (lv_at hl 0 rfl) ?_
        by_cases c_29 : cfa = 0
        · exact absurd (it_t c_29 hres).symm hk
        · have hres := it_f c_29 hres
          subst hres
          exact out_T (X := ISE) (run_VT hx hb hml hown ht hK hP hD (hZ.kept (fun a h1 h2 => hS.2.1 a h1 h2)) (cT_BT_requirePower hfl hok c_29) (cw_V ht km_BT_54 ki_BT_requirePower ks_BT_requirePower ini_BT kd_BT_requirePower kh_BT_requirePower ⟨Nat.le_of_ble_eq_true rfl, Nat.le_of_ble_eq_true rfl⟩ rfl rfl) (q0 := 0) (ci := 0) (As := []) (rest := []) rfl rfl rfl hl.1 rfl (Nat.le_of_ble_eq_true rfl) d_BT_byteAt_29 ⟨by decide, by decide⟩) hlocks hex hD hS hA
/-! ===== throws: poke ===== -/
abbrev rmT_BT_poke : Room := { frames := 7, cells := 1, slots := 6, locals := 103 }
def th_BT_poke (p0 : Int32) (p1 : Int32) (p2 : Int32) (cfa : Int32) (cst : Int32) (cen : Int32) : Nat := bindc (f_RL_isUsed p0 cst cen) (fun z_6 => if z_6.1 = 0 then (if (0 : Int32) = 0 then 1 else (if cfa = 0 then 0 else 2)) else bindc (f_BT_isByteIndex p1) (fun z_14 => if z_14.1 = 0 then (if (0 : Int32) = 0 then 1 else (if cfa = 0 then 0 else 2)) else if p2 < (1 : Int32) then (if (0 : Int32) = 0 then 1 else (if cfa = 0 then 0 else 2)) else if (255 : Int32) < p2 then (if (0 : Int32) = 0 then 1 else (if cfa = 0 then 0 else 2)) else if (1 : Int32) = 0 then 1 else (if cfa = 0 then 0 else 2)))
def okT_BT_poke (nb : Nat) (nt : Nat) (p0 : Int32) (p1 : Int32) (p2 : Int32) (cfa : Int32) (cst : Int32) (cen : Int32) : Prop := bindp (f_RL_isUsed p0 cst cen) (fun z_6 => (z_6.1 = 0 → (¬ (0 : Int32) = 0 → isB cfa)) ∧ (¬ z_6.1 = 0 → bindp (f_BT_isByteIndex p1) (fun z_14 => (z_14.1 = 0 → (¬ (0 : Int32) = 0 → isB cfa)) ∧ (¬ z_14.1 = 0 → (p2 < (1 : Int32) → (¬ (0 : Int32) = 0 → isB cfa)) ∧ (¬ p2 < (1 : Int32) → ((255 : Int32) < p2 → (¬ (0 : Int32) = 0 → isB cfa)) ∧ (¬ (255 : Int32) < p2 → (¬ (1 : Int32) = 0 → isB cfa)))))))
set_option maxHeartbeats 4000000 in
set_option maxRecDepth 100000 in
theorem cT_BT_poke {l : Launch} {G : GG} {ad : Nat → Nat} {nb : Nat} {nt : Nat} {sz : Nat} {cfa : Int32} {cle : Int32} {cwr : Int32} {csl : Int32} {cst : Int32} {cen : Int32} {cby : (Nat → Int32)} {cto : (Nat → Int32)} {csh : (Nat → Int32)} {cdz : Int32} {cch : (Nat → Int32)} {cva : (Nat → Int32)} {css : Int32} {cve : (Nat → Int32)} {cro : (Nat → Int32)} {crc : Int32} {cma : (Nat → Int32)} {cbi : (Nat → Int32)} {ces : (Nat → Int32)} {cbl : (Nat → Int32)} {crt : (Nat → Int32)} {p0 : Int32} {p1 : Int32} {p2 : Int32} {k : Nat} (hfl : l.flags = flags0) (hok : okT_BT_poke nb nt p0 p1 p2 cfa cst cen) (hres : th_BT_poke p0 p1 p2 cfa cst cen = k) (hk : ¬ k = 0) : CtT l y_BT_poke b_BT_poke 4 (some .int) rmT_BT_poke G (cC G ad nb nt cfa cle cwr csl cst cen cby cto csh cdz cch cva css cve cro crc cma cbi ces cbl crt) sz [.ref (ad 0), .int p0, .int p1, .int p2] (excOf k) := by
  refine MetT_of (by decide) (Nat.le_of_ble_eq_true rfl) ?_
  intro p e s m below meth c hadm hx hb hr hml hown hlocks hex ht hK A hA hZ hP hD hS ls hl
  have hown : s.vm.findClass "BookTrees" = some m.cls := hown
  have hl : lv_has ls 4 [(0, .ref (ad 0)), (1, .int p0), (2, .int p1), (3, .int p2)] := hl
  rw [th_BT_poke] at hres
  rw [okT_BT_poke] at hok
  refine lv_aload_n hx hb d_BT_poke_0 rfl (lv_at hl 0 rfl) ?_
  refine lv_aload_n hx hb d_BT_poke_1 rfl (lv_at hl 0 rfl) ?_
  refine va_get (D := G.1) (ci := 0) (C := R_BT) (T := F_BT) (N := 5) hx hb ht in_BT hown hK hP 0 rfl rfl 1 (by decide) (ht _ kf_BT_21) (fun _ h9 => h9) rfl d_BT_poke_2 ?_
  refine lv_iload_n hx hb d_BT_poke_5 rfl (lv_at hl 1 rfl) ?_
  refine go_iz (run_V hx hb hml hown ht hK hP hD (c_RL_isUsed) (cw_V ht km_BT_160 ki_RL_isUsed ks_RL_isUsed ini_RL kd_RL_isUsed kh_RL_isUsed ⟨Nat.le_of_ble_eq_true rfl, Nat.le_of_ble_eq_true rfl⟩ rfl rfl) (q0 := 2) (ci := 2) (As := [.int p0]) (rest := [.ref (ad 0)]) rfl rfl rfl hl.1 rfl (Nat.le_of_ble_eq_true rfl) d_BT_poke_6 ⟨Nat.zero_le _, Nat.zero_le _⟩) hD hS hA (fun z_6 H locs hz_6 hP hD hS => ?_)
  have hres := bindc_eq hz_6 hres
  have hok := bindp_eq hz_6 hok
  have hP : va_P G.1 classes (cC G ad nb nt cfa cle cwr csl cst cen cby cto csh cdz cch cva css cve cro crc cma cbi ces cbl crt) H := hP
  have hD : va_D A (cC G ad nb nt cfa cle cwr csl cst cen cby cto csh cdz cch cva css cve cro crc cma cbi ces cbl crt) := hD
  refine lv_if_eq (tgt := 36) hx hb d_BT_poke_9 (by decide) (fun c_9 => ?_) (fun c_9 => ?_)
  · have hres := it_t c_9 hres
    have hok := hok.1 c_9
    refine lv_iconst (v := (0 : Int32)) hx hb d_BT_poke_36 (by decide) ?_
    by_cases c_37 : (0 : Int32) = 0
    · have hres := it_t c_37 hres
      subst hres
      exact out_T (X := IAE) (run_VT hx hb hml hown ht hK hP hD (hZ.kept (fun a h1 h2 => hS.2.1 a h1 h2)) (cT_BT_requireArgument hfl c_37) (cw_V ht km_BT_50 ki_BT_requireArgument ks_BT_requireArgument ini_BT kd_BT_requireArgument kh_BT_requireArgument ⟨Nat.le_of_ble_eq_true rfl, Nat.le_of_ble_eq_true rfl⟩ rfl rfl) (q0 := 0) (ci := 0) (As := [.int (0 : Int32)]) (rest := []) rfl rfl rfl hl.1 rfl (Nat.le_of_ble_eq_true rfl) d_BT_poke_37 ⟨by decide, by decide⟩) hlocks hex hD hS hA
    · have hres := it_f c_37 hres
      have hok := hok c_37
      refine go_vz (run_V hx hb hml hown ht hK hP hD (c_BT_requireArgument (by rw [ok_BT_requireArgument]; exact ⟨fun h => c_37 h, fun h => trivial⟩)) (cw_V ht km_BT_50 ki_BT_requireArgument ks_BT_requireArgument ini_BT kd_BT_requireArgument kh_BT_requireArgument ⟨Nat.le_of_ble_eq_true rfl, Nat.le_of_ble_eq_true rfl⟩ rfl rfl) (q0 := 0) (ci := 0) (As := [.int (0 : Int32)]) (rest := []) rfl rfl rfl hl.1 rfl (Nat.le_of_ble_eq_true rfl) d_BT_poke_37 ⟨Nat.zero_le _, Nat.zero_le _⟩) hD hS hA (fun z_37 H locs hz_37 hP hD hS => ?_)
      have hP : va_P G.1 classes (cC G ad nb nt cfa cle cwr csl cst cen cby cto csh cdz cch cva css cve cro crc cma cbi ces cbl crt) H := hP
      have hD : va_D A (cC G ad nb nt cfa cle cwr csl cst cen cby cto csh cdz cch cva css cve cro crc cma cbi ces cbl crt) := hD
      refine lv_aload_n hx hb d_BT_poke_40 rfl (lv_at hl 0 rfl) ?_
      by_cases c_41 : cfa = 0
      · exact absurd (it_t c_41 hres).symm hk
      · have hres := it_f c_41 hres
        subst hres
        exact out_T (X := ISE) (run_VT hx hb hml hown ht hK hP hD (hZ.kept (fun a h1 h2 => hS.2.1 a h1 h2)) (cT_BT_requirePower hfl hok c_41) (cw_V ht km_BT_54 ki_BT_requirePower ks_BT_requirePower ini_BT kd_BT_requirePower kh_BT_requirePower ⟨Nat.le_of_ble_eq_true rfl, Nat.le_of_ble_eq_true rfl⟩ rfl rfl) (q0 := 0) (ci := 0) (As := []) (rest := []) rfl rfl rfl hl.1 rfl (Nat.le_of_ble_eq_true rfl) d_BT_poke_41 ⟨by decide, by decide⟩) hlocks hex hD hS hA
  · have hres := it_f c_9 hres
    have hok := hok.2 c_9
    refine lv_aload_n hx hb d_BT_poke_12 rfl (lv_at hl 0 rfl) ?_
    refine lv_iload_n hx hb d_BT_poke_13 rfl (lv_at hl 2 rfl) ?_
    refine go_iz (run_V hx hb hml hown ht hK hP hD (c_BT_isByteIndex) (cw_V ht km_BT_173 ki_BT_isByteIndex ks_BT_isByteIndex ini_BT kd_BT_isByteIndex kh_BT_isByteIndex ⟨Nat.le_of_ble_eq_true rfl, Nat.le_of_ble_eq_true rfl⟩ rfl rfl) (q0 := 0) (ci := 0) (As := [.int p1]) (rest := [.ref (ad 0)]) rfl rfl rfl hl.1 rfl (Nat.le_of_ble_eq_true rfl) d_BT_poke_14 ⟨Nat.zero_le _, Nat.zero_le _⟩) hD hS hA (fun z_14 H locs hz_14 hP hD hS => ?_)
    have hres := bindc_eq hz_14 hres
    have hok := bindp_eq hz_14 hok
    have hP : va_P G.1 classes (cC G ad nb nt cfa cle cwr csl cst cen cby cto csh cdz cch cva css cve cro crc cma cbi ces cbl crt) H := hP
    have hD : va_D A (cC G ad nb nt cfa cle cwr csl cst cen cby cto csh cdz cch cva css cve cro crc cma cbi ces cbl crt) := hD
    refine lv_if_eq (tgt := 36) hx hb d_BT_poke_17 (by decide) (fun c_17 => ?_) (fun c_17 => ?_)
    · have hres := it_t c_17 hres
      have hok := hok.1 c_17
      refine lv_iconst (v := (0 : Int32)) hx hb d_BT_poke_36 (by decide) ?_
      by_cases c_37 : (0 : Int32) = 0
      · have hres := it_t c_37 hres
        subst hres
        exact out_T (X := IAE) (run_VT hx hb hml hown ht hK hP hD (hZ.kept (fun a h1 h2 => hS.2.1 a h1 h2)) (cT_BT_requireArgument hfl c_37) (cw_V ht km_BT_50 ki_BT_requireArgument ks_BT_requireArgument ini_BT kd_BT_requireArgument kh_BT_requireArgument ⟨Nat.le_of_ble_eq_true rfl, Nat.le_of_ble_eq_true rfl⟩ rfl rfl) (q0 := 0) (ci := 0) (As := [.int (0 : Int32)]) (rest := []) rfl rfl rfl hl.1 rfl (Nat.le_of_ble_eq_true rfl) d_BT_poke_37 ⟨by decide, by decide⟩) hlocks hex hD hS hA
      · have hres := it_f c_37 hres
        have hok := hok c_37
        refine go_vz (run_V hx hb hml hown ht hK hP hD (c_BT_requireArgument (by rw [ok_BT_requireArgument]; exact ⟨fun h => c_37 h, fun h => trivial⟩)) (cw_V ht km_BT_50 ki_BT_requireArgument ks_BT_requireArgument ini_BT kd_BT_requireArgument kh_BT_requireArgument ⟨Nat.le_of_ble_eq_true rfl, Nat.le_of_ble_eq_true rfl⟩ rfl rfl) (q0 := 0) (ci := 0) (As := [.int (0 : Int32)]) (rest := []) rfl rfl rfl hl.1 rfl (Nat.le_of_ble_eq_true rfl) d_BT_poke_37 ⟨Nat.zero_le _, Nat.zero_le _⟩) hD hS hA (fun z_37 H locs hz_37 hP hD hS => ?_)
        have hP : va_P G.1 classes (cC G ad nb nt cfa cle cwr csl cst cen cby cto csh cdz cch cva css cve cro crc cma cbi ces cbl crt) H := hP
        have hD : va_D A (cC G ad nb nt cfa cle cwr csl cst cen cby cto csh cdz cch cva css cve cro crc cma cbi ces cbl crt) := hD
        refine lv_aload_n hx hb d_BT_poke_40 rfl (lv_at hl 0 rfl) ?_
        by_cases c_41 : cfa = 0
        · exact absurd (it_t c_41 hres).symm hk
        · have hres := it_f c_41 hres
          subst hres
          exact out_T (X := ISE) (run_VT hx hb hml hown ht hK hP hD (hZ.kept (fun a h1 h2 => hS.2.1 a h1 h2)) (cT_BT_requirePower hfl hok c_41) (cw_V ht km_BT_54 ki_BT_requirePower ks_BT_requirePower ini_BT kd_BT_requirePower kh_BT_requirePower ⟨Nat.le_of_ble_eq_true rfl, Nat.le_of_ble_eq_true rfl⟩ rfl rfl) (q0 := 0) (ci := 0) (As := []) (rest := []) rfl rfl rfl hl.1 rfl (Nat.le_of_ble_eq_true rfl) d_BT_poke_41 ⟨by decide, by decide⟩) hlocks hex hD hS hA
    · have hres := it_f c_17 hres
      have hok := hok.2 c_17
      refine lv_iload_n hx hb d_BT_poke_20 rfl (lv_at hl 3 rfl) ?_
      refine lv_iconst (v := (1 : Int32)) hx hb d_BT_poke_21 (by decide) ?_
      refine lv_icmp_lt (tgt := 36) hx hb d_BT_poke_22 (by decide) (fun c_22 => ?_) (fun c_22 => ?_)
      · have hres := it_t c_22 hres
        have hok := hok.1 c_22
        refine lv_iconst (v := (0 : Int32)) hx hb d_BT_poke_36 (by decide) ?_
        by_cases c_37 : (0 : Int32) = 0
        · have hres := it_t c_37 hres
          subst hres
          exact out_T (X := IAE) (run_VT hx hb hml hown ht hK hP hD (hZ.kept (fun a h1 h2 => hS.2.1 a h1 h2)) (cT_BT_requireArgument hfl c_37) (cw_V ht km_BT_50 ki_BT_requireArgument ks_BT_requireArgument ini_BT kd_BT_requireArgument kh_BT_requireArgument ⟨Nat.le_of_ble_eq_true rfl, Nat.le_of_ble_eq_true rfl⟩ rfl rfl) (q0 := 0) (ci := 0) (As := [.int (0 : Int32)]) (rest := []) rfl rfl rfl hl.1 rfl (Nat.le_of_ble_eq_true rfl) d_BT_poke_37 ⟨by decide, by decide⟩) hlocks hex hD hS hA
        · have hres := it_f c_37 hres
          have hok := hok c_37
          refine go_vz (run_V hx hb hml hown ht hK hP hD (c_BT_requireArgument (by rw [ok_BT_requireArgument]; exact ⟨fun h => c_37 h, fun h => trivial⟩)) (cw_V ht km_BT_50 ki_BT_requireArgument ks_BT_requireArgument ini_BT kd_BT_requireArgument kh_BT_requireArgument ⟨Nat.le_of_ble_eq_true rfl, Nat.le_of_ble_eq_true rfl⟩ rfl rfl) (q0 := 0) (ci := 0) (As := [.int (0 : Int32)]) (rest := []) rfl rfl rfl hl.1 rfl (Nat.le_of_ble_eq_true rfl) d_BT_poke_37 ⟨Nat.zero_le _, Nat.zero_le _⟩) hD hS hA (fun z_37 H locs hz_37 hP hD hS => ?_)
          have hP : va_P G.1 classes (cC G ad nb nt cfa cle cwr csl cst cen cby cto csh cdz cch cva css cve cro crc cma cbi ces cbl crt) H := hP
          have hD : va_D A (cC G ad nb nt cfa cle cwr csl cst cen cby cto csh cdz cch cva css cve cro crc cma cbi ces cbl crt) := hD
          refine lv_aload_n hx hb d_BT_poke_40 rfl (lv_at hl 0 rfl) ?_
          by_cases c_41 : cfa = 0
          · exact absurd (it_t c_41 hres).symm hk
          · have hres := it_f c_41 hres
            subst hres
            exact out_T (X := ISE) (run_VT hx hb hml hown ht hK hP hD (hZ.kept (fun a h1 h2 => hS.2.1 a h1 h2)) (cT_BT_requirePower hfl hok c_41) (cw_V ht km_BT_54 ki_BT_requirePower ks_BT_requirePower ini_BT kd_BT_requirePower kh_BT_requirePower ⟨Nat.le_of_ble_eq_true rfl, Nat.le_of_ble_eq_true rfl⟩ rfl rfl) (q0 := 0) (ci := 0) (As := []) (rest := []) rfl rfl rfl hl.1 rfl (Nat.le_of_ble_eq_true rfl) d_BT_poke_41 ⟨by decide, by decide⟩) hlocks hex hD hS hA
      · have hres := it_f c_22 hres
        have hok := hok.2 c_22
        refine lv_iload_n hx hb d_BT_poke_25 rfl (lv_at hl 3 rfl) ?_
        refine lv_sipush (v := (255 : Int32)) hx hb d_BT_poke_26 (by decide) ?_
        refine lv_icmp_gt (tgt := 36) hx hb d_BT_poke_29 (by decide) (fun c_29 => ?_) (fun c_29 => ?_)
        · have hres := it_t c_29 hres
          have hok := hok.1 c_29
          refine lv_iconst (v := (0 : Int32)) hx hb d_BT_poke_36 (by decide) ?_
          by_cases c_37 : (0 : Int32) = 0
          · have hres := it_t c_37 hres
            subst hres
            exact out_T (X := IAE) (run_VT hx hb hml hown ht hK hP hD (hZ.kept (fun a h1 h2 => hS.2.1 a h1 h2)) (cT_BT_requireArgument hfl c_37) (cw_V ht km_BT_50 ki_BT_requireArgument ks_BT_requireArgument ini_BT kd_BT_requireArgument kh_BT_requireArgument ⟨Nat.le_of_ble_eq_true rfl, Nat.le_of_ble_eq_true rfl⟩ rfl rfl) (q0 := 0) (ci := 0) (As := [.int (0 : Int32)]) (rest := []) rfl rfl rfl hl.1 rfl (Nat.le_of_ble_eq_true rfl) d_BT_poke_37 ⟨by decide, by decide⟩) hlocks hex hD hS hA
          · have hres := it_f c_37 hres
            have hok := hok c_37
            refine go_vz (run_V hx hb hml hown ht hK hP hD (c_BT_requireArgument (by rw [ok_BT_requireArgument]; exact ⟨fun h => c_37 h, fun h => trivial⟩)) (cw_V ht km_BT_50 ki_BT_requireArgument ks_BT_requireArgument ini_BT kd_BT_requireArgument kh_BT_requireArgument ⟨Nat.le_of_ble_eq_true rfl, Nat.le_of_ble_eq_true rfl⟩ rfl rfl) (q0 := 0) (ci := 0) (As := [.int (0 : Int32)]) (rest := []) rfl rfl rfl hl.1 rfl (Nat.le_of_ble_eq_true rfl) d_BT_poke_37 ⟨Nat.zero_le _, Nat.zero_le _⟩) hD hS hA (fun z_37 H locs hz_37 hP hD hS => ?_)
            have hP : va_P G.1 classes (cC G ad nb nt cfa cle cwr csl cst cen cby cto csh cdz cch cva css cve cro crc cma cbi ces cbl crt) H := hP
            have hD : va_D A (cC G ad nb nt cfa cle cwr csl cst cen cby cto csh cdz cch cva css cve cro crc cma cbi ces cbl crt) := hD
            refine lv_aload_n hx hb d_BT_poke_40 rfl (lv_at hl 0 rfl) ?_
            by_cases c_41 : cfa = 0
            · exact absurd (it_t c_41 hres).symm hk
            · have hres := it_f c_41 hres
              subst hres
              exact out_T (X := ISE) (run_VT hx hb hml hown ht hK hP hD (hZ.kept (fun a h1 h2 => hS.2.1 a h1 h2)) (cT_BT_requirePower hfl hok c_41) (cw_V ht km_BT_54 ki_BT_requirePower ks_BT_requirePower ini_BT kd_BT_requirePower kh_BT_requirePower ⟨Nat.le_of_ble_eq_true rfl, Nat.le_of_ble_eq_true rfl⟩ rfl rfl) (q0 := 0) (ci := 0) (As := []) (rest := []) rfl rfl rfl hl.1 rfl (Nat.le_of_ble_eq_true rfl) d_BT_poke_41 ⟨by decide, by decide⟩) hlocks hex hD hS hA
        · have hres := it_f c_29 hres
          have hok := hok.2 c_29
          refine lv_iconst (v := (1 : Int32)) hx hb d_BT_poke_32 (by decide) ?_
          refine lv_goto (tgt := 37) hx hb d_BT_poke_33 (by decide) ?_
          by_cases c_37 : (1 : Int32) = 0
          · have hres := it_t c_37 hres
            subst hres
            exact out_T (X := IAE) (run_VT hx hb hml hown ht hK hP hD (hZ.kept (fun a h1 h2 => hS.2.1 a h1 h2)) (cT_BT_requireArgument hfl c_37) (cw_V ht km_BT_50 ki_BT_requireArgument ks_BT_requireArgument ini_BT kd_BT_requireArgument kh_BT_requireArgument ⟨Nat.le_of_ble_eq_true rfl, Nat.le_of_ble_eq_true rfl⟩ rfl rfl) (q0 := 0) (ci := 0) (As := [.int (1 : Int32)]) (rest := []) rfl rfl rfl hl.1 rfl (Nat.le_of_ble_eq_true rfl) d_BT_poke_37 ⟨by decide, by decide⟩) hlocks hex hD hS hA
          · have hres := it_f c_37 hres
            have hok := hok c_37
            refine go_vz (run_V hx hb hml hown ht hK hP hD (c_BT_requireArgument (by rw [ok_BT_requireArgument]; exact ⟨fun h => c_37 h, fun h => trivial⟩)) (cw_V ht km_BT_50 ki_BT_requireArgument ks_BT_requireArgument ini_BT kd_BT_requireArgument kh_BT_requireArgument ⟨Nat.le_of_ble_eq_true rfl, Nat.le_of_ble_eq_true rfl⟩ rfl rfl) (q0 := 0) (ci := 0) (As := [.int (1 : Int32)]) (rest := []) rfl rfl rfl hl.1 rfl (Nat.le_of_ble_eq_true rfl) d_BT_poke_37 ⟨Nat.zero_le _, Nat.zero_le _⟩) hD hS hA (fun z_37 H locs hz_37 hP hD hS => ?_)
            have hP : va_P G.1 classes (cC G ad nb nt cfa cle cwr csl cst cen cby cto csh cdz cch cva css cve cro crc cma cbi ces cbl crt) H := hP
            have hD : va_D A (cC G ad nb nt cfa cle cwr csl cst cen cby cto csh cdz cch cva css cve cro crc cma cbi ces cbl crt) := hD
            refine lv_aload_n hx hb d_BT_poke_40 rfl (lv_at hl 0 rfl) ?_
            by_cases c_41 : cfa = 0
            · exact absurd (it_t c_41 hres).symm hk
            · have hres := it_f c_41 hres
              subst hres
              exact out_T (X := ISE) (run_VT hx hb hml hown ht hK hP hD (hZ.kept (fun a h1 h2 => hS.2.1 a h1 h2)) (cT_BT_requirePower hfl hok c_41) (cw_V ht km_BT_54 ki_BT_requirePower ks_BT_requirePower ini_BT kd_BT_requirePower kh_BT_requirePower ⟨Nat.le_of_ble_eq_true rfl, Nat.le_of_ble_eq_true rfl⟩ rfl rfl) (q0 := 0) (ci := 0) (As := []) (rest := []) rfl rfl rfl hl.1 rfl (Nat.le_of_ble_eq_true rfl) d_BT_poke_41 ⟨by decide, by decide⟩) hlocks hex hD hS hA
/-! ===== throws: badAt ===== -/
abbrev rmT_BT_badAt : Room := { frames := 7, cells := 1, slots := 6, locals := 103 }
def th_BT_badAt (p0 : Int32) (cfa : Int32) : Nat := if p0 < 0 then (if (0 : Int32) = 0 then 1 else (if cfa = 0 then 0 else 2)) else if (1 : Int32) = 0 then 1 else (if cfa = 0 then 0 else 2)
def okT_BT_badAt (nb : Nat) (nt : Nat) (p0 : Int32) (cfa : Int32) : Prop := (p0 < 0 → (¬ (0 : Int32) = 0 → isB cfa)) ∧ (¬ p0 < 0 → (¬ (1 : Int32) = 0 → isB cfa))
set_option maxHeartbeats 4000000 in
set_option maxRecDepth 100000 in
theorem cT_BT_badAt {l : Launch} {G : GG} {ad : Nat → Nat} {nb : Nat} {nt : Nat} {sz : Nat} {cfa : Int32} {cle : Int32} {cwr : Int32} {csl : Int32} {cst : Int32} {cen : Int32} {cby : (Nat → Int32)} {cto : (Nat → Int32)} {csh : (Nat → Int32)} {cdz : Int32} {cch : (Nat → Int32)} {cva : (Nat → Int32)} {css : Int32} {cve : (Nat → Int32)} {cro : (Nat → Int32)} {crc : Int32} {cma : (Nat → Int32)} {cbi : (Nat → Int32)} {ces : (Nat → Int32)} {cbl : (Nat → Int32)} {crt : (Nat → Int32)} {p0 : Int32} {k : Nat} (hfl : l.flags = flags0) (hok : okT_BT_badAt nb nt p0 cfa) (hres : th_BT_badAt p0 cfa = k) (hk : ¬ k = 0) : CtT l y_BT_badAt b_BT_badAt 4 (some .int) rmT_BT_badAt G (cC G ad nb nt cfa cle cwr csl cst cen cby cto csh cdz cch cva css cve cro crc cma cbi ces cbl crt) sz [.ref (ad 0), .int p0] (excOf k) := by
  refine MetT_of (by decide) (Nat.le_of_ble_eq_true rfl) ?_
  intro p e s m below meth c hadm hx hb hr hml hown hlocks hex ht hK A hA hZ hP hD hS ls hl
  have hown : s.vm.findClass "BookTrees" = some m.cls := hown
  have hl : lv_has ls 4 [(0, .ref (ad 0)), (1, .int p0)] := hl
  rw [th_BT_badAt] at hres
  rw [okT_BT_badAt] at hok
  refine lv_aload_n hx hb d_BT_badAt_0 rfl (lv_at hl 0 rfl) ?_
  refine lv_iload_n hx hb d_BT_badAt_1 rfl (lv_at hl 1 rfl) ?_
  refine lv_if_lt (tgt := 9) hx hb d_BT_badAt_2 (by decide) (fun c_2 => ?_) (fun c_2 => ?_)
  · have hres := it_t c_2 hres
    have hok := hok.1 c_2
    refine lv_iconst (v := (0 : Int32)) hx hb d_BT_badAt_9 (by decide) ?_
    by_cases c_10 : (0 : Int32) = 0
    · have hres := it_t c_10 hres
      subst hres
      exact out_T (X := IAE) (run_VT hx hb hml hown ht hK hP hD (hZ.kept (fun a h1 h2 => hS.2.1 a h1 h2)) (cT_BT_requireArgument hfl c_10) (cw_V ht km_BT_50 ki_BT_requireArgument ks_BT_requireArgument ini_BT kd_BT_requireArgument kh_BT_requireArgument ⟨Nat.le_of_ble_eq_true rfl, Nat.le_of_ble_eq_true rfl⟩ rfl rfl) (q0 := 0) (ci := 0) (As := [.int (0 : Int32)]) (rest := []) rfl rfl rfl hl.1 rfl (Nat.le_of_ble_eq_true rfl) d_BT_badAt_10 ⟨by decide, by decide⟩) hlocks hex hD hS hA
    · have hres := it_f c_10 hres
      have hok := hok c_10
      refine go_vz (run_V hx hb hml hown ht hK hP hD (c_BT_requireArgument (by rw [ok_BT_requireArgument]; exact ⟨fun h => c_10 h, fun h => trivial⟩)) (cw_V ht km_BT_50 ki_BT_requireArgument ks_BT_requireArgument ini_BT kd_BT_requireArgument kh_BT_requireArgument ⟨Nat.le_of_ble_eq_true rfl, Nat.le_of_ble_eq_true rfl⟩ rfl rfl) (q0 := 0) (ci := 0) (As := [.int (0 : Int32)]) (rest := []) rfl rfl rfl hl.1 rfl (Nat.le_of_ble_eq_true rfl) d_BT_badAt_10 ⟨Nat.zero_le _, Nat.zero_le _⟩) hD hS hA (fun z_10 H locs hz_10 hP hD hS => ?_)
      have hP : va_P G.1 classes (cC G ad nb nt cfa cle cwr csl cst cen cby cto csh cdz cch cva css cve cro crc cma cbi ces cbl crt) H := hP
      have hD : va_D A (cC G ad nb nt cfa cle cwr csl cst cen cby cto csh cdz cch cva css cve cro crc cma cbi ces cbl crt) := hD
      refine lv_aload_n hx hb d_BT_badAt_13 rfl (lv_at hl 0 rfl) ?_
      by_cases c_14 : cfa = 0
      · exact absurd (it_t c_14 hres).symm hk
      · have hres := it_f c_14 hres
        subst hres
        exact out_T (X := ISE) (run_VT hx hb hml hown ht hK hP hD (hZ.kept (fun a h1 h2 => hS.2.1 a h1 h2)) (cT_BT_requirePower hfl hok c_14) (cw_V ht km_BT_54 ki_BT_requirePower ks_BT_requirePower ini_BT kd_BT_requirePower kh_BT_requirePower ⟨Nat.le_of_ble_eq_true rfl, Nat.le_of_ble_eq_true rfl⟩ rfl rfl) (q0 := 0) (ci := 0) (As := []) (rest := []) rfl rfl rfl hl.1 rfl (Nat.le_of_ble_eq_true rfl) d_BT_badAt_14 ⟨by decide, by decide⟩) hlocks hex hD hS hA
  · have hres := it_f c_2 hres
    have hok := hok.2 c_2
    refine lv_iconst (v := (1 : Int32)) hx hb d_BT_badAt_5 (by decide) ?_
    refine lv_goto (tgt := 10) hx hb d_BT_badAt_6 (by decide) ?_
    by_cases c_10 : (1 : Int32) = 0
    · have hres := it_t c_10 hres
      subst hres
      exact out_T (X := IAE) (run_VT hx hb hml hown ht hK hP hD (hZ.kept (fun a h1 h2 => hS.2.1 a h1 h2)) (cT_BT_requireArgument hfl c_10) (cw_V ht km_BT_50 ki_BT_requireArgument ks_BT_requireArgument ini_BT kd_BT_requireArgument kh_BT_requireArgument ⟨Nat.le_of_ble_eq_true rfl, Nat.le_of_ble_eq_true rfl⟩ rfl rfl) (q0 := 0) (ci := 0) (As := [.int (1 : Int32)]) (rest := []) rfl rfl rfl hl.1 rfl (Nat.le_of_ble_eq_true rfl) d_BT_badAt_10 ⟨by decide, by decide⟩) hlocks hex hD hS hA
    · have hres := it_f c_10 hres
      have hok := hok c_10
      refine go_vz (run_V hx hb hml hown ht hK hP hD (c_BT_requireArgument (by rw [ok_BT_requireArgument]; exact ⟨fun h => c_10 h, fun h => trivial⟩)) (cw_V ht km_BT_50 ki_BT_requireArgument ks_BT_requireArgument ini_BT kd_BT_requireArgument kh_BT_requireArgument ⟨Nat.le_of_ble_eq_true rfl, Nat.le_of_ble_eq_true rfl⟩ rfl rfl) (q0 := 0) (ci := 0) (As := [.int (1 : Int32)]) (rest := []) rfl rfl rfl hl.1 rfl (Nat.le_of_ble_eq_true rfl) d_BT_badAt_10 ⟨Nat.zero_le _, Nat.zero_le _⟩) hD hS hA (fun z_10 H locs hz_10 hP hD hS => ?_)
      have hP : va_P G.1 classes (cC G ad nb nt cfa cle cwr csl cst cen cby cto csh cdz cch cva css cve cro crc cma cbi ces cbl crt) H := hP
      have hD : va_D A (cC G ad nb nt cfa cle cwr csl cst cen cby cto csh cdz cch cva css cve cro crc cma cbi ces cbl crt) := hD
      refine lv_aload_n hx hb d_BT_badAt_13 rfl (lv_at hl 0 rfl) ?_
      by_cases c_14 : cfa = 0
      · exact absurd (it_t c_14 hres).symm hk
      · have hres := it_f c_14 hres
        subst hres
        exact out_T (X := ISE) (run_VT hx hb hml hown ht hK hP hD (hZ.kept (fun a h1 h2 => hS.2.1 a h1 h2)) (cT_BT_requirePower hfl hok c_14) (cw_V ht km_BT_54 ki_BT_requirePower ks_BT_requirePower ini_BT kd_BT_requirePower kh_BT_requirePower ⟨Nat.le_of_ble_eq_true rfl, Nat.le_of_ble_eq_true rfl⟩ rfl rfl) (q0 := 0) (ci := 0) (As := []) (rest := []) rfl rfl rfl hl.1 rfl (Nat.le_of_ble_eq_true rfl) d_BT_badAt_14 ⟨by decide, by decide⟩) hlocks hex hD hS hA
/-! ===== throws: told ===== -/
abbrev rmT_BT_told : Room := { frames := 7, cells := 1, slots := 6, locals := 103 }
def th_BT_told (p0 : Int32) (cfa : Int32) : Nat := if p0 < 0 then (if (0 : Int32) = 0 then 1 else (if cfa = 0 then 0 else 2)) else if (4 : Int32) < p0 then (if (0 : Int32) = 0 then 1 else (if cfa = 0 then 0 else 2)) else if (1 : Int32) = 0 then 1 else (if cfa = 0 then 0 else 2)
def okT_BT_told (nb : Nat) (nt : Nat) (p0 : Int32) (cfa : Int32) : Prop := (p0 < 0 → (¬ (0 : Int32) = 0 → isB cfa)) ∧ (¬ p0 < 0 → ((4 : Int32) < p0 → (¬ (0 : Int32) = 0 → isB cfa)) ∧ (¬ (4 : Int32) < p0 → (¬ (1 : Int32) = 0 → isB cfa)))
set_option maxHeartbeats 4000000 in
set_option maxRecDepth 100000 in
theorem cT_BT_told {l : Launch} {G : GG} {ad : Nat → Nat} {nb : Nat} {nt : Nat} {sz : Nat} {cfa : Int32} {cle : Int32} {cwr : Int32} {csl : Int32} {cst : Int32} {cen : Int32} {cby : (Nat → Int32)} {cto : (Nat → Int32)} {csh : (Nat → Int32)} {cdz : Int32} {cch : (Nat → Int32)} {cva : (Nat → Int32)} {css : Int32} {cve : (Nat → Int32)} {cro : (Nat → Int32)} {crc : Int32} {cma : (Nat → Int32)} {cbi : (Nat → Int32)} {ces : (Nat → Int32)} {cbl : (Nat → Int32)} {crt : (Nat → Int32)} {p0 : Int32} {k : Nat} (hfl : l.flags = flags0) (hok : okT_BT_told nb nt p0 cfa) (hres : th_BT_told p0 cfa = k) (hk : ¬ k = 0) : CtT l y_BT_told b_BT_told 2 (some .int) rmT_BT_told G (cC G ad nb nt cfa cle cwr csl cst cen cby cto csh cdz cch cva css cve cro crc cma cbi ces cbl crt) sz [.ref (ad 0), .int p0] (excOf k) := by
  refine MetT_of (by decide) (Nat.le_of_ble_eq_true rfl) ?_
  intro p e s m below meth c hadm hx hb hr hml hown hlocks hex ht hK A hA hZ hP hD hS ls hl
  have hown : s.vm.findClass "BookTrees" = some m.cls := hown
  have hl : lv_has ls 2 [(0, .ref (ad 0)), (1, .int p0)] := hl
  rw [th_BT_told] at hres
  rw [okT_BT_told] at hok
  refine lv_aload_n hx hb d_BT_told_0 rfl (lv_at hl 0 rfl) ?_
  refine lv_iload_n hx hb d_BT_told_1 rfl (lv_at hl 1 rfl) ?_
  refine lv_if_lt (tgt := 14) hx hb d_BT_told_2 (by decide) (fun c_2 => ?_) (fun c_2 => ?_)
  · have hres := it_t c_2 hres
    have hok := hok.1 c_2
    refine lv_iconst (v := (0 : Int32)) hx hb d_BT_told_14 (by decide) ?_
    by_cases c_15 : (0 : Int32) = 0
    · have hres := it_t c_15 hres
      subst hres
      exact out_T (X := IAE) (run_VT hx hb hml hown ht hK hP hD (hZ.kept (fun a h1 h2 => hS.2.1 a h1 h2)) (cT_BT_requireArgument hfl c_15) (cw_V ht km_BT_50 ki_BT_requireArgument ks_BT_requireArgument ini_BT kd_BT_requireArgument kh_BT_requireArgument ⟨Nat.le_of_ble_eq_true rfl, Nat.le_of_ble_eq_true rfl⟩ rfl rfl) (q0 := 0) (ci := 0) (As := [.int (0 : Int32)]) (rest := []) rfl rfl rfl hl.1 rfl (Nat.le_of_ble_eq_true rfl) d_BT_told_15 ⟨by decide, by decide⟩) hlocks hex hD hS hA
    · have hres := it_f c_15 hres
      have hok := hok c_15
      refine go_vz (run_V hx hb hml hown ht hK hP hD (c_BT_requireArgument (by rw [ok_BT_requireArgument]; exact ⟨fun h => c_15 h, fun h => trivial⟩)) (cw_V ht km_BT_50 ki_BT_requireArgument ks_BT_requireArgument ini_BT kd_BT_requireArgument kh_BT_requireArgument ⟨Nat.le_of_ble_eq_true rfl, Nat.le_of_ble_eq_true rfl⟩ rfl rfl) (q0 := 0) (ci := 0) (As := [.int (0 : Int32)]) (rest := []) rfl rfl rfl hl.1 rfl (Nat.le_of_ble_eq_true rfl) d_BT_told_15 ⟨Nat.zero_le _, Nat.zero_le _⟩) hD hS hA (fun z_15 H locs hz_15 hP hD hS => ?_)
      have hP : va_P G.1 classes (cC G ad nb nt cfa cle cwr csl cst cen cby cto csh cdz cch cva css cve cro crc cma cbi ces cbl crt) H := hP
      have hD : va_D A (cC G ad nb nt cfa cle cwr csl cst cen cby cto csh cdz cch cva css cve cro crc cma cbi ces cbl crt) := hD
      refine lv_aload_n hx hb d_BT_told_18 rfl (lv_at hl 0 rfl) ?_
      by_cases c_19 : cfa = 0
      · exact absurd (it_t c_19 hres).symm hk
      · have hres := it_f c_19 hres
        subst hres
        exact out_T (X := ISE) (run_VT hx hb hml hown ht hK hP hD (hZ.kept (fun a h1 h2 => hS.2.1 a h1 h2)) (cT_BT_requirePower hfl hok c_19) (cw_V ht km_BT_54 ki_BT_requirePower ks_BT_requirePower ini_BT kd_BT_requirePower kh_BT_requirePower ⟨Nat.le_of_ble_eq_true rfl, Nat.le_of_ble_eq_true rfl⟩ rfl rfl) (q0 := 0) (ci := 0) (As := []) (rest := []) rfl rfl rfl hl.1 rfl (Nat.le_of_ble_eq_true rfl) d_BT_told_19 ⟨by decide, by decide⟩) hlocks hex hD hS hA
  · have hres := it_f c_2 hres
    have hok := hok.2 c_2
    refine lv_iload_n hx hb d_BT_told_5 rfl (lv_at hl 1 rfl) ?_
    refine lv_iconst (v := (4 : Int32)) hx hb d_BT_told_6 (by decide) ?_
    refine lv_icmp_gt (tgt := 14) hx hb d_BT_told_7 (by decide) (fun c_7 => ?_) (fun c_7 => ?_)
    · have hres := it_t c_7 hres
      have hok := hok.1 c_7
      refine lv_iconst (v := (0 : Int32)) hx hb d_BT_told_14 (by decide) ?_
      by_cases c_15 : (0 : Int32) = 0
      · have hres := it_t c_15 hres
        subst hres
        exact out_T (X := IAE) (run_VT hx hb hml hown ht hK hP hD (hZ.kept (fun a h1 h2 => hS.2.1 a h1 h2)) (cT_BT_requireArgument hfl c_15) (cw_V ht km_BT_50 ki_BT_requireArgument ks_BT_requireArgument ini_BT kd_BT_requireArgument kh_BT_requireArgument ⟨Nat.le_of_ble_eq_true rfl, Nat.le_of_ble_eq_true rfl⟩ rfl rfl) (q0 := 0) (ci := 0) (As := [.int (0 : Int32)]) (rest := []) rfl rfl rfl hl.1 rfl (Nat.le_of_ble_eq_true rfl) d_BT_told_15 ⟨by decide, by decide⟩) hlocks hex hD hS hA
      · have hres := it_f c_15 hres
        have hok := hok c_15
        refine go_vz (run_V hx hb hml hown ht hK hP hD (c_BT_requireArgument (by rw [ok_BT_requireArgument]; exact ⟨fun h => c_15 h, fun h => trivial⟩)) (cw_V ht km_BT_50 ki_BT_requireArgument ks_BT_requireArgument ini_BT kd_BT_requireArgument kh_BT_requireArgument ⟨Nat.le_of_ble_eq_true rfl, Nat.le_of_ble_eq_true rfl⟩ rfl rfl) (q0 := 0) (ci := 0) (As := [.int (0 : Int32)]) (rest := []) rfl rfl rfl hl.1 rfl (Nat.le_of_ble_eq_true rfl) d_BT_told_15 ⟨Nat.zero_le _, Nat.zero_le _⟩) hD hS hA (fun z_15 H locs hz_15 hP hD hS => ?_)
        have hP : va_P G.1 classes (cC G ad nb nt cfa cle cwr csl cst cen cby cto csh cdz cch cva css cve cro crc cma cbi ces cbl crt) H := hP
        have hD : va_D A (cC G ad nb nt cfa cle cwr csl cst cen cby cto csh cdz cch cva css cve cro crc cma cbi ces cbl crt) := hD
        refine lv_aload_n hx hb d_BT_told_18 rfl (lv_at hl 0 rfl) ?_
        by_cases c_19 : cfa = 0
        · exact absurd (it_t c_19 hres).symm hk
        · have hres := it_f c_19 hres
          subst hres
          exact out_T (X := ISE) (run_VT hx hb hml hown ht hK hP hD (hZ.kept (fun a h1 h2 => hS.2.1 a h1 h2)) (cT_BT_requirePower hfl hok c_19) (cw_V ht km_BT_54 ki_BT_requirePower ks_BT_requirePower ini_BT kd_BT_requirePower kh_BT_requirePower ⟨Nat.le_of_ble_eq_true rfl, Nat.le_of_ble_eq_true rfl⟩ rfl rfl) (q0 := 0) (ci := 0) (As := []) (rest := []) rfl rfl rfl hl.1 rfl (Nat.le_of_ble_eq_true rfl) d_BT_told_19 ⟨by decide, by decide⟩) hlocks hex hD hS hA
    · have hres := it_f c_7 hres
      have hok := hok.2 c_7
      refine lv_iconst (v := (1 : Int32)) hx hb d_BT_told_10 (by decide) ?_
      refine lv_goto (tgt := 15) hx hb d_BT_told_11 (by decide) ?_
      by_cases c_15 : (1 : Int32) = 0
      · have hres := it_t c_15 hres
        subst hres
        exact out_T (X := IAE) (run_VT hx hb hml hown ht hK hP hD (hZ.kept (fun a h1 h2 => hS.2.1 a h1 h2)) (cT_BT_requireArgument hfl c_15) (cw_V ht km_BT_50 ki_BT_requireArgument ks_BT_requireArgument ini_BT kd_BT_requireArgument kh_BT_requireArgument ⟨Nat.le_of_ble_eq_true rfl, Nat.le_of_ble_eq_true rfl⟩ rfl rfl) (q0 := 0) (ci := 0) (As := [.int (1 : Int32)]) (rest := []) rfl rfl rfl hl.1 rfl (Nat.le_of_ble_eq_true rfl) d_BT_told_15 ⟨by decide, by decide⟩) hlocks hex hD hS hA
      · have hres := it_f c_15 hres
        have hok := hok c_15
        refine go_vz (run_V hx hb hml hown ht hK hP hD (c_BT_requireArgument (by rw [ok_BT_requireArgument]; exact ⟨fun h => c_15 h, fun h => trivial⟩)) (cw_V ht km_BT_50 ki_BT_requireArgument ks_BT_requireArgument ini_BT kd_BT_requireArgument kh_BT_requireArgument ⟨Nat.le_of_ble_eq_true rfl, Nat.le_of_ble_eq_true rfl⟩ rfl rfl) (q0 := 0) (ci := 0) (As := [.int (1 : Int32)]) (rest := []) rfl rfl rfl hl.1 rfl (Nat.le_of_ble_eq_true rfl) d_BT_told_15 ⟨Nat.zero_le _, Nat.zero_le _⟩) hD hS hA (fun z_15 H locs hz_15 hP hD hS => ?_)
        have hP : va_P G.1 classes (cC G ad nb nt cfa cle cwr csl cst cen cby cto csh cdz cch cva css cve cro crc cma cbi ces cbl crt) H := hP
        have hD : va_D A (cC G ad nb nt cfa cle cwr csl cst cen cby cto csh cdz cch cva css cve cro crc cma cbi ces cbl crt) := hD
        refine lv_aload_n hx hb d_BT_told_18 rfl (lv_at hl 0 rfl) ?_
        by_cases c_19 : cfa = 0
        · exact absurd (it_t c_19 hres).symm hk
        · have hres := it_f c_19 hres
          subst hres
          exact out_T (X := ISE) (run_VT hx hb hml hown ht hK hP hD (hZ.kept (fun a h1 h2 => hS.2.1 a h1 h2)) (cT_BT_requirePower hfl hok c_19) (cw_V ht km_BT_54 ki_BT_requirePower ks_BT_requirePower ini_BT kd_BT_requirePower kh_BT_requirePower ⟨Nat.le_of_ble_eq_true rfl, Nat.le_of_ble_eq_true rfl⟩ rfl rfl) (q0 := 0) (ci := 0) (As := []) (rest := []) rfl rfl rfl hl.1 rfl (Nat.le_of_ble_eq_true rfl) d_BT_told_19 ⟨by decide, by decide⟩) hlocks hex hD hS hA
