/-! ===== BookTrees$Pages.bitOf(II)I ===== -/
abbrev rm_PG_bitOf : Room := { frames := 0, cells := 0, slots := 0, locals := 0 }
def f_PG_bitOf (p0 : Int32) (p1 : Int32) (cbi : (Nat → Int32)) : Int32 × Unit := (((cbi p0.toNatClampNeg) >>> (p1 &&& 31)) &&& (1 : Int32), ())
def ok_PG_bitOf (nb : Nat) (nt : Nat) (p0 : Int32) (p1 : Int32) (cbi : (Nat → Int32)) : Prop := vp_in p0 73
set_option maxHeartbeats 4000000 in
set_option maxRecDepth 100000 in
theorem c_PG_bitOf {l : Launch} {G : GG} {ad : Nat → Nat} {nb : Nat} {nt : Nat} {sz : Nat} {cfa : Int32} {cle : Int32} {cwr : Int32} {csl : Int32} {cst : Int32} {cen : Int32} {cby : (Nat → Int32)} {cto : (Nat → Int32)} {csh : (Nat → Int32)} {cdz : Int32} {cch : (Nat → Int32)} {cva : (Nat → Int32)} {css : Int32} {cve : (Nat → Int32)} {cro : (Nat → Int32)} {crc : Int32} {cma : (Nat → Int32)} {cbi : (Nat → Int32)} {ces : (Nat → Int32)} {cbl : (Nat → Int32)} {crt : (Nat → Int32)} {p0 : Int32} {p1 : Int32} (hok : ok_PG_bitOf nb nt p0 p1 cbi) : CtI l y_PG_bitOf b_PG_bitOf 3 (some .int) rm_PG_bitOf G (cC G ad nb nt cfa cle cwr csl cst cen cby cto csh cdz cch cva css cve cro crc cma cbi ces cbl crt) sz [.ref (ad 12), .int p0, .int p1] (eqP (f_PG_bitOf p0 p1 cbi)) (fun _ : Unit => (cC G ad nb nt cfa cle cwr csl cst cen cby cto csh cdz cch cva css cve cro crc cma cbi ces cbl crt)) := by
  generalize hres : f_PG_bitOf p0 p1 cbi = res
  refine Met_of (Qc := fun A => va_Qi (eqP res) (Wb G A (fun _ : Unit => (cC G ad nb nt cfa cle cwr csl cst cen cby cto csh cdz cch cva css cve cro crc cma cbi ces cbl crt))) A) (by decide) (Nat.le_of_ble_eq_true rfl) ?_
  intro p e s m below meth c hadm hx hb hr hml hown hlocks ht hK A hA hP hD hS ls hl
  have hC : Cx p l e s m (([.ref (ad 12), .int p0, .int p1] : List Value)).toArray meth c y_PG_bitOf b_PG_bitOf 3 (some .int) "BookTrees$Pages" G A := ⟨hx, hb, hr, hml, hown, hlocks, ht, hK, hA⟩
  have hown : s.vm.findClass "BookTrees$Pages" = some m.cls := hown
  have hl : lv_has ls 3 [(0, .ref (ad 12)), (1, .int p0), (2, .int p1)] := hl
  rw [f_PG_bitOf] at hres
  rw [ok_PG_bitOf] at hok
  refine lv_aload_n hx hb d_PG_bitOf_0 rfl (lv_at hl 0 rfl) ?_
  refine va_get (D := G.1) (ci := 5) (C := R_PG) (T := F_PG) (N := 6) hx hb ht in_PG hown hK hP 12 rfl rfl 1 (by decide) (ht _ kf_PG_15) (fun _ h9 => h9) rfl d_PG_bitOf_1 ?_
  refine lv_iload_n hx hb d_PG_bitOf_4 rfl (lv_at hl 1 rfl) ?_
  have hi_5 := hok
  refine va_iald hx hb hK hP 14 0 rfl rfl hi_5 d_PG_bitOf_5 ?_
  refine lv_iload_n hx hb d_PG_bitOf_6 rfl (lv_at hl 2 rfl) ?_
  refine lv_ishr hx hb d_PG_bitOf_7 ?_
  refine lv_iconst (v := (1 : Int32)) hx hb d_PG_bitOf_8 (by decide) ?_
  refine lv_iand hx hb d_PG_bitOf_9 ?_
  exact en_i (w1 := (fun _ : Unit => (cC G ad nb nt cfa cle cwr csl cst cen cby cto csh cdz cch cva css cve cro crc cma cbi ces cbl crt))) () hx hb hr hlocks hK hP hD hS hres d_PG_bitOf_10
/-! ===== BookTrees$Pages.isInParent(I)Z ===== -/
abbrev rm_PG_isInParent : Room := { frames := 1, cells := 0, slots := 0, locals := 22 }
def f_PG_isInParent (p0 : Int32) (cbi : (Nat → Int32)) : Int32 × Unit := bindc (f_PG_parentOf p0) (fun z_2 => bindc (f_PG_bitOf z_2.1 (p0 &&& (7 : Int32)) cbi) (fun z_9 => if z_9.1 = (1 : Int32) then ((1 : Int32), ()) else ((0 : Int32), ())))
def ok_PG_isInParent (nb : Nat) (nt : Nat) (p0 : Int32) (cbi : (Nat → Int32)) : Prop := bindp (f_PG_parentOf p0) (fun z_2 => ok_PG_bitOf nb nt z_2.1 (p0 &&& (7 : Int32)) cbi)
set_option maxHeartbeats 4000000 in
set_option maxRecDepth 100000 in
theorem c_PG_isInParent {l : Launch} {G : GG} {ad : Nat → Nat} {nb : Nat} {nt : Nat} {sz : Nat} {cfa : Int32} {cle : Int32} {cwr : Int32} {csl : Int32} {cst : Int32} {cen : Int32} {cby : (Nat → Int32)} {cto : (Nat → Int32)} {csh : (Nat → Int32)} {cdz : Int32} {cch : (Nat → Int32)} {cva : (Nat → Int32)} {css : Int32} {cve : (Nat → Int32)} {cro : (Nat → Int32)} {crc : Int32} {cma : (Nat → Int32)} {cbi : (Nat → Int32)} {ces : (Nat → Int32)} {cbl : (Nat → Int32)} {crt : (Nat → Int32)} {p0 : Int32} (hok : ok_PG_isInParent nb nt p0 cbi) : CtI l y_PG_isInParent b_PG_isInParent 2 (some .boolean) rm_PG_isInParent G (cC G ad nb nt cfa cle cwr csl cst cen cby cto csh cdz cch cva css cve cro crc cma cbi ces cbl crt) sz [.ref (ad 12), .int p0] (eqP (f_PG_isInParent p0 cbi)) (fun _ : Unit => (cC G ad nb nt cfa cle cwr csl cst cen cby cto csh cdz cch cva css cve cro crc cma cbi ces cbl crt)) := by
  generalize hres : f_PG_isInParent p0 cbi = res
  refine Met_of (Qc := fun A => va_Qi (eqP res) (Wb G A (fun _ : Unit => (cC G ad nb nt cfa cle cwr csl cst cen cby cto csh cdz cch cva css cve cro crc cma cbi ces cbl crt))) A) (by decide) (Nat.le_of_ble_eq_true rfl) ?_
  intro p e s m below meth c hadm hx hb hr hml hown hlocks ht hK A hA hP hD hS ls hl
  have hC : Cx p l e s m (([.ref (ad 12), .int p0] : List Value)).toArray meth c y_PG_isInParent b_PG_isInParent 2 (some .boolean) "BookTrees$Pages" G A := ⟨hx, hb, hr, hml, hown, hlocks, ht, hK, hA⟩
  have hown : s.vm.findClass "BookTrees$Pages" = some m.cls := hown
  have hl : lv_has ls 2 [(0, .ref (ad 12)), (1, .int p0)] := hl
  rw [f_PG_isInParent] at hres
  rw [ok_PG_isInParent] at hok
  refine lv_aload_n hx hb d_PG_isInParent_0 rfl (lv_at hl 0 rfl) ?_
  refine lv_iload_n hx hb d_PG_isInParent_1 rfl (lv_at hl 1 rfl) ?_
  refine go_iz (run_S hx hb hml hown ht hK hP hD (c_PG_parentOf) (cw_S ht km_PG_38 kt_PG_parentOf ini_PG kd_PG_parentOf kh_PG_parentOf ⟨Nat.le_of_ble_eq_true rfl, Nat.le_of_ble_eq_true rfl⟩ rfl rfl) (As := [.int p0]) (rest := [.ref (ad 12)]) rfl hl.1 rfl (Nat.le_of_ble_eq_true rfl) d_PG_isInParent_2 ⟨Nat.zero_le _, Nat.zero_le _⟩) hD hS hA (fun z_2 H locs hz_2 hP hD hS => ?_)
  have hres := bindc_eq hz_2 hres
  have hok := bindp_eq hz_2 hok
  have hP : va_P G.1 classes (cC G ad nb nt cfa cle cwr csl cst cen cby cto csh cdz cch cva css cve cro crc cma cbi ces cbl crt) H := hP
  have hD : va_D A (cC G ad nb nt cfa cle cwr csl cst cen cby cto csh cdz cch cva css cve cro crc cma cbi ces cbl crt) := hD
  refine lv_iload_n hx hb d_PG_isInParent_5 rfl (lv_at hl 1 rfl) ?_
  refine lv_bipush (v := (7 : Int32)) hx hb d_PG_isInParent_6 (by decide) ?_
  refine lv_iand hx hb d_PG_isInParent_8 ?_
  have hk_9 := hok
  refine go_iz (run_V hx hb hml hown ht hK hP hD (c_PG_bitOf hk_9) (cw_V ht km_PG_65 ki_PG_bitOf ks_PG_bitOf ini_PG kd_PG_bitOf kh_PG_bitOf ⟨Nat.le_of_ble_eq_true rfl, Nat.le_of_ble_eq_true rfl⟩ rfl rfl) (q0 := 12) (ci := 5) (As := [.int z_2.1, .int (p0 &&& (7 : Int32))]) (rest := []) rfl rfl rfl hl.1 rfl (Nat.le_of_ble_eq_true rfl) d_PG_isInParent_9 ⟨Nat.zero_le _, Nat.zero_le _⟩) hD hS hA (fun z_9 H locs hz_9 hP hD hS => ?_)
  have hres := bindc_eq hz_9 hres
  have hP : va_P G.1 classes (cC G ad nb nt cfa cle cwr csl cst cen cby cto csh cdz cch cva css cve cro crc cma cbi ces cbl crt) H := hP
  have hD : va_D A (cC G ad nb nt cfa cle cwr csl cst cen cby cto csh cdz cch cva css cve cro crc cma cbi ces cbl crt) := hD
  refine lv_iconst (v := (1 : Int32)) hx hb d_PG_isInParent_12 (by decide) ?_
  refine lv_icmp_ne (tgt := 20) hx hb d_PG_isInParent_13 (by decide) (fun c_13 => ?_) (fun c_13 => ?_)
  · have hres := it_f c_13 hres
    refine lv_iconst (v := (0 : Int32)) hx hb d_PG_isInParent_20 (by decide) ?_
    exact en_z (w1 := (fun _ : Unit => (cC G ad nb nt cfa cle cwr csl cst cen cby cto csh cdz cch cva css cve cro crc cma cbi ces cbl crt))) () hx hb hr hlocks hK hP hD hS hres isB_0 d_PG_isInParent_21
  · have hres := it_t c_13 hres
    refine lv_iconst (v := (1 : Int32)) hx hb d_PG_isInParent_16 (by decide) ?_
    refine lv_goto (tgt := 21) hx hb d_PG_isInParent_17 (by decide) ?_
    exact en_z (w1 := (fun _ : Unit => (cC G ad nb nt cfa cle cwr csl cst cen cby cto csh cdz cch cva css cve cro crc cma cbi ces cbl crt))) () hx hb hr hlocks hK hP hD hS hres isB_1 d_PG_isInParent_21
/-! ===== BookTrees$Pages.placeInParent(I)I ===== -/
abbrev rm_PG_placeInParent : Room := { frames := 1, cells := 0, slots := 0, locals := 20 }
def f_PG_placeInParent (p0 : Int32)  : Int32 × Unit := bindc (f_PG_parentOf p0) (fun z_1 => ((z_1.1 * (8 : Int32)) + (p0 &&& (7 : Int32)), ()))
set_option maxHeartbeats 4000000 in
set_option maxRecDepth 100000 in
theorem c_PG_placeInParent {l : Launch} {G : GG} {ad : Nat → Nat} {nb : Nat} {nt : Nat} {sz : Nat} {cfa : Int32} {cle : Int32} {cwr : Int32} {csl : Int32} {cst : Int32} {cen : Int32} {cby : (Nat → Int32)} {cto : (Nat → Int32)} {csh : (Nat → Int32)} {cdz : Int32} {cch : (Nat → Int32)} {cva : (Nat → Int32)} {css : Int32} {cve : (Nat → Int32)} {cro : (Nat → Int32)} {crc : Int32} {cma : (Nat → Int32)} {cbi : (Nat → Int32)} {ces : (Nat → Int32)} {cbl : (Nat → Int32)} {crt : (Nat → Int32)} {p0 : Int32} : CtI l y_PG_placeInParent b_PG_placeInParent 1 (some .int) rm_PG_placeInParent G (cC G ad nb nt cfa cle cwr csl cst cen cby cto csh cdz cch cva css cve cro crc cma cbi ces cbl crt) sz [.int p0] (eqP (f_PG_placeInParent p0)) (fun _ : Unit => (cC G ad nb nt cfa cle cwr csl cst cen cby cto csh cdz cch cva css cve cro crc cma cbi ces cbl crt)) := by
  generalize hres : f_PG_placeInParent p0 = res
  refine Met_of (Qc := fun A => va_Qi (eqP res) (Wb G A (fun _ : Unit => (cC G ad nb nt cfa cle cwr csl cst cen cby cto csh cdz cch cva css cve cro crc cma cbi ces cbl crt))) A) (by decide) (Nat.le_of_ble_eq_true rfl) ?_
  intro p e s m below meth c hadm hx hb hr hml hown hlocks ht hK A hA hP hD hS ls hl
  have hC : Cx p l e s m (([.int p0] : List Value)).toArray meth c y_PG_placeInParent b_PG_placeInParent 1 (some .int) "BookTrees$Pages" G A := ⟨hx, hb, hr, hml, hown, hlocks, ht, hK, hA⟩
  have hown : s.vm.findClass "BookTrees$Pages" = some m.cls := hown
  have hl : lv_has ls 1 [(0, .int p0)] := hl
  rw [f_PG_placeInParent] at hres
  refine lv_iload_n hx hb d_PG_placeInParent_0 rfl (lv_at hl 0 rfl) ?_
  refine go_iz (run_S hx hb hml hown ht hK hP hD (c_PG_parentOf) (cw_S ht km_PG_38 kt_PG_parentOf ini_PG kd_PG_parentOf kh_PG_parentOf ⟨Nat.le_of_ble_eq_true rfl, Nat.le_of_ble_eq_true rfl⟩ rfl rfl) (As := [.int p0]) (rest := []) rfl hl.1 rfl (Nat.le_of_ble_eq_true rfl) d_PG_placeInParent_1 ⟨Nat.zero_le _, Nat.zero_le _⟩) hD hS hA (fun z_1 H locs hz_1 hP hD hS => ?_)
  have hres := bindc_eq hz_1 hres
  have hP : va_P G.1 classes (cC G ad nb nt cfa cle cwr csl cst cen cby cto csh cdz cch cva css cve cro crc cma cbi ces cbl crt) H := hP
  have hD : va_D A (cC G ad nb nt cfa cle cwr csl cst cen cby cto csh cdz cch cva css cve cro crc cma cbi ces cbl crt) := hD
  refine lv_bipush (v := (8 : Int32)) hx hb d_PG_placeInParent_4 (by decide) ?_
  refine lv_imul hx hb d_PG_placeInParent_6 ?_
  refine lv_iload_n hx hb d_PG_placeInParent_7 rfl (lv_at hl 0 rfl) ?_
  refine lv_bipush (v := (7 : Int32)) hx hb d_PG_placeInParent_8 (by decide) ?_
  refine lv_iand hx hb d_PG_placeInParent_10 ?_
  refine lv_iadd hx hb d_PG_placeInParent_11 ?_
  exact en_i (w1 := (fun _ : Unit => (cC G ad nb nt cfa cle cwr csl cst cen cby cto csh cdz cch cva css cve cro crc cma cbi ces cbl crt))) () hx hb hr hlocks hK hP hD hS hres d_PG_placeInParent_12
/-! ===== BookTrees$Pages.readTree(LBookTrees$Roll;I)Z ===== -/
abbrev rm_PG_readTree : Room := { frames := 5, cells := 0, slots := 0, locals := 117 }
def f_PG_readTree_60 : Nat → Int32 → Int32 → Int32 → Int32 → (Nat → Int32) → (Nat → Int32) → Int32 → (Nat → Int32) → (Nat → Int32) → (Nat → Int32) → Int32 × Int32 × (Nat → Int32) × (Nat → Int32)
  | 0, x3, csl, cst, cen, cby, cto, crc, cma, cbi, ces => (0, (crc, cbi, ces))
  | n + 1, x3, csl, cst, cen, cby, cto, crc, cma, cbi, ces => if x3 < 0 then ((1 : Int32), (crc, cbi, ces)) else if (cma x3.toNatClampNeg) = 0 then f_PG_readTree_60 n (x3 + (-1 : Int32)) csl cst cen cby cto crc cma cbi ces else bindc (f_PG_isInParent x3 cbi) (fun z_75 => if z_75.1 = 0 then f_PG_readTree_60 n (x3 + (-1 : Int32)) csl cst cen cby cto crc cma cbi ces else bindc (f_PG_placeInParent x3) (fun z_89 => bindc (f_PG_readPage x3 (ces z_89.1.toNatClampNeg) csl cst cen cby cto cbi ces) (fun z_93 => if z_93.1 = 0 then ((0 : Int32), (crc, z_93.2.1, z_93.2.2)) else f_PG_readTree_60 n (x3 + (-1 : Int32)) csl cst cen cby cto crc cma z_93.2.1 z_93.2.2)))
def ok_PG_readTree_60 (nb : Nat) (nt : Nat) : Nat → Int32 → Int32 → Int32 → Int32 → (Nat → Int32) → (Nat → Int32) → Int32 → (Nat → Int32) → (Nat → Int32) → (Nat → Int32) → Prop
  | 0, _, _, _, _, _, _, _, _, _, _ => False
  | n + 1, x3, csl, cst, cen, cby, cto, crc, cma, cbi, ces => (x3 < 0 → True) ∧ (¬ x3 < 0 → vp_in x3 73 ∧ (((cma x3.toNatClampNeg) = 0 → ok_PG_readTree_60 nb nt  n (x3 + (-1 : Int32)) csl cst cen cby cto crc cma cbi ces) ∧ (¬ (cma x3.toNatClampNeg) = 0 → ok_PG_isInParent nb nt x3 cbi ∧ bindp (f_PG_isInParent x3 cbi) (fun z_75 => (z_75.1 = 0 → ok_PG_readTree_60 nb nt  n (x3 + (-1 : Int32)) csl cst cen cby cto crc cma cbi ces) ∧ (¬ z_75.1 = 0 → bindp (f_PG_placeInParent x3) (fun z_89 => vp_in z_89.1 584 ∧ (ok_PG_readPage nb nt x3 (ces z_89.1.toNatClampNeg) csl cst cen cby cto cbi ces ∧ bindp (f_PG_readPage x3 (ces z_89.1.toNatClampNeg) csl cst cen cby cto cbi ces) (fun z_93 => (z_93.1 = 0 → True) ∧ (¬ z_93.1 = 0 → ok_PG_readTree_60 nb nt  n (x3 + (-1 : Int32)) csl cst cen cby cto crc cma z_93.2.1 z_93.2.2)))))))))
set_option maxHeartbeats 4000000 in
set_option maxRecDepth 100000 in
theorem w_PG_readTree_60 {p : Program} {l : Launch} {e : Env} {s : State} {m : MethodId} {args : Array Value} {below : List Frame} {meth : Method} {c : Code} {A : Nat → Prop} {G : GG} {ad : Nat → Nat} {nb : Nat} {nt : Nat} {cfa : Int32} {cle : Int32} {cwr : Int32} {csl : Int32} {cst : Int32} {cen : Int32} {cby : (Nat → Int32)} {cto : (Nat → Int32)} {csh : (Nat → Int32)} {cdz : Int32} {cch : (Nat → Int32)} {cva : (Nat → Int32)} {css : Int32} {cve : (Nat → Int32)} {cro : (Nat → Int32)} {cma : (Nat → Int32)} {cbl : (Nat → Int32)} {crt : (Nat → Int32)} {res : Int32 × Int32 × (Nat → Int32) × (Nat → Int32)} (hC : Cx p l e s m args meth c y_PG_readTree b_PG_readTree 4 (some .boolean) "BookTrees$Pages" G A) : ∀ (n : Nat) (x3 : Int32) (crc : Int32) (cbi : (Nat → Int32)) (ces : (Nat → Int32)) (H : Heap) (locs : List Loc) (ls : Array Slot), ok_PG_readTree_60 nb nt n x3 csl cst cen cby cto crc cma cbi ces → f_PG_readTree_60 n x3 csl cst cen cby cto crc cma cbi ces = res → va_P G.1 classes (cC G ad nb nt cfa cle cwr csl cst cen cby cto csh cdz cch cva css cve cro crc cma cbi ces cbl crt) H → va_D A (cC G ad nb nt cfa cle cwr csl cst cen cby cto csh cdz cch cva css cve cro crc cma cbi ces cbl crt) → va_S A s.heap H locs → lv_has ls 4 [(0, .ref (ad 12)), (1, .ref (ad 2)), (3, .int x3)] → W p l e rm_PG_readTree s m args below meth c H locs 0 0 (MQ below (va_Qi (eqP res) (Wb G A (fun u : Int32 × (Nat → Int32) × (Nat → Int32) => (cC G ad nb nt cfa cle cwr csl cst cen cby cto csh cdz cch cva css cve cro u.1 cma u.2.1 u.2.2 cbl crt))) A) args s 0 0 A) (F0 m 60 ls []) := by
  obtain ⟨hx, hb, hr, hml, hown, hlocks, ht, hK, hA⟩ := id hC
  intro n
  induction n with
  | zero => intro x3 crc cbi ces H locs ls hok; exact hok.elim
  | succ n ih =>
    intro x3 crc cbi ces H locs ls hok hres hP hD hS hl
    rw [f_PG_readTree_60] at hres
    rw [ok_PG_readTree_60] at hok
    refine lv_iload_n hx hb d_PG_readTree_60 rfl (lv_at hl 2 rfl) ?_
    refine lv_if_lt (tgt := 107) hx hb d_PG_readTree_61 (by decide) (fun c_61 => ?_) (fun c_61 => ?_)
    · have hres := it_t c_61 hres
      refine lv_iconst (v := (1 : Int32)) hx hb d_PG_readTree_107 (by decide) ?_
      exact en_z (w1 := (fun u : Int32 × (Nat → Int32) × (Nat → Int32) => (cC G ad nb nt cfa cle cwr csl cst cen cby cto csh cdz cch cva css cve cro u.1 cma u.2.1 u.2.2 cbl crt))) (crc, cbi, ces) hx hb hr hlocks hK hP hD hS hres isB_1 d_PG_readTree_108
    · have hres := it_f c_61 hres
      have hok := hok.2 c_61
      refine lv_aload_n hx hb d_PG_readTree_64 rfl (lv_at hl 0 rfl) ?_
      refine va_get (D := G.1) (ci := 5) (C := R_PG) (T := F_PG) (N := 6) hx hb ht in_PG hown hK hP 12 rfl rfl 0 (by decide) (ht _ kf_PG_11) (fun _ h9 => h9) rfl d_PG_readTree_65 ?_
      refine lv_iload_n hx hb d_PG_readTree_68 rfl (lv_at hl 2 rfl) ?_
      obtain ⟨hi_69, hok⟩ := hok
      refine va_zald hx hb hK hP 13 1 rfl rfl hi_69 d_PG_readTree_69 ?_
      refine lv_if_eq (tgt := 101) hx hb d_PG_readTree_70 (by decide) (fun c_70 => ?_) (fun c_70 => ?_)
      · have hres := it_t c_70 hres
        have hok := hok.1 c_70
        refine lv_iinc (v := x3 + (-1 : Int32)) (lv' := [(3, .int (x3 + (-1 : Int32))), (0, .ref (ad 12)), (1, .ref (ad 2))]) hx hb d_PG_readTree_101 hl (k := 2) rfl rfl (by decide) rfl (fun ls hl => ?_)
        refine lv_goto (tgt := 60) hx hb d_PG_readTree_104 (by decide) ?_
        exact ih (x3 + (-1 : Int32)) crc cbi ces _ _ _ hok hres hP hD hS (lv_sub hl [1, 2, 0] rfl)
      · have hres := it_f c_70 hres
        have hok := hok.2 c_70
        refine lv_aload_n hx hb d_PG_readTree_73 rfl (lv_at hl 0 rfl) ?_
        refine lv_iload_n hx hb d_PG_readTree_74 rfl (lv_at hl 2 rfl) ?_
        obtain ⟨hk_75, hok⟩ := hok
        refine go_iz (run_V hx hb hml hown ht hK hP hD (c_PG_isInParent hk_75) (cw_V ht km_PG_59 ki_PG_isInParent ks_PG_isInParent ini_PG kd_PG_isInParent kh_PG_isInParent ⟨Nat.le_of_ble_eq_true rfl, Nat.le_of_ble_eq_true rfl⟩ rfl rfl) (q0 := 12) (ci := 5) (As := [.int x3]) (rest := []) rfl rfl rfl hl.1 rfl (Nat.le_of_ble_eq_true rfl) d_PG_readTree_75 ⟨Nat.zero_le _, Nat.zero_le _⟩) hD hS hA (fun z_75 H locs hz_75 hP hD hS => ?_)
        have hres := bindc_eq hz_75 hres
        have hok := bindp_eq hz_75 hok
        have hP : va_P G.1 classes (cC G ad nb nt cfa cle cwr csl cst cen cby cto csh cdz cch cva css cve cro crc cma cbi ces cbl crt) H := hP
        have hD : va_D A (cC G ad nb nt cfa cle cwr csl cst cen cby cto csh cdz cch cva css cve cro crc cma cbi ces cbl crt) := hD
        refine lv_if_eq (tgt := 101) hx hb d_PG_readTree_78 (by decide) (fun c_78 => ?_) (fun c_78 => ?_)
        · have hres := it_t c_78 hres
          have hok := hok.1 c_78
          refine lv_iinc (v := x3 + (-1 : Int32)) (lv' := [(3, .int (x3 + (-1 : Int32))), (0, .ref (ad 12)), (1, .ref (ad 2))]) hx hb d_PG_readTree_101 hl (k := 2) rfl rfl (by decide) rfl (fun ls hl => ?_)
          refine lv_goto (tgt := 60) hx hb d_PG_readTree_104 (by decide) ?_
          exact ih (x3 + (-1 : Int32)) crc cbi ces _ _ _ hok hres hP hD hS (lv_sub hl [1, 2, 0] rfl)
        · have hres := it_f c_78 hres
          have hok := hok.2 c_78
          refine lv_aload_n hx hb d_PG_readTree_81 rfl (lv_at hl 0 rfl) ?_
          refine lv_aload_n hx hb d_PG_readTree_82 rfl (lv_at hl 1 rfl) ?_
          refine lv_iload_n hx hb d_PG_readTree_83 rfl (lv_at hl 2 rfl) ?_
          refine lv_aload_n hx hb d_PG_readTree_84 rfl (lv_at hl 0 rfl) ?_
          refine va_get (D := G.1) (ci := 5) (C := R_PG) (T := F_PG) (N := 6) hx hb ht in_PG hown hK hP 12 rfl rfl 2 (by decide) (ht _ kf_PG_19) (fun _ h9 => h9) rfl d_PG_readTree_85 ?_
          refine lv_iload_n hx hb d_PG_readTree_88 rfl (lv_at hl 2 rfl) ?_
          refine go_iz (run_S hx hb hml hown ht hK hP hD (c_PG_placeInParent) (cw_S ht km_PG_62 kt_PG_placeInParent ini_PG kd_PG_placeInParent kh_PG_placeInParent ⟨Nat.le_of_ble_eq_true rfl, Nat.le_of_ble_eq_true rfl⟩ rfl rfl) (As := [.int x3]) (rest := [.ref (ad 15), .int x3, .ref (ad 2), .ref (ad 12)]) rfl hl.1 rfl (Nat.le_of_ble_eq_true rfl) d_PG_readTree_89 ⟨Nat.zero_le _, Nat.zero_le _⟩) hD hS hA (fun z_89 H locs hz_89 hP hD hS => ?_)
          have hres := bindc_eq hz_89 hres
          have hok := bindp_eq hz_89 hok
          have hP : va_P G.1 classes (cC G ad nb nt cfa cle cwr csl cst cen cby cto csh cdz cch cva css cve cro crc cma cbi ces cbl crt) H := hP
          have hD : va_D A (cC G ad nb nt cfa cle cwr csl cst cen cby cto csh cdz cch cva css cve cro crc cma cbi ces cbl crt) := hD
          obtain ⟨hi_92, hok⟩ := hok
          refine va_iald hx hb hK hP 15 0 rfl rfl hi_92 d_PG_readTree_92 ?_
          obtain ⟨hk_93, hok⟩ := hok
          refine go_iz (run_V hx hb hml hown ht hK hP hD (c_PG_readPage hk_93) (cw_V ht km_PG_55 ki_PG_readPage ks_PG_readPage ini_PG kd_PG_readPage kh_PG_readPage ⟨Nat.le_of_ble_eq_true rfl, Nat.le_of_ble_eq_true rfl⟩ rfl rfl) (q0 := 12) (ci := 5) (As := [.ref (ad 2), .int x3, .int (ces z_89.1.toNatClampNeg)]) (rest := []) rfl rfl rfl hl.1 rfl (Nat.le_of_ble_eq_true rfl) d_PG_readTree_93 ⟨Nat.zero_le _, Nat.zero_le _⟩) hD hS hA (fun z_93 H locs hz_93 hP hD hS => ?_)
          have hres := bindc_eq hz_93 hres
          have hok := bindp_eq hz_93 hok
          have hP : va_P G.1 classes (cC G ad nb nt cfa cle cwr csl cst cen cby cto csh cdz cch cva css cve cro crc cma z_93.2.1 z_93.2.2 cbl crt) H := hP
          have hD : va_D A (cC G ad nb nt cfa cle cwr csl cst cen cby cto csh cdz cch cva css cve cro crc cma z_93.2.1 z_93.2.2 cbl crt) := hD
          refine lv_if_ne (tgt := 101) hx hb d_PG_readTree_96 (by decide) (fun c_96 => ?_) (fun c_96 => ?_)
          · have hres := it_f c_96 hres
            have hok := hok.2 c_96
            refine lv_iinc (v := x3 + (-1 : Int32)) (lv' := [(3, .int (x3 + (-1 : Int32))), (0, .ref (ad 12)), (1, .ref (ad 2))]) hx hb d_PG_readTree_101 hl (k := 2) rfl rfl (by decide) rfl (fun ls hl => ?_)
            refine lv_goto (tgt := 60) hx hb d_PG_readTree_104 (by decide) ?_
            exact ih (x3 + (-1 : Int32)) crc z_93.2.1 z_93.2.2 _ _ _ hok hres hP hD hS (lv_sub hl [1, 2, 0] rfl)
          · have hres := it_t c_96 hres
            refine lv_iconst (v := (0 : Int32)) hx hb d_PG_readTree_99 (by decide) ?_
            exact en_z (w1 := (fun u : Int32 × (Nat → Int32) × (Nat → Int32) => (cC G ad nb nt cfa cle cwr csl cst cen cby cto csh cdz cch cva css cve cro u.1 cma u.2.1 u.2.2 cbl crt))) (crc, z_93.2.1, z_93.2.2) hx hb hr hlocks hK hP hD hS hres isB_0 d_PG_readTree_100
def f_PG_readTree (p0 : Int32) (csl : Int32) (cst : Int32) (cen : Int32) (cby : (Nat → Int32)) (cto : (Nat → Int32)) (crc : Int32) (cma : (Nat → Int32)) (cbi : (Nat → Int32)) (ces : (Nat → Int32)) : Int32 × Int32 × (Nat → Int32) × (Nat → Int32) := if p0 = (-1 : Int32) then ((1 : Int32), (crc, cbi, ces)) else bindc (f_RL_isBad p0 (4 : Int32) csl cst cen cby cto) (fun z_10 => if z_10.1 = 0 then bindc (f_RL_entryOf p0 (1 : Int32) csl cby) (fun z_22 => bindc (f_RL_hasBit p0 (0 : Int32) csl cby) (fun z_31 => if z_31.1 = 0 then ((1 : Int32), (z_22.1, cbi, ces)) else bindc (f_RL_entryOf p0 (0 : Int32) csl cby) (fun z_46 => bindc (f_PG_readPage (72 : Int32) z_46.1 csl cst cen cby cto cbi ces) (fun z_49 => if z_49.1 = 0 then ((0 : Int32), (z_22.1, z_49.2.1, z_49.2.2)) else f_PG_readTree_60 1024 (71 : Int32) csl cst cen cby cto z_22.1 cma z_49.2.1 z_49.2.2)))) else ((0 : Int32), (crc, cbi, ces)))
def ok_PG_readTree (nb : Nat) (nt : Nat) (p0 : Int32) (csl : Int32) (cst : Int32) (cen : Int32) (cby : (Nat → Int32)) (cto : (Nat → Int32)) (crc : Int32) (cma : (Nat → Int32)) (cbi : (Nat → Int32)) (ces : (Nat → Int32)) : Prop := (p0 = (-1 : Int32) → True) ∧ (¬ p0 = (-1 : Int32) → ok_RL_isBad nb nt p0 (4 : Int32) csl cst cen cby cto ∧ bindp (f_RL_isBad p0 (4 : Int32) csl cst cen cby cto) (fun z_10 => (z_10.1 = 0 → ok_RL_entryOf nb nt p0 (1 : Int32) csl cby ∧ bindp (f_RL_entryOf p0 (1 : Int32) csl cby) (fun z_22 => ok_RL_hasBit nb nt p0 (0 : Int32) csl cby ∧ bindp (f_RL_hasBit p0 (0 : Int32) csl cby) (fun z_31 => (z_31.1 = 0 → True) ∧ (¬ z_31.1 = 0 → ok_RL_entryOf nb nt p0 (0 : Int32) csl cby ∧ bindp (f_RL_entryOf p0 (0 : Int32) csl cby) (fun z_46 => ok_PG_readPage nb nt (72 : Int32) z_46.1 csl cst cen cby cto cbi ces ∧ bindp (f_PG_readPage (72 : Int32) z_46.1 csl cst cen cby cto cbi ces) (fun z_49 => (z_49.1 = 0 → True) ∧ (¬ z_49.1 = 0 → ok_PG_readTree_60 nb nt  1024 (71 : Int32) csl cst cen cby cto z_22.1 cma z_49.2.1 z_49.2.2))))))) ∧ (¬ z_10.1 = 0 → True)))
set_option maxHeartbeats 4000000 in
set_option maxRecDepth 100000 in
theorem c_PG_readTree {l : Launch} {G : GG} {ad : Nat → Nat} {nb : Nat} {nt : Nat} {sz : Nat} {cfa : Int32} {cle : Int32} {cwr : Int32} {csl : Int32} {cst : Int32} {cen : Int32} {cby : (Nat → Int32)} {cto : (Nat → Int32)} {csh : (Nat → Int32)} {cdz : Int32} {cch : (Nat → Int32)} {cva : (Nat → Int32)} {css : Int32} {cve : (Nat → Int32)} {cro : (Nat → Int32)} {crc : Int32} {cma : (Nat → Int32)} {cbi : (Nat → Int32)} {ces : (Nat → Int32)} {cbl : (Nat → Int32)} {crt : (Nat → Int32)} {p0 : Int32} (hok : ok_PG_readTree nb nt p0 csl cst cen cby cto crc cma cbi ces) : CtI l y_PG_readTree b_PG_readTree 4 (some .boolean) rm_PG_readTree G (cC G ad nb nt cfa cle cwr csl cst cen cby cto csh cdz cch cva css cve cro crc cma cbi ces cbl crt) sz [.ref (ad 12), .ref (ad 2), .int p0] (eqP (f_PG_readTree p0 csl cst cen cby cto crc cma cbi ces)) (fun u : Int32 × (Nat → Int32) × (Nat → Int32) => (cC G ad nb nt cfa cle cwr csl cst cen cby cto csh cdz cch cva css cve cro u.1 cma u.2.1 u.2.2 cbl crt)) := by
  generalize hres : f_PG_readTree p0 csl cst cen cby cto crc cma cbi ces = res
  refine Met_of (Qc := fun A => va_Qi (eqP res) (Wb G A (fun u : Int32 × (Nat → Int32) × (Nat → Int32) => (cC G ad nb nt cfa cle cwr csl cst cen cby cto csh cdz cch cva css cve cro u.1 cma u.2.1 u.2.2 cbl crt))) A) (by decide) (Nat.le_of_ble_eq_true rfl) ?_
  intro p e s m below meth c hadm hx hb hr hml hown hlocks ht hK A hA hP hD hS ls hl
  have hC : Cx p l e s m (([.ref (ad 12), .ref (ad 2), .int p0] : List Value)).toArray meth c y_PG_readTree b_PG_readTree 4 (some .boolean) "BookTrees$Pages" G A := ⟨hx, hb, hr, hml, hown, hlocks, ht, hK, hA⟩
  have hown : s.vm.findClass "BookTrees$Pages" = some m.cls := hown
  have hl : lv_has ls 4 [(0, .ref (ad 12)), (1, .ref (ad 2)), (2, .int p0)] := hl
  rw [f_PG_readTree] at hres
  rw [ok_PG_readTree] at hok
  refine lv_iload_n hx hb d_PG_readTree_0 rfl (lv_at hl 2 rfl) ?_
  refine lv_iconst (v := (-1 : Int32)) hx hb d_PG_readTree_1 (by decide) ?_
  refine lv_icmp_ne (tgt := 7) hx hb d_PG_readTree_2 (by decide) (fun c_2 => ?_) (fun c_2 => ?_)
  · have hres := it_f c_2 hres
    have hok := hok.2 c_2
    refine lv_aload_n hx hb d_PG_readTree_7 rfl (lv_at hl 1 rfl) ?_
    refine lv_iload_n hx hb d_PG_readTree_8 rfl (lv_at hl 2 rfl) ?_
    refine lv_iconst (v := (4 : Int32)) hx hb d_PG_readTree_9 (by decide) ?_
    obtain ⟨hk_10, hok⟩ := hok
    refine go_iz (run_V hx hb hml hown ht hK hP hD (c_RL_isBad hk_10) (cw_V ht km_PG_42 ki_RL_isBad ks_RL_isBad ini_RL kd_RL_isBad kh_RL_isBad ⟨Nat.le_of_ble_eq_true rfl, Nat.le_of_ble_eq_true rfl⟩ rfl rfl) (q0 := 2) (ci := 2) (As := [.int p0, .int (4 : Int32)]) (rest := []) rfl rfl rfl hl.1 rfl (Nat.le_of_ble_eq_true rfl) d_PG_readTree_10 ⟨Nat.zero_le _, Nat.zero_le _⟩) hD hS hA (fun z_10 H locs hz_10 hP hD hS => ?_)
    have hres := bindc_eq hz_10 hres
    have hok := bindp_eq hz_10 hok
    have hP : va_P G.1 classes (cC G ad nb nt cfa cle cwr csl cst cen cby cto csh cdz cch cva css cve cro crc cma cbi ces cbl crt) H := hP
    have hD : va_D A (cC G ad nb nt cfa cle cwr csl cst cen cby cto csh cdz cch cva css cve cro crc cma cbi ces cbl crt) := hD
    refine lv_if_eq (tgt := 18) hx hb d_PG_readTree_13 (by decide) (fun c_13 => ?_) (fun c_13 => ?_)
    · have hres := it_t c_13 hres
      have hok := hok.1 c_13
      refine lv_aload_n hx hb d_PG_readTree_18 rfl (lv_at hl 0 rfl) ?_
      refine lv_aload_n hx hb d_PG_readTree_19 rfl (lv_at hl 1 rfl) ?_
      refine lv_iload_n hx hb d_PG_readTree_20 rfl (lv_at hl 2 rfl) ?_
      refine lv_iconst (v := (1 : Int32)) hx hb d_PG_readTree_21 (by decide) ?_
      obtain ⟨hk_22, hok⟩ := hok
      refine go_iz (run_V hx hb hml hown ht hK hP hD (c_RL_entryOf hk_22) (cw_V ht km_PG_48 ki_RL_entryOf ks_RL_entryOf ini_RL kd_RL_entryOf kh_RL_entryOf ⟨Nat.le_of_ble_eq_true rfl, Nat.le_of_ble_eq_true rfl⟩ rfl rfl) (q0 := 2) (ci := 2) (As := [.int p0, .int (1 : Int32)]) (rest := [.ref (ad 12)]) rfl rfl rfl hl.1 rfl (Nat.le_of_ble_eq_true rfl) d_PG_readTree_22 ⟨Nat.zero_le _, Nat.zero_le _⟩) hD hS hA (fun z_22 H locs hz_22 hP hD hS => ?_)
      have hres := bindc_eq hz_22 hres
      have hok := bindp_eq hz_22 hok
      have hP : va_P G.1 classes (cC G ad nb nt cfa cle cwr csl cst cen cby cto csh cdz cch cva css cve cro crc cma cbi ces cbl crt) H := hP
      have hD : va_D A (cC G ad nb nt cfa cle cwr csl cst cen cby cto csh cdz cch cva css cve cro crc cma cbi ces cbl crt) := hD
      refine va_put (D := G.1) (ci := 5) (v := .int z_22.1) (ty := .int) (C := R_PG) (T := F_PG) (N := 6) hx hb ht in_PG t_PG to_PG nm_PG hown hK hP hD hS 12 rfl rfl 5 (by decide) (ht _ kf_PG_28) (fun _ h9 => h9) rfl (to_PG 5 (by decide)) rfl rfl (Nat.le_of_ble_eq_true rfl) d_PG_readTree_25 (fun H locs hP hD hS => ?_)
      have hP : va_P G.1 classes (cC G ad nb nt cfa cle cwr csl cst cen cby cto csh cdz cch cva css cve cro z_22.1 cma cbi ces cbl crt) H := hP
      have hD : va_D A (cC G ad nb nt cfa cle cwr csl cst cen cby cto csh cdz cch cva css cve cro z_22.1 cma cbi ces cbl crt) := hD
      refine lv_aload_n hx hb d_PG_readTree_28 rfl (lv_at hl 1 rfl) ?_
      refine lv_iload_n hx hb d_PG_readTree_29 rfl (lv_at hl 2 rfl) ?_
      refine lv_iconst (v := (0 : Int32)) hx hb d_PG_readTree_30 (by decide) ?_
      obtain ⟨hk_31, hok⟩ := hok
      refine go_iz (run_V hx hb hml hown ht hK hP hD (c_RL_hasBit hk_31) (cw_V ht km_PG_52 ki_RL_hasBit ks_RL_hasBit ini_RL kd_RL_hasBit kh_RL_hasBit ⟨Nat.le_of_ble_eq_true rfl, Nat.le_of_ble_eq_true rfl⟩ rfl rfl) (q0 := 2) (ci := 2) (As := [.int p0, .int (0 : Int32)]) (rest := []) rfl rfl rfl hl.1 rfl (Nat.le_of_ble_eq_true rfl) d_PG_readTree_31 ⟨Nat.zero_le _, Nat.zero_le _⟩) hD hS hA (fun z_31 H locs hz_31 hP hD hS => ?_)
      have hres := bindc_eq hz_31 hres
      have hok := bindp_eq hz_31 hok
      have hP : va_P G.1 classes (cC G ad nb nt cfa cle cwr csl cst cen cby cto csh cdz cch cva css cve cro z_22.1 cma cbi ces cbl crt) H := hP
      have hD : va_D A (cC G ad nb nt cfa cle cwr csl cst cen cby cto csh cdz cch cva css cve cro z_22.1 cma cbi ces cbl crt) := hD
      refine lv_if_ne (tgt := 39) hx hb d_PG_readTree_34 (by decide) (fun c_34 => ?_) (fun c_34 => ?_)
      · have hres := it_f c_34 hres
        have hok := hok.2 c_34
        refine lv_aload_n hx hb d_PG_readTree_39 rfl (lv_at hl 0 rfl) ?_
        refine lv_aload_n hx hb d_PG_readTree_40 rfl (lv_at hl 1 rfl) ?_
        refine lv_bipush (v := (72 : Int32)) hx hb d_PG_readTree_41 (by decide) ?_
        refine lv_aload_n hx hb d_PG_readTree_43 rfl (lv_at hl 1 rfl) ?_
        refine lv_iload_n hx hb d_PG_readTree_44 rfl (lv_at hl 2 rfl) ?_
        refine lv_iconst (v := (0 : Int32)) hx hb d_PG_readTree_45 (by decide) ?_
        obtain ⟨hk_46, hok⟩ := hok
        refine go_iz (run_V hx hb hml hown ht hK hP hD (c_RL_entryOf hk_46) (cw_V ht km_PG_48 ki_RL_entryOf ks_RL_entryOf ini_RL kd_RL_entryOf kh_RL_entryOf ⟨Nat.le_of_ble_eq_true rfl, Nat.le_of_ble_eq_true rfl⟩ rfl rfl) (q0 := 2) (ci := 2) (As := [.int p0, .int (0 : Int32)]) (rest := [.int (72 : Int32), .ref (ad 2), .ref (ad 12)]) rfl rfl rfl hl.1 rfl (Nat.le_of_ble_eq_true rfl) d_PG_readTree_46 ⟨Nat.zero_le _, Nat.zero_le _⟩) hD hS hA (fun z_46 H locs hz_46 hP hD hS => ?_)
        have hres := bindc_eq hz_46 hres
        have hok := bindp_eq hz_46 hok
        have hP : va_P G.1 classes (cC G ad nb nt cfa cle cwr csl cst cen cby cto csh cdz cch cva css cve cro z_22.1 cma cbi ces cbl crt) H := hP
        have hD : va_D A (cC G ad nb nt cfa cle cwr csl cst cen cby cto csh cdz cch cva css cve cro z_22.1 cma cbi ces cbl crt) := hD
        obtain ⟨hk_49, hok⟩ := hok
        refine go_iz (run_V hx hb hml hown ht hK hP hD (c_PG_readPage hk_49) (cw_V ht km_PG_55 ki_PG_readPage ks_PG_readPage ini_PG kd_PG_readPage kh_PG_readPage ⟨Nat.le_of_ble_eq_true rfl, Nat.le_of_ble_eq_true rfl⟩ rfl rfl) (q0 := 12) (ci := 5) (As := [.ref (ad 2), .int (72 : Int32), .int z_46.1]) (rest := []) rfl rfl rfl hl.1 rfl (Nat.le_of_ble_eq_true rfl) d_PG_readTree_49 ⟨Nat.zero_le _, Nat.zero_le _⟩) hD hS hA (fun z_49 H locs hz_49 hP hD hS => ?_)
        have hres := bindc_eq hz_49 hres
        have hok := bindp_eq hz_49 hok
        have hP : va_P G.1 classes (cC G ad nb nt cfa cle cwr csl cst cen cby cto csh cdz cch cva css cve cro z_22.1 cma z_49.2.1 z_49.2.2 cbl crt) H := hP
        have hD : va_D A (cC G ad nb nt cfa cle cwr csl cst cen cby cto csh cdz cch cva css cve cro z_22.1 cma z_49.2.1 z_49.2.2 cbl crt) := hD
        refine lv_if_ne (tgt := 57) hx hb d_PG_readTree_52 (by decide) (fun c_52 => ?_) (fun c_52 => ?_)
        · have hres := it_f c_52 hres
          have hok := hok.2 c_52
          refine lv_bipush (v := (71 : Int32)) hx hb d_PG_readTree_57 (by decide) ?_
          refine lv_istore_n (lv' := [(3, .int (71 : Int32)), (0, .ref (ad 12)), (1, .ref (ad 2)), (2, .int p0)]) hx hb d_PG_readTree_59 rfl hl (by decide) rfl (fun ls hl => ?_)
          exact w_PG_readTree_60 hC 1024 (71 : Int32) z_22.1 z_49.2.1 z_49.2.2 _ _ _ hok hres hP hD hS (lv_sub hl [1, 2, 0] rfl)
        · have hres := it_t c_52 hres
          refine lv_iconst (v := (0 : Int32)) hx hb d_PG_readTree_55 (by decide) ?_
          exact en_z (w1 := (fun u : Int32 × (Nat → Int32) × (Nat → Int32) => (cC G ad nb nt cfa cle cwr csl cst cen cby cto csh cdz cch cva css cve cro u.1 cma u.2.1 u.2.2 cbl crt))) (z_22.1, z_49.2.1, z_49.2.2) hx hb hr hlocks hK hP hD hS hres isB_0 d_PG_readTree_56
      · have hres := it_t c_34 hres
        refine lv_iconst (v := (1 : Int32)) hx hb d_PG_readTree_37 (by decide) ?_
        exact en_z (w1 := (fun u : Int32 × (Nat → Int32) × (Nat → Int32) => (cC G ad nb nt cfa cle cwr csl cst cen cby cto csh cdz cch cva css cve cro u.1 cma u.2.1 u.2.2 cbl crt))) (z_22.1, cbi, ces) hx hb hr hlocks hK hP hD hS hres isB_1 d_PG_readTree_38
    · have hres := it_f c_13 hres
      refine lv_iconst (v := (0 : Int32)) hx hb d_PG_readTree_16 (by decide) ?_
      exact en_z (w1 := (fun u : Int32 × (Nat → Int32) × (Nat → Int32) => (cC G ad nb nt cfa cle cwr csl cst cen cby cto csh cdz cch cva css cve cro u.1 cma u.2.1 u.2.2 cbl crt))) (crc, cbi, ces) hx hb hr hlocks hK hP hD hS hres isB_0 d_PG_readTree_17
  · have hres := it_t c_2 hres
    refine lv_iconst (v := (1 : Int32)) hx hb d_PG_readTree_5 (by decide) ?_
    exact en_z (w1 := (fun u : Int32 × (Nat → Int32) × (Nat → Int32) => (cC G ad nb nt cfa cle cwr csl cst cen cby cto csh cdz cch cva css cve cro u.1 cma u.2.1 u.2.2 cbl crt))) (crc, cbi, ces) hx hb hr hlocks hK hP hD hS hres isB_1 d_PG_readTree_6
/-! ===== BookTrees$Pages.change(LBookTrees$Draft;)V ===== -/
abbrev rm_PG_change : Room := { frames := 1, cells := 0, slots := 0, locals := 25 }
def f_PG_change_2 : Nat → Int32 → (Nat → Int32) → (Nat → Int32) → Int32 → (Nat → Int32) → (Nat → Int32) → Int32 × (Nat → Int32) × (Nat → Int32)
  | 0, x2, cch, cva, crc, cbi, ces => (crc, cbi, ces)
  | n + 1, x2, cch, cva, crc, cbi, ces => if (512 : Int32) ≤ x2 then (crc, cbi, ces) else bindc (f_DR_has x2 cch) (fun z_11 => if z_11.1 = 0 then f_PG_change_2 n (x2 + (1 : Int32)) cch cva crc cbi ces else bindc (f_PG_bitOf (x2 >>> ((3 : Int32) &&& 31)) (x2 &&& (7 : Int32)) cbi) (fun z_27 => bindc (f_DR_isDropped x2 cch) (fun z_40 => if z_40.1 = 0 then bindc (f_DR_valueOf x2 cva) (fun z_53 => bindc (f_PG_setEntry (x2 >>> ((3 : Int32) &&& 31)) (x2 &&& (7 : Int32)) (1 : Int32) z_53.1 cbi ces) (fun z_56 => bindc (f_PG_bitOf (x2 >>> ((3 : Int32) &&& 31)) (x2 &&& (7 : Int32)) z_56.1) (fun z_70 => f_PG_change_2 n (x2 + (1 : Int32)) cch cva (crc + (z_70.1 - z_27.1)) z_56.1 z_56.2))) else bindc (f_DR_valueOf x2 cva) (fun z_53 => bindc (f_PG_setEntry (x2 >>> ((3 : Int32) &&& 31)) (x2 &&& (7 : Int32)) (0 : Int32) z_53.1 cbi ces) (fun z_56 => bindc (f_PG_bitOf (x2 >>> ((3 : Int32) &&& 31)) (x2 &&& (7 : Int32)) z_56.1) (fun z_70 => f_PG_change_2 n (x2 + (1 : Int32)) cch cva (crc + (z_70.1 - z_27.1)) z_56.1 z_56.2))))))
def ok_PG_change_2 (nb : Nat) (nt : Nat) : Nat → Int32 → (Nat → Int32) → (Nat → Int32) → Int32 → (Nat → Int32) → (Nat → Int32) → Prop
  | 0, _, _, _, _, _, _ => False
  | n + 1, x2, cch, cva, crc, cbi, ces => ((512 : Int32) ≤ x2 → True) ∧ (¬ (512 : Int32) ≤ x2 → ok_DR_has nb nt x2 cch ∧ bindp (f_DR_has x2 cch) (fun z_11 => (z_11.1 = 0 → ok_PG_change_2 nb nt  n (x2 + (1 : Int32)) cch cva crc cbi ces) ∧ (¬ z_11.1 = 0 → ok_PG_bitOf nb nt (x2 >>> ((3 : Int32) &&& 31)) (x2 &&& (7 : Int32)) cbi ∧ bindp (f_PG_bitOf (x2 >>> ((3 : Int32) &&& 31)) (x2 &&& (7 : Int32)) cbi) (fun z_27 => ok_DR_isDropped nb nt x2 cch ∧ bindp (f_DR_isDropped x2 cch) (fun z_40 => (z_40.1 = 0 → ok_DR_valueOf nb nt x2 cva ∧ bindp (f_DR_valueOf x2 cva) (fun z_53 => ok_PG_setEntry nb nt (x2 >>> ((3 : Int32) &&& 31)) (x2 &&& (7 : Int32)) (1 : Int32) z_53.1 cbi ces ∧ bindp (f_PG_setEntry (x2 >>> ((3 : Int32) &&& 31)) (x2 &&& (7 : Int32)) (1 : Int32) z_53.1 cbi ces) (fun z_56 => ok_PG_bitOf nb nt (x2 >>> ((3 : Int32) &&& 31)) (x2 &&& (7 : Int32)) z_56.1 ∧ bindp (f_PG_bitOf (x2 >>> ((3 : Int32) &&& 31)) (x2 &&& (7 : Int32)) z_56.1) (fun z_70 => ok_PG_change_2 nb nt  n (x2 + (1 : Int32)) cch cva (crc + (z_70.1 - z_27.1)) z_56.1 z_56.2)))) ∧ (¬ z_40.1 = 0 → ok_DR_valueOf nb nt x2 cva ∧ bindp (f_DR_valueOf x2 cva) (fun z_53 => ok_PG_setEntry nb nt (x2 >>> ((3 : Int32) &&& 31)) (x2 &&& (7 : Int32)) (0 : Int32) z_53.1 cbi ces ∧ bindp (f_PG_setEntry (x2 >>> ((3 : Int32) &&& 31)) (x2 &&& (7 : Int32)) (0 : Int32) z_53.1 cbi ces) (fun z_56 => ok_PG_bitOf nb nt (x2 >>> ((3 : Int32) &&& 31)) (x2 &&& (7 : Int32)) z_56.1 ∧ bindp (f_PG_bitOf (x2 >>> ((3 : Int32) &&& 31)) (x2 &&& (7 : Int32)) z_56.1) (fun z_70 => ok_PG_change_2 nb nt  n (x2 + (1 : Int32)) cch cva (crc + (z_70.1 - z_27.1)) z_56.1 z_56.2)))))))))
set_option maxHeartbeats 4000000 in
set_option maxRecDepth 100000 in
theorem w_PG_change_2 {p : Program} {l : Launch} {e : Env} {s : State} {m : MethodId} {args : Array Value} {below : List Frame} {meth : Method} {c : Code} {A : Nat → Prop} {G : GG} {ad : Nat → Nat} {nb : Nat} {nt : Nat} {cfa : Int32} {cle : Int32} {cwr : Int32} {csl : Int32} {cst : Int32} {cen : Int32} {cby : (Nat → Int32)} {cto : (Nat → Int32)} {csh : (Nat → Int32)} {cdz : Int32} {cch : (Nat → Int32)} {cva : (Nat → Int32)} {css : Int32} {cve : (Nat → Int32)} {cro : (Nat → Int32)} {cma : (Nat → Int32)} {cbl : (Nat → Int32)} {crt : (Nat → Int32)} {res : Int32 × (Nat → Int32) × (Nat → Int32)} (hC : Cx p l e s m args meth c y_PG_change b_PG_change 5 none "BookTrees$Pages" G A) : ∀ (n : Nat) (x2 : Int32) (crc : Int32) (cbi : (Nat → Int32)) (ces : (Nat → Int32)) (H : Heap) (locs : List Loc) (ls : Array Slot), ok_PG_change_2 nb nt n x2 cch cva crc cbi ces → f_PG_change_2 n x2 cch cva crc cbi ces = res → va_P G.1 classes (cC G ad nb nt cfa cle cwr csl cst cen cby cto csh cdz cch cva css cve cro crc cma cbi ces cbl crt) H → va_D A (cC G ad nb nt cfa cle cwr csl cst cen cby cto csh cdz cch cva css cve cro crc cma cbi ces cbl crt) → va_S A s.heap H locs → lv_has ls 5 [(0, .ref (ad 12)), (1, .ref (ad 6)), (2, .int x2)] → W p l e rm_PG_change s m args below meth c H locs 0 0 (MQ below (va_Qv (eqV res) (Wb G A (fun u : Int32 × (Nat → Int32) × (Nat → Int32) => (cC G ad nb nt cfa cle cwr csl cst cen cby cto csh cdz cch cva css cve cro u.1 cma u.2.1 u.2.2 cbl crt))) A) args s 0 0 A) (F0 m 2 ls []) := by
  obtain ⟨hx, hb, hr, hml, hown, hlocks, ht, hK, hA⟩ := id hC
  intro n
  induction n with
  | zero => intro x2 crc cbi ces H locs ls hok; exact hok.elim
  | succ n ih =>
    intro x2 crc cbi ces H locs ls hok hres hP hD hS hl
    rw [f_PG_change_2] at hres
    rw [ok_PG_change_2] at hok
    refine lv_iload_n hx hb d_PG_change_2 rfl (lv_at hl 2 rfl) ?_
    refine lv_sipush (v := (512 : Int32)) hx hb d_PG_change_3 (by decide) ?_
    refine lv_icmp_ge (tgt := 86) hx hb d_PG_change_6 (by decide) (fun c_6 => ?_) (fun c_6 => ?_)
    · have hres := it_t c_6 hres
      exact en_v (w1 := (fun u : Int32 × (Nat → Int32) × (Nat → Int32) => (cC G ad nb nt cfa cle cwr csl cst cen cby cto csh cdz cch cva css cve cro u.1 cma u.2.1 u.2.2 cbl crt))) (crc, cbi, ces) hx hb hr hlocks hK hP hD hS hres d_PG_change_86
    · have hres := it_f c_6 hres
      have hok := hok.2 c_6
      refine lv_aload_n hx hb d_PG_change_9 rfl (lv_at hl 1 rfl) ?_
      refine lv_iload_n hx hb d_PG_change_10 rfl (lv_at hl 2 rfl) ?_
      obtain ⟨hk_11, hok⟩ := hok
      refine go_iz (run_V hx hb hml hown ht hK hP hD (c_DR_has hk_11) (cw_V ht km_PG_32 ki_DR_has ks_DR_has ini_DR kd_DR_has kh_DR_has ⟨Nat.le_of_ble_eq_true rfl, Nat.le_of_ble_eq_true rfl⟩ rfl rfl) (q0 := 6) (ci := 3) (As := [.int x2]) (rest := []) rfl rfl rfl hl.1 rfl (Nat.le_of_ble_eq_true rfl) d_PG_change_11 ⟨Nat.zero_le _, Nat.zero_le _⟩) hD hS hA (fun z_11 H locs hz_11 hP hD hS => ?_)
      have hres := bindc_eq hz_11 hres
      have hok := bindp_eq hz_11 hok
      have hP : va_P G.1 classes (cC G ad nb nt cfa cle cwr csl cst cen cby cto csh cdz cch cva css cve cro crc cma cbi ces cbl crt) H := hP
      have hD : va_D A (cC G ad nb nt cfa cle cwr csl cst cen cby cto csh cdz cch cva css cve cro crc cma cbi ces cbl crt) := hD
      refine lv_if_eq (tgt := 80) hx hb d_PG_change_14 (by decide) (fun c_14 => ?_) (fun c_14 => ?_)
      · have hres := it_t c_14 hres
        have hok := hok.1 c_14
        refine lv_iinc (v := x2 + (1 : Int32)) (lv' := [(2, .int (x2 + (1 : Int32))), (0, .ref (ad 12)), (1, .ref (ad 6))]) hx hb d_PG_change_80 hl (k := 2) rfl rfl (by decide) rfl (fun ls hl => ?_)
        refine lv_goto (tgt := 2) hx hb d_PG_change_83 (by decide) ?_
        exact ih (x2 + (1 : Int32)) crc cbi ces _ _ _ hok hres hP hD hS (lv_sub hl [1, 2, 0] rfl)
      · have hres := it_f c_14 hres
        have hok := hok.2 c_14
        refine lv_iload_n hx hb d_PG_change_17 rfl (lv_at hl 2 rfl) ?_
        refine lv_iconst (v := (3 : Int32)) hx hb d_PG_change_18 (by decide) ?_
        refine lv_ishr hx hb d_PG_change_19 ?_
        refine lv_istore_n (lv' := [(3, .int (x2 >>> ((3 : Int32) &&& 31))), (0, .ref (ad 12)), (1, .ref (ad 6)), (2, .int x2)]) hx hb d_PG_change_20 rfl hl (by decide) rfl (fun ls hl => ?_)
        refine lv_aload_n hx hb d_PG_change_21 rfl (lv_at hl 1 rfl) ?_
        refine lv_iload_n hx hb d_PG_change_22 rfl (lv_at hl 0 rfl) ?_
        refine lv_iload_n hx hb d_PG_change_23 rfl (lv_at hl 3 rfl) ?_
        refine lv_bipush (v := (7 : Int32)) hx hb d_PG_change_24 (by decide) ?_
        refine lv_iand hx hb d_PG_change_26 ?_
        obtain ⟨hk_27, hok⟩ := hok
        refine go_iz (run_V hx hb hml hown ht hK hP hD (c_PG_bitOf hk_27) (cw_V ht km_PG_65 ki_PG_bitOf ks_PG_bitOf ini_PG kd_PG_bitOf kh_PG_bitOf ⟨Nat.le_of_ble_eq_true rfl, Nat.le_of_ble_eq_true rfl⟩ rfl rfl) (q0 := 12) (ci := 5) (As := [.int (x2 >>> ((3 : Int32) &&& 31)), .int (x2 &&& (7 : Int32))]) (rest := []) rfl rfl rfl hl.1 rfl (Nat.le_of_ble_eq_true rfl) d_PG_change_27 ⟨Nat.zero_le _, Nat.zero_le _⟩) hD hS hA (fun z_27 H locs hz_27 hP hD hS => ?_)
        have hres := bindc_eq hz_27 hres
        have hok := bindp_eq hz_27 hok
        have hP : va_P G.1 classes (cC G ad nb nt cfa cle cwr csl cst cen cby cto csh cdz cch cva css cve cro crc cma cbi ces cbl crt) H := hP
        have hD : va_D A (cC G ad nb nt cfa cle cwr csl cst cen cby cto csh cdz cch cva css cve cro crc cma cbi ces cbl crt) := hD
        refine lv_istore (lv' := [(4, .int z_27.1), (3, .int (x2 >>> ((3 : Int32) &&& 31))), (0, .ref (ad 12)), (1, .ref (ad 6)), (2, .int x2)]) hx hb d_PG_change_30 hl (by decide) rfl (fun ls hl => ?_)
        refine lv_aload_n hx hb d_PG_change_32 rfl (lv_at hl 2 rfl) ?_
        refine lv_iload_n hx hb d_PG_change_33 rfl (lv_at hl 1 rfl) ?_
        refine lv_iload_n hx hb d_PG_change_34 rfl (lv_at hl 4 rfl) ?_
        refine lv_bipush (v := (7 : Int32)) hx hb d_PG_change_35 (by decide) ?_
        refine lv_iand hx hb d_PG_change_37 ?_
        refine lv_aload_n hx hb d_PG_change_38 rfl (lv_at hl 3 rfl) ?_
        refine lv_iload_n hx hb d_PG_change_39 rfl (lv_at hl 4 rfl) ?_
        obtain ⟨hk_40, hok⟩ := hok
        refine go_iz (run_V hx hb hml hown ht hK hP hD (c_DR_isDropped hk_40) (cw_V ht km_PG_68 ki_DR_isDropped ks_DR_isDropped ini_DR kd_DR_isDropped kh_DR_isDropped ⟨Nat.le_of_ble_eq_true rfl, Nat.le_of_ble_eq_true rfl⟩ rfl rfl) (q0 := 6) (ci := 3) (As := [.int x2]) (rest := [.int (x2 &&& (7 : Int32)), .int (x2 >>> ((3 : Int32) &&& 31)), .ref (ad 12)]) rfl rfl rfl hl.1 rfl (Nat.le_of_ble_eq_true rfl) d_PG_change_40 ⟨Nat.zero_le _, Nat.zero_le _⟩) hD hS hA (fun z_40 H locs hz_40 hP hD hS => ?_)
        have hres := bindc_eq hz_40 hres
        have hok := bindp_eq hz_40 hok
        have hP : va_P G.1 classes (cC G ad nb nt cfa cle cwr csl cst cen cby cto csh cdz cch cva css cve cro crc cma cbi ces cbl crt) H := hP
        have hD : va_D A (cC G ad nb nt cfa cle cwr csl cst cen cby cto csh cdz cch cva css cve cro crc cma cbi ces cbl crt) := hD
        refine lv_if_ne (tgt := 50) hx hb d_PG_change_43 (by decide) (fun c_43 => ?_) (fun c_43 => ?_)
        · have hres := it_f c_43 hres
          have hok := hok.2 c_43
          refine lv_iconst (v := (0 : Int32)) hx hb d_PG_change_50 (by decide) ?_
          refine lv_aload_n hx hb d_PG_change_51 rfl (lv_at hl 3 rfl) ?_
          refine lv_iload_n hx hb d_PG_change_52 rfl (lv_at hl 4 rfl) ?_
          obtain ⟨hk_53, hok⟩ := hok
          refine go_iz (run_V hx hb hml hown ht hK hP hD (c_DR_valueOf hk_53) (cw_V ht km_PG_71 ki_DR_valueOf ks_DR_valueOf ini_DR kd_DR_valueOf kh_DR_valueOf ⟨Nat.le_of_ble_eq_true rfl, Nat.le_of_ble_eq_true rfl⟩ rfl rfl) (q0 := 6) (ci := 3) (As := [.int x2]) (rest := [.int (0 : Int32), .int (x2 &&& (7 : Int32)), .int (x2 >>> ((3 : Int32) &&& 31)), .ref (ad 12)]) rfl rfl rfl hl.1 rfl (Nat.le_of_ble_eq_true rfl) d_PG_change_53 ⟨Nat.zero_le _, Nat.zero_le _⟩) hD hS hA (fun z_53 H locs hz_53 hP hD hS => ?_)
          have hres := bindc_eq hz_53 hres
          have hok := bindp_eq hz_53 hok
          have hP : va_P G.1 classes (cC G ad nb nt cfa cle cwr csl cst cen cby cto csh cdz cch cva css cve cro crc cma cbi ces cbl crt) H := hP
          have hD : va_D A (cC G ad nb nt cfa cle cwr csl cst cen cby cto csh cdz cch cva css cve cro crc cma cbi ces cbl crt) := hD
          obtain ⟨hk_56, hok⟩ := hok
          refine go_vz (run_V hx hb hml hown ht hK hP hD (c_PG_setEntry hk_56) (cw_V ht km_PG_74 ki_PG_setEntry ks_PG_setEntry ini_PG kd_PG_setEntry kh_PG_setEntry ⟨Nat.le_of_ble_eq_true rfl, Nat.le_of_ble_eq_true rfl⟩ rfl rfl) (q0 := 12) (ci := 5) (As := [.int (x2 >>> ((3 : Int32) &&& 31)), .int (x2 &&& (7 : Int32)), .int (0 : Int32), .int z_53.1]) (rest := []) rfl rfl rfl hl.1 rfl (Nat.le_of_ble_eq_true rfl) d_PG_change_56 ⟨Nat.zero_le _, Nat.zero_le _⟩) hD hS hA (fun z_56 H locs hz_56 hP hD hS => ?_)
          have hres := bindc_eq hz_56 hres
          have hok := bindp_eq hz_56 hok
          have hP : va_P G.1 classes (cC G ad nb nt cfa cle cwr csl cst cen cby cto csh cdz cch cva css cve cro crc cma z_56.1 z_56.2 cbl crt) H := hP
          have hD : va_D A (cC G ad nb nt cfa cle cwr csl cst cen cby cto csh cdz cch cva css cve cro crc cma z_56.1 z_56.2 cbl crt) := hD
          refine lv_aload_n hx hb d_PG_change_59 rfl (lv_at hl 2 rfl) ?_
          refine lv_dup hx hb d_PG_change_60 rfl ?_
          refine va_get (D := G.1) (ci := 5) (C := R_PG) (T := F_PG) (N := 6) hx hb ht in_PG hown hK hP 12 rfl rfl 5 (by decide) (ht _ kf_PG_28) (fun _ h9 => h9) rfl d_PG_change_61 ?_
          refine lv_aload_n hx hb d_PG_change_64 rfl (lv_at hl 2 rfl) ?_
          refine lv_iload_n hx hb d_PG_change_65 rfl (lv_at hl 1 rfl) ?_
          refine lv_iload_n hx hb d_PG_change_66 rfl (lv_at hl 4 rfl) ?_
          refine lv_bipush (v := (7 : Int32)) hx hb d_PG_change_67 (by decide) ?_
          refine lv_iand hx hb d_PG_change_69 ?_
          obtain ⟨hk_70, hok⟩ := hok
          refine go_iz (run_V hx hb hml hown ht hK hP hD (c_PG_bitOf hk_70) (cw_V ht km_PG_65 ki_PG_bitOf ks_PG_bitOf ini_PG kd_PG_bitOf kh_PG_bitOf ⟨Nat.le_of_ble_eq_true rfl, Nat.le_of_ble_eq_true rfl⟩ rfl rfl) (q0 := 12) (ci := 5) (As := [.int (x2 >>> ((3 : Int32) &&& 31)), .int (x2 &&& (7 : Int32))]) (rest := [.int crc, .ref (ad 12)]) rfl rfl rfl hl.1 rfl (Nat.le_of_ble_eq_true rfl) d_PG_change_70 ⟨Nat.zero_le _, Nat.zero_le _⟩) hD hS hA (fun z_70 H locs hz_70 hP hD hS => ?_)
          have hres := bindc_eq hz_70 hres
          have hok := bindp_eq hz_70 hok
          have hP : va_P G.1 classes (cC G ad nb nt cfa cle cwr csl cst cen cby cto csh cdz cch cva css cve cro crc cma z_56.1 z_56.2 cbl crt) H := hP
          have hD : va_D A (cC G ad nb nt cfa cle cwr csl cst cen cby cto csh cdz cch cva css cve cro crc cma z_56.1 z_56.2 cbl crt) := hD
          refine lv_iload hx hb d_PG_change_73 (lv_at hl 0 rfl) ?_
          refine lv_isub hx hb d_PG_change_75 ?_
          refine lv_iadd hx hb d_PG_change_76 ?_
          refine va_put (D := G.1) (ci := 5) (v := .int (crc + (z_70.1 - z_27.1))) (ty := .int) (C := R_PG) (T := F_PG) (N := 6) hx hb ht in_PG t_PG to_PG nm_PG hown hK hP hD hS 12 rfl rfl 5 (by decide) (ht _ kf_PG_28) (fun _ h9 => h9) rfl (to_PG 5 (by decide)) rfl rfl (Nat.le_of_ble_eq_true rfl) d_PG_change_77 (fun H locs hP hD hS => ?_)
          have hP : va_P G.1 classes (cC G ad nb nt cfa cle cwr csl cst cen cby cto csh cdz cch cva css cve cro (crc + (z_70.1 - z_27.1)) cma z_56.1 z_56.2 cbl crt) H := hP
          have hD : va_D A (cC G ad nb nt cfa cle cwr csl cst cen cby cto csh cdz cch cva css cve cro (crc + (z_70.1 - z_27.1)) cma z_56.1 z_56.2 cbl crt) := hD
          refine lv_iinc (v := x2 + (1 : Int32)) (lv' := [(2, .int (x2 + (1 : Int32))), (4, .int z_27.1), (3, .int (x2 >>> ((3 : Int32) &&& 31))), (0, .ref (ad 12)), (1, .ref (ad 6))]) hx hb d_PG_change_80 hl (k := 4) rfl rfl (by decide) rfl (fun ls hl => ?_)
          refine lv_goto (tgt := 2) hx hb d_PG_change_83 (by decide) ?_
          exact ih (x2 + (1 : Int32)) (crc + (z_70.1 - z_27.1)) z_56.1 z_56.2 _ _ _ hok hres hP hD hS (lv_sub hl [3, 4, 0] rfl)
        · have hres := it_t c_43 hres
          have hok := hok.1 c_43
          refine lv_iconst (v := (1 : Int32)) hx hb d_PG_change_46 (by decide) ?_
          refine lv_goto (tgt := 51) hx hb d_PG_change_47 (by decide) ?_
          refine lv_aload_n hx hb d_PG_change_51 rfl (lv_at hl 3 rfl) ?_
          refine lv_iload_n hx hb d_PG_change_52 rfl (lv_at hl 4 rfl) ?_
          obtain ⟨hk_53, hok⟩ := hok
          refine go_iz (run_V hx hb hml hown ht hK hP hD (c_DR_valueOf hk_53) (cw_V ht km_PG_71 ki_DR_valueOf ks_DR_valueOf ini_DR kd_DR_valueOf kh_DR_valueOf ⟨Nat.le_of_ble_eq_true rfl, Nat.le_of_ble_eq_true rfl⟩ rfl rfl) (q0 := 6) (ci := 3) (As := [.int x2]) (rest := [.int (1 : Int32), .int (x2 &&& (7 : Int32)), .int (x2 >>> ((3 : Int32) &&& 31)), .ref (ad 12)]) rfl rfl rfl hl.1 rfl (Nat.le_of_ble_eq_true rfl) d_PG_change_53 ⟨Nat.zero_le _, Nat.zero_le _⟩) hD hS hA (fun z_53 H locs hz_53 hP hD hS => ?_)
          have hres := bindc_eq hz_53 hres
          have hok := bindp_eq hz_53 hok
          have hP : va_P G.1 classes (cC G ad nb nt cfa cle cwr csl cst cen cby cto csh cdz cch cva css cve cro crc cma cbi ces cbl crt) H := hP
          have hD : va_D A (cC G ad nb nt cfa cle cwr csl cst cen cby cto csh cdz cch cva css cve cro crc cma cbi ces cbl crt) := hD
          obtain ⟨hk_56, hok⟩ := hok
          refine go_vz (run_V hx hb hml hown ht hK hP hD (c_PG_setEntry hk_56) (cw_V ht km_PG_74 ki_PG_setEntry ks_PG_setEntry ini_PG kd_PG_setEntry kh_PG_setEntry ⟨Nat.le_of_ble_eq_true rfl, Nat.le_of_ble_eq_true rfl⟩ rfl rfl) (q0 := 12) (ci := 5) (As := [.int (x2 >>> ((3 : Int32) &&& 31)), .int (x2 &&& (7 : Int32)), .int (1 : Int32), .int z_53.1]) (rest := []) rfl rfl rfl hl.1 rfl (Nat.le_of_ble_eq_true rfl) d_PG_change_56 ⟨Nat.zero_le _, Nat.zero_le _⟩) hD hS hA (fun z_56 H locs hz_56 hP hD hS => ?_)
          have hres := bindc_eq hz_56 hres
          have hok := bindp_eq hz_56 hok
          have hP : va_P G.1 classes (cC G ad nb nt cfa cle cwr csl cst cen cby cto csh cdz cch cva css cve cro crc cma z_56.1 z_56.2 cbl crt) H := hP
          have hD : va_D A (cC G ad nb nt cfa cle cwr csl cst cen cby cto csh cdz cch cva css cve cro crc cma z_56.1 z_56.2 cbl crt) := hD
          refine lv_aload_n hx hb d_PG_change_59 rfl (lv_at hl 2 rfl) ?_
          refine lv_dup hx hb d_PG_change_60 rfl ?_
          refine va_get (D := G.1) (ci := 5) (C := R_PG) (T := F_PG) (N := 6) hx hb ht in_PG hown hK hP 12 rfl rfl 5 (by decide) (ht _ kf_PG_28) (fun _ h9 => h9) rfl d_PG_change_61 ?_
          refine lv_aload_n hx hb d_PG_change_64 rfl (lv_at hl 2 rfl) ?_
          refine lv_iload_n hx hb d_PG_change_65 rfl (lv_at hl 1 rfl) ?_
          refine lv_iload_n hx hb d_PG_change_66 rfl (lv_at hl 4 rfl) ?_
          refine lv_bipush (v := (7 : Int32)) hx hb d_PG_change_67 (by decide) ?_
          refine lv_iand hx hb d_PG_change_69 ?_
          obtain ⟨hk_70, hok⟩ := hok
          refine go_iz (run_V hx hb hml hown ht hK hP hD (c_PG_bitOf hk_70) (cw_V ht km_PG_65 ki_PG_bitOf ks_PG_bitOf ini_PG kd_PG_bitOf kh_PG_bitOf ⟨Nat.le_of_ble_eq_true rfl, Nat.le_of_ble_eq_true rfl⟩ rfl rfl) (q0 := 12) (ci := 5) (As := [.int (x2 >>> ((3 : Int32) &&& 31)), .int (x2 &&& (7 : Int32))]) (rest := [.int crc, .ref (ad 12)]) rfl rfl rfl hl.1 rfl (Nat.le_of_ble_eq_true rfl) d_PG_change_70 ⟨Nat.zero_le _, Nat.zero_le _⟩) hD hS hA (fun z_70 H locs hz_70 hP hD hS => ?_)
          have hres := bindc_eq hz_70 hres
          have hok := bindp_eq hz_70 hok
          have hP : va_P G.1 classes (cC G ad nb nt cfa cle cwr csl cst cen cby cto csh cdz cch cva css cve cro crc cma z_56.1 z_56.2 cbl crt) H := hP
          have hD : va_D A (cC G ad nb nt cfa cle cwr csl cst cen cby cto csh cdz cch cva css cve cro crc cma z_56.1 z_56.2 cbl crt) := hD
          refine lv_iload hx hb d_PG_change_73 (lv_at hl 0 rfl) ?_
          refine lv_isub hx hb d_PG_change_75 ?_
          refine lv_iadd hx hb d_PG_change_76 ?_
          refine va_put (D := G.1) (ci := 5) (v := .int (crc + (z_70.1 - z_27.1))) (ty := .int) (C := R_PG) (T := F_PG) (N := 6) hx hb ht in_PG t_PG to_PG nm_PG hown hK hP hD hS 12 rfl rfl 5 (by decide) (ht _ kf_PG_28) (fun _ h9 => h9) rfl (to_PG 5 (by decide)) rfl rfl (Nat.le_of_ble_eq_true rfl) d_PG_change_77 (fun H locs hP hD hS => ?_)
          have hP : va_P G.1 classes (cC G ad nb nt cfa cle cwr csl cst cen cby cto csh cdz cch cva css cve cro (crc + (z_70.1 - z_27.1)) cma z_56.1 z_56.2 cbl crt) H := hP
          have hD : va_D A (cC G ad nb nt cfa cle cwr csl cst cen cby cto csh cdz cch cva css cve cro (crc + (z_70.1 - z_27.1)) cma z_56.1 z_56.2 cbl crt) := hD
          refine lv_iinc (v := x2 + (1 : Int32)) (lv' := [(2, .int (x2 + (1 : Int32))), (4, .int z_27.1), (3, .int (x2 >>> ((3 : Int32) &&& 31))), (0, .ref (ad 12)), (1, .ref (ad 6))]) hx hb d_PG_change_80 hl (k := 4) rfl rfl (by decide) rfl (fun ls hl => ?_)
          refine lv_goto (tgt := 2) hx hb d_PG_change_83 (by decide) ?_
          exact ih (x2 + (1 : Int32)) (crc + (z_70.1 - z_27.1)) z_56.1 z_56.2 _ _ _ hok hres hP hD hS (lv_sub hl [3, 4, 0] rfl)
def f_PG_change  (cch : (Nat → Int32)) (cva : (Nat → Int32)) (crc : Int32) (cbi : (Nat → Int32)) (ces : (Nat → Int32)) : Int32 × (Nat → Int32) × (Nat → Int32) := f_PG_change_2 1024 (0 : Int32) cch cva crc cbi ces
def ok_PG_change (nb : Nat) (nt : Nat)  (cch : (Nat → Int32)) (cva : (Nat → Int32)) (crc : Int32) (cbi : (Nat → Int32)) (ces : (Nat → Int32)) : Prop := ok_PG_change_2 nb nt  1024 (0 : Int32) cch cva crc cbi ces
set_option maxHeartbeats 4000000 in
set_option maxRecDepth 100000 in
theorem c_PG_change {l : Launch} {G : GG} {ad : Nat → Nat} {nb : Nat} {nt : Nat} {sz : Nat} {cfa : Int32} {cle : Int32} {cwr : Int32} {csl : Int32} {cst : Int32} {cen : Int32} {cby : (Nat → Int32)} {cto : (Nat → Int32)} {csh : (Nat → Int32)} {cdz : Int32} {cch : (Nat → Int32)} {cva : (Nat → Int32)} {css : Int32} {cve : (Nat → Int32)} {cro : (Nat → Int32)} {crc : Int32} {cma : (Nat → Int32)} {cbi : (Nat → Int32)} {ces : (Nat → Int32)} {cbl : (Nat → Int32)} {crt : (Nat → Int32)}  (hok : ok_PG_change nb nt cch cva crc cbi ces) : CtV l y_PG_change b_PG_change 5 none rm_PG_change G (cC G ad nb nt cfa cle cwr csl cst cen cby cto csh cdz cch cva css cve cro crc cma cbi ces cbl crt) sz [.ref (ad 12), .ref (ad 6)] (eqV (f_PG_change cch cva crc cbi ces)) (fun u : Int32 × (Nat → Int32) × (Nat → Int32) => (cC G ad nb nt cfa cle cwr csl cst cen cby cto csh cdz cch cva css cve cro u.1 cma u.2.1 u.2.2 cbl crt)) := by
  generalize hres : f_PG_change cch cva crc cbi ces = res
  refine Met_of (Qc := fun A => va_Qv (eqV res) (Wb G A (fun u : Int32 × (Nat → Int32) × (Nat → Int32) => (cC G ad nb nt cfa cle cwr csl cst cen cby cto csh cdz cch cva css cve cro u.1 cma u.2.1 u.2.2 cbl crt))) A) (by decide) (Nat.le_of_ble_eq_true rfl) ?_
  intro p e s m below meth c hadm hx hb hr hml hown hlocks ht hK A hA hP hD hS ls hl
  have hC : Cx p l e s m (([.ref (ad 12), .ref (ad 6)] : List Value)).toArray meth c y_PG_change b_PG_change 5 none "BookTrees$Pages" G A := ⟨hx, hb, hr, hml, hown, hlocks, ht, hK, hA⟩
  have hown : s.vm.findClass "BookTrees$Pages" = some m.cls := hown
  have hl : lv_has ls 5 [(0, .ref (ad 12)), (1, .ref (ad 6))] := hl
  rw [f_PG_change] at hres
  rw [ok_PG_change] at hok
  refine lv_iconst (v := (0 : Int32)) hx hb d_PG_change_0 (by decide) ?_
  refine lv_istore_n (lv' := [(2, .int (0 : Int32)), (0, .ref (ad 12)), (1, .ref (ad 6))]) hx hb d_PG_change_1 rfl hl (by decide) rfl (fun ls hl => ?_)
  exact w_PG_change_2 hC 1024 (0 : Int32) crc cbi ces _ _ _ hok hres hP hD hS (lv_sub hl [1, 2, 0] rfl)
/-! ===== BookTrees$Roll.end()I ===== -/
abbrev rm_RL_end : Room := { frames := 0, cells := 0, slots := 0, locals := 0 }
def f_RL_end  (cen : Int32) : Int32 × Unit := (cen, ())
set_option maxHeartbeats 4000000 in
set_option maxRecDepth 100000 in
theorem c_RL_end {l : Launch} {G : GG} {ad : Nat → Nat} {nb : Nat} {nt : Nat} {sz : Nat} {cfa : Int32} {cle : Int32} {cwr : Int32} {csl : Int32} {cst : Int32} {cen : Int32} {cby : (Nat → Int32)} {cto : (Nat → Int32)} {csh : (Nat → Int32)} {cdz : Int32} {cch : (Nat → Int32)} {cva : (Nat → Int32)} {css : Int32} {cve : (Nat → Int32)} {cro : (Nat → Int32)} {crc : Int32} {cma : (Nat → Int32)} {cbi : (Nat → Int32)} {ces : (Nat → Int32)} {cbl : (Nat → Int32)} {crt : (Nat → Int32)}  : CtI l y_RL_end b_RL_end 1 (some .int) rm_RL_end G (cC G ad nb nt cfa cle cwr csl cst cen cby cto csh cdz cch cva css cve cro crc cma cbi ces cbl crt) sz [.ref (ad 2)] (eqP (f_RL_end cen)) (fun _ : Unit => (cC G ad nb nt cfa cle cwr csl cst cen cby cto csh cdz cch cva css cve cro crc cma cbi ces cbl crt)) := by
  generalize hres : f_RL_end cen = res
  refine Met_of (Qc := fun A => va_Qi (eqP res) (Wb G A (fun _ : Unit => (cC G ad nb nt cfa cle cwr csl cst cen cby cto csh cdz cch cva css cve cro crc cma cbi ces cbl crt))) A) (by decide) (Nat.le_of_ble_eq_true rfl) ?_
  intro p e s m below meth c hadm hx hb hr hml hown hlocks ht hK A hA hP hD hS ls hl
  have hC : Cx p l e s m (([.ref (ad 2)] : List Value)).toArray meth c y_RL_end b_RL_end 1 (some .int) "BookTrees$Roll" G A := ⟨hx, hb, hr, hml, hown, hlocks, ht, hK, hA⟩
  have hown : s.vm.findClass "BookTrees$Roll" = some m.cls := hown
  have hl : lv_has ls 1 [(0, .ref (ad 2))] := hl
  rw [f_RL_end] at hres
  refine lv_aload_n hx hb d_RL_end_0 rfl (lv_at hl 0 rfl) ?_
  refine va_get (D := G.1) (ci := 2) (C := R_RL) (T := F_RL) (N := 7) hx hb ht in_RL hown hK hP 2 rfl rfl 6 (by decide) (ht _ kf_RL_42) (fun _ h9 => h9) rfl d_RL_end_1 ?_
  exact en_i (w1 := (fun _ : Unit => (cC G ad nb nt cfa cle cwr csl cst cen cby cto csh cdz cch cva css cve cro crc cma cbi ces cbl crt))) () hx hb hr hlocks hK hP hD hS hres d_RL_end_4
/-! ===== BookTrees$Pages.place(I)I ===== -/
abbrev rm_PG_place : Room := { frames := 1, cells := 0, slots := 0, locals := 25 }
def f_PG_place_4 : Nat → Int32 → Int32 → (Nat → Int32) → (Nat → Int32) → (Nat → Int32) → (Nat → Int32) → Int32 × (Nat → Int32) × (Nat → Int32) × (Nat → Int32)
  | 0, x2, x3, cma, cbi, ces, cbl => (0, (cbi, ces, cbl))
  | n + 1, x2, x3, cma, cbi, ces, cbl => if (73 : Int32) ≤ x3 then (x2, (cbi, ces, cbl)) else if (cma x3.toNatClampNeg) = 0 then f_PG_place_4 n x2 (x3 + (1 : Int32)) cma cbi ces cbl else if (cbi x3.toNatClampNeg) = 0 then (if (0 : Int32) = 0 then (if (0 : Int32) = 0 then (if (72 : Int32) ≤ x3 then f_PG_place_4 n (x2 + (0 : Int32)) (x3 + (1 : Int32)) cma cbi ces (upd cbl x3.toNatClampNeg (0 : Int32)) else bindc (f_PG_parentOf x3) (fun z_72 => bindc (f_PG_setEntry z_72.1 (x3 &&& (7 : Int32)) (0 : Int32) ((upd cbl x3.toNatClampNeg (0 : Int32)) x3.toNatClampNeg) cbi ces) (fun z_87 => f_PG_place_4 n (x2 + (0 : Int32)) (x3 + (1 : Int32)) cma z_87.1 z_87.2 (upd cbl x3.toNatClampNeg (0 : Int32))))) else if (72 : Int32) ≤ x3 then f_PG_place_4 n (x2 + (1 : Int32)) (x3 + (1 : Int32)) cma cbi ces (upd cbl x3.toNatClampNeg (0 : Int32)) else bindc (f_PG_parentOf x3) (fun z_72 => bindc (f_PG_setEntry z_72.1 (x3 &&& (7 : Int32)) (0 : Int32) ((upd cbl x3.toNatClampNeg (0 : Int32)) x3.toNatClampNeg) cbi ces) (fun z_87 => f_PG_place_4 n (x2 + (1 : Int32)) (x3 + (1 : Int32)) cma z_87.1 z_87.2 (upd cbl x3.toNatClampNeg (0 : Int32))))) else if (0 : Int32) = 0 then (if (72 : Int32) ≤ x3 then f_PG_place_4 n (x2 + (0 : Int32)) (x3 + (1 : Int32)) cma cbi ces (upd cbl x3.toNatClampNeg x2) else bindc (f_PG_parentOf x3) (fun z_72 => bindc (f_PG_setEntry z_72.1 (x3 &&& (7 : Int32)) (0 : Int32) ((upd cbl x3.toNatClampNeg x2) x3.toNatClampNeg) cbi ces) (fun z_87 => f_PG_place_4 n (x2 + (0 : Int32)) (x3 + (1 : Int32)) cma z_87.1 z_87.2 (upd cbl x3.toNatClampNeg x2)))) else if (72 : Int32) ≤ x3 then f_PG_place_4 n (x2 + (1 : Int32)) (x3 + (1 : Int32)) cma cbi ces (upd cbl x3.toNatClampNeg x2) else bindc (f_PG_parentOf x3) (fun z_72 => bindc (f_PG_setEntry z_72.1 (x3 &&& (7 : Int32)) (0 : Int32) ((upd cbl x3.toNatClampNeg x2) x3.toNatClampNeg) cbi ces) (fun z_87 => f_PG_place_4 n (x2 + (1 : Int32)) (x3 + (1 : Int32)) cma z_87.1 z_87.2 (upd cbl x3.toNatClampNeg x2)))) else if (1 : Int32) = 0 then (if (1 : Int32) = 0 then (if (72 : Int32) ≤ x3 then f_PG_place_4 n (x2 + (0 : Int32)) (x3 + (1 : Int32)) cma cbi ces (upd cbl x3.toNatClampNeg (0 : Int32)) else bindc (f_PG_parentOf x3) (fun z_72 => bindc (f_PG_setEntry z_72.1 (x3 &&& (7 : Int32)) (1 : Int32) ((upd cbl x3.toNatClampNeg (0 : Int32)) x3.toNatClampNeg) cbi ces) (fun z_87 => f_PG_place_4 n (x2 + (0 : Int32)) (x3 + (1 : Int32)) cma z_87.1 z_87.2 (upd cbl x3.toNatClampNeg (0 : Int32))))) else if (72 : Int32) ≤ x3 then f_PG_place_4 n (x2 + (1 : Int32)) (x3 + (1 : Int32)) cma cbi ces (upd cbl x3.toNatClampNeg (0 : Int32)) else bindc (f_PG_parentOf x3) (fun z_72 => bindc (f_PG_setEntry z_72.1 (x3 &&& (7 : Int32)) (1 : Int32) ((upd cbl x3.toNatClampNeg (0 : Int32)) x3.toNatClampNeg) cbi ces) (fun z_87 => f_PG_place_4 n (x2 + (1 : Int32)) (x3 + (1 : Int32)) cma z_87.1 z_87.2 (upd cbl x3.toNatClampNeg (0 : Int32))))) else if (1 : Int32) = 0 then (if (72 : Int32) ≤ x3 then f_PG_place_4 n (x2 + (0 : Int32)) (x3 + (1 : Int32)) cma cbi ces (upd cbl x3.toNatClampNeg x2) else bindc (f_PG_parentOf x3) (fun z_72 => bindc (f_PG_setEntry z_72.1 (x3 &&& (7 : Int32)) (1 : Int32) ((upd cbl x3.toNatClampNeg x2) x3.toNatClampNeg) cbi ces) (fun z_87 => f_PG_place_4 n (x2 + (0 : Int32)) (x3 + (1 : Int32)) cma z_87.1 z_87.2 (upd cbl x3.toNatClampNeg x2)))) else if (72 : Int32) ≤ x3 then f_PG_place_4 n (x2 + (1 : Int32)) (x3 + (1 : Int32)) cma cbi ces (upd cbl x3.toNatClampNeg x2) else bindc (f_PG_parentOf x3) (fun z_72 => bindc (f_PG_setEntry z_72.1 (x3 &&& (7 : Int32)) (1 : Int32) ((upd cbl x3.toNatClampNeg x2) x3.toNatClampNeg) cbi ces) (fun z_87 => f_PG_place_4 n (x2 + (1 : Int32)) (x3 + (1 : Int32)) cma z_87.1 z_87.2 (upd cbl x3.toNatClampNeg x2)))
def ok_PG_place_4 (nb : Nat) (nt : Nat) : Nat → Int32 → Int32 → (Nat → Int32) → (Nat → Int32) → (Nat → Int32) → (Nat → Int32) → Prop
  | 0, _, _, _, _, _, _ => False
  | n + 1, x2, x3, cma, cbi, ces, cbl => ((73 : Int32) ≤ x3 → True) ∧ (¬ (73 : Int32) ≤ x3 → vp_in x3 73 ∧ (((cma x3.toNatClampNeg) = 0 → ok_PG_place_4 nb nt  n x2 (x3 + (1 : Int32)) cma cbi ces cbl) ∧ (¬ (cma x3.toNatClampNeg) = 0 → vp_in x3 73 ∧ (((cbi x3.toNatClampNeg) = 0 → ((0 : Int32) = 0 → vp_in x3 73 ∧ (((0 : Int32) = 0 → ((72 : Int32) ≤ x3 → ok_PG_place_4 nb nt  n (x2 + (0 : Int32)) (x3 + (1 : Int32)) cma cbi ces (upd cbl x3.toNatClampNeg (0 : Int32))) ∧ (¬ (72 : Int32) ≤ x3 → bindp (f_PG_parentOf x3) (fun z_72 => vp_in x3 73 ∧ (ok_PG_setEntry nb nt z_72.1 (x3 &&& (7 : Int32)) (0 : Int32) ((upd cbl x3.toNatClampNeg (0 : Int32)) x3.toNatClampNeg) cbi ces ∧ bindp (f_PG_setEntry z_72.1 (x3 &&& (7 : Int32)) (0 : Int32) ((upd cbl x3.toNatClampNeg (0 : Int32)) x3.toNatClampNeg) cbi ces) (fun z_87 => ok_PG_place_4 nb nt  n (x2 + (0 : Int32)) (x3 + (1 : Int32)) cma z_87.1 z_87.2 (upd cbl x3.toNatClampNeg (0 : Int32))))))) ∧ (¬ (0 : Int32) = 0 → ((72 : Int32) ≤ x3 → ok_PG_place_4 nb nt  n (x2 + (1 : Int32)) (x3 + (1 : Int32)) cma cbi ces (upd cbl x3.toNatClampNeg (0 : Int32))) ∧ (¬ (72 : Int32) ≤ x3 → bindp (f_PG_parentOf x3) (fun z_72 => vp_in x3 73 ∧ (ok_PG_setEntry nb nt z_72.1 (x3 &&& (7 : Int32)) (0 : Int32) ((upd cbl x3.toNatClampNeg (0 : Int32)) x3.toNatClampNeg) cbi ces ∧ bindp (f_PG_setEntry z_72.1 (x3 &&& (7 : Int32)) (0 : Int32) ((upd cbl x3.toNatClampNeg (0 : Int32)) x3.toNatClampNeg) cbi ces) (fun z_87 => ok_PG_place_4 nb nt  n (x2 + (1 : Int32)) (x3 + (1 : Int32)) cma z_87.1 z_87.2 (upd cbl x3.toNatClampNeg (0 : Int32))))))))) ∧ (¬ (0 : Int32) = 0 → vp_in x3 73 ∧ (((0 : Int32) = 0 → ((72 : Int32) ≤ x3 → ok_PG_place_4 nb nt  n (x2 + (0 : Int32)) (x3 + (1 : Int32)) cma cbi ces (upd cbl x3.toNatClampNeg x2)) ∧ (¬ (72 : Int32) ≤ x3 → bindp (f_PG_parentOf x3) (fun z_72 => vp_in x3 73 ∧ (ok_PG_setEntry nb nt z_72.1 (x3 &&& (7 : Int32)) (0 : Int32) ((upd cbl x3.toNatClampNeg x2) x3.toNatClampNeg) cbi ces ∧ bindp (f_PG_setEntry z_72.1 (x3 &&& (7 : Int32)) (0 : Int32) ((upd cbl x3.toNatClampNeg x2) x3.toNatClampNeg) cbi ces) (fun z_87 => ok_PG_place_4 nb nt  n (x2 + (0 : Int32)) (x3 + (1 : Int32)) cma z_87.1 z_87.2 (upd cbl x3.toNatClampNeg x2)))))) ∧ (¬ (0 : Int32) = 0 → ((72 : Int32) ≤ x3 → ok_PG_place_4 nb nt  n (x2 + (1 : Int32)) (x3 + (1 : Int32)) cma cbi ces (upd cbl x3.toNatClampNeg x2)) ∧ (¬ (72 : Int32) ≤ x3 → bindp (f_PG_parentOf x3) (fun z_72 => vp_in x3 73 ∧ (ok_PG_setEntry nb nt z_72.1 (x3 &&& (7 : Int32)) (0 : Int32) ((upd cbl x3.toNatClampNeg x2) x3.toNatClampNeg) cbi ces ∧ bindp (f_PG_setEntry z_72.1 (x3 &&& (7 : Int32)) (0 : Int32) ((upd cbl x3.toNatClampNeg x2) x3.toNatClampNeg) cbi ces) (fun z_87 => ok_PG_place_4 nb nt  n (x2 + (1 : Int32)) (x3 + (1 : Int32)) cma z_87.1 z_87.2 (upd cbl x3.toNatClampNeg x2))))))))) ∧ (¬ (cbi x3.toNatClampNeg) = 0 → ((1 : Int32) = 0 → vp_in x3 73 ∧ (((1 : Int32) = 0 → ((72 : Int32) ≤ x3 → ok_PG_place_4 nb nt  n (x2 + (0 : Int32)) (x3 + (1 : Int32)) cma cbi ces (upd cbl x3.toNatClampNeg (0 : Int32))) ∧ (¬ (72 : Int32) ≤ x3 → bindp (f_PG_parentOf x3) (fun z_72 => vp_in x3 73 ∧ (ok_PG_setEntry nb nt z_72.1 (x3 &&& (7 : Int32)) (1 : Int32) ((upd cbl x3.toNatClampNeg (0 : Int32)) x3.toNatClampNeg) cbi ces ∧ bindp (f_PG_setEntry z_72.1 (x3 &&& (7 : Int32)) (1 : Int32) ((upd cbl x3.toNatClampNeg (0 : Int32)) x3.toNatClampNeg) cbi ces) (fun z_87 => ok_PG_place_4 nb nt  n (x2 + (0 : Int32)) (x3 + (1 : Int32)) cma z_87.1 z_87.2 (upd cbl x3.toNatClampNeg (0 : Int32))))))) ∧ (¬ (1 : Int32) = 0 → ((72 : Int32) ≤ x3 → ok_PG_place_4 nb nt  n (x2 + (1 : Int32)) (x3 + (1 : Int32)) cma cbi ces (upd cbl x3.toNatClampNeg (0 : Int32))) ∧ (¬ (72 : Int32) ≤ x3 → bindp (f_PG_parentOf x3) (fun z_72 => vp_in x3 73 ∧ (ok_PG_setEntry nb nt z_72.1 (x3 &&& (7 : Int32)) (1 : Int32) ((upd cbl x3.toNatClampNeg (0 : Int32)) x3.toNatClampNeg) cbi ces ∧ bindp (f_PG_setEntry z_72.1 (x3 &&& (7 : Int32)) (1 : Int32) ((upd cbl x3.toNatClampNeg (0 : Int32)) x3.toNatClampNeg) cbi ces) (fun z_87 => ok_PG_place_4 nb nt  n (x2 + (1 : Int32)) (x3 + (1 : Int32)) cma z_87.1 z_87.2 (upd cbl x3.toNatClampNeg (0 : Int32))))))))) ∧ (¬ (1 : Int32) = 0 → vp_in x3 73 ∧ (((1 : Int32) = 0 → ((72 : Int32) ≤ x3 → ok_PG_place_4 nb nt  n (x2 + (0 : Int32)) (x3 + (1 : Int32)) cma cbi ces (upd cbl x3.toNatClampNeg x2)) ∧ (¬ (72 : Int32) ≤ x3 → bindp (f_PG_parentOf x3) (fun z_72 => vp_in x3 73 ∧ (ok_PG_setEntry nb nt z_72.1 (x3 &&& (7 : Int32)) (1 : Int32) ((upd cbl x3.toNatClampNeg x2) x3.toNatClampNeg) cbi ces ∧ bindp (f_PG_setEntry z_72.1 (x3 &&& (7 : Int32)) (1 : Int32) ((upd cbl x3.toNatClampNeg x2) x3.toNatClampNeg) cbi ces) (fun z_87 => ok_PG_place_4 nb nt  n (x2 + (0 : Int32)) (x3 + (1 : Int32)) cma z_87.1 z_87.2 (upd cbl x3.toNatClampNeg x2)))))) ∧ (¬ (1 : Int32) = 0 → ((72 : Int32) ≤ x3 → ok_PG_place_4 nb nt  n (x2 + (1 : Int32)) (x3 + (1 : Int32)) cma cbi ces (upd cbl x3.toNatClampNeg x2)) ∧ (¬ (72 : Int32) ≤ x3 → bindp (f_PG_parentOf x3) (fun z_72 => vp_in x3 73 ∧ (ok_PG_setEntry nb nt z_72.1 (x3 &&& (7 : Int32)) (1 : Int32) ((upd cbl x3.toNatClampNeg x2) x3.toNatClampNeg) cbi ces ∧ bindp (f_PG_setEntry z_72.1 (x3 &&& (7 : Int32)) (1 : Int32) ((upd cbl x3.toNatClampNeg x2) x3.toNatClampNeg) cbi ces) (fun z_87 => ok_PG_place_4 nb nt  n (x2 + (1 : Int32)) (x3 + (1 : Int32)) cma z_87.1 z_87.2 (upd cbl x3.toNatClampNeg x2)))))))))))))
set_option maxHeartbeats 4000000 in
set_option maxRecDepth 100000 in
theorem w_PG_place_4 {p : Program} {l : Launch} {e : Env} {s : State} {m : MethodId} {args : Array Value} {below : List Frame} {meth : Method} {c : Code} {A : Nat → Prop} {G : GG} {ad : Nat → Nat} {nb : Nat} {nt : Nat} {cfa : Int32} {cle : Int32} {cwr : Int32} {csl : Int32} {cst : Int32} {cen : Int32} {cby : (Nat → Int32)} {cto : (Nat → Int32)} {csh : (Nat → Int32)} {cdz : Int32} {cch : (Nat → Int32)} {cva : (Nat → Int32)} {css : Int32} {cve : (Nat → Int32)} {cro : (Nat → Int32)} {crc : Int32} {cma : (Nat → Int32)} {crt : (Nat → Int32)} {res : Int32 × (Nat → Int32) × (Nat → Int32) × (Nat → Int32)} (hC : Cx p l e s m args meth c y_PG_place b_PG_place 5 (some .int) "BookTrees$Pages" G A) : ∀ (n : Nat) (x2 : Int32) (x3 : Int32) (cbi : (Nat → Int32)) (ces : (Nat → Int32)) (cbl : (Nat → Int32)) (H : Heap) (locs : List Loc) (ls : Array Slot), ok_PG_place_4 nb nt n x2 x3 cma cbi ces cbl → f_PG_place_4 n x2 x3 cma cbi ces cbl = res → va_P G.1 classes (cC G ad nb nt cfa cle cwr csl cst cen cby cto csh cdz cch cva css cve cro crc cma cbi ces cbl crt) H → va_D A (cC G ad nb nt cfa cle cwr csl cst cen cby cto csh cdz cch cva css cve cro crc cma cbi ces cbl crt) → va_S A s.heap H locs → lv_has ls 5 [(0, .ref (ad 12)), (2, .int x2), (3, .int x3)] → W p l e rm_PG_place s m args below meth c H locs 0 0 (MQ below (va_Qi (eqP res) (Wb G A (fun u : (Nat → Int32) × (Nat → Int32) × (Nat → Int32) => (cC G ad nb nt cfa cle cwr csl cst cen cby cto csh cdz cch cva css cve cro crc cma u.1 u.2.1 u.2.2 crt))) A) args s 0 0 A) (F0 m 4 ls []) := by
  obtain ⟨hx, hb, hr, hml, hown, hlocks, ht, hK, hA⟩ := id hC
  intro n
  induction n with
  | zero => intro x2 x3 cbi ces cbl H locs ls hok; exact hok.elim
  | succ n ih =>
    intro x2 x3 cbi ces cbl H locs ls hok hres hP hD hS hl
    rw [f_PG_place_4] at hres
    rw [ok_PG_place_4] at hok
    refine lv_iload_n hx hb d_PG_place_4 rfl (lv_at hl 2 rfl) ?_
    refine lv_bipush (v := (73 : Int32)) hx hb d_PG_place_5 (by decide) ?_
    refine lv_icmp_ge (tgt := 96) hx hb d_PG_place_7 (by decide) (fun c_7 => ?_) (fun c_7 => ?_)
    · have hres := it_t c_7 hres
      refine lv_iload_n hx hb d_PG_place_96 rfl (lv_at hl 1 rfl) ?_
      exact en_i (w1 := (fun u : (Nat → Int32) × (Nat → Int32) × (Nat → Int32) => (cC G ad nb nt cfa cle cwr csl cst cen cby cto csh cdz cch cva css cve cro crc cma u.1 u.2.1 u.2.2 crt))) (cbi, ces, cbl) hx hb hr hlocks hK hP hD hS hres d_PG_place_97
    · have hres := it_f c_7 hres
      have hok := hok.2 c_7
      refine lv_aload_n hx hb d_PG_place_10 rfl (lv_at hl 0 rfl) ?_
      refine va_get (D := G.1) (ci := 5) (C := R_PG) (T := F_PG) (N := 6) hx hb ht in_PG hown hK hP 12 rfl rfl 0 (by decide) (ht _ kf_PG_11) (fun _ h9 => h9) rfl d_PG_place_11 ?_
      refine lv_iload_n hx hb d_PG_place_14 rfl (lv_at hl 2 rfl) ?_
      obtain ⟨hi_15, hok⟩ := hok
      refine va_zald hx hb hK hP 13 1 rfl rfl hi_15 d_PG_place_15 ?_
      refine lv_if_eq (tgt := 90) hx hb d_PG_place_16 (by decide) (fun c_16 => ?_) (fun c_16 => ?_)
      · have hres := it_t c_16 hres
        have hok := hok.1 c_16
        refine lv_iinc (v := x3 + (1 : Int32)) (lv' := [(3, .int (x3 + (1 : Int32))), (0, .ref (ad 12)), (2, .int x2)]) hx hb d_PG_place_90 hl (k := 2) rfl rfl (by decide) rfl (fun ls hl => ?_)
        refine lv_goto (tgt := 4) hx hb d_PG_place_93 (by decide) ?_
        exact ih x2 (x3 + (1 : Int32)) cbi ces cbl _ _ _ hok hres hP hD hS (lv_sub hl [1, 2, 0] rfl)
      · have hres := it_f c_16 hres
        have hok := hok.2 c_16
        refine lv_aload_n hx hb d_PG_place_19 rfl (lv_at hl 0 rfl) ?_
        refine va_get (D := G.1) (ci := 5) (C := R_PG) (T := F_PG) (N := 6) hx hb ht in_PG hown hK hP 12 rfl rfl 1 (by decide) (ht _ kf_PG_15) (fun _ h9 => h9) rfl d_PG_place_20 ?_
        refine lv_iload_n hx hb d_PG_place_23 rfl (lv_at hl 2 rfl) ?_
        obtain ⟨hi_24, hok⟩ := hok
        refine va_iald hx hb hK hP 14 0 rfl rfl hi_24 d_PG_place_24 ?_
        refine lv_if_eq (tgt := 32) hx hb d_PG_place_25 (by decide) (fun c_25 => ?_) (fun c_25 => ?_)
        · have hres := it_t c_25 hres
          have hok := hok.1 c_25
          refine lv_iconst (v := (0 : Int32)) hx hb d_PG_place_32 (by decide) ?_
          refine lv_istore (lv' := [(4, .int (0 : Int32)), (0, .ref (ad 12)), (2, .int x2), (3, .int x3)]) hx hb d_PG_place_33 hl (by decide) rfl (fun ls hl => ?_)
          refine lv_aload_n hx hb d_PG_place_35 rfl (lv_at hl 1 rfl) ?_
          refine va_get (D := G.1) (ci := 5) (C := R_PG) (T := F_PG) (N := 6) hx hb ht in_PG hown hK hP 12 rfl rfl 3 (by decide) (ht _ kf_PG_22) (fun _ h9 => h9) rfl d_PG_place_36 ?_
          refine lv_iload_n hx hb d_PG_place_39 rfl (lv_at hl 3 rfl) ?_
          refine lv_iload hx hb d_PG_place_40 (lv_at hl 0 rfl) ?_
          refine lv_if_eq (tgt := 49) hx hb d_PG_place_42 (by decide) (fun c_42 => ?_) (fun c_42 => ?_)
          · have hres := it_t c_42 hres
            have hok := hok.1 c_42
            refine lv_iconst (v := (0 : Int32)) hx hb d_PG_place_49 (by decide) ?_
            obtain ⟨hi_50, hok⟩ := hok
            refine va_iast hx hb hK hP hD hS 16 0 rfl rfl hi_50 d_PG_place_50 (fun H locs hP hD hS => ?_)
            have hP : va_P G.1 classes (cC G ad nb nt cfa cle cwr csl cst cen cby cto csh cdz cch cva css cve cro crc cma cbi ces (upd cbl x3.toNatClampNeg (0 : Int32)) crt) H := hP
            have hD : va_D A (cC G ad nb nt cfa cle cwr csl cst cen cby cto csh cdz cch cva css cve cro crc cma cbi ces (upd cbl x3.toNatClampNeg (0 : Int32)) crt) := hD
            refine lv_iload_n hx hb d_PG_place_51 rfl (lv_at hl 2 rfl) ?_
            refine lv_iload hx hb d_PG_place_52 (lv_at hl 0 rfl) ?_
            refine lv_if_eq (tgt := 61) hx hb d_PG_place_54 (by decide) (fun c_54 => ?_) (fun c_54 => ?_)
            · have hres := it_t c_54 hres
              have hok := hok.1 c_54
              refine lv_iconst (v := (0 : Int32)) hx hb d_PG_place_61 (by decide) ?_
              refine lv_iadd hx hb d_PG_place_62 ?_
              refine lv_istore_n (lv' := [(2, .int (x2 + (0 : Int32))), (4, .int (0 : Int32)), (0, .ref (ad 12)), (3, .int x3)]) hx hb d_PG_place_63 rfl hl (by decide) rfl (fun ls hl => ?_)
              refine lv_iload_n hx hb d_PG_place_64 rfl (lv_at hl 3 rfl) ?_
              refine lv_bipush (v := (72 : Int32)) hx hb d_PG_place_65 (by decide) ?_
              refine lv_icmp_ge (tgt := 90) hx hb d_PG_place_67 (by decide) (fun c_67 => ?_) (fun c_67 => ?_)
              · have hres := it_t c_67 hres
                have hok := hok.1 c_67
                refine lv_iinc (v := x3 + (1 : Int32)) (lv' := [(3, .int (x3 + (1 : Int32))), (2, .int (x2 + (0 : Int32))), (4, .int (0 : Int32)), (0, .ref (ad 12))]) hx hb d_PG_place_90 hl (k := 3) rfl rfl (by decide) rfl (fun ls hl => ?_)
                refine lv_goto (tgt := 4) hx hb d_PG_place_93 (by decide) ?_
                exact ih (x2 + (0 : Int32)) (x3 + (1 : Int32)) cbi ces (upd cbl x3.toNatClampNeg (0 : Int32)) _ _ _ hok hres hP hD hS (lv_sub hl [3, 1, 0] rfl)
              · have hres := it_f c_67 hres
                have hok := hok.2 c_67
                refine lv_aload_n hx hb d_PG_place_70 rfl (lv_at hl 2 rfl) ?_
                refine lv_iload_n hx hb d_PG_place_71 rfl (lv_at hl 3 rfl) ?_
                refine go_iz (run_S hx hb hml hown ht hK hP hD (c_PG_parentOf) (cw_S ht km_PG_38 kt_PG_parentOf ini_PG kd_PG_parentOf kh_PG_parentOf ⟨Nat.le_of_ble_eq_true rfl, Nat.le_of_ble_eq_true rfl⟩ rfl rfl) (As := [.int x3]) (rest := [.ref (ad 12)]) rfl hl.1 rfl (Nat.le_of_ble_eq_true rfl) d_PG_place_72 ⟨Nat.zero_le _, Nat.zero_le _⟩) hD hS hA (fun z_72 H locs hz_72 hP hD hS => ?_)
                have hres := bindc_eq hz_72 hres
                have hok := bindp_eq hz_72 hok
                have hP : va_P G.1 classes (cC G ad nb nt cfa cle cwr csl cst cen cby cto csh cdz cch cva css cve cro crc cma cbi ces (upd cbl x3.toNatClampNeg (0 : Int32)) crt) H := hP
                have hD : va_D A (cC G ad nb nt cfa cle cwr csl cst cen cby cto csh cdz cch cva css cve cro crc cma cbi ces (upd cbl x3.toNatClampNeg (0 : Int32)) crt) := hD
                refine lv_iload_n hx hb d_PG_place_75 rfl (lv_at hl 3 rfl) ?_
                refine lv_bipush (v := (7 : Int32)) hx hb d_PG_place_76 (by decide) ?_
                refine lv_iand hx hb d_PG_place_78 ?_
                refine lv_iload hx hb d_PG_place_79 (lv_at hl 1 rfl) ?_
                refine lv_aload_n hx hb d_PG_place_81 rfl (lv_at hl 2 rfl) ?_
                refine va_get (D := G.1) (ci := 5) (C := R_PG) (T := F_PG) (N := 6) hx hb ht in_PG hown hK hP 12 rfl rfl 3 (by decide) (ht _ kf_PG_22) (fun _ h9 => h9) rfl d_PG_place_82 ?_
                refine lv_iload_n hx hb d_PG_place_85 rfl (lv_at hl 3 rfl) ?_
                obtain ⟨hi_86, hok⟩ := hok
                refine va_iald hx hb hK hP 16 0 rfl rfl hi_86 d_PG_place_86 ?_
                obtain ⟨hk_87, hok⟩ := hok
                refine go_vz (run_V hx hb hml hown ht hK hP hD (c_PG_setEntry hk_87) (cw_V ht km_PG_74 ki_PG_setEntry ks_PG_setEntry ini_PG kd_PG_setEntry kh_PG_setEntry ⟨Nat.le_of_ble_eq_true rfl, Nat.le_of_ble_eq_true rfl⟩ rfl rfl) (q0 := 12) (ci := 5) (As := [.int z_72.1, .int (x3 &&& (7 : Int32)), .int (0 : Int32), .int ((upd cbl x3.toNatClampNeg (0 : Int32)) x3.toNatClampNeg)]) (rest := []) rfl rfl rfl hl.1 rfl (Nat.le_of_ble_eq_true rfl) d_PG_place_87 ⟨Nat.zero_le _, Nat.zero_le _⟩) hD hS hA (fun z_87 H locs hz_87 hP hD hS => ?_)
                have hres := bindc_eq hz_87 hres
                have hok := bindp_eq hz_87 hok
                have hP : va_P G.1 classes (cC G ad nb nt cfa cle cwr csl cst cen cby cto csh cdz cch cva css cve cro crc cma z_87.1 z_87.2 (upd cbl x3.toNatClampNeg (0 : Int32)) crt) H := hP
                have hD : va_D A (cC G ad nb nt cfa cle cwr csl cst cen cby cto csh cdz cch cva css cve cro crc cma z_87.1 z_87.2 (upd cbl x3.toNatClampNeg (0 : Int32)) crt) := hD
                refine lv_iinc (v := x3 + (1 : Int32)) (lv' := [(3, .int (x3 + (1 : Int32))), (2, .int (x2 + (0 : Int32))), (4, .int (0 : Int32)), (0, .ref (ad 12))]) hx hb d_PG_place_90 hl (k := 3) rfl rfl (by decide) rfl (fun ls hl => ?_)
                refine lv_goto (tgt := 4) hx hb d_PG_place_93 (by decide) ?_
                exact ih (x2 + (0 : Int32)) (x3 + (1 : Int32)) z_87.1 z_87.2 (upd cbl x3.toNatClampNeg (0 : Int32)) _ _ _ hok hres hP hD hS (lv_sub hl [3, 1, 0] rfl)
            · have hres := it_f c_54 hres
              have hok := hok.2 c_54
              refine lv_iconst (v := (1 : Int32)) hx hb d_PG_place_57 (by decide) ?_
              refine lv_goto (tgt := 62) hx hb d_PG_place_58 (by decide) ?_
              refine lv_iadd hx hb d_PG_place_62 ?_
              refine lv_istore_n (lv' := [(2, .int (x2 + (1 : Int32))), (4, .int (0 : Int32)), (0, .ref (ad 12)), (3, .int x3)]) hx hb d_PG_place_63 rfl hl (by decide) rfl (fun ls hl => ?_)
              refine lv_iload_n hx hb d_PG_place_64 rfl (lv_at hl 3 rfl) ?_
              refine lv_bipush (v := (72 : Int32)) hx hb d_PG_place_65 (by decide) ?_
              refine lv_icmp_ge (tgt := 90) hx hb d_PG_place_67 (by decide) (fun c_67 => ?_) (fun c_67 => ?_)
              · have hres := it_t c_67 hres
                have hok := hok.1 c_67
                refine lv_iinc (v := x3 + (1 : Int32)) (lv' := [(3, .int (x3 + (1 : Int32))), (2, .int (x2 + (1 : Int32))), (4, .int (0 : Int32)), (0, .ref (ad 12))]) hx hb d_PG_place_90 hl (k := 3) rfl rfl (by decide) rfl (fun ls hl => ?_)
                refine lv_goto (tgt := 4) hx hb d_PG_place_93 (by decide) ?_
                exact ih (x2 + (1 : Int32)) (x3 + (1 : Int32)) cbi ces (upd cbl x3.toNatClampNeg (0 : Int32)) _ _ _ hok hres hP hD hS (lv_sub hl [3, 1, 0] rfl)
              · have hres := it_f c_67 hres
                have hok := hok.2 c_67
                refine lv_aload_n hx hb d_PG_place_70 rfl (lv_at hl 2 rfl) ?_
                refine lv_iload_n hx hb d_PG_place_71 rfl (lv_at hl 3 rfl) ?_
                refine go_iz (run_S hx hb hml hown ht hK hP hD (c_PG_parentOf) (cw_S ht km_PG_38 kt_PG_parentOf ini_PG kd_PG_parentOf kh_PG_parentOf ⟨Nat.le_of_ble_eq_true rfl, Nat.le_of_ble_eq_true rfl⟩ rfl rfl) (As := [.int x3]) (rest := [.ref (ad 12)]) rfl hl.1 rfl (Nat.le_of_ble_eq_true rfl) d_PG_place_72 ⟨Nat.zero_le _, Nat.zero_le _⟩) hD hS hA (fun z_72 H locs hz_72 hP hD hS => ?_)
                have hres := bindc_eq hz_72 hres
                have hok := bindp_eq hz_72 hok
                have hP : va_P G.1 classes (cC G ad nb nt cfa cle cwr csl cst cen cby cto csh cdz cch cva css cve cro crc cma cbi ces (upd cbl x3.toNatClampNeg (0 : Int32)) crt) H := hP
                have hD : va_D A (cC G ad nb nt cfa cle cwr csl cst cen cby cto csh cdz cch cva css cve cro crc cma cbi ces (upd cbl x3.toNatClampNeg (0 : Int32)) crt) := hD
                refine lv_iload_n hx hb d_PG_place_75 rfl (lv_at hl 3 rfl) ?_
                refine lv_bipush (v := (7 : Int32)) hx hb d_PG_place_76 (by decide) ?_
                refine lv_iand hx hb d_PG_place_78 ?_
                refine lv_iload hx hb d_PG_place_79 (lv_at hl 1 rfl) ?_
                refine lv_aload_n hx hb d_PG_place_81 rfl (lv_at hl 2 rfl) ?_
                refine va_get (D := G.1) (ci := 5) (C := R_PG) (T := F_PG) (N := 6) hx hb ht in_PG hown hK hP 12 rfl rfl 3 (by decide) (ht _ kf_PG_22) (fun _ h9 => h9) rfl d_PG_place_82 ?_
                refine lv_iload_n hx hb d_PG_place_85 rfl (lv_at hl 3 rfl) ?_
                obtain ⟨hi_86, hok⟩ := hok
                refine va_iald hx hb hK hP 16 0 rfl rfl hi_86 d_PG_place_86 ?_
                obtain ⟨hk_87, hok⟩ := hok
                refine go_vz (run_V hx hb hml hown ht hK hP hD (c_PG_setEntry hk_87) (cw_V ht km_PG_74 ki_PG_setEntry ks_PG_setEntry ini_PG kd_PG_setEntry kh_PG_setEntry ⟨Nat.le_of_ble_eq_true rfl, Nat.le_of_ble_eq_true rfl⟩ rfl rfl) (q0 := 12) (ci := 5) (As := [.int z_72.1, .int (x3 &&& (7 : Int32)), .int (0 : Int32), .int ((upd cbl x3.toNatClampNeg (0 : Int32)) x3.toNatClampNeg)]) (rest := []) rfl rfl rfl hl.1 rfl (Nat.le_of_ble_eq_true rfl) d_PG_place_87 ⟨Nat.zero_le _, Nat.zero_le _⟩) hD hS hA (fun z_87 H locs hz_87 hP hD hS => ?_)
                have hres := bindc_eq hz_87 hres
                have hok := bindp_eq hz_87 hok
                have hP : va_P G.1 classes (cC G ad nb nt cfa cle cwr csl cst cen cby cto csh cdz cch cva css cve cro crc cma z_87.1 z_87.2 (upd cbl x3.toNatClampNeg (0 : Int32)) crt) H := hP
                have hD : va_D A (cC G ad nb nt cfa cle cwr csl cst cen cby cto csh cdz cch cva css cve cro crc cma z_87.1 z_87.2 (upd cbl x3.toNatClampNeg (0 : Int32)) crt) := hD
                refine lv_iinc (v := x3 + (1 : Int32)) (lv' := [(3, .int (x3 + (1 : Int32))), (2, .int (x2 + (1 : Int32))), (4, .int (0 : Int32)), (0, .ref (ad 12))]) hx hb d_PG_place_90 hl (k := 3) rfl rfl (by decide) rfl (fun ls hl => ?_)
                refine lv_goto (tgt := 4) hx hb d_PG_place_93 (by decide) ?_
                exact ih (x2 + (1 : Int32)) (x3 + (1 : Int32)) z_87.1 z_87.2 (upd cbl x3.toNatClampNeg (0 : Int32)) _ _ _ hok hres hP hD hS (lv_sub hl [3, 1, 0] rfl)
          · have hres := it_f c_42 hres
            have hok := hok.2 c_42
            refine lv_iload_n hx hb d_PG_place_45 rfl (lv_at hl 2 rfl) ?_
            refine lv_goto (tgt := 50) hx hb d_PG_place_46 (by decide) ?_
            obtain ⟨hi_50, hok⟩ := hok
            refine va_iast hx hb hK hP hD hS 16 0 rfl rfl hi_50 d_PG_place_50 (fun H locs hP hD hS => ?_)
            have hP : va_P G.1 classes (cC G ad nb nt cfa cle cwr csl cst cen cby cto csh cdz cch cva css cve cro crc cma cbi ces (upd cbl x3.toNatClampNeg x2) crt) H := hP
            have hD : va_D A (cC G ad nb nt cfa cle cwr csl cst cen cby cto csh cdz cch cva css cve cro crc cma cbi ces (upd cbl x3.toNatClampNeg x2) crt) := hD
            refine lv_iload_n hx hb d_PG_place_51 rfl (lv_at hl 2 rfl) ?_
            refine lv_iload hx hb d_PG_place_52 (lv_at hl 0 rfl) ?_
            refine lv_if_eq (tgt := 61) hx hb d_PG_place_54 (by decide) (fun c_54 => ?_) (fun c_54 => ?_)
            · have hres := it_t c_54 hres
              have hok := hok.1 c_54
              refine lv_iconst (v := (0 : Int32)) hx hb d_PG_place_61 (by decide) ?_
              refine lv_iadd hx hb d_PG_place_62 ?_
              refine lv_istore_n (lv' := [(2, .int (x2 + (0 : Int32))), (4, .int (0 : Int32)), (0, .ref (ad 12)), (3, .int x3)]) hx hb d_PG_place_63 rfl hl (by decide) rfl (fun ls hl => ?_)
              refine lv_iload_n hx hb d_PG_place_64 rfl (lv_at hl 3 rfl) ?_
              refine lv_bipush (v := (72 : Int32)) hx hb d_PG_place_65 (by decide) ?_
              refine lv_icmp_ge (tgt := 90) hx hb d_PG_place_67 (by decide) (fun c_67 => ?_) (fun c_67 => ?_)
              · have hres := it_t c_67 hres
                have hok := hok.1 c_67
                refine lv_iinc (v := x3 + (1 : Int32)) (lv' := [(3, .int (x3 + (1 : Int32))), (2, .int (x2 + (0 : Int32))), (4, .int (0 : Int32)), (0, .ref (ad 12))]) hx hb d_PG_place_90 hl (k := 3) rfl rfl (by decide) rfl (fun ls hl => ?_)
                refine lv_goto (tgt := 4) hx hb d_PG_place_93 (by decide) ?_
                exact ih (x2 + (0 : Int32)) (x3 + (1 : Int32)) cbi ces (upd cbl x3.toNatClampNeg x2) _ _ _ hok hres hP hD hS (lv_sub hl [3, 1, 0] rfl)
              · have hres := it_f c_67 hres
                have hok := hok.2 c_67
                refine lv_aload_n hx hb d_PG_place_70 rfl (lv_at hl 2 rfl) ?_
                refine lv_iload_n hx hb d_PG_place_71 rfl (lv_at hl 3 rfl) ?_
                refine go_iz (run_S hx hb hml hown ht hK hP hD (c_PG_parentOf) (cw_S ht km_PG_38 kt_PG_parentOf ini_PG kd_PG_parentOf kh_PG_parentOf ⟨Nat.le_of_ble_eq_true rfl, Nat.le_of_ble_eq_true rfl⟩ rfl rfl) (As := [.int x3]) (rest := [.ref (ad 12)]) rfl hl.1 rfl (Nat.le_of_ble_eq_true rfl) d_PG_place_72 ⟨Nat.zero_le _, Nat.zero_le _⟩) hD hS hA (fun z_72 H locs hz_72 hP hD hS => ?_)
                have hres := bindc_eq hz_72 hres
                have hok := bindp_eq hz_72 hok
                have hP : va_P G.1 classes (cC G ad nb nt cfa cle cwr csl cst cen cby cto csh cdz cch cva css cve cro crc cma cbi ces (upd cbl x3.toNatClampNeg x2) crt) H := hP
                have hD : va_D A (cC G ad nb nt cfa cle cwr csl cst cen cby cto csh cdz cch cva css cve cro crc cma cbi ces (upd cbl x3.toNatClampNeg x2) crt) := hD
                refine lv_iload_n hx hb d_PG_place_75 rfl (lv_at hl 3 rfl) ?_
                refine lv_bipush (v := (7 : Int32)) hx hb d_PG_place_76 (by decide) ?_
                refine lv_iand hx hb d_PG_place_78 ?_
                refine lv_iload hx hb d_PG_place_79 (lv_at hl 1 rfl) ?_
                refine lv_aload_n hx hb d_PG_place_81 rfl (lv_at hl 2 rfl) ?_
                refine va_get (D := G.1) (ci := 5) (C := R_PG) (T := F_PG) (N := 6) hx hb ht in_PG hown hK hP 12 rfl rfl 3 (by decide) (ht _ kf_PG_22) (fun _ h9 => h9) rfl d_PG_place_82 ?_
                refine lv_iload_n hx hb d_PG_place_85 rfl (lv_at hl 3 rfl) ?_
                obtain ⟨hi_86, hok⟩ := hok
                refine va_iald hx hb hK hP 16 0 rfl rfl hi_86 d_PG_place_86 ?_
                obtain ⟨hk_87, hok⟩ := hok
                refine go_vz (run_V hx hb hml hown ht hK hP hD (c_PG_setEntry hk_87) (cw_V ht km_PG_74 ki_PG_setEntry ks_PG_setEntry ini_PG kd_PG_setEntry kh_PG_setEntry ⟨Nat.le_of_ble_eq_true rfl, Nat.le_of_ble_eq_true rfl⟩ rfl rfl) (q0 := 12) (ci := 5) (As := [.int z_72.1, .int (x3 &&& (7 : Int32)), .int (0 : Int32), .int ((upd cbl x3.toNatClampNeg x2) x3.toNatClampNeg)]) (rest := []) rfl rfl rfl hl.1 rfl (Nat.le_of_ble_eq_true rfl) d_PG_place_87 ⟨Nat.zero_le _, Nat.zero_le _⟩) hD hS hA (fun z_87 H locs hz_87 hP hD hS => ?_)
                have hres := bindc_eq hz_87 hres
                have hok := bindp_eq hz_87 hok
                have hP : va_P G.1 classes (cC G ad nb nt cfa cle cwr csl cst cen cby cto csh cdz cch cva css cve cro crc cma z_87.1 z_87.2 (upd cbl x3.toNatClampNeg x2) crt) H := hP
                have hD : va_D A (cC G ad nb nt cfa cle cwr csl cst cen cby cto csh cdz cch cva css cve cro crc cma z_87.1 z_87.2 (upd cbl x3.toNatClampNeg x2) crt) := hD
                refine lv_iinc (v := x3 + (1 : Int32)) (lv' := [(3, .int (x3 + (1 : Int32))), (2, .int (x2 + (0 : Int32))), (4, .int (0 : Int32)), (0, .ref (ad 12))]) hx hb d_PG_place_90 hl (k := 3) rfl rfl (by decide) rfl (fun ls hl => ?_)
                refine lv_goto (tgt := 4) hx hb d_PG_place_93 (by decide) ?_
                exact ih (x2 + (0 : Int32)) (x3 + (1 : Int32)) z_87.1 z_87.2 (upd cbl x3.toNatClampNeg x2) _ _ _ hok hres hP hD hS (lv_sub hl [3, 1, 0] rfl)
            · have hres := it_f c_54 hres
              have hok := hok.2 c_54
              refine lv_iconst (v := (1 : Int32)) hx hb d_PG_place_57 (by decide) ?_
              refine lv_goto (tgt := 62) hx hb d_PG_place_58 (by decide) ?_
              refine lv_iadd hx hb d_PG_place_62 ?_
              refine lv_istore_n (lv' := [(2, .int (x2 + (1 : Int32))), (4, .int (0 : Int32)), (0, .ref (ad 12)), (3, .int x3)]) hx hb d_PG_place_63 rfl hl (by decide) rfl (fun ls hl => ?_)
              refine lv_iload_n hx hb d_PG_place_64 rfl (lv_at hl 3 rfl) ?_
              refine lv_bipush (v := (72 : Int32)) hx hb d_PG_place_65 (by decide) ?_
              refine lv_icmp_ge (tgt := 90) hx hb d_PG_place_67 (by decide) (fun c_67 => ?_) (fun c_67 => ?_)
              · have hres := it_t c_67 hres
                have hok := hok.1 c_67
                refine lv_iinc (v := x3 + (1 : Int32)) (lv' := [(3, .int (x3 + (1 : Int32))), (2, .int (x2 + (1 : Int32))), (4, .int (0 : Int32)), (0, .ref (ad 12))]) hx hb d_PG_place_90 hl (k := 3) rfl rfl (by decide) rfl (fun ls hl => ?_)
                refine lv_goto (tgt := 4) hx hb d_PG_place_93 (by decide) ?_
                exact ih (x2 + (1 : Int32)) (x3 + (1 : Int32)) cbi ces (upd cbl x3.toNatClampNeg x2) _ _ _ hok hres hP hD hS (lv_sub hl [3, 1, 0] rfl)
              · have hres := it_f c_67 hres
                have hok := hok.2 c_67
                refine lv_aload_n hx hb d_PG_place_70 rfl (lv_at hl 2 rfl) ?_
                refine lv_iload_n hx hb d_PG_place_71 rfl (lv_at hl 3 rfl) ?_
                refine go_iz (run_S hx hb hml hown ht hK hP hD (c_PG_parentOf) (cw_S ht km_PG_38 kt_PG_parentOf ini_PG kd_PG_parentOf kh_PG_parentOf ⟨Nat.le_of_ble_eq_true rfl, Nat.le_of_ble_eq_true rfl⟩ rfl rfl) (As := [.int x3]) (rest := [.ref (ad 12)]) rfl hl.1 rfl (Nat.le_of_ble_eq_true rfl) d_PG_place_72 ⟨Nat.zero_le _, Nat.zero_le _⟩) hD hS hA (fun z_72 H locs hz_72 hP hD hS => ?_)
                have hres := bindc_eq hz_72 hres
                have hok := bindp_eq hz_72 hok
                have hP : va_P G.1 classes (cC G ad nb nt cfa cle cwr csl cst cen cby cto csh cdz cch cva css cve cro crc cma cbi ces (upd cbl x3.toNatClampNeg x2) crt) H := hP
                have hD : va_D A (cC G ad nb nt cfa cle cwr csl cst cen cby cto csh cdz cch cva css cve cro crc cma cbi ces (upd cbl x3.toNatClampNeg x2) crt) := hD
                refine lv_iload_n hx hb d_PG_place_75 rfl (lv_at hl 3 rfl) ?_
                refine lv_bipush (v := (7 : Int32)) hx hb d_PG_place_76 (by decide) ?_
                refine lv_iand hx hb d_PG_place_78 ?_
                refine lv_iload hx hb d_PG_place_79 (lv_at hl 1 rfl) ?_
                refine lv_aload_n hx hb d_PG_place_81 rfl (lv_at hl 2 rfl) ?_
                refine va_get (D := G.1) (ci := 5) (C := R_PG) (T := F_PG) (N := 6) hx hb ht in_PG hown hK hP 12 rfl rfl 3 (by decide) (ht _ kf_PG_22) (fun _ h9 => h9) rfl d_PG_place_82 ?_
                refine lv_iload_n hx hb d_PG_place_85 rfl (lv_at hl 3 rfl) ?_
                obtain ⟨hi_86, hok⟩ := hok
                refine va_iald hx hb hK hP 16 0 rfl rfl hi_86 d_PG_place_86 ?_
                obtain ⟨hk_87, hok⟩ := hok
                refine go_vz (run_V hx hb hml hown ht hK hP hD (c_PG_setEntry hk_87) (cw_V ht km_PG_74 ki_PG_setEntry ks_PG_setEntry ini_PG kd_PG_setEntry kh_PG_setEntry ⟨Nat.le_of_ble_eq_true rfl, Nat.le_of_ble_eq_true rfl⟩ rfl rfl) (q0 := 12) (ci := 5) (As := [.int z_72.1, .int (x3 &&& (7 : Int32)), .int (0 : Int32), .int ((upd cbl x3.toNatClampNeg x2) x3.toNatClampNeg)]) (rest := []) rfl rfl rfl hl.1 rfl (Nat.le_of_ble_eq_true rfl) d_PG_place_87 ⟨Nat.zero_le _, Nat.zero_le _⟩) hD hS hA (fun z_87 H locs hz_87 hP hD hS => ?_)
                have hres := bindc_eq hz_87 hres
                have hok := bindp_eq hz_87 hok
                have hP : va_P G.1 classes (cC G ad nb nt cfa cle cwr csl cst cen cby cto csh cdz cch cva css cve cro crc cma z_87.1 z_87.2 (upd cbl x3.toNatClampNeg x2) crt) H := hP
                have hD : va_D A (cC G ad nb nt cfa cle cwr csl cst cen cby cto csh cdz cch cva css cve cro crc cma z_87.1 z_87.2 (upd cbl x3.toNatClampNeg x2) crt) := hD
                refine lv_iinc (v := x3 + (1 : Int32)) (lv' := [(3, .int (x3 + (1 : Int32))), (2, .int (x2 + (1 : Int32))), (4, .int (0 : Int32)), (0, .ref (ad 12))]) hx hb d_PG_place_90 hl (k := 3) rfl rfl (by decide) rfl (fun ls hl => ?_)
                refine lv_goto (tgt := 4) hx hb d_PG_place_93 (by decide) ?_
                exact ih (x2 + (1 : Int32)) (x3 + (1 : Int32)) z_87.1 z_87.2 (upd cbl x3.toNatClampNeg x2) _ _ _ hok hres hP hD hS (lv_sub hl [3, 1, 0] rfl)
        · have hres := it_f c_25 hres
          have hok := hok.2 c_25
          refine lv_iconst (v := (1 : Int32)) hx hb d_PG_place_28 (by decide) ?_
          refine lv_goto (tgt := 33) hx hb d_PG_place_29 (by decide) ?_
          refine lv_istore (lv' := [(4, .int (1 : Int32)), (0, .ref (ad 12)), (2, .int x2), (3, .int x3)]) hx hb d_PG_place_33 hl (by decide) rfl (fun ls hl => ?_)
          refine lv_aload_n hx hb d_PG_place_35 rfl (lv_at hl 1 rfl) ?_
          refine va_get (D := G.1) (ci := 5) (C := R_PG) (T := F_PG) (N := 6) hx hb ht in_PG hown hK hP 12 rfl rfl 3 (by decide) (ht _ kf_PG_22) (fun _ h9 => h9) rfl d_PG_place_36 ?_
          refine lv_iload_n hx hb d_PG_place_39 rfl (lv_at hl 3 rfl) ?_
          refine lv_iload hx hb d_PG_place_40 (lv_at hl 0 rfl) ?_
          refine lv_if_eq (tgt := 49) hx hb d_PG_place_42 (by decide) (fun c_42 => ?_) (fun c_42 => ?_)
          · have hres := it_t c_42 hres
            have hok := hok.1 c_42
            refine lv_iconst (v := (0 : Int32)) hx hb d_PG_place_49 (by decide) ?_
            obtain ⟨hi_50, hok⟩ := hok
            refine va_iast hx hb hK hP hD hS 16 0 rfl rfl hi_50 d_PG_place_50 (fun H locs hP hD hS => ?_)
            have hP : va_P G.1 classes (cC G ad nb nt cfa cle cwr csl cst cen cby cto csh cdz cch cva css cve cro crc cma cbi ces (upd cbl x3.toNatClampNeg (0 : Int32)) crt) H := hP
            have hD : va_D A (cC G ad nb nt cfa cle cwr csl cst cen cby cto csh cdz cch cva css cve cro crc cma cbi ces (upd cbl x3.toNatClampNeg (0 : Int32)) crt) := hD
            refine lv_iload_n hx hb d_PG_place_51 rfl (lv_at hl 2 rfl) ?_
            refine lv_iload hx hb d_PG_place_52 (lv_at hl 0 rfl) ?_
            refine lv_if_eq (tgt := 61) hx hb d_PG_place_54 (by decide) (fun c_54 => ?_) (fun c_54 => ?_)
            · have hres := it_t c_54 hres
              have hok := hok.1 c_54
              refine lv_iconst (v := (0 : Int32)) hx hb d_PG_place_61 (by decide) ?_
              refine lv_iadd hx hb d_PG_place_62 ?_
              refine lv_istore_n (lv' := [(2, .int (x2 + (0 : Int32))), (4, .int (1 : Int32)), (0, .ref (ad 12)), (3, .int x3)]) hx hb d_PG_place_63 rfl hl (by decide) rfl (fun ls hl => ?_)
              refine lv_iload_n hx hb d_PG_place_64 rfl (lv_at hl 3 rfl) ?_
              refine lv_bipush (v := (72 : Int32)) hx hb d_PG_place_65 (by decide) ?_
              refine lv_icmp_ge (tgt := 90) hx hb d_PG_place_67 (by decide) (fun c_67 => ?_) (fun c_67 => ?_)
              · have hres := it_t c_67 hres
                have hok := hok.1 c_67
                refine lv_iinc (v := x3 + (1 : Int32)) (lv' := [(3, .int (x3 + (1 : Int32))), (2, .int (x2 + (0 : Int32))), (4, .int (1 : Int32)), (0, .ref (ad 12))]) hx hb d_PG_place_90 hl (k := 3) rfl rfl (by decide) rfl (fun ls hl => ?_)
                refine lv_goto (tgt := 4) hx hb d_PG_place_93 (by decide) ?_
                exact ih (x2 + (0 : Int32)) (x3 + (1 : Int32)) cbi ces (upd cbl x3.toNatClampNeg (0 : Int32)) _ _ _ hok hres hP hD hS (lv_sub hl [3, 1, 0] rfl)
              · have hres := it_f c_67 hres
                have hok := hok.2 c_67
                refine lv_aload_n hx hb d_PG_place_70 rfl (lv_at hl 2 rfl) ?_
                refine lv_iload_n hx hb d_PG_place_71 rfl (lv_at hl 3 rfl) ?_
                refine go_iz (run_S hx hb hml hown ht hK hP hD (c_PG_parentOf) (cw_S ht km_PG_38 kt_PG_parentOf ini_PG kd_PG_parentOf kh_PG_parentOf ⟨Nat.le_of_ble_eq_true rfl, Nat.le_of_ble_eq_true rfl⟩ rfl rfl) (As := [.int x3]) (rest := [.ref (ad 12)]) rfl hl.1 rfl (Nat.le_of_ble_eq_true rfl) d_PG_place_72 ⟨Nat.zero_le _, Nat.zero_le _⟩) hD hS hA (fun z_72 H locs hz_72 hP hD hS => ?_)
                have hres := bindc_eq hz_72 hres
                have hok := bindp_eq hz_72 hok
                have hP : va_P G.1 classes (cC G ad nb nt cfa cle cwr csl cst cen cby cto csh cdz cch cva css cve cro crc cma cbi ces (upd cbl x3.toNatClampNeg (0 : Int32)) crt) H := hP
                have hD : va_D A (cC G ad nb nt cfa cle cwr csl cst cen cby cto csh cdz cch cva css cve cro crc cma cbi ces (upd cbl x3.toNatClampNeg (0 : Int32)) crt) := hD
                refine lv_iload_n hx hb d_PG_place_75 rfl (lv_at hl 3 rfl) ?_
                refine lv_bipush (v := (7 : Int32)) hx hb d_PG_place_76 (by decide) ?_
                refine lv_iand hx hb d_PG_place_78 ?_
                refine lv_iload hx hb d_PG_place_79 (lv_at hl 1 rfl) ?_
                refine lv_aload_n hx hb d_PG_place_81 rfl (lv_at hl 2 rfl) ?_
                refine va_get (D := G.1) (ci := 5) (C := R_PG) (T := F_PG) (N := 6) hx hb ht in_PG hown hK hP 12 rfl rfl 3 (by decide) (ht _ kf_PG_22) (fun _ h9 => h9) rfl d_PG_place_82 ?_
                refine lv_iload_n hx hb d_PG_place_85 rfl (lv_at hl 3 rfl) ?_
                obtain ⟨hi_86, hok⟩ := hok
                refine va_iald hx hb hK hP 16 0 rfl rfl hi_86 d_PG_place_86 ?_
                obtain ⟨hk_87, hok⟩ := hok
                refine go_vz (run_V hx hb hml hown ht hK hP hD (c_PG_setEntry hk_87) (cw_V ht km_PG_74 ki_PG_setEntry ks_PG_setEntry ini_PG kd_PG_setEntry kh_PG_setEntry ⟨Nat.le_of_ble_eq_true rfl, Nat.le_of_ble_eq_true rfl⟩ rfl rfl) (q0 := 12) (ci := 5) (As := [.int z_72.1, .int (x3 &&& (7 : Int32)), .int (1 : Int32), .int ((upd cbl x3.toNatClampNeg (0 : Int32)) x3.toNatClampNeg)]) (rest := []) rfl rfl rfl hl.1 rfl (Nat.le_of_ble_eq_true rfl) d_PG_place_87 ⟨Nat.zero_le _, Nat.zero_le _⟩) hD hS hA (fun z_87 H locs hz_87 hP hD hS => ?_)
                have hres := bindc_eq hz_87 hres
                have hok := bindp_eq hz_87 hok
                have hP : va_P G.1 classes (cC G ad nb nt cfa cle cwr csl cst cen cby cto csh cdz cch cva css cve cro crc cma z_87.1 z_87.2 (upd cbl x3.toNatClampNeg (0 : Int32)) crt) H := hP
                have hD : va_D A (cC G ad nb nt cfa cle cwr csl cst cen cby cto csh cdz cch cva css cve cro crc cma z_87.1 z_87.2 (upd cbl x3.toNatClampNeg (0 : Int32)) crt) := hD
                refine lv_iinc (v := x3 + (1 : Int32)) (lv' := [(3, .int (x3 + (1 : Int32))), (2, .int (x2 + (0 : Int32))), (4, .int (1 : Int32)), (0, .ref (ad 12))]) hx hb d_PG_place_90 hl (k := 3) rfl rfl (by decide) rfl (fun ls hl => ?_)
                refine lv_goto (tgt := 4) hx hb d_PG_place_93 (by decide) ?_
                exact ih (x2 + (0 : Int32)) (x3 + (1 : Int32)) z_87.1 z_87.2 (upd cbl x3.toNatClampNeg (0 : Int32)) _ _ _ hok hres hP hD hS (lv_sub hl [3, 1, 0] rfl)
            · have hres := it_f c_54 hres
              have hok := hok.2 c_54
              refine lv_iconst (v := (1 : Int32)) hx hb d_PG_place_57 (by decide) ?_
              refine lv_goto (tgt := 62) hx hb d_PG_place_58 (by decide) ?_
              refine lv_iadd hx hb d_PG_place_62 ?_
              refine lv_istore_n (lv' := [(2, .int (x2 + (1 : Int32))), (4, .int (1 : Int32)), (0, .ref (ad 12)), (3, .int x3)]) hx hb d_PG_place_63 rfl hl (by decide) rfl (fun ls hl => ?_)
              refine lv_iload_n hx hb d_PG_place_64 rfl (lv_at hl 3 rfl) ?_
              refine lv_bipush (v := (72 : Int32)) hx hb d_PG_place_65 (by decide) ?_
              refine lv_icmp_ge (tgt := 90) hx hb d_PG_place_67 (by decide) (fun c_67 => ?_) (fun c_67 => ?_)
              · have hres := it_t c_67 hres
                have hok := hok.1 c_67
                refine lv_iinc (v := x3 + (1 : Int32)) (lv' := [(3, .int (x3 + (1 : Int32))), (2, .int (x2 + (1 : Int32))), (4, .int (1 : Int32)), (0, .ref (ad 12))]) hx hb d_PG_place_90 hl (k := 3) rfl rfl (by decide) rfl (fun ls hl => ?_)
                refine lv_goto (tgt := 4) hx hb d_PG_place_93 (by decide) ?_
                exact ih (x2 + (1 : Int32)) (x3 + (1 : Int32)) cbi ces (upd cbl x3.toNatClampNeg (0 : Int32)) _ _ _ hok hres hP hD hS (lv_sub hl [3, 1, 0] rfl)
              · have hres := it_f c_67 hres
                have hok := hok.2 c_67
                refine lv_aload_n hx hb d_PG_place_70 rfl (lv_at hl 2 rfl) ?_
                refine lv_iload_n hx hb d_PG_place_71 rfl (lv_at hl 3 rfl) ?_
                refine go_iz (run_S hx hb hml hown ht hK hP hD (c_PG_parentOf) (cw_S ht km_PG_38 kt_PG_parentOf ini_PG kd_PG_parentOf kh_PG_parentOf ⟨Nat.le_of_ble_eq_true rfl, Nat.le_of_ble_eq_true rfl⟩ rfl rfl) (As := [.int x3]) (rest := [.ref (ad 12)]) rfl hl.1 rfl (Nat.le_of_ble_eq_true rfl) d_PG_place_72 ⟨Nat.zero_le _, Nat.zero_le _⟩) hD hS hA (fun z_72 H locs hz_72 hP hD hS => ?_)
                have hres := bindc_eq hz_72 hres
                have hok := bindp_eq hz_72 hok
                have hP : va_P G.1 classes (cC G ad nb nt cfa cle cwr csl cst cen cby cto csh cdz cch cva css cve cro crc cma cbi ces (upd cbl x3.toNatClampNeg (0 : Int32)) crt) H := hP
                have hD : va_D A (cC G ad nb nt cfa cle cwr csl cst cen cby cto csh cdz cch cva css cve cro crc cma cbi ces (upd cbl x3.toNatClampNeg (0 : Int32)) crt) := hD
                refine lv_iload_n hx hb d_PG_place_75 rfl (lv_at hl 3 rfl) ?_
                refine lv_bipush (v := (7 : Int32)) hx hb d_PG_place_76 (by decide) ?_
                refine lv_iand hx hb d_PG_place_78 ?_
                refine lv_iload hx hb d_PG_place_79 (lv_at hl 1 rfl) ?_
                refine lv_aload_n hx hb d_PG_place_81 rfl (lv_at hl 2 rfl) ?_
                refine va_get (D := G.1) (ci := 5) (C := R_PG) (T := F_PG) (N := 6) hx hb ht in_PG hown hK hP 12 rfl rfl 3 (by decide) (ht _ kf_PG_22) (fun _ h9 => h9) rfl d_PG_place_82 ?_
                refine lv_iload_n hx hb d_PG_place_85 rfl (lv_at hl 3 rfl) ?_
                obtain ⟨hi_86, hok⟩ := hok
                refine va_iald hx hb hK hP 16 0 rfl rfl hi_86 d_PG_place_86 ?_
                obtain ⟨hk_87, hok⟩ := hok
                refine go_vz (run_V hx hb hml hown ht hK hP hD (c_PG_setEntry hk_87) (cw_V ht km_PG_74 ki_PG_setEntry ks_PG_setEntry ini_PG kd_PG_setEntry kh_PG_setEntry ⟨Nat.le_of_ble_eq_true rfl, Nat.le_of_ble_eq_true rfl⟩ rfl rfl) (q0 := 12) (ci := 5) (As := [.int z_72.1, .int (x3 &&& (7 : Int32)), .int (1 : Int32), .int ((upd cbl x3.toNatClampNeg (0 : Int32)) x3.toNatClampNeg)]) (rest := []) rfl rfl rfl hl.1 rfl (Nat.le_of_ble_eq_true rfl) d_PG_place_87 ⟨Nat.zero_le _, Nat.zero_le _⟩) hD hS hA (fun z_87 H locs hz_87 hP hD hS => ?_)
                have hres := bindc_eq hz_87 hres
                have hok := bindp_eq hz_87 hok
                have hP : va_P G.1 classes (cC G ad nb nt cfa cle cwr csl cst cen cby cto csh cdz cch cva css cve cro crc cma z_87.1 z_87.2 (upd cbl x3.toNatClampNeg (0 : Int32)) crt) H := hP
                have hD : va_D A (cC G ad nb nt cfa cle cwr csl cst cen cby cto csh cdz cch cva css cve cro crc cma z_87.1 z_87.2 (upd cbl x3.toNatClampNeg (0 : Int32)) crt) := hD
                refine lv_iinc (v := x3 + (1 : Int32)) (lv' := [(3, .int (x3 + (1 : Int32))), (2, .int (x2 + (1 : Int32))), (4, .int (1 : Int32)), (0, .ref (ad 12))]) hx hb d_PG_place_90 hl (k := 3) rfl rfl (by decide) rfl (fun ls hl => ?_)
                refine lv_goto (tgt := 4) hx hb d_PG_place_93 (by decide) ?_
                exact ih (x2 + (1 : Int32)) (x3 + (1 : Int32)) z_87.1 z_87.2 (upd cbl x3.toNatClampNeg (0 : Int32)) _ _ _ hok hres hP hD hS (lv_sub hl [3, 1, 0] rfl)
          · have hres := it_f c_42 hres
            have hok := hok.2 c_42
            refine lv_iload_n hx hb d_PG_place_45 rfl (lv_at hl 2 rfl) ?_
            refine lv_goto (tgt := 50) hx hb d_PG_place_46 (by decide) ?_
            obtain ⟨hi_50, hok⟩ := hok
            refine va_iast hx hb hK hP hD hS 16 0 rfl rfl hi_50 d_PG_place_50 (fun H locs hP hD hS => ?_)
            have hP : va_P G.1 classes (cC G ad nb nt cfa cle cwr csl cst cen cby cto csh cdz cch cva css cve cro crc cma cbi ces (upd cbl x3.toNatClampNeg x2) crt) H := hP
            have hD : va_D A (cC G ad nb nt cfa cle cwr csl cst cen cby cto csh cdz cch cva css cve cro crc cma cbi ces (upd cbl x3.toNatClampNeg x2) crt) := hD
            refine lv_iload_n hx hb d_PG_place_51 rfl (lv_at hl 2 rfl) ?_
            refine lv_iload hx hb d_PG_place_52 (lv_at hl 0 rfl) ?_
            refine lv_if_eq (tgt := 61) hx hb d_PG_place_54 (by decide) (fun c_54 => ?_) (fun c_54 => ?_)
            · have hres := it_t c_54 hres
              have hok := hok.1 c_54
              refine lv_iconst (v := (0 : Int32)) hx hb d_PG_place_61 (by decide) ?_
              refine lv_iadd hx hb d_PG_place_62 ?_
              refine lv_istore_n (lv' := [(2, .int (x2 + (0 : Int32))), (4, .int (1 : Int32)), (0, .ref (ad 12)), (3, .int x3)]) hx hb d_PG_place_63 rfl hl (by decide) rfl (fun ls hl => ?_)
              refine lv_iload_n hx hb d_PG_place_64 rfl (lv_at hl 3 rfl) ?_
              refine lv_bipush (v := (72 : Int32)) hx hb d_PG_place_65 (by decide) ?_
              refine lv_icmp_ge (tgt := 90) hx hb d_PG_place_67 (by decide) (fun c_67 => ?_) (fun c_67 => ?_)
              · have hres := it_t c_67 hres
                have hok := hok.1 c_67
                refine lv_iinc (v := x3 + (1 : Int32)) (lv' := [(3, .int (x3 + (1 : Int32))), (2, .int (x2 + (0 : Int32))), (4, .int (1 : Int32)), (0, .ref (ad 12))]) hx hb d_PG_place_90 hl (k := 3) rfl rfl (by decide) rfl (fun ls hl => ?_)
                refine lv_goto (tgt := 4) hx hb d_PG_place_93 (by decide) ?_
                exact ih (x2 + (0 : Int32)) (x3 + (1 : Int32)) cbi ces (upd cbl x3.toNatClampNeg x2) _ _ _ hok hres hP hD hS (lv_sub hl [3, 1, 0] rfl)
              · have hres := it_f c_67 hres
                have hok := hok.2 c_67
                refine lv_aload_n hx hb d_PG_place_70 rfl (lv_at hl 2 rfl) ?_
                refine lv_iload_n hx hb d_PG_place_71 rfl (lv_at hl 3 rfl) ?_
                refine go_iz (run_S hx hb hml hown ht hK hP hD (c_PG_parentOf) (cw_S ht km_PG_38 kt_PG_parentOf ini_PG kd_PG_parentOf kh_PG_parentOf ⟨Nat.le_of_ble_eq_true rfl, Nat.le_of_ble_eq_true rfl⟩ rfl rfl) (As := [.int x3]) (rest := [.ref (ad 12)]) rfl hl.1 rfl (Nat.le_of_ble_eq_true rfl) d_PG_place_72 ⟨Nat.zero_le _, Nat.zero_le _⟩) hD hS hA (fun z_72 H locs hz_72 hP hD hS => ?_)
                have hres := bindc_eq hz_72 hres
                have hok := bindp_eq hz_72 hok
                have hP : va_P G.1 classes (cC G ad nb nt cfa cle cwr csl cst cen cby cto csh cdz cch cva css cve cro crc cma cbi ces (upd cbl x3.toNatClampNeg x2) crt) H := hP
                have hD : va_D A (cC G ad nb nt cfa cle cwr csl cst cen cby cto csh cdz cch cva css cve cro crc cma cbi ces (upd cbl x3.toNatClampNeg x2) crt) := hD
                refine lv_iload_n hx hb d_PG_place_75 rfl (lv_at hl 3 rfl) ?_
                refine lv_bipush (v := (7 : Int32)) hx hb d_PG_place_76 (by decide) ?_
                refine lv_iand hx hb d_PG_place_78 ?_
                refine lv_iload hx hb d_PG_place_79 (lv_at hl 1 rfl) ?_
                refine lv_aload_n hx hb d_PG_place_81 rfl (lv_at hl 2 rfl) ?_
                refine va_get (D := G.1) (ci := 5) (C := R_PG) (T := F_PG) (N := 6) hx hb ht in_PG hown hK hP 12 rfl rfl 3 (by decide) (ht _ kf_PG_22) (fun _ h9 => h9) rfl d_PG_place_82 ?_
                refine lv_iload_n hx hb d_PG_place_85 rfl (lv_at hl 3 rfl) ?_
                obtain ⟨hi_86, hok⟩ := hok
                refine va_iald hx hb hK hP 16 0 rfl rfl hi_86 d_PG_place_86 ?_
                obtain ⟨hk_87, hok⟩ := hok
                refine go_vz (run_V hx hb hml hown ht hK hP hD (c_PG_setEntry hk_87) (cw_V ht km_PG_74 ki_PG_setEntry ks_PG_setEntry ini_PG kd_PG_setEntry kh_PG_setEntry ⟨Nat.le_of_ble_eq_true rfl, Nat.le_of_ble_eq_true rfl⟩ rfl rfl) (q0 := 12) (ci := 5) (As := [.int z_72.1, .int (x3 &&& (7 : Int32)), .int (1 : Int32), .int ((upd cbl x3.toNatClampNeg x2) x3.toNatClampNeg)]) (rest := []) rfl rfl rfl hl.1 rfl (Nat.le_of_ble_eq_true rfl) d_PG_place_87 ⟨Nat.zero_le _, Nat.zero_le _⟩) hD hS hA (fun z_87 H locs hz_87 hP hD hS => ?_)
                have hres := bindc_eq hz_87 hres
                have hok := bindp_eq hz_87 hok
                have hP : va_P G.1 classes (cC G ad nb nt cfa cle cwr csl cst cen cby cto csh cdz cch cva css cve cro crc cma z_87.1 z_87.2 (upd cbl x3.toNatClampNeg x2) crt) H := hP
                have hD : va_D A (cC G ad nb nt cfa cle cwr csl cst cen cby cto csh cdz cch cva css cve cro crc cma z_87.1 z_87.2 (upd cbl x3.toNatClampNeg x2) crt) := hD
                refine lv_iinc (v := x3 + (1 : Int32)) (lv' := [(3, .int (x3 + (1 : Int32))), (2, .int (x2 + (0 : Int32))), (4, .int (1 : Int32)), (0, .ref (ad 12))]) hx hb d_PG_place_90 hl (k := 3) rfl rfl (by decide) rfl (fun ls hl => ?_)
                refine lv_goto (tgt := 4) hx hb d_PG_place_93 (by decide) ?_
                exact ih (x2 + (0 : Int32)) (x3 + (1 : Int32)) z_87.1 z_87.2 (upd cbl x3.toNatClampNeg x2) _ _ _ hok hres hP hD hS (lv_sub hl [3, 1, 0] rfl)
            · have hres := it_f c_54 hres
              have hok := hok.2 c_54
              refine lv_iconst (v := (1 : Int32)) hx hb d_PG_place_57 (by decide) ?_
              refine lv_goto (tgt := 62) hx hb d_PG_place_58 (by decide) ?_
              refine lv_iadd hx hb d_PG_place_62 ?_
              refine lv_istore_n (lv' := [(2, .int (x2 + (1 : Int32))), (4, .int (1 : Int32)), (0, .ref (ad 12)), (3, .int x3)]) hx hb d_PG_place_63 rfl hl (by decide) rfl (fun ls hl => ?_)
              refine lv_iload_n hx hb d_PG_place_64 rfl (lv_at hl 3 rfl) ?_
              refine lv_bipush (v := (72 : Int32)) hx hb d_PG_place_65 (by decide) ?_
              refine lv_icmp_ge (tgt := 90) hx hb d_PG_place_67 (by decide) (fun c_67 => ?_) (fun c_67 => ?_)
              · have hres := it_t c_67 hres
                have hok := hok.1 c_67
                refine lv_iinc (v := x3 + (1 : Int32)) (lv' := [(3, .int (x3 + (1 : Int32))), (2, .int (x2 + (1 : Int32))), (4, .int (1 : Int32)), (0, .ref (ad 12))]) hx hb d_PG_place_90 hl (k := 3) rfl rfl (by decide) rfl (fun ls hl => ?_)
                refine lv_goto (tgt := 4) hx hb d_PG_place_93 (by decide) ?_
                exact ih (x2 + (1 : Int32)) (x3 + (1 : Int32)) cbi ces (upd cbl x3.toNatClampNeg x2) _ _ _ hok hres hP hD hS (lv_sub hl [3, 1, 0] rfl)
              · have hres := it_f c_67 hres
                have hok := hok.2 c_67
                refine lv_aload_n hx hb d_PG_place_70 rfl (lv_at hl 2 rfl) ?_
                refine lv_iload_n hx hb d_PG_place_71 rfl (lv_at hl 3 rfl) ?_
                refine go_iz (run_S hx hb hml hown ht hK hP hD (c_PG_parentOf) (cw_S ht km_PG_38 kt_PG_parentOf ini_PG kd_PG_parentOf kh_PG_parentOf ⟨Nat.le_of_ble_eq_true rfl, Nat.le_of_ble_eq_true rfl⟩ rfl rfl) (As := [.int x3]) (rest := [.ref (ad 12)]) rfl hl.1 rfl (Nat.le_of_ble_eq_true rfl) d_PG_place_72 ⟨Nat.zero_le _, Nat.zero_le _⟩) hD hS hA (fun z_72 H locs hz_72 hP hD hS => ?_)
                have hres := bindc_eq hz_72 hres
                have hok := bindp_eq hz_72 hok
                have hP : va_P G.1 classes (cC G ad nb nt cfa cle cwr csl cst cen cby cto csh cdz cch cva css cve cro crc cma cbi ces (upd cbl x3.toNatClampNeg x2) crt) H := hP
                have hD : va_D A (cC G ad nb nt cfa cle cwr csl cst cen cby cto csh cdz cch cva css cve cro crc cma cbi ces (upd cbl x3.toNatClampNeg x2) crt) := hD
                refine lv_iload_n hx hb d_PG_place_75 rfl (lv_at hl 3 rfl) ?_
                refine lv_bipush (v := (7 : Int32)) hx hb d_PG_place_76 (by decide) ?_
                refine lv_iand hx hb d_PG_place_78 ?_
                refine lv_iload hx hb d_PG_place_79 (lv_at hl 1 rfl) ?_
                refine lv_aload_n hx hb d_PG_place_81 rfl (lv_at hl 2 rfl) ?_
                refine va_get (D := G.1) (ci := 5) (C := R_PG) (T := F_PG) (N := 6) hx hb ht in_PG hown hK hP 12 rfl rfl 3 (by decide) (ht _ kf_PG_22) (fun _ h9 => h9) rfl d_PG_place_82 ?_
                refine lv_iload_n hx hb d_PG_place_85 rfl (lv_at hl 3 rfl) ?_
                obtain ⟨hi_86, hok⟩ := hok
                refine va_iald hx hb hK hP 16 0 rfl rfl hi_86 d_PG_place_86 ?_
                obtain ⟨hk_87, hok⟩ := hok
                refine go_vz (run_V hx hb hml hown ht hK hP hD (c_PG_setEntry hk_87) (cw_V ht km_PG_74 ki_PG_setEntry ks_PG_setEntry ini_PG kd_PG_setEntry kh_PG_setEntry ⟨Nat.le_of_ble_eq_true rfl, Nat.le_of_ble_eq_true rfl⟩ rfl rfl) (q0 := 12) (ci := 5) (As := [.int z_72.1, .int (x3 &&& (7 : Int32)), .int (1 : Int32), .int ((upd cbl x3.toNatClampNeg x2) x3.toNatClampNeg)]) (rest := []) rfl rfl rfl hl.1 rfl (Nat.le_of_ble_eq_true rfl) d_PG_place_87 ⟨Nat.zero_le _, Nat.zero_le _⟩) hD hS hA (fun z_87 H locs hz_87 hP hD hS => ?_)
                have hres := bindc_eq hz_87 hres
                have hok := bindp_eq hz_87 hok
                have hP : va_P G.1 classes (cC G ad nb nt cfa cle cwr csl cst cen cby cto csh cdz cch cva css cve cro crc cma z_87.1 z_87.2 (upd cbl x3.toNatClampNeg x2) crt) H := hP
                have hD : va_D A (cC G ad nb nt cfa cle cwr csl cst cen cby cto csh cdz cch cva css cve cro crc cma z_87.1 z_87.2 (upd cbl x3.toNatClampNeg x2) crt) := hD
                refine lv_iinc (v := x3 + (1 : Int32)) (lv' := [(3, .int (x3 + (1 : Int32))), (2, .int (x2 + (1 : Int32))), (4, .int (1 : Int32)), (0, .ref (ad 12))]) hx hb d_PG_place_90 hl (k := 3) rfl rfl (by decide) rfl (fun ls hl => ?_)
                refine lv_goto (tgt := 4) hx hb d_PG_place_93 (by decide) ?_
                exact ih (x2 + (1 : Int32)) (x3 + (1 : Int32)) z_87.1 z_87.2 (upd cbl x3.toNatClampNeg x2) _ _ _ hok hres hP hD hS (lv_sub hl [3, 1, 0] rfl)
def f_PG_place (p0 : Int32) (cma : (Nat → Int32)) (cbi : (Nat → Int32)) (ces : (Nat → Int32)) (cbl : (Nat → Int32)) : Int32 × (Nat → Int32) × (Nat → Int32) × (Nat → Int32) := f_PG_place_4 1024 p0 (0 : Int32) cma cbi ces cbl
def ok_PG_place (nb : Nat) (nt : Nat) (p0 : Int32) (cma : (Nat → Int32)) (cbi : (Nat → Int32)) (ces : (Nat → Int32)) (cbl : (Nat → Int32)) : Prop := ok_PG_place_4 nb nt  1024 p0 (0 : Int32) cma cbi ces cbl
set_option maxHeartbeats 4000000 in
set_option maxRecDepth 100000 in
theorem c_PG_place {l : Launch} {G : GG} {ad : Nat → Nat} {nb : Nat} {nt : Nat} {sz : Nat} {cfa : Int32} {cle : Int32} {cwr : Int32} {csl : Int32} {cst : Int32} {cen : Int32} {cby : (Nat → Int32)} {cto : (Nat → Int32)} {csh : (Nat → Int32)} {cdz : Int32} {cch : (Nat → Int32)} {cva : (Nat → Int32)} {css : Int32} {cve : (Nat → Int32)} {cro : (Nat → Int32)} {crc : Int32} {cma : (Nat → Int32)} {cbi : (Nat → Int32)} {ces : (Nat → Int32)} {cbl : (Nat → Int32)} {crt : (Nat → Int32)} {p0 : Int32} (hok : ok_PG_place nb nt p0 cma cbi ces cbl) : CtI l y_PG_place b_PG_place 5 (some .int) rm_PG_place G (cC G ad nb nt cfa cle cwr csl cst cen cby cto csh cdz cch cva css cve cro crc cma cbi ces cbl crt) sz [.ref (ad 12), .int p0] (eqP (f_PG_place p0 cma cbi ces cbl)) (fun u : (Nat → Int32) × (Nat → Int32) × (Nat → Int32) => (cC G ad nb nt cfa cle cwr csl cst cen cby cto csh cdz cch cva css cve cro crc cma u.1 u.2.1 u.2.2 crt)) := by
  generalize hres : f_PG_place p0 cma cbi ces cbl = res
  refine Met_of (Qc := fun A => va_Qi (eqP res) (Wb G A (fun u : (Nat → Int32) × (Nat → Int32) × (Nat → Int32) => (cC G ad nb nt cfa cle cwr csl cst cen cby cto csh cdz cch cva css cve cro crc cma u.1 u.2.1 u.2.2 crt))) A) (by decide) (Nat.le_of_ble_eq_true rfl) ?_
  intro p e s m below meth c hadm hx hb hr hml hown hlocks ht hK A hA hP hD hS ls hl
  have hC : Cx p l e s m (([.ref (ad 12), .int p0] : List Value)).toArray meth c y_PG_place b_PG_place 5 (some .int) "BookTrees$Pages" G A := ⟨hx, hb, hr, hml, hown, hlocks, ht, hK, hA⟩
  have hown : s.vm.findClass "BookTrees$Pages" = some m.cls := hown
  have hl : lv_has ls 5 [(0, .ref (ad 12)), (1, .int p0)] := hl
  rw [f_PG_place] at hres
  rw [ok_PG_place] at hok
  refine lv_iload_n hx hb d_PG_place_0 rfl (lv_at hl 1 rfl) ?_
  refine lv_istore_n (lv' := [(2, .int p0), (0, .ref (ad 12)), (1, .int p0)]) hx hb d_PG_place_1 rfl hl (by decide) rfl (fun ls hl => ?_)
  refine lv_iconst (v := (0 : Int32)) hx hb d_PG_place_2 (by decide) ?_
  refine lv_istore_n (lv' := [(3, .int (0 : Int32)), (2, .int p0), (0, .ref (ad 12)), (1, .int p0)]) hx hb d_PG_place_3 rfl hl (by decide) rfl (fun ls hl => ?_)
  exact w_PG_place_4 hC 1024 p0 (0 : Int32) cbi ces cbl _ _ _ hok hres hP hD hS (lv_sub hl [2, 1, 0] rfl)
/-! ===== BookTrees$Roll.hasRoom(I)Z ===== -/
abbrev rm_RL_hasRoom : Room := { frames := 0, cells := 0, slots := 0, locals := 0 }
def f_RL_hasRoom (p0 : Int32) (csl : Int32) (cst : Int32) (cen : Int32) : Int32 × Unit := if csl < ((cen - cst) + p0) then ((0 : Int32), ()) else ((1 : Int32), ())
set_option maxHeartbeats 4000000 in
set_option maxRecDepth 100000 in
theorem c_RL_hasRoom {l : Launch} {G : GG} {ad : Nat → Nat} {nb : Nat} {nt : Nat} {sz : Nat} {cfa : Int32} {cle : Int32} {cwr : Int32} {csl : Int32} {cst : Int32} {cen : Int32} {cby : (Nat → Int32)} {cto : (Nat → Int32)} {csh : (Nat → Int32)} {cdz : Int32} {cch : (Nat → Int32)} {cva : (Nat → Int32)} {css : Int32} {cve : (Nat → Int32)} {cro : (Nat → Int32)} {crc : Int32} {cma : (Nat → Int32)} {cbi : (Nat → Int32)} {ces : (Nat → Int32)} {cbl : (Nat → Int32)} {crt : (Nat → Int32)} {p0 : Int32} : CtI l y_RL_hasRoom b_RL_hasRoom 2 (some .boolean) rm_RL_hasRoom G (cC G ad nb nt cfa cle cwr csl cst cen cby cto csh cdz cch cva css cve cro crc cma cbi ces cbl crt) sz [.ref (ad 2), .int p0] (eqP (f_RL_hasRoom p0 csl cst cen)) (fun _ : Unit => (cC G ad nb nt cfa cle cwr csl cst cen cby cto csh cdz cch cva css cve cro crc cma cbi ces cbl crt)) := by
  generalize hres : f_RL_hasRoom p0 csl cst cen = res
  refine Met_of (Qc := fun A => va_Qi (eqP res) (Wb G A (fun _ : Unit => (cC G ad nb nt cfa cle cwr csl cst cen cby cto csh cdz cch cva css cve cro crc cma cbi ces cbl crt))) A) (by decide) (Nat.le_of_ble_eq_true rfl) ?_
  intro p e s m below meth c hadm hx hb hr hml hown hlocks ht hK A hA hP hD hS ls hl
  have hC : Cx p l e s m (([.ref (ad 2), .int p0] : List Value)).toArray meth c y_RL_hasRoom b_RL_hasRoom 2 (some .boolean) "BookTrees$Roll" G A := ⟨hx, hb, hr, hml, hown, hlocks, ht, hK, hA⟩
  have hown : s.vm.findClass "BookTrees$Roll" = some m.cls := hown
  have hl : lv_has ls 2 [(0, .ref (ad 2)), (1, .int p0)] := hl
  rw [f_RL_hasRoom] at hres
  refine lv_aload_n hx hb d_RL_hasRoom_0 rfl (lv_at hl 0 rfl) ?_
  refine va_get (D := G.1) (ci := 2) (C := R_RL) (T := F_RL) (N := 7) hx hb ht in_RL hown hK hP 2 rfl rfl 6 (by decide) (ht _ kf_RL_42) (fun _ h9 => h9) rfl d_RL_hasRoom_1 ?_
  refine lv_aload_n hx hb d_RL_hasRoom_4 rfl (lv_at hl 0 rfl) ?_
  refine va_get (D := G.1) (ci := 2) (C := R_RL) (T := F_RL) (N := 7) hx hb ht in_RL hown hK hP 2 rfl rfl 5 (by decide) (ht _ kf_RL_39) (fun _ h9 => h9) rfl d_RL_hasRoom_5 ?_
  refine lv_isub hx hb d_RL_hasRoom_8 ?_
  refine lv_iload_n hx hb d_RL_hasRoom_9 rfl (lv_at hl 1 rfl) ?_
  refine lv_iadd hx hb d_RL_hasRoom_10 ?_
  refine lv_aload_n hx hb d_RL_hasRoom_11 rfl (lv_at hl 0 rfl) ?_
  refine va_get (D := G.1) (ci := 2) (C := R_RL) (T := F_RL) (N := 7) hx hb ht in_RL hown hK hP 2 rfl rfl 1 (by decide) (ht _ kf_RL_28) (fun _ h9 => h9) rfl d_RL_hasRoom_12 ?_
  refine lv_icmp_gt (tgt := 22) hx hb d_RL_hasRoom_15 (by decide) (fun c_15 => ?_) (fun c_15 => ?_)
  · have hres := it_t c_15 hres
    refine lv_iconst (v := (0 : Int32)) hx hb d_RL_hasRoom_22 (by decide) ?_
    exact en_z (w1 := (fun _ : Unit => (cC G ad nb nt cfa cle cwr csl cst cen cby cto csh cdz cch cva css cve cro crc cma cbi ces cbl crt))) () hx hb hr hlocks hK hP hD hS hres isB_0 d_RL_hasRoom_23
  · have hres := it_f c_15 hres
    refine lv_iconst (v := (1 : Int32)) hx hb d_RL_hasRoom_18 (by decide) ?_
    refine lv_goto (tgt := 23) hx hb d_RL_hasRoom_19 (by decide) ?_
    exact en_z (w1 := (fun _ : Unit => (cC G ad nb nt cfa cle cwr csl cst cen cby cto csh cdz cch cva css cve cro crc cma cbi ces cbl crt))) () hx hb hr hlocks hK hP hD hS hres isB_1 d_RL_hasRoom_23
