/-! ===== BookTreesModel.writeTop()Z ===== -/
abbrev rm_MO_writeTop : Room := { frames := 2, cells := 0, slots := 0, locals := 49 }
def f_MO_writeTop_11 : Nat → Int32 → Int32 → Int32 → Int32 → Int32 → Int32 → Int32 → Int32 → (Nat → Int32) → (Nat → Int32) → (Nat → Int32) → (Nat → Int32) → Int32 × Int32 × Int32 × Int32 × Int32 × (Nat → Int32) × (Nat → Int32) × (Nat → Int32)
  | 0, x1, msl, mnw, mdn, mpw, mwr, mtb, mnx, mro, mit, mnk, mmd => (0, (mdn, mpw, mwr, mnx, mro, mit, mmd))
  | n + 1, x1, msl, mnw, mdn, mpw, mwr, mtb, mnx, mro, mit, mnk, mmd => if (8 : Int32) ≤ x1 then bindc (f_MO_finish msl mdn mpw mwr mnx mro mit mmd) (fun z_56 => (z_56.1, (z_56.2.1, z_56.2.2.1, z_56.2.2.2.1, z_56.2.2.2.2.1, z_56.2.2.2.2.2.1, z_56.2.2.2.2.2.2.1, z_56.2.2.2.2.2.2.2))) else if ((mtb >>> (x1 &&& 31)) &&& (1 : Int32)) = (1 : Int32) then bindc (f_MO_putNumber ((8 : Int32) + ((4 : Int32) * x1)) (mnk x1.toNatClampNeg) mmd) (fun z_46 => f_MO_writeTop_11 n (x1 + (1 : Int32)) msl mnw mdn mpw mwr mtb mnx mro mit mnk z_46) else bindc (f_MO_putNumber ((8 : Int32) + ((4 : Int32) * x1)) (0 : Int32) mmd) (fun z_46 => f_MO_writeTop_11 n (x1 + (1 : Int32)) msl mnw mdn mpw mwr mtb mnx mro mit mnk z_46)
def ok_MO_writeTop_11 : Nat → Int32 → Int32 → Int32 → Int32 → Int32 → Int32 → Int32 → Int32 → (Nat → Int32) → (Nat → Int32) → (Nat → Int32) → (Nat → Int32) → Prop
  | 0, _, _, _, _, _, _, _, _, _, _, _, _ => False
  | n + 1, x1, msl, mnw, mdn, mpw, mwr, mtb, mnx, mro, mit, mnk, mmd => ((8 : Int32) ≤ x1 → ok_MO_finish msl mdn mpw mwr mnx mro mit mmd ∧ bindp (f_MO_finish msl mdn mpw mwr mnx mro mit mmd) (fun z_56 => isB z_56.1)) ∧ (¬ (8 : Int32) ≤ x1 → (((mtb >>> (x1 &&& 31)) &&& (1 : Int32)) = (1 : Int32) → vp_in x1 8 ∧ (ok_MO_putNumber ((8 : Int32) + ((4 : Int32) * x1)) (mnk x1.toNatClampNeg) mmd ∧ bindp (f_MO_putNumber ((8 : Int32) + ((4 : Int32) * x1)) (mnk x1.toNatClampNeg) mmd) (fun z_46 => ok_MO_writeTop_11  n (x1 + (1 : Int32)) msl mnw mdn mpw mwr mtb mnx mro mit mnk z_46))) ∧ (¬ ((mtb >>> (x1 &&& 31)) &&& (1 : Int32)) = (1 : Int32) → ok_MO_putNumber ((8 : Int32) + ((4 : Int32) * x1)) (0 : Int32) mmd ∧ bindp (f_MO_putNumber ((8 : Int32) + ((4 : Int32) * x1)) (0 : Int32) mmd) (fun z_46 => ok_MO_writeTop_11  n (x1 + (1 : Int32)) msl mnw mdn mpw mwr mtb mnx mro mit mnk z_46)))
set_option maxHeartbeats 4000000 in
set_option maxRecDepth 100000 in
theorem w_MO_writeTop_11 {p : Program} {l : Launch} {e : Env} {s : State} {m : MethodId} {args : Array Value} {below : List Frame} {meth : Method} {c : Code} {A : Nat → Prop} {G : GG} {ad : Nat → Nat} {mrf : Int32} {msl : Int32} {mst : Int32} {men : Int32} {mnw : Int32} {mrs : Int32} {mdr : Int32} {mtb : Int32} {mrc : Int32} {mve : (Nat → Int32)} {mrb : (Nat → Int32)} {mch : (Nat → Int32)} {mva : (Nat → Int32)} {mic : (Nat → Int32)} {mlb : (Nat → Int32)} {mrw : (Nat → Int32)} {mnb : (Nat → Int32)} {mlk : (Nat → Int32)} {mnk : (Nat → Int32)} {res : Int32 × Int32 × Int32 × Int32 × Int32 × (Nat → Int32) × (Nat → Int32) × (Nat → Int32)} (hC : Cx p l e s m args meth c y_MO_writeTop b_MO_writeTop 2 (some .boolean) "BookTreesModel" G A) : ∀ (n : Nat) (x1 : Int32) (mdn : Int32) (mpw : Int32) (mwr : Int32) (mnx : Int32) (mro : (Nat → Int32)) (mit : (Nat → Int32)) (mmd : (Nat → Int32)) (H : Heap) (locs : List Loc) (ls : Array Slot), ok_MO_writeTop_11 n x1 msl mnw mdn mpw mwr mtb mnx mro mit mnk mmd → f_MO_writeTop_11 n x1 msl mnw mdn mpw mwr mtb mnx mro mit mnk mmd = res → va_P G.1 classes (cM G ad mrf msl mst men mnw mdn mpw mwr mrs mdr mtb mrc mnx mro mit mve mrb mch mva mic mlb mrw mnb mlk mnk mmd) H → va_D A (cM G ad mrf msl mst men mnw mdn mpw mwr mrs mdr mtb mrc mnx mro mit mve mrb mch mva mic mlb mrw mnb mlk mnk mmd) → va_S A s.heap H locs → lv_has ls 2 [(0, .ref (ad 0)), (1, .int x1)] → W p l e rm_MO_writeTop s m args below meth c H locs 0 0 (MQ below (va_Qi (eqP res) (Wb G A (fun u : Int32 × Int32 × Int32 × Int32 × (Nat → Int32) × (Nat → Int32) × (Nat → Int32) => (cM G ad mrf msl mst men mnw u.1 u.2.1 u.2.2.1 mrs mdr mtb mrc u.2.2.2.1 u.2.2.2.2.1 u.2.2.2.2.2.1 mve mrb mch mva mic mlb mrw mnb mlk mnk u.2.2.2.2.2.2))) A) args s 0 0 A) (F0 m 11 ls []) := by
  obtain ⟨hx, hb, hr, hml, hown, hlocks, ht, hK, hA⟩ := id hC
  intro n
  induction n with
  | zero => intro x1 mdn mpw mwr mnx mro mit mmd H locs ls hok; exact hok.elim
  | succ n ih =>
    intro x1 mdn mpw mwr mnx mro mit mmd H locs ls hok hres hP hD hS hl
    rw [f_MO_writeTop_11] at hres
    rw [ok_MO_writeTop_11] at hok
    refine lv_iload_n hx hb d_MO_writeTop_11 rfl (lv_at hl 1 rfl) ?_
    refine lv_bipush (v := (8 : Int32)) hx hb d_MO_writeTop_12 (by decide) ?_
    refine lv_icmp_ge (tgt := 55) hx hb d_MO_writeTop_14 (by decide) (fun c_14 => ?_) (fun c_14 => ?_)
    · have hres := it_t c_14 hres
      have hok := hok.1 c_14
      refine lv_aload_n hx hb d_MO_writeTop_55 rfl (lv_at hl 0 rfl) ?_
      obtain ⟨hk_56, hok⟩ := hok
      refine go_iz (run_V hx hb hml hown ht hK hP hD (c_MO_finish hk_56) (cw_V ht km_MO_181 ki_MO_finish ks_MO_finish ini_MO kd_MO_finish kh_MO_finish ⟨Nat.le_of_ble_eq_true rfl, Nat.le_of_ble_eq_true rfl⟩ rfl rfl) (q0 := 0) (ci := 6) (As := []) (rest := []) rfl rfl rfl hl.1 rfl (Nat.le_of_ble_eq_true rfl) d_MO_writeTop_56 ⟨Nat.zero_le _, Nat.zero_le _⟩) hD hS hA (fun z_56 H locs hz_56 hP hD hS => ?_)
      have hres := bindc_eq hz_56 hres
      have hok := bindp_eq hz_56 hok
      have hP : va_P G.1 classes (cM G ad mrf msl mst men mnw z_56.2.1 z_56.2.2.1 z_56.2.2.2.1 mrs mdr mtb mrc z_56.2.2.2.2.1 z_56.2.2.2.2.2.1 z_56.2.2.2.2.2.2.1 mve mrb mch mva mic mlb mrw mnb mlk mnk z_56.2.2.2.2.2.2.2) H := hP
      have hD : va_D A (cM G ad mrf msl mst men mnw z_56.2.1 z_56.2.2.1 z_56.2.2.2.1 mrs mdr mtb mrc z_56.2.2.2.2.1 z_56.2.2.2.2.2.1 z_56.2.2.2.2.2.2.1 mve mrb mch mva mic mlb mrw mnb mlk mnk z_56.2.2.2.2.2.2.2) := hD
      exact en_z (w1 := (fun u : Int32 × Int32 × Int32 × Int32 × (Nat → Int32) × (Nat → Int32) × (Nat → Int32) => (cM G ad mrf msl mst men mnw u.1 u.2.1 u.2.2.1 mrs mdr mtb mrc u.2.2.2.1 u.2.2.2.2.1 u.2.2.2.2.2.1 mve mrb mch mva mic mlb mrw mnb mlk mnk u.2.2.2.2.2.2))) (z_56.2.1, z_56.2.2.1, z_56.2.2.2.1, z_56.2.2.2.2.1, z_56.2.2.2.2.2.1, z_56.2.2.2.2.2.2.1, z_56.2.2.2.2.2.2.2) hx hb hr hlocks hK hP hD hS hres hok d_MO_writeTop_59
    · have hres := it_f c_14 hres
      have hok := hok.2 c_14
      refine lv_aload_n hx hb d_MO_writeTop_17 rfl (lv_at hl 0 rfl) ?_
      refine lv_bipush (v := (8 : Int32)) hx hb d_MO_writeTop_18 (by decide) ?_
      refine lv_iconst (v := (4 : Int32)) hx hb d_MO_writeTop_20 (by decide) ?_
      refine lv_iload_n hx hb d_MO_writeTop_21 rfl (lv_at hl 1 rfl) ?_
      refine lv_imul hx hb d_MO_writeTop_22 ?_
      refine lv_iadd hx hb d_MO_writeTop_23 ?_
      refine lv_aload_n hx hb d_MO_writeTop_24 rfl (lv_at hl 0 rfl) ?_
      refine va_get (D := G.1) (ci := 6) (C := R_MO) (T := F_MO) (N := 26) hx hb ht in_MO hown hK hP 0 rfl rfl 21 (by decide) (ht _ kf_MO_160) (fun _ h9 => h9) rfl d_MO_writeTop_25 ?_
      refine lv_iload_n hx hb d_MO_writeTop_28 rfl (lv_at hl 1 rfl) ?_
      refine lv_ishr hx hb d_MO_writeTop_29 ?_
      refine lv_iconst (v := (1 : Int32)) hx hb d_MO_writeTop_30 (by decide) ?_
      refine lv_iand hx hb d_MO_writeTop_31 ?_
      refine lv_iconst (v := (1 : Int32)) hx hb d_MO_writeTop_32 (by decide) ?_
      refine lv_icmp_ne (tgt := 45) hx hb d_MO_writeTop_33 (by decide) (fun c_33 => ?_) (fun c_33 => ?_)
      · have hres := it_f c_33 hres
        have hok := hok.2 c_33
        refine lv_iconst (v := (0 : Int32)) hx hb d_MO_writeTop_45 (by decide) ?_
        obtain ⟨hk_46, hok⟩ := hok
        refine go_vz (run_V hx hb hml hown ht hK hP hD (c_MO_putNumber hk_46) (cw_V ht km_MO_150 ki_MO_putNumber ks_MO_putNumber ini_MO kd_MO_putNumber kh_MO_putNumber ⟨Nat.le_of_ble_eq_true rfl, Nat.le_of_ble_eq_true rfl⟩ rfl rfl) (q0 := 0) (ci := 6) (As := [.int ((8 : Int32) + ((4 : Int32) * x1)), .int (0 : Int32)]) (rest := []) rfl rfl rfl hl.1 rfl (Nat.le_of_ble_eq_true rfl) d_MO_writeTop_46 ⟨Nat.zero_le _, Nat.zero_le _⟩) hD hS hA (fun z_46 H locs hz_46 hP hD hS => ?_)
        have hres := bindc_eq hz_46 hres
        have hok := bindp_eq hz_46 hok
        have hP : va_P G.1 classes (cM G ad mrf msl mst men mnw mdn mpw mwr mrs mdr mtb mrc mnx mro mit mve mrb mch mva mic mlb mrw mnb mlk mnk z_46) H := hP
        have hD : va_D A (cM G ad mrf msl mst men mnw mdn mpw mwr mrs mdr mtb mrc mnx mro mit mve mrb mch mva mic mlb mrw mnb mlk mnk z_46) := hD
        refine lv_iinc (v := x1 + (1 : Int32)) (lv' := [(1, .int (x1 + (1 : Int32))), (0, .ref (ad 0))]) hx hb d_MO_writeTop_49 hl (k := 1) rfl rfl (by decide) rfl (fun ls hl => ?_)
        refine lv_goto (tgt := 11) hx hb d_MO_writeTop_52 (by decide) ?_
        exact ih (x1 + (1 : Int32)) mdn mpw mwr mnx mro mit z_46 _ _ _ hok hres hP hD hS (lv_sub hl [1, 0] rfl)
      · have hres := it_t c_33 hres
        have hok := hok.1 c_33
        refine lv_aload_n hx hb d_MO_writeTop_36 rfl (lv_at hl 0 rfl) ?_
        refine va_get (D := G.1) (ci := 6) (C := R_MO) (T := F_MO) (N := 26) hx hb ht in_MO hown hK hP 0 rfl rfl 22 (by decide) (ht _ kf_MO_48) (fun _ h9 => h9) rfl d_MO_writeTop_37 ?_
        refine lv_iload_n hx hb d_MO_writeTop_40 rfl (lv_at hl 1 rfl) ?_
        obtain ⟨hi_41, hok⟩ := hok
        refine va_iald hx hb hK hP 12 0 rfl rfl hi_41 d_MO_writeTop_41 ?_
        refine lv_goto (tgt := 46) hx hb d_MO_writeTop_42 (by decide) ?_
        obtain ⟨hk_46, hok⟩ := hok
        refine go_vz (run_V hx hb hml hown ht hK hP hD (c_MO_putNumber hk_46) (cw_V ht km_MO_150 ki_MO_putNumber ks_MO_putNumber ini_MO kd_MO_putNumber kh_MO_putNumber ⟨Nat.le_of_ble_eq_true rfl, Nat.le_of_ble_eq_true rfl⟩ rfl rfl) (q0 := 0) (ci := 6) (As := [.int ((8 : Int32) + ((4 : Int32) * x1)), .int (mnk x1.toNatClampNeg)]) (rest := []) rfl rfl rfl hl.1 rfl (Nat.le_of_ble_eq_true rfl) d_MO_writeTop_46 ⟨Nat.zero_le _, Nat.zero_le _⟩) hD hS hA (fun z_46 H locs hz_46 hP hD hS => ?_)
        have hres := bindc_eq hz_46 hres
        have hok := bindp_eq hz_46 hok
        have hP : va_P G.1 classes (cM G ad mrf msl mst men mnw mdn mpw mwr mrs mdr mtb mrc mnx mro mit mve mrb mch mva mic mlb mrw mnb mlk mnk z_46) H := hP
        have hD : va_D A (cM G ad mrf msl mst men mnw mdn mpw mwr mrs mdr mtb mrc mnx mro mit mve mrb mch mva mic mlb mrw mnb mlk mnk z_46) := hD
        refine lv_iinc (v := x1 + (1 : Int32)) (lv' := [(1, .int (x1 + (1 : Int32))), (0, .ref (ad 0))]) hx hb d_MO_writeTop_49 hl (k := 1) rfl rfl (by decide) rfl (fun ls hl => ?_)
        refine lv_goto (tgt := 11) hx hb d_MO_writeTop_52 (by decide) ?_
        exact ih (x1 + (1 : Int32)) mdn mpw mwr mnx mro mit z_46 _ _ _ hok hres hP hD hS (lv_sub hl [1, 0] rfl)
def f_MO_writeTop  (msl : Int32) (mnw : Int32) (mdn : Int32) (mpw : Int32) (mwr : Int32) (mtb : Int32) (mnx : Int32) (mro : (Nat → Int32)) (mit : (Nat → Int32)) (mnk : (Nat → Int32)) (mmd : (Nat → Int32)) : Int32 × Int32 × Int32 × Int32 × Int32 × (Nat → Int32) × (Nat → Int32) × (Nat → Int32) := bindc (f_MO_begin (3 : Int32) mtb mnw mnx mmd) (fun z_6 => f_MO_writeTop_11 1024 (0 : Int32) msl mnw mdn mpw mwr mtb mnx mro mit mnk z_6)
def ok_MO_writeTop  (msl : Int32) (mnw : Int32) (mdn : Int32) (mpw : Int32) (mwr : Int32) (mtb : Int32) (mnx : Int32) (mro : (Nat → Int32)) (mit : (Nat → Int32)) (mnk : (Nat → Int32)) (mmd : (Nat → Int32)) : Prop := ok_MO_begin (3 : Int32) mtb mnw mnx mmd ∧ bindp (f_MO_begin (3 : Int32) mtb mnw mnx mmd) (fun z_6 => ok_MO_writeTop_11  1024 (0 : Int32) msl mnw mdn mpw mwr mtb mnx mro mit mnk z_6)
set_option maxHeartbeats 4000000 in
set_option maxRecDepth 100000 in
theorem c_MO_writeTop {l : Launch} {G : GG} {ad : Nat → Nat} {sz : Nat} {mrf : Int32} {msl : Int32} {mst : Int32} {men : Int32} {mnw : Int32} {mdn : Int32} {mpw : Int32} {mwr : Int32} {mrs : Int32} {mdr : Int32} {mtb : Int32} {mrc : Int32} {mnx : Int32} {mro : (Nat → Int32)} {mit : (Nat → Int32)} {mve : (Nat → Int32)} {mrb : (Nat → Int32)} {mch : (Nat → Int32)} {mva : (Nat → Int32)} {mic : (Nat → Int32)} {mlb : (Nat → Int32)} {mrw : (Nat → Int32)} {mnb : (Nat → Int32)} {mlk : (Nat → Int32)} {mnk : (Nat → Int32)} {mmd : (Nat → Int32)}  (hok : ok_MO_writeTop msl mnw mdn mpw mwr mtb mnx mro mit mnk mmd) : CtI l y_MO_writeTop b_MO_writeTop 2 (some .boolean) rm_MO_writeTop G (cM G ad mrf msl mst men mnw mdn mpw mwr mrs mdr mtb mrc mnx mro mit mve mrb mch mva mic mlb mrw mnb mlk mnk mmd) sz [.ref (ad 0)] (eqP (f_MO_writeTop msl mnw mdn mpw mwr mtb mnx mro mit mnk mmd)) (fun u : Int32 × Int32 × Int32 × Int32 × (Nat → Int32) × (Nat → Int32) × (Nat → Int32) => (cM G ad mrf msl mst men mnw u.1 u.2.1 u.2.2.1 mrs mdr mtb mrc u.2.2.2.1 u.2.2.2.2.1 u.2.2.2.2.2.1 mve mrb mch mva mic mlb mrw mnb mlk mnk u.2.2.2.2.2.2)) := by
  generalize hres : f_MO_writeTop msl mnw mdn mpw mwr mtb mnx mro mit mnk mmd = res
  refine Met_of (Qc := fun A => va_Qi (eqP res) (Wb G A (fun u : Int32 × Int32 × Int32 × Int32 × (Nat → Int32) × (Nat → Int32) × (Nat → Int32) => (cM G ad mrf msl mst men mnw u.1 u.2.1 u.2.2.1 mrs mdr mtb mrc u.2.2.2.1 u.2.2.2.2.1 u.2.2.2.2.2.1 mve mrb mch mva mic mlb mrw mnb mlk mnk u.2.2.2.2.2.2))) A) (by decide) (Nat.le_of_ble_eq_true rfl) ?_
  intro p e s m below meth c hadm hx hb hr hml hown hlocks ht hK A hA hP hD hS ls hl
  have hC : Cx p l e s m (([.ref (ad 0)] : List Value)).toArray meth c y_MO_writeTop b_MO_writeTop 2 (some .boolean) "BookTreesModel" G A := ⟨hx, hb, hr, hml, hown, hlocks, ht, hK, hA⟩
  have hown : s.vm.findClass "BookTreesModel" = some m.cls := hown
  have hl : lv_has ls 2 [(0, .ref (ad 0))] := hl
  rw [f_MO_writeTop] at hres
  rw [ok_MO_writeTop] at hok
  refine lv_aload_n hx hb d_MO_writeTop_0 rfl (lv_at hl 0 rfl) ?_
  refine lv_iconst (v := (3 : Int32)) hx hb d_MO_writeTop_1 (by decide) ?_
  refine lv_aload_n hx hb d_MO_writeTop_2 rfl (lv_at hl 0 rfl) ?_
  refine va_get (D := G.1) (ci := 6) (C := R_MO) (T := F_MO) (N := 26) hx hb ht in_MO hown hK hP 0 rfl rfl 21 (by decide) (ht _ kf_MO_160) (fun _ h9 => h9) rfl d_MO_writeTop_3 ?_
  obtain ⟨hk_6, hok⟩ := hok
  refine go_vz (run_V hx hb hml hown ht hK hP hD (c_MO_begin hk_6) (cw_V ht km_MO_178 ki_MO_begin ks_MO_begin ini_MO kd_MO_begin kh_MO_begin ⟨Nat.le_of_ble_eq_true rfl, Nat.le_of_ble_eq_true rfl⟩ rfl rfl) (q0 := 0) (ci := 6) (As := [.int (3 : Int32), .int mtb]) (rest := []) rfl rfl rfl hl.1 rfl (Nat.le_of_ble_eq_true rfl) d_MO_writeTop_6 ⟨Nat.zero_le _, Nat.zero_le _⟩) hD hS hA (fun z_6 H locs hz_6 hP hD hS => ?_)
  have hres := bindc_eq hz_6 hres
  have hok := bindp_eq hz_6 hok
  have hP : va_P G.1 classes (cM G ad mrf msl mst men mnw mdn mpw mwr mrs mdr mtb mrc mnx mro mit mve mrb mch mva mic mlb mrw mnb mlk mnk z_6) H := hP
  have hD : va_D A (cM G ad mrf msl mst men mnw mdn mpw mwr mrs mdr mtb mrc mnx mro mit mve mrb mch mva mic mlb mrw mnb mlk mnk z_6) := hD
  refine lv_iconst (v := (0 : Int32)) hx hb d_MO_writeTop_9 (by decide) ?_
  refine lv_istore_n (lv' := [(1, .int (0 : Int32)), (0, .ref (ad 0))]) hx hb d_MO_writeTop_10 rfl hl (by decide) rfl (fun ls hl => ?_)
  exact w_MO_writeTop_11 hC 1024 (0 : Int32) mdn mpw mwr mnx mro mit z_6 _ _ _ hok hres hP hD hS (lv_sub hl [1, 0] rfl)
/-! ===== BookTreesModel.writeRoot(I)Z ===== -/
abbrev rm_MO_writeRoot : Room := { frames := 2, cells := 0, slots := 0, locals := 49 }
def f_MO_writeRoot_21 (x1 : Int32) (x2 : Int32) (y1 : Int32) (y2 : Int32) (msl : Int32) (mnw : Int32) (mdn : Int32) (mpw : Int32) (mwr : Int32) (mtb : Int32) (mrc : Int32) (mnx : Int32) (mro : (Nat → Int32)) (mit : (Nat → Int32)) (mmd : (Nat → Int32)) : Int32 × Int32 × Int32 × Int32 × Int32 × (Nat → Int32) × (Nat → Int32) × (Nat → Int32) := bindc (f_MO_begin y1 y2 mnw mnx mmd) (fun z_21 => if mtb = 0 then bindc (f_MO_putNumber (8 : Int32) (0 : Int32) z_21) (fun z_39 => bindc (f_MO_putNumber (12 : Int32) mrc z_39) (fun z_49 => bindc (f_MO_putNumber (16 : Int32) x1 z_49) (fun z_56 => bindc (f_MO_finish msl mdn mpw mwr mnx mro mit z_56) (fun z_60 => (z_60.1, (z_60.2.1, z_60.2.2.1, z_60.2.2.2.1, z_60.2.2.2.2.1, z_60.2.2.2.2.2.1, z_60.2.2.2.2.2.2.1, z_60.2.2.2.2.2.2.2)))))) else bindc (f_MO_putNumber (8 : Int32) x2 z_21) (fun z_39 => bindc (f_MO_putNumber (12 : Int32) mrc z_39) (fun z_49 => bindc (f_MO_putNumber (16 : Int32) x1 z_49) (fun z_56 => bindc (f_MO_finish msl mdn mpw mwr mnx mro mit z_56) (fun z_60 => (z_60.1, (z_60.2.1, z_60.2.2.1, z_60.2.2.2.1, z_60.2.2.2.2.1, z_60.2.2.2.2.2.1, z_60.2.2.2.2.2.2.1, z_60.2.2.2.2.2.2.2)))))))
def ok_MO_writeRoot_21 (x1 : Int32) (x2 : Int32) (y1 : Int32) (y2 : Int32) (msl : Int32) (mnw : Int32) (mdn : Int32) (mpw : Int32) (mwr : Int32) (mtb : Int32) (mrc : Int32) (mnx : Int32) (mro : (Nat → Int32)) (mit : (Nat → Int32)) (mmd : (Nat → Int32)) : Prop := ok_MO_begin y1 y2 mnw mnx mmd ∧ bindp (f_MO_begin y1 y2 mnw mnx mmd) (fun z_21 => (mtb = 0 → ok_MO_putNumber (8 : Int32) (0 : Int32) z_21 ∧ bindp (f_MO_putNumber (8 : Int32) (0 : Int32) z_21) (fun z_39 => ok_MO_putNumber (12 : Int32) mrc z_39 ∧ bindp (f_MO_putNumber (12 : Int32) mrc z_39) (fun z_49 => ok_MO_putNumber (16 : Int32) x1 z_49 ∧ bindp (f_MO_putNumber (16 : Int32) x1 z_49) (fun z_56 => ok_MO_finish msl mdn mpw mwr mnx mro mit z_56 ∧ bindp (f_MO_finish msl mdn mpw mwr mnx mro mit z_56) (fun z_60 => isB z_60.1))))) ∧ (¬ mtb = 0 → ok_MO_putNumber (8 : Int32) x2 z_21 ∧ bindp (f_MO_putNumber (8 : Int32) x2 z_21) (fun z_39 => ok_MO_putNumber (12 : Int32) mrc z_39 ∧ bindp (f_MO_putNumber (12 : Int32) mrc z_39) (fun z_49 => ok_MO_putNumber (16 : Int32) x1 z_49 ∧ bindp (f_MO_putNumber (16 : Int32) x1 z_49) (fun z_56 => ok_MO_finish msl mdn mpw mwr mnx mro mit z_56 ∧ bindp (f_MO_finish msl mdn mpw mwr mnx mro mit z_56) (fun z_60 => isB z_60.1))))))
set_option maxHeartbeats 4000000 in
set_option maxRecDepth 100000 in
theorem w_MO_writeRoot_21 {p : Program} {l : Launch} {e : Env} {s : State} {m : MethodId} {args : Array Value} {below : List Frame} {meth : Method} {c : Code} {A : Nat → Prop} {G : GG} {ad : Nat → Nat} {mrf : Int32} {msl : Int32} {mst : Int32} {men : Int32} {mnw : Int32} {mrs : Int32} {mdr : Int32} {mtb : Int32} {mrc : Int32} {mve : (Nat → Int32)} {mrb : (Nat → Int32)} {mch : (Nat → Int32)} {mva : (Nat → Int32)} {mic : (Nat → Int32)} {mlb : (Nat → Int32)} {mrw : (Nat → Int32)} {mnb : (Nat → Int32)} {mlk : (Nat → Int32)} {mnk : (Nat → Int32)} {res : Int32 × Int32 × Int32 × Int32 × Int32 × (Nat → Int32) × (Nat → Int32) × (Nat → Int32)} (hC : Cx p l e s m args meth c y_MO_writeRoot b_MO_writeRoot 3 (some .boolean) "BookTreesModel" G A) : ∀ (x1 : Int32) (x2 : Int32) (y1 : Int32) (y2 : Int32) (mdn : Int32) (mpw : Int32) (mwr : Int32) (mnx : Int32) (mro : (Nat → Int32)) (mit : (Nat → Int32)) (mmd : (Nat → Int32)) (H : Heap) (locs : List Loc) (ls : Array Slot), ok_MO_writeRoot_21 x1 x2 y1 y2 msl mnw mdn mpw mwr mtb mrc mnx mro mit mmd → f_MO_writeRoot_21 x1 x2 y1 y2 msl mnw mdn mpw mwr mtb mrc mnx mro mit mmd = res → va_P G.1 classes (cM G ad mrf msl mst men mnw mdn mpw mwr mrs mdr mtb mrc mnx mro mit mve mrb mch mva mic mlb mrw mnb mlk mnk mmd) H → va_D A (cM G ad mrf msl mst men mnw mdn mpw mwr mrs mdr mtb mrc mnx mro mit mve mrb mch mva mic mlb mrw mnb mlk mnk mmd) → va_S A s.heap H locs → lv_has ls 3 [(0, .ref (ad 0)), (1, .int x1), (2, .int x2)] → W p l e rm_MO_writeRoot s m args below meth c H locs 0 0 (MQ below (va_Qi (eqP res) (Wb G A (fun u : Int32 × Int32 × Int32 × Int32 × (Nat → Int32) × (Nat → Int32) × (Nat → Int32) => (cM G ad mrf msl mst men mnw u.1 u.2.1 u.2.2.1 mrs mdr mtb mrc u.2.2.2.1 u.2.2.2.2.1 u.2.2.2.2.2.1 mve mrb mch mva mic mlb mrw mnb mlk mnk u.2.2.2.2.2.2))) A) args s 0 0 A) (F0 m 21 ls [.int y2, .int y1, .ref (ad 0)]) := by
  obtain ⟨hx, hb, hr, hml, hown, hlocks, ht, hK, hA⟩ := id hC
  intro x1 x2 y1 y2 mdn mpw mwr mnx mro mit mmd H locs ls hok hres hP hD hS hl
  rw [f_MO_writeRoot_21] at hres
  rw [ok_MO_writeRoot_21] at hok
  obtain ⟨hk_21, hok⟩ := hok
  refine go_vz (run_V hx hb hml hown ht hK hP hD (c_MO_begin hk_21) (cw_V ht km_MO_178 ki_MO_begin ks_MO_begin ini_MO kd_MO_begin kh_MO_begin ⟨Nat.le_of_ble_eq_true rfl, Nat.le_of_ble_eq_true rfl⟩ rfl rfl) (q0 := 0) (ci := 6) (As := [.int y1, .int y2]) (rest := []) rfl rfl rfl hl.1 rfl (Nat.le_of_ble_eq_true rfl) d_MO_writeRoot_21 ⟨Nat.zero_le _, Nat.zero_le _⟩) hD hS hA (fun z_21 H locs hz_21 hP hD hS => ?_)
  have hres := bindc_eq hz_21 hres
  have hok := bindp_eq hz_21 hok
  have hP : va_P G.1 classes (cM G ad mrf msl mst men mnw mdn mpw mwr mrs mdr mtb mrc mnx mro mit mve mrb mch mva mic mlb mrw mnb mlk mnk z_21) H := hP
  have hD : va_D A (cM G ad mrf msl mst men mnw mdn mpw mwr mrs mdr mtb mrc mnx mro mit mve mrb mch mva mic mlb mrw mnb mlk mnk z_21) := hD
  refine lv_aload_n hx hb d_MO_writeRoot_24 rfl (lv_at hl 0 rfl) ?_
  refine lv_bipush (v := (8 : Int32)) hx hb d_MO_writeRoot_25 (by decide) ?_
  refine lv_aload_n hx hb d_MO_writeRoot_27 rfl (lv_at hl 0 rfl) ?_
  refine va_get (D := G.1) (ci := 6) (C := R_MO) (T := F_MO) (N := 26) hx hb ht in_MO hown hK hP 0 rfl rfl 21 (by decide) (ht _ kf_MO_160) (fun _ h9 => h9) rfl d_MO_writeRoot_28 ?_
  refine lv_if_eq (tgt := 38) hx hb d_MO_writeRoot_31 (by decide) (fun c_31 => ?_) (fun c_31 => ?_)
  · have hres := it_t c_31 hres
    have hok := hok.1 c_31
    refine lv_iconst (v := (0 : Int32)) hx hb d_MO_writeRoot_38 (by decide) ?_
    obtain ⟨hk_39, hok⟩ := hok
    refine go_vz (run_V hx hb hml hown ht hK hP hD (c_MO_putNumber hk_39) (cw_V ht km_MO_150 ki_MO_putNumber ks_MO_putNumber ini_MO kd_MO_putNumber kh_MO_putNumber ⟨Nat.le_of_ble_eq_true rfl, Nat.le_of_ble_eq_true rfl⟩ rfl rfl) (q0 := 0) (ci := 6) (As := [.int (8 : Int32), .int (0 : Int32)]) (rest := []) rfl rfl rfl hl.1 rfl (Nat.le_of_ble_eq_true rfl) d_MO_writeRoot_39 ⟨Nat.zero_le _, Nat.zero_le _⟩) hD hS hA (fun z_39 H locs hz_39 hP hD hS => ?_)
    have hres := bindc_eq hz_39 hres
    have hok := bindp_eq hz_39 hok
    have hP : va_P G.1 classes (cM G ad mrf msl mst men mnw mdn mpw mwr mrs mdr mtb mrc mnx mro mit mve mrb mch mva mic mlb mrw mnb mlk mnk z_39) H := hP
    have hD : va_D A (cM G ad mrf msl mst men mnw mdn mpw mwr mrs mdr mtb mrc mnx mro mit mve mrb mch mva mic mlb mrw mnb mlk mnk z_39) := hD
    refine lv_aload_n hx hb d_MO_writeRoot_42 rfl (lv_at hl 0 rfl) ?_
    refine lv_bipush (v := (12 : Int32)) hx hb d_MO_writeRoot_43 (by decide) ?_
    refine lv_aload_n hx hb d_MO_writeRoot_45 rfl (lv_at hl 0 rfl) ?_
    refine va_get (D := G.1) (ci := 6) (C := R_MO) (T := F_MO) (N := 26) hx hb ht in_MO hown hK hP 0 rfl rfl 23 (by decide) (ht _ kf_MO_166) (fun _ h9 => h9) rfl d_MO_writeRoot_46 ?_
    obtain ⟨hk_49, hok⟩ := hok
    refine go_vz (run_V hx hb hml hown ht hK hP hD (c_MO_putNumber hk_49) (cw_V ht km_MO_150 ki_MO_putNumber ks_MO_putNumber ini_MO kd_MO_putNumber kh_MO_putNumber ⟨Nat.le_of_ble_eq_true rfl, Nat.le_of_ble_eq_true rfl⟩ rfl rfl) (q0 := 0) (ci := 6) (As := [.int (12 : Int32), .int mrc]) (rest := []) rfl rfl rfl hl.1 rfl (Nat.le_of_ble_eq_true rfl) d_MO_writeRoot_49 ⟨Nat.zero_le _, Nat.zero_le _⟩) hD hS hA (fun z_49 H locs hz_49 hP hD hS => ?_)
    have hres := bindc_eq hz_49 hres
    have hok := bindp_eq hz_49 hok
    have hP : va_P G.1 classes (cM G ad mrf msl mst men mnw mdn mpw mwr mrs mdr mtb mrc mnx mro mit mve mrb mch mva mic mlb mrw mnb mlk mnk z_49) H := hP
    have hD : va_D A (cM G ad mrf msl mst men mnw mdn mpw mwr mrs mdr mtb mrc mnx mro mit mve mrb mch mva mic mlb mrw mnb mlk mnk z_49) := hD
    refine lv_aload_n hx hb d_MO_writeRoot_52 rfl (lv_at hl 0 rfl) ?_
    refine lv_bipush (v := (16 : Int32)) hx hb d_MO_writeRoot_53 (by decide) ?_
    refine lv_iload_n hx hb d_MO_writeRoot_55 rfl (lv_at hl 1 rfl) ?_
    obtain ⟨hk_56, hok⟩ := hok
    refine go_vz (run_V hx hb hml hown ht hK hP hD (c_MO_putNumber hk_56) (cw_V ht km_MO_150 ki_MO_putNumber ks_MO_putNumber ini_MO kd_MO_putNumber kh_MO_putNumber ⟨Nat.le_of_ble_eq_true rfl, Nat.le_of_ble_eq_true rfl⟩ rfl rfl) (q0 := 0) (ci := 6) (As := [.int (16 : Int32), .int x1]) (rest := []) rfl rfl rfl hl.1 rfl (Nat.le_of_ble_eq_true rfl) d_MO_writeRoot_56 ⟨Nat.zero_le _, Nat.zero_le _⟩) hD hS hA (fun z_56 H locs hz_56 hP hD hS => ?_)
    have hres := bindc_eq hz_56 hres
    have hok := bindp_eq hz_56 hok
    have hP : va_P G.1 classes (cM G ad mrf msl mst men mnw mdn mpw mwr mrs mdr mtb mrc mnx mro mit mve mrb mch mva mic mlb mrw mnb mlk mnk z_56) H := hP
    have hD : va_D A (cM G ad mrf msl mst men mnw mdn mpw mwr mrs mdr mtb mrc mnx mro mit mve mrb mch mva mic mlb mrw mnb mlk mnk z_56) := hD
    refine lv_aload_n hx hb d_MO_writeRoot_59 rfl (lv_at hl 0 rfl) ?_
    obtain ⟨hk_60, hok⟩ := hok
    refine go_iz (run_V hx hb hml hown ht hK hP hD (c_MO_finish hk_60) (cw_V ht km_MO_181 ki_MO_finish ks_MO_finish ini_MO kd_MO_finish kh_MO_finish ⟨Nat.le_of_ble_eq_true rfl, Nat.le_of_ble_eq_true rfl⟩ rfl rfl) (q0 := 0) (ci := 6) (As := []) (rest := []) rfl rfl rfl hl.1 rfl (Nat.le_of_ble_eq_true rfl) d_MO_writeRoot_60 ⟨Nat.zero_le _, Nat.zero_le _⟩) hD hS hA (fun z_60 H locs hz_60 hP hD hS => ?_)
    have hres := bindc_eq hz_60 hres
    have hok := bindp_eq hz_60 hok
    have hP : va_P G.1 classes (cM G ad mrf msl mst men mnw z_60.2.1 z_60.2.2.1 z_60.2.2.2.1 mrs mdr mtb mrc z_60.2.2.2.2.1 z_60.2.2.2.2.2.1 z_60.2.2.2.2.2.2.1 mve mrb mch mva mic mlb mrw mnb mlk mnk z_60.2.2.2.2.2.2.2) H := hP
    have hD : va_D A (cM G ad mrf msl mst men mnw z_60.2.1 z_60.2.2.1 z_60.2.2.2.1 mrs mdr mtb mrc z_60.2.2.2.2.1 z_60.2.2.2.2.2.1 z_60.2.2.2.2.2.2.1 mve mrb mch mva mic mlb mrw mnb mlk mnk z_60.2.2.2.2.2.2.2) := hD
    exact en_z (w1 := (fun u : Int32 × Int32 × Int32 × Int32 × (Nat → Int32) × (Nat → Int32) × (Nat → Int32) => (cM G ad mrf msl mst men mnw u.1 u.2.1 u.2.2.1 mrs mdr mtb mrc u.2.2.2.1 u.2.2.2.2.1 u.2.2.2.2.2.1 mve mrb mch mva mic mlb mrw mnb mlk mnk u.2.2.2.2.2.2))) (z_60.2.1, z_60.2.2.1, z_60.2.2.2.1, z_60.2.2.2.2.1, z_60.2.2.2.2.2.1, z_60.2.2.2.2.2.2.1, z_60.2.2.2.2.2.2.2) hx hb hr hlocks hK hP hD hS hres hok d_MO_writeRoot_63
  · have hres := it_f c_31 hres
    have hok := hok.2 c_31
    refine lv_iload_n hx hb d_MO_writeRoot_34 rfl (lv_at hl 2 rfl) ?_
    refine lv_goto (tgt := 39) hx hb d_MO_writeRoot_35 (by decide) ?_
    obtain ⟨hk_39, hok⟩ := hok
    refine go_vz (run_V hx hb hml hown ht hK hP hD (c_MO_putNumber hk_39) (cw_V ht km_MO_150 ki_MO_putNumber ks_MO_putNumber ini_MO kd_MO_putNumber kh_MO_putNumber ⟨Nat.le_of_ble_eq_true rfl, Nat.le_of_ble_eq_true rfl⟩ rfl rfl) (q0 := 0) (ci := 6) (As := [.int (8 : Int32), .int x2]) (rest := []) rfl rfl rfl hl.1 rfl (Nat.le_of_ble_eq_true rfl) d_MO_writeRoot_39 ⟨Nat.zero_le _, Nat.zero_le _⟩) hD hS hA (fun z_39 H locs hz_39 hP hD hS => ?_)
    have hres := bindc_eq hz_39 hres
    have hok := bindp_eq hz_39 hok
    have hP : va_P G.1 classes (cM G ad mrf msl mst men mnw mdn mpw mwr mrs mdr mtb mrc mnx mro mit mve mrb mch mva mic mlb mrw mnb mlk mnk z_39) H := hP
    have hD : va_D A (cM G ad mrf msl mst men mnw mdn mpw mwr mrs mdr mtb mrc mnx mro mit mve mrb mch mva mic mlb mrw mnb mlk mnk z_39) := hD
    refine lv_aload_n hx hb d_MO_writeRoot_42 rfl (lv_at hl 0 rfl) ?_
    refine lv_bipush (v := (12 : Int32)) hx hb d_MO_writeRoot_43 (by decide) ?_
    refine lv_aload_n hx hb d_MO_writeRoot_45 rfl (lv_at hl 0 rfl) ?_
    refine va_get (D := G.1) (ci := 6) (C := R_MO) (T := F_MO) (N := 26) hx hb ht in_MO hown hK hP 0 rfl rfl 23 (by decide) (ht _ kf_MO_166) (fun _ h9 => h9) rfl d_MO_writeRoot_46 ?_
    obtain ⟨hk_49, hok⟩ := hok
    refine go_vz (run_V hx hb hml hown ht hK hP hD (c_MO_putNumber hk_49) (cw_V ht km_MO_150 ki_MO_putNumber ks_MO_putNumber ini_MO kd_MO_putNumber kh_MO_putNumber ⟨Nat.le_of_ble_eq_true rfl, Nat.le_of_ble_eq_true rfl⟩ rfl rfl) (q0 := 0) (ci := 6) (As := [.int (12 : Int32), .int mrc]) (rest := []) rfl rfl rfl hl.1 rfl (Nat.le_of_ble_eq_true rfl) d_MO_writeRoot_49 ⟨Nat.zero_le _, Nat.zero_le _⟩) hD hS hA (fun z_49 H locs hz_49 hP hD hS => ?_)
    have hres := bindc_eq hz_49 hres
    have hok := bindp_eq hz_49 hok
    have hP : va_P G.1 classes (cM G ad mrf msl mst men mnw mdn mpw mwr mrs mdr mtb mrc mnx mro mit mve mrb mch mva mic mlb mrw mnb mlk mnk z_49) H := hP
    have hD : va_D A (cM G ad mrf msl mst men mnw mdn mpw mwr mrs mdr mtb mrc mnx mro mit mve mrb mch mva mic mlb mrw mnb mlk mnk z_49) := hD
    refine lv_aload_n hx hb d_MO_writeRoot_52 rfl (lv_at hl 0 rfl) ?_
    refine lv_bipush (v := (16 : Int32)) hx hb d_MO_writeRoot_53 (by decide) ?_
    refine lv_iload_n hx hb d_MO_writeRoot_55 rfl (lv_at hl 1 rfl) ?_
    obtain ⟨hk_56, hok⟩ := hok
    refine go_vz (run_V hx hb hml hown ht hK hP hD (c_MO_putNumber hk_56) (cw_V ht km_MO_150 ki_MO_putNumber ks_MO_putNumber ini_MO kd_MO_putNumber kh_MO_putNumber ⟨Nat.le_of_ble_eq_true rfl, Nat.le_of_ble_eq_true rfl⟩ rfl rfl) (q0 := 0) (ci := 6) (As := [.int (16 : Int32), .int x1]) (rest := []) rfl rfl rfl hl.1 rfl (Nat.le_of_ble_eq_true rfl) d_MO_writeRoot_56 ⟨Nat.zero_le _, Nat.zero_le _⟩) hD hS hA (fun z_56 H locs hz_56 hP hD hS => ?_)
    have hres := bindc_eq hz_56 hres
    have hok := bindp_eq hz_56 hok
    have hP : va_P G.1 classes (cM G ad mrf msl mst men mnw mdn mpw mwr mrs mdr mtb mrc mnx mro mit mve mrb mch mva mic mlb mrw mnb mlk mnk z_56) H := hP
    have hD : va_D A (cM G ad mrf msl mst men mnw mdn mpw mwr mrs mdr mtb mrc mnx mro mit mve mrb mch mva mic mlb mrw mnb mlk mnk z_56) := hD
    refine lv_aload_n hx hb d_MO_writeRoot_59 rfl (lv_at hl 0 rfl) ?_
    obtain ⟨hk_60, hok⟩ := hok
    refine go_iz (run_V hx hb hml hown ht hK hP hD (c_MO_finish hk_60) (cw_V ht km_MO_181 ki_MO_finish ks_MO_finish ini_MO kd_MO_finish kh_MO_finish ⟨Nat.le_of_ble_eq_true rfl, Nat.le_of_ble_eq_true rfl⟩ rfl rfl) (q0 := 0) (ci := 6) (As := []) (rest := []) rfl rfl rfl hl.1 rfl (Nat.le_of_ble_eq_true rfl) d_MO_writeRoot_60 ⟨Nat.zero_le _, Nat.zero_le _⟩) hD hS hA (fun z_60 H locs hz_60 hP hD hS => ?_)
    have hres := bindc_eq hz_60 hres
    have hok := bindp_eq hz_60 hok
    have hP : va_P G.1 classes (cM G ad mrf msl mst men mnw z_60.2.1 z_60.2.2.1 z_60.2.2.2.1 mrs mdr mtb mrc z_60.2.2.2.2.1 z_60.2.2.2.2.2.1 z_60.2.2.2.2.2.2.1 mve mrb mch mva mic mlb mrw mnb mlk mnk z_60.2.2.2.2.2.2.2) H := hP
    have hD : va_D A (cM G ad mrf msl mst men mnw z_60.2.1 z_60.2.2.1 z_60.2.2.2.1 mrs mdr mtb mrc z_60.2.2.2.2.1 z_60.2.2.2.2.2.1 z_60.2.2.2.2.2.2.1 mve mrb mch mva mic mlb mrw mnb mlk mnk z_60.2.2.2.2.2.2.2) := hD
    exact en_z (w1 := (fun u : Int32 × Int32 × Int32 × Int32 × (Nat → Int32) × (Nat → Int32) × (Nat → Int32) => (cM G ad mrf msl mst men mnw u.1 u.2.1 u.2.2.1 mrs mdr mtb mrc u.2.2.2.1 u.2.2.2.2.1 u.2.2.2.2.2.1 mve mrb mch mva mic mlb mrw mnb mlk mnk u.2.2.2.2.2.2))) (z_60.2.1, z_60.2.2.1, z_60.2.2.2.1, z_60.2.2.2.2.1, z_60.2.2.2.2.2.1, z_60.2.2.2.2.2.2.1, z_60.2.2.2.2.2.2.2) hx hb hr hlocks hK hP hD hS hres hok d_MO_writeRoot_63
def f_MO_writeRoot (p0 : Int32) (msl : Int32) (mnw : Int32) (mdn : Int32) (mpw : Int32) (mwr : Int32) (mtb : Int32) (mrc : Int32) (mnx : Int32) (mro : (Nat → Int32)) (mit : (Nat → Int32)) (mmd : (Nat → Int32)) : Int32 × Int32 × Int32 × Int32 × Int32 × (Nat → Int32) × (Nat → Int32) × (Nat → Int32) := if mtb = 0 then f_MO_writeRoot_21 p0 (mnx - (1 : Int32)) (4 : Int32) (0 : Int32) msl mnw mdn mpw mwr mtb mrc mnx mro mit mmd else f_MO_writeRoot_21 p0 (mnx - (1 : Int32)) (4 : Int32) (1 : Int32) msl mnw mdn mpw mwr mtb mrc mnx mro mit mmd
def ok_MO_writeRoot (p0 : Int32) (msl : Int32) (mnw : Int32) (mdn : Int32) (mpw : Int32) (mwr : Int32) (mtb : Int32) (mrc : Int32) (mnx : Int32) (mro : (Nat → Int32)) (mit : (Nat → Int32)) (mmd : (Nat → Int32)) : Prop := (mtb = 0 → ok_MO_writeRoot_21  p0 (mnx - (1 : Int32)) (4 : Int32) (0 : Int32) msl mnw mdn mpw mwr mtb mrc mnx mro mit mmd) ∧ (¬ mtb = 0 → ok_MO_writeRoot_21  p0 (mnx - (1 : Int32)) (4 : Int32) (1 : Int32) msl mnw mdn mpw mwr mtb mrc mnx mro mit mmd)
set_option maxHeartbeats 4000000 in
set_option maxRecDepth 100000 in
theorem c_MO_writeRoot {l : Launch} {G : GG} {ad : Nat → Nat} {sz : Nat} {mrf : Int32} {msl : Int32} {mst : Int32} {men : Int32} {mnw : Int32} {mdn : Int32} {mpw : Int32} {mwr : Int32} {mrs : Int32} {mdr : Int32} {mtb : Int32} {mrc : Int32} {mnx : Int32} {mro : (Nat → Int32)} {mit : (Nat → Int32)} {mve : (Nat → Int32)} {mrb : (Nat → Int32)} {mch : (Nat → Int32)} {mva : (Nat → Int32)} {mic : (Nat → Int32)} {mlb : (Nat → Int32)} {mrw : (Nat → Int32)} {mnb : (Nat → Int32)} {mlk : (Nat → Int32)} {mnk : (Nat → Int32)} {mmd : (Nat → Int32)} {p0 : Int32} (hok : ok_MO_writeRoot p0 msl mnw mdn mpw mwr mtb mrc mnx mro mit mmd) : CtI l y_MO_writeRoot b_MO_writeRoot 3 (some .boolean) rm_MO_writeRoot G (cM G ad mrf msl mst men mnw mdn mpw mwr mrs mdr mtb mrc mnx mro mit mve mrb mch mva mic mlb mrw mnb mlk mnk mmd) sz [.ref (ad 0), .int p0] (eqP (f_MO_writeRoot p0 msl mnw mdn mpw mwr mtb mrc mnx mro mit mmd)) (fun u : Int32 × Int32 × Int32 × Int32 × (Nat → Int32) × (Nat → Int32) × (Nat → Int32) => (cM G ad mrf msl mst men mnw u.1 u.2.1 u.2.2.1 mrs mdr mtb mrc u.2.2.2.1 u.2.2.2.2.1 u.2.2.2.2.2.1 mve mrb mch mva mic mlb mrw mnb mlk mnk u.2.2.2.2.2.2)) := by
  generalize hres : f_MO_writeRoot p0 msl mnw mdn mpw mwr mtb mrc mnx mro mit mmd = res
  refine Met_of (Qc := fun A => va_Qi (eqP res) (Wb G A (fun u : Int32 × Int32 × Int32 × Int32 × (Nat → Int32) × (Nat → Int32) × (Nat → Int32) => (cM G ad mrf msl mst men mnw u.1 u.2.1 u.2.2.1 mrs mdr mtb mrc u.2.2.2.1 u.2.2.2.2.1 u.2.2.2.2.2.1 mve mrb mch mva mic mlb mrw mnb mlk mnk u.2.2.2.2.2.2))) A) (by decide) (Nat.le_of_ble_eq_true rfl) ?_
  intro p e s m below meth c hadm hx hb hr hml hown hlocks ht hK A hA hP hD hS ls hl
  have hC : Cx p l e s m (([.ref (ad 0), .int p0] : List Value)).toArray meth c y_MO_writeRoot b_MO_writeRoot 3 (some .boolean) "BookTreesModel" G A := ⟨hx, hb, hr, hml, hown, hlocks, ht, hK, hA⟩
  have hown : s.vm.findClass "BookTreesModel" = some m.cls := hown
  have hl : lv_has ls 3 [(0, .ref (ad 0)), (1, .int p0)] := hl
  rw [f_MO_writeRoot] at hres
  rw [ok_MO_writeRoot] at hok
  refine lv_aload_n hx hb d_MO_writeRoot_0 rfl (lv_at hl 0 rfl) ?_
  refine va_get (D := G.1) (ci := 6) (C := R_MO) (T := F_MO) (N := 26) hx hb ht in_MO hown hK hP 0 rfl rfl 25 (by decide) (ht _ kf_MO_154) (fun _ h9 => h9) rfl d_MO_writeRoot_1 ?_
  refine lv_iconst (v := (1 : Int32)) hx hb d_MO_writeRoot_4 (by decide) ?_
  refine lv_isub hx hb d_MO_writeRoot_5 ?_
  refine lv_istore_n (lv' := [(2, .int (mnx - (1 : Int32))), (0, .ref (ad 0)), (1, .int p0)]) hx hb d_MO_writeRoot_6 rfl hl (by decide) rfl (fun ls hl => ?_)
  refine lv_aload_n hx hb d_MO_writeRoot_7 rfl (lv_at hl 1 rfl) ?_
  refine lv_iconst (v := (4 : Int32)) hx hb d_MO_writeRoot_8 (by decide) ?_
  refine lv_aload_n hx hb d_MO_writeRoot_9 rfl (lv_at hl 1 rfl) ?_
  refine va_get (D := G.1) (ci := 6) (C := R_MO) (T := F_MO) (N := 26) hx hb ht in_MO hown hK hP 0 rfl rfl 21 (by decide) (ht _ kf_MO_160) (fun _ h9 => h9) rfl d_MO_writeRoot_10 ?_
  refine lv_if_eq (tgt := 20) hx hb d_MO_writeRoot_13 (by decide) (fun c_13 => ?_) (fun c_13 => ?_)
  · have hres := it_t c_13 hres
    have hok := hok.1 c_13
    refine lv_iconst (v := (0 : Int32)) hx hb d_MO_writeRoot_20 (by decide) ?_
    exact w_MO_writeRoot_21 hC p0 (mnx - (1 : Int32)) (4 : Int32) (0 : Int32) mdn mpw mwr mnx mro mit mmd _ _ _ hok hres hP hD hS (lv_sub hl [1, 2, 0] rfl)
  · have hres := it_f c_13 hres
    have hok := hok.2 c_13
    refine lv_iconst (v := (1 : Int32)) hx hb d_MO_writeRoot_16 (by decide) ?_
    refine lv_goto (tgt := 21) hx hb d_MO_writeRoot_17 (by decide) ?_
    exact w_MO_writeRoot_21 hC p0 (mnx - (1 : Int32)) (4 : Int32) (1 : Int32) mdn mpw mwr mnx mro mit mmd _ _ _ hok hres hP hD hS (lv_sub hl [1, 2, 0] rfl)
/-! ===== BookTreesModel.writeAll(I)I ===== -/
abbrev rm_MO_writeAll : Room := { frames := 3, cells := 0, slots := 0, locals := 71 }
def f_MO_writeAll_176 : Nat → Int32 → Int32 → Int32 → Int32 → Int32 → Int32 → Int32 → Int32 → Int32 → Int32 → Int32 → Int32 → Int32 → (Nat → Int32) → (Nat → Int32) → (Nat → Int32) → (Nat → Int32) → (Nat → Int32) → (Nat → Int32) → (Nat → Int32) → (Nat → Int32) → (Nat → Int32) → (Nat → Int32) → (Nat → Int32) → Int32 × Int32 × Int32 × Int32 × Int32 × Int32 × Int32 × Int32 × Int32 × (Nat → Int32) × (Nat → Int32) × (Nat → Int32) × (Nat → Int32) × (Nat → Int32) × (Nat → Int32) × (Nat → Int32)
  | 0, x3, x4, msl, mst, men, mnw, mdn, mpw, mwr, mrs, mtb, mrc, mnx, mro, mit, mve, mrb, mic, mlb, mrw, mnb, mlk, mnk, mmd => (0, (mst, men, mnw, mdn, mpw, mwr, mrs, mnx, mro, mit, mve, mrb, mlk, mnk, mmd))
  | n + 1, x3, x4, msl, mst, men, mnw, mdn, mpw, mwr, mrs, mtb, mrc, mnx, mro, mit, mve, mrb, mic, mlb, mrw, mnb, mlk, mnk, mmd => if mrs ≤ x4 then (mnw, (mst, men, mnw, mdn, mpw, mwr, x3 + (1 : Int32), mnx, mro, mit, upd mve x3.toNatClampNeg mnw, upd mrb x3.toNatClampNeg (men - (1 : Int32)), mlk, mnk, mmd)) else if (mrb x4.toNatClampNeg) < mst then f_MO_writeAll_176 n x3 (x4 + (1 : Int32)) msl mst men mnw mdn mpw mwr mrs mtb mrc mnx mro mit mve mrb mic mlb mrw mnb mlk mnk mmd else f_MO_writeAll_176 n (x3 + (1 : Int32)) (x4 + (1 : Int32)) msl mst men mnw mdn mpw mwr mrs mtb mrc mnx mro mit (upd mve x3.toNatClampNeg (mve x4.toNatClampNeg)) (upd mrb x3.toNatClampNeg (mrb x4.toNatClampNeg)) mic mlb mrw mnb mlk mnk mmd
def ok_MO_writeAll_176 : Nat → Int32 → Int32 → Int32 → Int32 → Int32 → Int32 → Int32 → Int32 → Int32 → Int32 → Int32 → Int32 → Int32 → (Nat → Int32) → (Nat → Int32) → (Nat → Int32) → (Nat → Int32) → (Nat → Int32) → (Nat → Int32) → (Nat → Int32) → (Nat → Int32) → (Nat → Int32) → (Nat → Int32) → (Nat → Int32) → Prop
  | 0, _, _, _, _, _, _, _, _, _, _, _, _, _, _, _, _, _, _, _, _, _, _, _, _ => False
  | n + 1, x3, x4, msl, mst, men, mnw, mdn, mpw, mwr, mrs, mtb, mrc, mnx, mro, mit, mve, mrb, mic, mlb, mrw, mnb, mlk, mnk, mmd => (mrs ≤ x4 → vp_in x3 4000 ∧ (vp_in x3 4000)) ∧ (¬ mrs ≤ x4 → vp_in x4 4000 ∧ (((mrb x4.toNatClampNeg) < mst → ok_MO_writeAll_176  n x3 (x4 + (1 : Int32)) msl mst men mnw mdn mpw mwr mrs mtb mrc mnx mro mit mve mrb mic mlb mrw mnb mlk mnk mmd) ∧ (¬ (mrb x4.toNatClampNeg) < mst → vp_in x4 4000 ∧ (vp_in x3 4000 ∧ (vp_in x4 4000 ∧ (vp_in x3 4000 ∧ (ok_MO_writeAll_176  n (x3 + (1 : Int32)) (x4 + (1 : Int32)) msl mst men mnw mdn mpw mwr mrs mtb mrc mnx mro mit (upd mve x3.toNatClampNeg (mve x4.toNatClampNeg)) (upd mrb x3.toNatClampNeg (mrb x4.toNatClampNeg)) mic mlb mrw mnb mlk mnk mmd)))))))
set_option maxHeartbeats 4000000 in
set_option maxRecDepth 100000 in
theorem w_MO_writeAll_176 {p : Program} {l : Launch} {e : Env} {s : State} {m : MethodId} {args : Array Value} {below : List Frame} {meth : Method} {c : Code} {A : Nat → Prop} {G : GG} {ad : Nat → Nat} {mrf : Int32} {msl : Int32} {mdr : Int32} {mtb : Int32} {mrc : Int32} {mch : (Nat → Int32)} {mva : (Nat → Int32)} {mic : (Nat → Int32)} {mlb : (Nat → Int32)} {mrw : (Nat → Int32)} {mnb : (Nat → Int32)} {res : Int32 × Int32 × Int32 × Int32 × Int32 × Int32 × Int32 × Int32 × Int32 × (Nat → Int32) × (Nat → Int32) × (Nat → Int32) × (Nat → Int32) × (Nat → Int32) × (Nat → Int32) × (Nat → Int32)} (hC : Cx p l e s m args meth c y_MO_writeAll b_MO_writeAll 5 (some .int) "BookTreesModel" G A) : ∀ (n : Nat) (x3 : Int32) (x4 : Int32) (mst : Int32) (men : Int32) (mnw : Int32) (mdn : Int32) (mpw : Int32) (mwr : Int32) (mrs : Int32) (mnx : Int32) (mro : (Nat → Int32)) (mit : (Nat → Int32)) (mve : (Nat → Int32)) (mrb : (Nat → Int32)) (mlk : (Nat → Int32)) (mnk : (Nat → Int32)) (mmd : (Nat → Int32)) (H : Heap) (locs : List Loc) (ls : Array Slot), ok_MO_writeAll_176 n x3 x4 msl mst men mnw mdn mpw mwr mrs mtb mrc mnx mro mit mve mrb mic mlb mrw mnb mlk mnk mmd → f_MO_writeAll_176 n x3 x4 msl mst men mnw mdn mpw mwr mrs mtb mrc mnx mro mit mve mrb mic mlb mrw mnb mlk mnk mmd = res → va_P G.1 classes (cM G ad mrf msl mst men mnw mdn mpw mwr mrs mdr mtb mrc mnx mro mit mve mrb mch mva mic mlb mrw mnb mlk mnk mmd) H → va_D A (cM G ad mrf msl mst men mnw mdn mpw mwr mrs mdr mtb mrc mnx mro mit mve mrb mch mva mic mlb mrw mnb mlk mnk mmd) → va_S A s.heap H locs → lv_has ls 5 [(0, .ref (ad 0)), (3, .int x3), (4, .int x4)] → W p l e rm_MO_writeAll s m args below meth c H locs 0 0 (MQ below (va_Qi (eqP res) (Wb G A (fun u : Int32 × Int32 × Int32 × Int32 × Int32 × Int32 × Int32 × Int32 × (Nat → Int32) × (Nat → Int32) × (Nat → Int32) × (Nat → Int32) × (Nat → Int32) × (Nat → Int32) × (Nat → Int32) => (cM G ad mrf msl u.1 u.2.1 u.2.2.1 u.2.2.2.1 u.2.2.2.2.1 u.2.2.2.2.2.1 u.2.2.2.2.2.2.1 mdr mtb mrc u.2.2.2.2.2.2.2.1 u.2.2.2.2.2.2.2.2.1 u.2.2.2.2.2.2.2.2.2.1 u.2.2.2.2.2.2.2.2.2.2.1 u.2.2.2.2.2.2.2.2.2.2.2.1 mch mva mic mlb mrw mnb u.2.2.2.2.2.2.2.2.2.2.2.2.1 u.2.2.2.2.2.2.2.2.2.2.2.2.2.1 u.2.2.2.2.2.2.2.2.2.2.2.2.2.2))) A) args s 0 0 A) (F0 m 176 ls []) := by
  obtain ⟨hx, hb, hr, hml, hown, hlocks, ht, hK, hA⟩ := id hC
  intro n
  induction n with
  | zero => intro x3 x4 mst men mnw mdn mpw mwr mrs mnx mro mit mve mrb mlk mnk mmd H locs ls hok; exact hok.elim
  | succ n ih =>
    intro x3 x4 mst men mnw mdn mpw mwr mrs mnx mro mit mve mrb mlk mnk mmd H locs ls hok hres hP hD hS hl
    rw [f_MO_writeAll_176] at hres
    rw [ok_MO_writeAll_176] at hok
    refine lv_iload hx hb d_MO_writeAll_176 (lv_at hl 2 rfl) ?_
    refine lv_aload_n hx hb d_MO_writeAll_178 rfl (lv_at hl 0 rfl) ?_
    refine va_get (D := G.1) (ci := 6) (C := R_MO) (T := F_MO) (N := 26) hx hb ht in_MO hown hK hP 0 rfl rfl 10 (by decide) (ht _ kf_MO_116) (fun _ h9 => h9) rfl d_MO_writeAll_179 ?_
    refine lv_icmp_ge (tgt := 234) hx hb d_MO_writeAll_182 (by decide) (fun c_182 => ?_) (fun c_182 => ?_)
    · have hres := it_t c_182 hres
      have hok := hok.1 c_182
      refine lv_aload_n hx hb d_MO_writeAll_234 rfl (lv_at hl 0 rfl) ?_
      refine va_get (D := G.1) (ci := 6) (C := R_MO) (T := F_MO) (N := 26) hx hb ht in_MO hown hK hP 0 rfl rfl 11 (by decide) (ht _ kf_MO_21) (fun _ h9 => h9) rfl d_MO_writeAll_235 ?_
      refine lv_iload_n hx hb d_MO_writeAll_238 rfl (lv_at hl 1 rfl) ?_
      refine lv_aload_n hx hb d_MO_writeAll_239 rfl (lv_at hl 0 rfl) ?_
      refine va_get (D := G.1) (ci := 6) (C := R_MO) (T := F_MO) (N := 26) hx hb ht in_MO hown hK hP 0 rfl rfl 6 (by decide) (ht _ kf_MO_137) (fun _ h9 => h9) rfl d_MO_writeAll_240 ?_
      obtain ⟨hi_243, hok⟩ := hok
      refine va_iast hx hb hK hP hD hS 3 0 rfl rfl hi_243 d_MO_writeAll_243 (fun H locs hP hD hS => ?_)
      have hP : va_P G.1 classes (cM G ad mrf msl mst men mnw mdn mpw mwr mrs mdr mtb mrc mnx mro mit (upd mve x3.toNatClampNeg mnw) mrb mch mva mic mlb mrw mnb mlk mnk mmd) H := hP
      have hD : va_D A (cM G ad mrf msl mst men mnw mdn mpw mwr mrs mdr mtb mrc mnx mro mit (upd mve x3.toNatClampNeg mnw) mrb mch mva mic mlb mrw mnb mlk mnk mmd) := hD
      refine lv_aload_n hx hb d_MO_writeAll_244 rfl (lv_at hl 0 rfl) ?_
      refine va_get (D := G.1) (ci := 6) (C := R_MO) (T := F_MO) (N := 26) hx hb ht in_MO hown hK hP 0 rfl rfl 12 (by decide) (ht _ kf_MO_24) (fun _ h9 => h9) rfl d_MO_writeAll_245 ?_
      refine lv_iload_n hx hb d_MO_writeAll_248 rfl (lv_at hl 1 rfl) ?_
      refine lv_aload_n hx hb d_MO_writeAll_249 rfl (lv_at hl 0 rfl) ?_
      refine va_get (D := G.1) (ci := 6) (C := R_MO) (T := F_MO) (N := 26) hx hb ht in_MO hown hK hP 0 rfl rfl 5 (by decide) (ht _ kf_MO_67) (fun _ h9 => h9) rfl d_MO_writeAll_250 ?_
      refine lv_iconst (v := (1 : Int32)) hx hb d_MO_writeAll_253 (by decide) ?_
      refine lv_isub hx hb d_MO_writeAll_254 ?_
      have hi_255 := hok
      refine va_iast hx hb hK hP hD hS 4 0 rfl rfl hi_255 d_MO_writeAll_255 (fun H locs hP hD hS => ?_)
      have hP : va_P G.1 classes (cM G ad mrf msl mst men mnw mdn mpw mwr mrs mdr mtb mrc mnx mro mit (upd mve x3.toNatClampNeg mnw) (upd mrb x3.toNatClampNeg (men - (1 : Int32))) mch mva mic mlb mrw mnb mlk mnk mmd) H := hP
      have hD : va_D A (cM G ad mrf msl mst men mnw mdn mpw mwr mrs mdr mtb mrc mnx mro mit (upd mve x3.toNatClampNeg mnw) (upd mrb x3.toNatClampNeg (men - (1 : Int32))) mch mva mic mlb mrw mnb mlk mnk mmd) := hD
      refine lv_aload_n hx hb d_MO_writeAll_256 rfl (lv_at hl 0 rfl) ?_
      refine lv_iload_n hx hb d_MO_writeAll_257 rfl (lv_at hl 1 rfl) ?_
      refine lv_iconst (v := (1 : Int32)) hx hb d_MO_writeAll_258 (by decide) ?_
      refine lv_iadd hx hb d_MO_writeAll_259 ?_
      refine va_put (D := G.1) (ci := 6) (v := .int (x3 + (1 : Int32))) (ty := .int) (C := R_MO) (T := F_MO) (N := 26) hx hb ht in_MO t_MO to_MO nm_MO hown hK hP hD hS 0 rfl rfl 10 (by decide) (ht _ kf_MO_116) (fun _ h9 => h9) rfl (to_MO 10 (by decide)) rfl rfl (Nat.le_of_ble_eq_true rfl) d_MO_writeAll_260 (fun H locs hP hD hS => ?_)
      have hP : va_P G.1 classes (cM G ad mrf msl mst men mnw mdn mpw mwr (x3 + (1 : Int32)) mdr mtb mrc mnx mro mit (upd mve x3.toNatClampNeg mnw) (upd mrb x3.toNatClampNeg (men - (1 : Int32))) mch mva mic mlb mrw mnb mlk mnk mmd) H := hP
      have hD : va_D A (cM G ad mrf msl mst men mnw mdn mpw mwr (x3 + (1 : Int32)) mdr mtb mrc mnx mro mit (upd mve x3.toNatClampNeg mnw) (upd mrb x3.toNatClampNeg (men - (1 : Int32))) mch mva mic mlb mrw mnb mlk mnk mmd) := hD
      refine lv_aload_n hx hb d_MO_writeAll_263 rfl (lv_at hl 0 rfl) ?_
      refine va_get (D := G.1) (ci := 6) (C := R_MO) (T := F_MO) (N := 26) hx hb ht in_MO hown hK hP 0 rfl rfl 6 (by decide) (ht _ kf_MO_137) (fun _ h9 => h9) rfl d_MO_writeAll_264 ?_
      exact en_i (w1 := (fun u : Int32 × Int32 × Int32 × Int32 × Int32 × Int32 × Int32 × Int32 × (Nat → Int32) × (Nat → Int32) × (Nat → Int32) × (Nat → Int32) × (Nat → Int32) × (Nat → Int32) × (Nat → Int32) => (cM G ad mrf msl u.1 u.2.1 u.2.2.1 u.2.2.2.1 u.2.2.2.2.1 u.2.2.2.2.2.1 u.2.2.2.2.2.2.1 mdr mtb mrc u.2.2.2.2.2.2.2.1 u.2.2.2.2.2.2.2.2.1 u.2.2.2.2.2.2.2.2.2.1 u.2.2.2.2.2.2.2.2.2.2.1 u.2.2.2.2.2.2.2.2.2.2.2.1 mch mva mic mlb mrw mnb u.2.2.2.2.2.2.2.2.2.2.2.2.1 u.2.2.2.2.2.2.2.2.2.2.2.2.2.1 u.2.2.2.2.2.2.2.2.2.2.2.2.2.2))) (mst, men, mnw, mdn, mpw, mwr, x3 + (1 : Int32), mnx, mro, mit, upd mve x3.toNatClampNeg mnw, upd mrb x3.toNatClampNeg (men - (1 : Int32)), mlk, mnk, mmd) hx hb hr hlocks hK hP hD hS hres d_MO_writeAll_267
    · have hres := it_f c_182 hres
      have hok := hok.2 c_182
      refine lv_aload_n hx hb d_MO_writeAll_185 rfl (lv_at hl 0 rfl) ?_
      refine va_get (D := G.1) (ci := 6) (C := R_MO) (T := F_MO) (N := 26) hx hb ht in_MO hown hK hP 0 rfl rfl 12 (by decide) (ht _ kf_MO_24) (fun _ h9 => h9) rfl d_MO_writeAll_186 ?_
      refine lv_iload hx hb d_MO_writeAll_189 (lv_at hl 2 rfl) ?_
      obtain ⟨hi_191, hok⟩ := hok
      refine va_iald hx hb hK hP 4 0 rfl rfl hi_191 d_MO_writeAll_191 ?_
      refine lv_aload_n hx hb d_MO_writeAll_192 rfl (lv_at hl 0 rfl) ?_
      refine va_get (D := G.1) (ci := 6) (C := R_MO) (T := F_MO) (N := 26) hx hb ht in_MO hown hK hP 0 rfl rfl 4 (by decide) (ht _ kf_MO_64) (fun _ h9 => h9) rfl d_MO_writeAll_193 ?_
      refine lv_icmp_lt (tgt := 228) hx hb d_MO_writeAll_196 (by decide) (fun c_196 => ?_) (fun c_196 => ?_)
      · have hres := it_t c_196 hres
        have hok := hok.1 c_196
        refine lv_iinc (v := x4 + (1 : Int32)) (lv' := [(4, .int (x4 + (1 : Int32))), (0, .ref (ad 0)), (3, .int x3)]) hx hb d_MO_writeAll_228 hl (k := 2) rfl rfl (by decide) rfl (fun ls hl => ?_)
        refine lv_goto (tgt := 176) hx hb d_MO_writeAll_231 (by decide) ?_
        exact ih x3 (x4 + (1 : Int32)) mst men mnw mdn mpw mwr mrs mnx mro mit mve mrb mlk mnk mmd _ _ _ hok hres hP hD hS (lv_sub hl [1, 2, 0] rfl)
      · have hres := it_f c_196 hres
        have hok := hok.2 c_196
        refine lv_aload_n hx hb d_MO_writeAll_199 rfl (lv_at hl 0 rfl) ?_
        refine va_get (D := G.1) (ci := 6) (C := R_MO) (T := F_MO) (N := 26) hx hb ht in_MO hown hK hP 0 rfl rfl 11 (by decide) (ht _ kf_MO_21) (fun _ h9 => h9) rfl d_MO_writeAll_200 ?_
        refine lv_iload_n hx hb d_MO_writeAll_203 rfl (lv_at hl 1 rfl) ?_
        refine lv_aload_n hx hb d_MO_writeAll_204 rfl (lv_at hl 0 rfl) ?_
        refine va_get (D := G.1) (ci := 6) (C := R_MO) (T := F_MO) (N := 26) hx hb ht in_MO hown hK hP 0 rfl rfl 11 (by decide) (ht _ kf_MO_21) (fun _ h9 => h9) rfl d_MO_writeAll_205 ?_
        refine lv_iload hx hb d_MO_writeAll_208 (lv_at hl 2 rfl) ?_
        obtain ⟨hi_210, hok⟩ := hok
        refine va_iald hx hb hK hP 3 0 rfl rfl hi_210 d_MO_writeAll_210 ?_
        obtain ⟨hi_211, hok⟩ := hok
        refine va_iast hx hb hK hP hD hS 3 0 rfl rfl hi_211 d_MO_writeAll_211 (fun H locs hP hD hS => ?_)
        have hP : va_P G.1 classes (cM G ad mrf msl mst men mnw mdn mpw mwr mrs mdr mtb mrc mnx mro mit (upd mve x3.toNatClampNeg (mve x4.toNatClampNeg)) mrb mch mva mic mlb mrw mnb mlk mnk mmd) H := hP
        have hD : va_D A (cM G ad mrf msl mst men mnw mdn mpw mwr mrs mdr mtb mrc mnx mro mit (upd mve x3.toNatClampNeg (mve x4.toNatClampNeg)) mrb mch mva mic mlb mrw mnb mlk mnk mmd) := hD
        refine lv_aload_n hx hb d_MO_writeAll_212 rfl (lv_at hl 0 rfl) ?_
        refine va_get (D := G.1) (ci := 6) (C := R_MO) (T := F_MO) (N := 26) hx hb ht in_MO hown hK hP 0 rfl rfl 12 (by decide) (ht _ kf_MO_24) (fun _ h9 => h9) rfl d_MO_writeAll_213 ?_
        refine lv_iload_n hx hb d_MO_writeAll_216 rfl (lv_at hl 1 rfl) ?_
        refine lv_aload_n hx hb d_MO_writeAll_217 rfl (lv_at hl 0 rfl) ?_
        refine va_get (D := G.1) (ci := 6) (C := R_MO) (T := F_MO) (N := 26) hx hb ht in_MO hown hK hP 0 rfl rfl 12 (by decide) (ht _ kf_MO_24) (fun _ h9 => h9) rfl d_MO_writeAll_218 ?_
        refine lv_iload hx hb d_MO_writeAll_221 (lv_at hl 2 rfl) ?_
        obtain ⟨hi_223, hok⟩ := hok
        refine va_iald hx hb hK hP 4 0 rfl rfl hi_223 d_MO_writeAll_223 ?_
        obtain ⟨hi_224, hok⟩ := hok
        refine va_iast hx hb hK hP hD hS 4 0 rfl rfl hi_224 d_MO_writeAll_224 (fun H locs hP hD hS => ?_)
        have hP : va_P G.1 classes (cM G ad mrf msl mst men mnw mdn mpw mwr mrs mdr mtb mrc mnx mro mit (upd mve x3.toNatClampNeg (mve x4.toNatClampNeg)) (upd mrb x3.toNatClampNeg (mrb x4.toNatClampNeg)) mch mva mic mlb mrw mnb mlk mnk mmd) H := hP
        have hD : va_D A (cM G ad mrf msl mst men mnw mdn mpw mwr mrs mdr mtb mrc mnx mro mit (upd mve x3.toNatClampNeg (mve x4.toNatClampNeg)) (upd mrb x3.toNatClampNeg (mrb x4.toNatClampNeg)) mch mva mic mlb mrw mnb mlk mnk mmd) := hD
        refine lv_iinc (v := x3 + (1 : Int32)) (lv' := [(3, .int (x3 + (1 : Int32))), (0, .ref (ad 0)), (4, .int x4)]) hx hb d_MO_writeAll_225 hl (k := 1) rfl rfl (by decide) rfl (fun ls hl => ?_)
        refine lv_iinc (v := x4 + (1 : Int32)) (lv' := [(4, .int (x4 + (1 : Int32))), (3, .int (x3 + (1 : Int32))), (0, .ref (ad 0))]) hx hb d_MO_writeAll_228 hl (k := 2) rfl rfl (by decide) rfl (fun ls hl => ?_)
        refine lv_goto (tgt := 176) hx hb d_MO_writeAll_231 (by decide) ?_
        exact ih (x3 + (1 : Int32)) (x4 + (1 : Int32)) mst men mnw mdn mpw mwr mrs mnx mro mit (upd mve x3.toNatClampNeg (mve x4.toNatClampNeg)) (upd mrb x3.toNatClampNeg (mrb x4.toNatClampNeg)) mlk mnk mmd _ _ _ hok hres hP hD hS (lv_sub hl [2, 1, 0] rfl)
def f_MO_writeAll_140 (x1 : Int32) (y0 : Int32) (msl : Int32) (mst : Int32) (men : Int32) (mnw : Int32) (mdn : Int32) (mpw : Int32) (mwr : Int32) (mrs : Int32) (mtb : Int32) (mrc : Int32) (mnx : Int32) (mro : (Nat → Int32)) (mit : (Nat → Int32)) (mve : (Nat → Int32)) (mrb : (Nat → Int32)) (mic : (Nat → Int32)) (mlb : (Nat → Int32)) (mrw : (Nat → Int32)) (mnb : (Nat → Int32)) (mlk : (Nat → Int32)) (mnk : (Nat → Int32)) (mmd : (Nat → Int32)) : Int32 × Int32 × Int32 × Int32 × Int32 × Int32 × Int32 × Int32 × Int32 × (Nat → Int32) × (Nat → Int32) × (Nat → Int32) × (Nat → Int32) × (Nat → Int32) × (Nat → Int32) × (Nat → Int32) := if y0 = 0 then ((-4 : Int32), (mst, men, mnw, mdn, mpw, mwr, mrs, mnx, mro, mit, mve, mrb, mlk, mnk, mmd)) else f_MO_writeAll_176 1024 (0 : Int32) (0 : Int32) msl x1 mnx (mnw + (1 : Int32)) mdn mpw mwr mrs mtb mrc mnx mro mit mve mrb mic mlb mrw mnb mlk mnk mmd
def ok_MO_writeAll_140 (x1 : Int32) (y0 : Int32) (msl : Int32) (mst : Int32) (men : Int32) (mnw : Int32) (mdn : Int32) (mpw : Int32) (mwr : Int32) (mrs : Int32) (mtb : Int32) (mrc : Int32) (mnx : Int32) (mro : (Nat → Int32)) (mit : (Nat → Int32)) (mve : (Nat → Int32)) (mrb : (Nat → Int32)) (mic : (Nat → Int32)) (mlb : (Nat → Int32)) (mrw : (Nat → Int32)) (mnb : (Nat → Int32)) (mlk : (Nat → Int32)) (mnk : (Nat → Int32)) (mmd : (Nat → Int32)) : Prop := (y0 = 0 → True) ∧ (¬ y0 = 0 → ok_MO_writeAll_176  1024 (0 : Int32) (0 : Int32) msl x1 mnx (mnw + (1 : Int32)) mdn mpw mwr mrs mtb mrc mnx mro mit mve mrb mic mlb mrw mnb mlk mnk mmd)
set_option maxHeartbeats 4000000 in
set_option maxRecDepth 100000 in
theorem w_MO_writeAll_140 {p : Program} {l : Launch} {e : Env} {s : State} {m : MethodId} {args : Array Value} {below : List Frame} {meth : Method} {c : Code} {A : Nat → Prop} {G : GG} {ad : Nat → Nat} {mrf : Int32} {msl : Int32} {mdr : Int32} {mtb : Int32} {mrc : Int32} {mch : (Nat → Int32)} {mva : (Nat → Int32)} {mic : (Nat → Int32)} {mlb : (Nat → Int32)} {mrw : (Nat → Int32)} {mnb : (Nat → Int32)} {res : Int32 × Int32 × Int32 × Int32 × Int32 × Int32 × Int32 × Int32 × Int32 × (Nat → Int32) × (Nat → Int32) × (Nat → Int32) × (Nat → Int32) × (Nat → Int32) × (Nat → Int32) × (Nat → Int32)} (hC : Cx p l e s m args meth c y_MO_writeAll b_MO_writeAll 5 (some .int) "BookTreesModel" G A) : ∀ (x1 : Int32) (y0 : Int32) (mst : Int32) (men : Int32) (mnw : Int32) (mdn : Int32) (mpw : Int32) (mwr : Int32) (mrs : Int32) (mnx : Int32) (mro : (Nat → Int32)) (mit : (Nat → Int32)) (mve : (Nat → Int32)) (mrb : (Nat → Int32)) (mlk : (Nat → Int32)) (mnk : (Nat → Int32)) (mmd : (Nat → Int32)) (H : Heap) (locs : List Loc) (ls : Array Slot), ok_MO_writeAll_140 x1 y0 msl mst men mnw mdn mpw mwr mrs mtb mrc mnx mro mit mve mrb mic mlb mrw mnb mlk mnk mmd → f_MO_writeAll_140 x1 y0 msl mst men mnw mdn mpw mwr mrs mtb mrc mnx mro mit mve mrb mic mlb mrw mnb mlk mnk mmd = res → va_P G.1 classes (cM G ad mrf msl mst men mnw mdn mpw mwr mrs mdr mtb mrc mnx mro mit mve mrb mch mva mic mlb mrw mnb mlk mnk mmd) H → va_D A (cM G ad mrf msl mst men mnw mdn mpw mwr mrs mdr mtb mrc mnx mro mit mve mrb mch mva mic mlb mrw mnb mlk mnk mmd) → va_S A s.heap H locs → lv_has ls 5 [(0, .ref (ad 0)), (1, .int x1)] → W p l e rm_MO_writeAll s m args below meth c H locs 0 0 (MQ below (va_Qi (eqP res) (Wb G A (fun u : Int32 × Int32 × Int32 × Int32 × Int32 × Int32 × Int32 × Int32 × (Nat → Int32) × (Nat → Int32) × (Nat → Int32) × (Nat → Int32) × (Nat → Int32) × (Nat → Int32) × (Nat → Int32) => (cM G ad mrf msl u.1 u.2.1 u.2.2.1 u.2.2.2.1 u.2.2.2.2.1 u.2.2.2.2.2.1 u.2.2.2.2.2.2.1 mdr mtb mrc u.2.2.2.2.2.2.2.1 u.2.2.2.2.2.2.2.2.1 u.2.2.2.2.2.2.2.2.2.1 u.2.2.2.2.2.2.2.2.2.2.1 u.2.2.2.2.2.2.2.2.2.2.2.1 mch mva mic mlb mrw mnb u.2.2.2.2.2.2.2.2.2.2.2.2.1 u.2.2.2.2.2.2.2.2.2.2.2.2.2.1 u.2.2.2.2.2.2.2.2.2.2.2.2.2.2))) A) args s 0 0 A) (F0 m 140 ls [.int y0]) := by
  obtain ⟨hx, hb, hr, hml, hown, hlocks, ht, hK, hA⟩ := id hC
  intro x1 y0 mst men mnw mdn mpw mwr mrs mnx mro mit mve mrb mlk mnk mmd H locs ls hok hres hP hD hS hl
  rw [f_MO_writeAll_140] at hres
  rw [ok_MO_writeAll_140] at hok
  refine lv_istore_n (lv' := [(2, .int y0), (0, .ref (ad 0)), (1, .int x1)]) hx hb d_MO_writeAll_140 rfl hl (by decide) rfl (fun ls hl => ?_)
  refine lv_iload_n hx hb d_MO_writeAll_141 rfl (lv_at hl 0 rfl) ?_
  refine lv_if_ne (tgt := 148) hx hb d_MO_writeAll_142 (by decide) (fun c_142 => ?_) (fun c_142 => ?_)
  · have hres := it_f c_142 hres
    have hok := hok.2 c_142
    refine lv_aload_n hx hb d_MO_writeAll_148 rfl (lv_at hl 1 rfl) ?_
    refine lv_aload_n hx hb d_MO_writeAll_149 rfl (lv_at hl 1 rfl) ?_
    refine va_get (D := G.1) (ci := 6) (C := R_MO) (T := F_MO) (N := 26) hx hb ht in_MO hown hK hP 0 rfl rfl 25 (by decide) (ht _ kf_MO_154) (fun _ h9 => h9) rfl d_MO_writeAll_150 ?_
    refine va_put (D := G.1) (ci := 6) (v := .int mnx) (ty := .int) (C := R_MO) (T := F_MO) (N := 26) hx hb ht in_MO t_MO to_MO nm_MO hown hK hP hD hS 0 rfl rfl 5 (by decide) (ht _ kf_MO_67) (fun _ h9 => h9) rfl (to_MO 5 (by decide)) rfl rfl (Nat.le_of_ble_eq_true rfl) d_MO_writeAll_153 (fun H locs hP hD hS => ?_)
    have hP : va_P G.1 classes (cM G ad mrf msl mst mnx mnw mdn mpw mwr mrs mdr mtb mrc mnx mro mit mve mrb mch mva mic mlb mrw mnb mlk mnk mmd) H := hP
    have hD : va_D A (cM G ad mrf msl mst mnx mnw mdn mpw mwr mrs mdr mtb mrc mnx mro mit mve mrb mch mva mic mlb mrw mnb mlk mnk mmd) := hD
    refine lv_aload_n hx hb d_MO_writeAll_156 rfl (lv_at hl 1 rfl) ?_
    refine lv_iload_n hx hb d_MO_writeAll_157 rfl (lv_at hl 2 rfl) ?_
    refine va_put (D := G.1) (ci := 6) (v := .int x1) (ty := .int) (C := R_MO) (T := F_MO) (N := 26) hx hb ht in_MO t_MO to_MO nm_MO hown hK hP hD hS 0 rfl rfl 4 (by decide) (ht _ kf_MO_64) (fun _ h9 => h9) rfl (to_MO 4 (by decide)) rfl rfl (Nat.le_of_ble_eq_true rfl) d_MO_writeAll_158 (fun H locs hP hD hS => ?_)
    have hP : va_P G.1 classes (cM G ad mrf msl x1 mnx mnw mdn mpw mwr mrs mdr mtb mrc mnx mro mit mve mrb mch mva mic mlb mrw mnb mlk mnk mmd) H := hP
    have hD : va_D A (cM G ad mrf msl x1 mnx mnw mdn mpw mwr mrs mdr mtb mrc mnx mro mit mve mrb mch mva mic mlb mrw mnb mlk mnk mmd) := hD
    refine lv_aload_n hx hb d_MO_writeAll_161 rfl (lv_at hl 1 rfl) ?_
    refine lv_dup hx hb d_MO_writeAll_162 rfl ?_
    refine va_get (D := G.1) (ci := 6) (C := R_MO) (T := F_MO) (N := 26) hx hb ht in_MO hown hK hP 0 rfl rfl 6 (by decide) (ht _ kf_MO_137) (fun _ h9 => h9) rfl d_MO_writeAll_163 ?_
    refine lv_iconst (v := (1 : Int32)) hx hb d_MO_writeAll_166 (by decide) ?_
    refine lv_iadd hx hb d_MO_writeAll_167 ?_
    refine va_put (D := G.1) (ci := 6) (v := .int (mnw + (1 : Int32))) (ty := .int) (C := R_MO) (T := F_MO) (N := 26) hx hb ht in_MO t_MO to_MO nm_MO hown hK hP hD hS 0 rfl rfl 6 (by decide) (ht _ kf_MO_137) (fun _ h9 => h9) rfl (to_MO 6 (by decide)) rfl rfl (Nat.le_of_ble_eq_true rfl) d_MO_writeAll_168 (fun H locs hP hD hS => ?_)
    have hP : va_P G.1 classes (cM G ad mrf msl x1 mnx (mnw + (1 : Int32)) mdn mpw mwr mrs mdr mtb mrc mnx mro mit mve mrb mch mva mic mlb mrw mnb mlk mnk mmd) H := hP
    have hD : va_D A (cM G ad mrf msl x1 mnx (mnw + (1 : Int32)) mdn mpw mwr mrs mdr mtb mrc mnx mro mit mve mrb mch mva mic mlb mrw mnb mlk mnk mmd) := hD
    refine lv_iconst (v := (0 : Int32)) hx hb d_MO_writeAll_171 (by decide) ?_
    refine lv_istore_n (lv' := [(3, .int (0 : Int32)), (2, .int y0), (0, .ref (ad 0)), (1, .int x1)]) hx hb d_MO_writeAll_172 rfl hl (by decide) rfl (fun ls hl => ?_)
    refine lv_iconst (v := (0 : Int32)) hx hb d_MO_writeAll_173 (by decide) ?_
    refine lv_istore (lv' := [(4, .int (0 : Int32)), (3, .int (0 : Int32)), (2, .int y0), (0, .ref (ad 0)), (1, .int x1)]) hx hb d_MO_writeAll_174 hl (by decide) rfl (fun ls hl => ?_)
    exact w_MO_writeAll_176 hC 1024 (0 : Int32) (0 : Int32) x1 mnx (mnw + (1 : Int32)) mdn mpw mwr mrs mnx mro mit mve mrb mlk mnk mmd _ _ _ hok hres hP hD hS (lv_sub hl [3, 1, 0] rfl)
  · have hres := it_t c_142 hres
    refine lv_bipush (v := (-4 : Int32)) hx hb d_MO_writeAll_145 (by decide) ?_
    exact en_i (w1 := (fun u : Int32 × Int32 × Int32 × Int32 × Int32 × Int32 × Int32 × Int32 × (Nat → Int32) × (Nat → Int32) × (Nat → Int32) × (Nat → Int32) × (Nat → Int32) × (Nat → Int32) × (Nat → Int32) => (cM G ad mrf msl u.1 u.2.1 u.2.2.1 u.2.2.2.1 u.2.2.2.2.1 u.2.2.2.2.2.1 u.2.2.2.2.2.2.1 mdr mtb mrc u.2.2.2.2.2.2.2.1 u.2.2.2.2.2.2.2.2.1 u.2.2.2.2.2.2.2.2.2.1 u.2.2.2.2.2.2.2.2.2.2.1 u.2.2.2.2.2.2.2.2.2.2.2.1 mch mva mic mlb mrw mnb u.2.2.2.2.2.2.2.2.2.2.2.2.1 u.2.2.2.2.2.2.2.2.2.2.2.2.2.1 u.2.2.2.2.2.2.2.2.2.2.2.2.2.2))) (mst, men, mnw, mdn, mpw, mwr, mrs, mnx, mro, mit, mve, mrb, mlk, mnk, mmd) hx hb hr hlocks hK hP hD hS hres d_MO_writeAll_147
def f_MO_writeAll_139 (x1 : Int32) (msl : Int32) (mst : Int32) (men : Int32) (mnw : Int32) (mdn : Int32) (mpw : Int32) (mwr : Int32) (mrs : Int32) (mtb : Int32) (mrc : Int32) (mnx : Int32) (mro : (Nat → Int32)) (mit : (Nat → Int32)) (mve : (Nat → Int32)) (mrb : (Nat → Int32)) (mic : (Nat → Int32)) (mlb : (Nat → Int32)) (mrw : (Nat → Int32)) (mnb : (Nat → Int32)) (mlk : (Nat → Int32)) (mnk : (Nat → Int32)) (mmd : (Nat → Int32)) : Int32 × Int32 × Int32 × Int32 × Int32 × Int32 × Int32 × Int32 × Int32 × (Nat → Int32) × (Nat → Int32) × (Nat → Int32) × (Nat → Int32) × (Nat → Int32) × (Nat → Int32) × (Nat → Int32) := f_MO_writeAll_140 x1 (0 : Int32) msl mst men mnw mdn mpw mwr mrs mtb mrc mnx mro mit mve mrb mic mlb mrw mnb mlk mnk mmd
def ok_MO_writeAll_139 (x1 : Int32) (msl : Int32) (mst : Int32) (men : Int32) (mnw : Int32) (mdn : Int32) (mpw : Int32) (mwr : Int32) (mrs : Int32) (mtb : Int32) (mrc : Int32) (mnx : Int32) (mro : (Nat → Int32)) (mit : (Nat → Int32)) (mve : (Nat → Int32)) (mrb : (Nat → Int32)) (mic : (Nat → Int32)) (mlb : (Nat → Int32)) (mrw : (Nat → Int32)) (mnb : (Nat → Int32)) (mlk : (Nat → Int32)) (mnk : (Nat → Int32)) (mmd : (Nat → Int32)) : Prop := ok_MO_writeAll_140  x1 (0 : Int32) msl mst men mnw mdn mpw mwr mrs mtb mrc mnx mro mit mve mrb mic mlb mrw mnb mlk mnk mmd
set_option maxHeartbeats 4000000 in
set_option maxRecDepth 100000 in
theorem w_MO_writeAll_139 {p : Program} {l : Launch} {e : Env} {s : State} {m : MethodId} {args : Array Value} {below : List Frame} {meth : Method} {c : Code} {A : Nat → Prop} {G : GG} {ad : Nat → Nat} {mrf : Int32} {msl : Int32} {mdr : Int32} {mtb : Int32} {mrc : Int32} {mch : (Nat → Int32)} {mva : (Nat → Int32)} {mic : (Nat → Int32)} {mlb : (Nat → Int32)} {mrw : (Nat → Int32)} {mnb : (Nat → Int32)} {res : Int32 × Int32 × Int32 × Int32 × Int32 × Int32 × Int32 × Int32 × Int32 × (Nat → Int32) × (Nat → Int32) × (Nat → Int32) × (Nat → Int32) × (Nat → Int32) × (Nat → Int32) × (Nat → Int32)} (hC : Cx p l e s m args meth c y_MO_writeAll b_MO_writeAll 5 (some .int) "BookTreesModel" G A) : ∀ (x1 : Int32) (mst : Int32) (men : Int32) (mnw : Int32) (mdn : Int32) (mpw : Int32) (mwr : Int32) (mrs : Int32) (mnx : Int32) (mro : (Nat → Int32)) (mit : (Nat → Int32)) (mve : (Nat → Int32)) (mrb : (Nat → Int32)) (mlk : (Nat → Int32)) (mnk : (Nat → Int32)) (mmd : (Nat → Int32)) (H : Heap) (locs : List Loc) (ls : Array Slot), ok_MO_writeAll_139 x1 msl mst men mnw mdn mpw mwr mrs mtb mrc mnx mro mit mve mrb mic mlb mrw mnb mlk mnk mmd → f_MO_writeAll_139 x1 msl mst men mnw mdn mpw mwr mrs mtb mrc mnx mro mit mve mrb mic mlb mrw mnb mlk mnk mmd = res → va_P G.1 classes (cM G ad mrf msl mst men mnw mdn mpw mwr mrs mdr mtb mrc mnx mro mit mve mrb mch mva mic mlb mrw mnb mlk mnk mmd) H → va_D A (cM G ad mrf msl mst men mnw mdn mpw mwr mrs mdr mtb mrc mnx mro mit mve mrb mch mva mic mlb mrw mnb mlk mnk mmd) → va_S A s.heap H locs → lv_has ls 5 [(0, .ref (ad 0)), (1, .int x1)] → W p l e rm_MO_writeAll s m args below meth c H locs 0 0 (MQ below (va_Qi (eqP res) (Wb G A (fun u : Int32 × Int32 × Int32 × Int32 × Int32 × Int32 × Int32 × Int32 × (Nat → Int32) × (Nat → Int32) × (Nat → Int32) × (Nat → Int32) × (Nat → Int32) × (Nat → Int32) × (Nat → Int32) => (cM G ad mrf msl u.1 u.2.1 u.2.2.1 u.2.2.2.1 u.2.2.2.2.1 u.2.2.2.2.2.1 u.2.2.2.2.2.2.1 mdr mtb mrc u.2.2.2.2.2.2.2.1 u.2.2.2.2.2.2.2.2.1 u.2.2.2.2.2.2.2.2.2.1 u.2.2.2.2.2.2.2.2.2.2.1 u.2.2.2.2.2.2.2.2.2.2.2.1 mch mva mic mlb mrw mnb u.2.2.2.2.2.2.2.2.2.2.2.2.1 u.2.2.2.2.2.2.2.2.2.2.2.2.2.1 u.2.2.2.2.2.2.2.2.2.2.2.2.2.2))) A) args s 0 0 A) (F0 m 139 ls []) := by
  obtain ⟨hx, hb, hr, hml, hown, hlocks, ht, hK, hA⟩ := id hC
  intro x1 mst men mnw mdn mpw mwr mrs mnx mro mit mve mrb mlk mnk mmd H locs ls hok hres hP hD hS hl
  rw [f_MO_writeAll_139] at hres
  rw [ok_MO_writeAll_139] at hok
  refine lv_iconst (v := (0 : Int32)) hx hb d_MO_writeAll_139 (by decide) ?_
  exact w_MO_writeAll_140 hC x1 (0 : Int32) mst men mnw mdn mpw mwr mrs mnx mro mit mve mrb mlk mnk mmd _ _ _ hok hres hP hD hS (lv_sub hl [0, 1] rfl)
def f_MO_writeAll_127 (x1 : Int32) (msl : Int32) (mst : Int32) (men : Int32) (mnw : Int32) (mdn : Int32) (mpw : Int32) (mwr : Int32) (mrs : Int32) (mtb : Int32) (mrc : Int32) (mnx : Int32) (mro : (Nat → Int32)) (mit : (Nat → Int32)) (mve : (Nat → Int32)) (mrb : (Nat → Int32)) (mic : (Nat → Int32)) (mlb : (Nat → Int32)) (mrw : (Nat → Int32)) (mnb : (Nat → Int32)) (mlk : (Nat → Int32)) (mnk : (Nat → Int32)) (mmd : (Nat → Int32)) : Int32 × Int32 × Int32 × Int32 × Int32 × Int32 × Int32 × Int32 × Int32 × (Nat → Int32) × (Nat → Int32) × (Nat → Int32) × (Nat → Int32) × (Nat → Int32) × (Nat → Int32) × (Nat → Int32) := bindc (f_MO_writeRoot x1 msl mnw mdn mpw mwr mtb mrc mnx mro mit mmd) (fun z_129 => if z_129.1 = 0 then f_MO_writeAll_139 x1 msl mst men mnw z_129.2.1 z_129.2.2.1 z_129.2.2.2.1 mrs mtb mrc z_129.2.2.2.2.1 z_129.2.2.2.2.2.1 z_129.2.2.2.2.2.2.1 mve mrb mic mlb mrw mnb mlk mnk z_129.2.2.2.2.2.2.2 else f_MO_writeAll_140 x1 (1 : Int32) msl mst men mnw z_129.2.1 z_129.2.2.1 z_129.2.2.2.1 mrs mtb mrc z_129.2.2.2.2.1 z_129.2.2.2.2.2.1 z_129.2.2.2.2.2.2.1 mve mrb mic mlb mrw mnb mlk mnk z_129.2.2.2.2.2.2.2)
def ok_MO_writeAll_127 (x1 : Int32) (msl : Int32) (mst : Int32) (men : Int32) (mnw : Int32) (mdn : Int32) (mpw : Int32) (mwr : Int32) (mrs : Int32) (mtb : Int32) (mrc : Int32) (mnx : Int32) (mro : (Nat → Int32)) (mit : (Nat → Int32)) (mve : (Nat → Int32)) (mrb : (Nat → Int32)) (mic : (Nat → Int32)) (mlb : (Nat → Int32)) (mrw : (Nat → Int32)) (mnb : (Nat → Int32)) (mlk : (Nat → Int32)) (mnk : (Nat → Int32)) (mmd : (Nat → Int32)) : Prop := ok_MO_writeRoot x1 msl mnw mdn mpw mwr mtb mrc mnx mro mit mmd ∧ bindp (f_MO_writeRoot x1 msl mnw mdn mpw mwr mtb mrc mnx mro mit mmd) (fun z_129 => (z_129.1 = 0 → ok_MO_writeAll_139  x1 msl mst men mnw z_129.2.1 z_129.2.2.1 z_129.2.2.2.1 mrs mtb mrc z_129.2.2.2.2.1 z_129.2.2.2.2.2.1 z_129.2.2.2.2.2.2.1 mve mrb mic mlb mrw mnb mlk mnk z_129.2.2.2.2.2.2.2) ∧ (¬ z_129.1 = 0 → ok_MO_writeAll_140  x1 (1 : Int32) msl mst men mnw z_129.2.1 z_129.2.2.1 z_129.2.2.2.1 mrs mtb mrc z_129.2.2.2.2.1 z_129.2.2.2.2.2.1 z_129.2.2.2.2.2.2.1 mve mrb mic mlb mrw mnb mlk mnk z_129.2.2.2.2.2.2.2))
set_option maxHeartbeats 4000000 in
set_option maxRecDepth 100000 in
theorem w_MO_writeAll_127 {p : Program} {l : Launch} {e : Env} {s : State} {m : MethodId} {args : Array Value} {below : List Frame} {meth : Method} {c : Code} {A : Nat → Prop} {G : GG} {ad : Nat → Nat} {mrf : Int32} {msl : Int32} {mdr : Int32} {mtb : Int32} {mrc : Int32} {mch : (Nat → Int32)} {mva : (Nat → Int32)} {mic : (Nat → Int32)} {mlb : (Nat → Int32)} {mrw : (Nat → Int32)} {mnb : (Nat → Int32)} {res : Int32 × Int32 × Int32 × Int32 × Int32 × Int32 × Int32 × Int32 × Int32 × (Nat → Int32) × (Nat → Int32) × (Nat → Int32) × (Nat → Int32) × (Nat → Int32) × (Nat → Int32) × (Nat → Int32)} (hC : Cx p l e s m args meth c y_MO_writeAll b_MO_writeAll 5 (some .int) "BookTreesModel" G A) : ∀ (x1 : Int32) (mst : Int32) (men : Int32) (mnw : Int32) (mdn : Int32) (mpw : Int32) (mwr : Int32) (mrs : Int32) (mnx : Int32) (mro : (Nat → Int32)) (mit : (Nat → Int32)) (mve : (Nat → Int32)) (mrb : (Nat → Int32)) (mlk : (Nat → Int32)) (mnk : (Nat → Int32)) (mmd : (Nat → Int32)) (H : Heap) (locs : List Loc) (ls : Array Slot), ok_MO_writeAll_127 x1 msl mst men mnw mdn mpw mwr mrs mtb mrc mnx mro mit mve mrb mic mlb mrw mnb mlk mnk mmd → f_MO_writeAll_127 x1 msl mst men mnw mdn mpw mwr mrs mtb mrc mnx mro mit mve mrb mic mlb mrw mnb mlk mnk mmd = res → va_P G.1 classes (cM G ad mrf msl mst men mnw mdn mpw mwr mrs mdr mtb mrc mnx mro mit mve mrb mch mva mic mlb mrw mnb mlk mnk mmd) H → va_D A (cM G ad mrf msl mst men mnw mdn mpw mwr mrs mdr mtb mrc mnx mro mit mve mrb mch mva mic mlb mrw mnb mlk mnk mmd) → va_S A s.heap H locs → lv_has ls 5 [(0, .ref (ad 0)), (1, .int x1)] → W p l e rm_MO_writeAll s m args below meth c H locs 0 0 (MQ below (va_Qi (eqP res) (Wb G A (fun u : Int32 × Int32 × Int32 × Int32 × Int32 × Int32 × Int32 × Int32 × (Nat → Int32) × (Nat → Int32) × (Nat → Int32) × (Nat → Int32) × (Nat → Int32) × (Nat → Int32) × (Nat → Int32) => (cM G ad mrf msl u.1 u.2.1 u.2.2.1 u.2.2.2.1 u.2.2.2.2.1 u.2.2.2.2.2.1 u.2.2.2.2.2.2.1 mdr mtb mrc u.2.2.2.2.2.2.2.1 u.2.2.2.2.2.2.2.2.1 u.2.2.2.2.2.2.2.2.2.1 u.2.2.2.2.2.2.2.2.2.2.1 u.2.2.2.2.2.2.2.2.2.2.2.1 mch mva mic mlb mrw mnb u.2.2.2.2.2.2.2.2.2.2.2.2.1 u.2.2.2.2.2.2.2.2.2.2.2.2.2.1 u.2.2.2.2.2.2.2.2.2.2.2.2.2.2))) A) args s 0 0 A) (F0 m 127 ls []) := by
  obtain ⟨hx, hb, hr, hml, hown, hlocks, ht, hK, hA⟩ := id hC
  intro x1 mst men mnw mdn mpw mwr mrs mnx mro mit mve mrb mlk mnk mmd H locs ls hok hres hP hD hS hl
  rw [f_MO_writeAll_127] at hres
  rw [ok_MO_writeAll_127] at hok
  refine lv_aload_n hx hb d_MO_writeAll_127 rfl (lv_at hl 0 rfl) ?_
  refine lv_iload_n hx hb d_MO_writeAll_128 rfl (lv_at hl 1 rfl) ?_
  obtain ⟨hk_129, hok⟩ := hok
  refine go_iz (run_V hx hb hml hown ht hK hP hD (c_MO_writeRoot hk_129) (cw_V ht km_MO_193 ki_MO_writeRoot ks_MO_writeRoot ini_MO kd_MO_writeRoot kh_MO_writeRoot ⟨Nat.le_of_ble_eq_true rfl, Nat.le_of_ble_eq_true rfl⟩ rfl rfl) (q0 := 0) (ci := 6) (As := [.int x1]) (rest := []) rfl rfl rfl hl.1 rfl (Nat.le_of_ble_eq_true rfl) d_MO_writeAll_129 ⟨Nat.zero_le _, Nat.zero_le _⟩) hD hS hA (fun z_129 H locs hz_129 hP hD hS => ?_)
  have hres := bindc_eq hz_129 hres
  have hok := bindp_eq hz_129 hok
  have hP : va_P G.1 classes (cM G ad mrf msl mst men mnw z_129.2.1 z_129.2.2.1 z_129.2.2.2.1 mrs mdr mtb mrc z_129.2.2.2.2.1 z_129.2.2.2.2.2.1 z_129.2.2.2.2.2.2.1 mve mrb mch mva mic mlb mrw mnb mlk mnk z_129.2.2.2.2.2.2.2) H := hP
  have hD : va_D A (cM G ad mrf msl mst men mnw z_129.2.1 z_129.2.2.1 z_129.2.2.2.1 mrs mdr mtb mrc z_129.2.2.2.2.1 z_129.2.2.2.2.2.1 z_129.2.2.2.2.2.2.1 mve mrb mch mva mic mlb mrw mnb mlk mnk z_129.2.2.2.2.2.2.2) := hD
  refine lv_if_eq (tgt := 139) hx hb d_MO_writeAll_132 (by decide) (fun c_132 => ?_) (fun c_132 => ?_)
  · have hres := it_t c_132 hres
    have hok := hok.1 c_132
    exact w_MO_writeAll_139 hC x1 mst men mnw z_129.2.1 z_129.2.2.1 z_129.2.2.2.1 mrs z_129.2.2.2.2.1 z_129.2.2.2.2.2.1 z_129.2.2.2.2.2.2.1 mve mrb mlk mnk z_129.2.2.2.2.2.2.2 _ _ _ hok hres hP hD hS (lv_sub hl [0, 1] rfl)
  · have hres := it_f c_132 hres
    have hok := hok.2 c_132
    refine lv_iconst (v := (1 : Int32)) hx hb d_MO_writeAll_135 (by decide) ?_
    refine lv_goto (tgt := 140) hx hb d_MO_writeAll_136 (by decide) ?_
    exact w_MO_writeAll_140 hC x1 (1 : Int32) mst men mnw z_129.2.1 z_129.2.2.1 z_129.2.2.2.1 mrs z_129.2.2.2.2.1 z_129.2.2.2.2.2.1 z_129.2.2.2.2.2.2.1 mve mrb mlk mnk z_129.2.2.2.2.2.2.2 _ _ _ hok hres hP hD hS (lv_sub hl [0, 1] rfl)
def f_MO_writeAll_109 (x1 : Int32) (x2 : Int32) (msl : Int32) (mst : Int32) (men : Int32) (mnw : Int32) (mdn : Int32) (mpw : Int32) (mwr : Int32) (mrs : Int32) (mtb : Int32) (mrc : Int32) (mnx : Int32) (mro : (Nat → Int32)) (mit : (Nat → Int32)) (mve : (Nat → Int32)) (mrb : (Nat → Int32)) (mic : (Nat → Int32)) (mlb : (Nat → Int32)) (mrw : (Nat → Int32)) (mnb : (Nat → Int32)) (mlk : (Nat → Int32)) (mnk : (Nat → Int32)) (mmd : (Nat → Int32)) : Int32 × Int32 × Int32 × Int32 × Int32 × Int32 × Int32 × Int32 × Int32 × (Nat → Int32) × (Nat → Int32) × (Nat → Int32) × (Nat → Int32) × (Nat → Int32) × (Nat → Int32) × (Nat → Int32) := if x2 = 0 then f_MO_writeAll_139 x1 msl mst men mnw mdn mpw mwr mrs mtb mrc mnx mro mit mve mrb mic mlb mrw mnb mlk mnk mmd else if mtb = 0 then f_MO_writeAll_127 x1 msl mst men mnw mdn mpw mwr mrs mtb mrc mnx mro mit mve mrb mic mlb mrw mnb mlk mnk mmd else bindc (f_MO_writeTop msl mnw mdn mpw mwr mtb mnx mro mit mnk mmd) (fun z_121 => if z_121.1 = 0 then f_MO_writeAll_139 x1 msl mst men mnw z_121.2.1 z_121.2.2.1 z_121.2.2.2.1 mrs mtb mrc z_121.2.2.2.2.1 z_121.2.2.2.2.2.1 z_121.2.2.2.2.2.2.1 mve mrb mic mlb mrw mnb mlk mnk z_121.2.2.2.2.2.2.2 else f_MO_writeAll_127 x1 msl mst men mnw z_121.2.1 z_121.2.2.1 z_121.2.2.2.1 mrs mtb mrc z_121.2.2.2.2.1 z_121.2.2.2.2.2.1 z_121.2.2.2.2.2.2.1 mve mrb mic mlb mrw mnb mlk mnk z_121.2.2.2.2.2.2.2)
def ok_MO_writeAll_109 (x1 : Int32) (x2 : Int32) (msl : Int32) (mst : Int32) (men : Int32) (mnw : Int32) (mdn : Int32) (mpw : Int32) (mwr : Int32) (mrs : Int32) (mtb : Int32) (mrc : Int32) (mnx : Int32) (mro : (Nat → Int32)) (mit : (Nat → Int32)) (mve : (Nat → Int32)) (mrb : (Nat → Int32)) (mic : (Nat → Int32)) (mlb : (Nat → Int32)) (mrw : (Nat → Int32)) (mnb : (Nat → Int32)) (mlk : (Nat → Int32)) (mnk : (Nat → Int32)) (mmd : (Nat → Int32)) : Prop := (x2 = 0 → ok_MO_writeAll_139  x1 msl mst men mnw mdn mpw mwr mrs mtb mrc mnx mro mit mve mrb mic mlb mrw mnb mlk mnk mmd) ∧ (¬ x2 = 0 → (mtb = 0 → ok_MO_writeAll_127  x1 msl mst men mnw mdn mpw mwr mrs mtb mrc mnx mro mit mve mrb mic mlb mrw mnb mlk mnk mmd) ∧ (¬ mtb = 0 → ok_MO_writeTop msl mnw mdn mpw mwr mtb mnx mro mit mnk mmd ∧ bindp (f_MO_writeTop msl mnw mdn mpw mwr mtb mnx mro mit mnk mmd) (fun z_121 => (z_121.1 = 0 → ok_MO_writeAll_139  x1 msl mst men mnw z_121.2.1 z_121.2.2.1 z_121.2.2.2.1 mrs mtb mrc z_121.2.2.2.2.1 z_121.2.2.2.2.2.1 z_121.2.2.2.2.2.2.1 mve mrb mic mlb mrw mnb mlk mnk z_121.2.2.2.2.2.2.2) ∧ (¬ z_121.1 = 0 → ok_MO_writeAll_127  x1 msl mst men mnw z_121.2.1 z_121.2.2.1 z_121.2.2.2.1 mrs mtb mrc z_121.2.2.2.2.1 z_121.2.2.2.2.2.1 z_121.2.2.2.2.2.2.1 mve mrb mic mlb mrw mnb mlk mnk z_121.2.2.2.2.2.2.2))))
set_option maxHeartbeats 4000000 in
set_option maxRecDepth 100000 in
theorem w_MO_writeAll_109 {p : Program} {l : Launch} {e : Env} {s : State} {m : MethodId} {args : Array Value} {below : List Frame} {meth : Method} {c : Code} {A : Nat → Prop} {G : GG} {ad : Nat → Nat} {mrf : Int32} {msl : Int32} {mdr : Int32} {mtb : Int32} {mrc : Int32} {mch : (Nat → Int32)} {mva : (Nat → Int32)} {mic : (Nat → Int32)} {mlb : (Nat → Int32)} {mrw : (Nat → Int32)} {mnb : (Nat → Int32)} {res : Int32 × Int32 × Int32 × Int32 × Int32 × Int32 × Int32 × Int32 × Int32 × (Nat → Int32) × (Nat → Int32) × (Nat → Int32) × (Nat → Int32) × (Nat → Int32) × (Nat → Int32) × (Nat → Int32)} (hC : Cx p l e s m args meth c y_MO_writeAll b_MO_writeAll 5 (some .int) "BookTreesModel" G A) : ∀ (x1 : Int32) (x2 : Int32) (mst : Int32) (men : Int32) (mnw : Int32) (mdn : Int32) (mpw : Int32) (mwr : Int32) (mrs : Int32) (mnx : Int32) (mro : (Nat → Int32)) (mit : (Nat → Int32)) (mve : (Nat → Int32)) (mrb : (Nat → Int32)) (mlk : (Nat → Int32)) (mnk : (Nat → Int32)) (mmd : (Nat → Int32)) (H : Heap) (locs : List Loc) (ls : Array Slot), ok_MO_writeAll_109 x1 x2 msl mst men mnw mdn mpw mwr mrs mtb mrc mnx mro mit mve mrb mic mlb mrw mnb mlk mnk mmd → f_MO_writeAll_109 x1 x2 msl mst men mnw mdn mpw mwr mrs mtb mrc mnx mro mit mve mrb mic mlb mrw mnb mlk mnk mmd = res → va_P G.1 classes (cM G ad mrf msl mst men mnw mdn mpw mwr mrs mdr mtb mrc mnx mro mit mve mrb mch mva mic mlb mrw mnb mlk mnk mmd) H → va_D A (cM G ad mrf msl mst men mnw mdn mpw mwr mrs mdr mtb mrc mnx mro mit mve mrb mch mva mic mlb mrw mnb mlk mnk mmd) → va_S A s.heap H locs → lv_has ls 5 [(0, .ref (ad 0)), (1, .int x1), (2, .int x2)] → W p l e rm_MO_writeAll s m args below meth c H locs 0 0 (MQ below (va_Qi (eqP res) (Wb G A (fun u : Int32 × Int32 × Int32 × Int32 × Int32 × Int32 × Int32 × Int32 × (Nat → Int32) × (Nat → Int32) × (Nat → Int32) × (Nat → Int32) × (Nat → Int32) × (Nat → Int32) × (Nat → Int32) => (cM G ad mrf msl u.1 u.2.1 u.2.2.1 u.2.2.2.1 u.2.2.2.2.1 u.2.2.2.2.2.1 u.2.2.2.2.2.2.1 mdr mtb mrc u.2.2.2.2.2.2.2.1 u.2.2.2.2.2.2.2.2.1 u.2.2.2.2.2.2.2.2.2.1 u.2.2.2.2.2.2.2.2.2.2.1 u.2.2.2.2.2.2.2.2.2.2.2.1 mch mva mic mlb mrw mnb u.2.2.2.2.2.2.2.2.2.2.2.2.1 u.2.2.2.2.2.2.2.2.2.2.2.2.2.1 u.2.2.2.2.2.2.2.2.2.2.2.2.2.2))) A) args s 0 0 A) (F0 m 109 ls []) := by
  obtain ⟨hx, hb, hr, hml, hown, hlocks, ht, hK, hA⟩ := id hC
  intro x1 x2 mst men mnw mdn mpw mwr mrs mnx mro mit mve mrb mlk mnk mmd H locs ls hok hres hP hD hS hl
  rw [f_MO_writeAll_109] at hres
  rw [ok_MO_writeAll_109] at hok
  refine lv_iload_n hx hb d_MO_writeAll_109 rfl (lv_at hl 2 rfl) ?_
  refine lv_if_eq (tgt := 139) hx hb d_MO_writeAll_110 (by decide) (fun c_110 => ?_) (fun c_110 => ?_)
  · have hres := it_t c_110 hres
    have hok := hok.1 c_110
    exact w_MO_writeAll_139 hC x1 mst men mnw mdn mpw mwr mrs mnx mro mit mve mrb mlk mnk mmd _ _ _ hok hres hP hD hS (lv_sub hl [0, 1] rfl)
  · have hres := it_f c_110 hres
    have hok := hok.2 c_110
    refine lv_aload_n hx hb d_MO_writeAll_113 rfl (lv_at hl 0 rfl) ?_
    refine va_get (D := G.1) (ci := 6) (C := R_MO) (T := F_MO) (N := 26) hx hb ht in_MO hown hK hP 0 rfl rfl 21 (by decide) (ht _ kf_MO_160) (fun _ h9 => h9) rfl d_MO_writeAll_114 ?_
    refine lv_if_eq (tgt := 127) hx hb d_MO_writeAll_117 (by decide) (fun c_117 => ?_) (fun c_117 => ?_)
    · have hres := it_t c_117 hres
      have hok := hok.1 c_117
      exact w_MO_writeAll_127 hC x1 mst men mnw mdn mpw mwr mrs mnx mro mit mve mrb mlk mnk mmd _ _ _ hok hres hP hD hS (lv_sub hl [0, 1] rfl)
    · have hres := it_f c_117 hres
      have hok := hok.2 c_117
      refine lv_aload_n hx hb d_MO_writeAll_120 rfl (lv_at hl 0 rfl) ?_
      obtain ⟨hk_121, hok⟩ := hok
      refine go_iz (run_V hx hb hml hown ht hK hP hD (c_MO_writeTop hk_121) (cw_V ht km_MO_190 ki_MO_writeTop ks_MO_writeTop ini_MO kd_MO_writeTop kh_MO_writeTop ⟨Nat.le_of_ble_eq_true rfl, Nat.le_of_ble_eq_true rfl⟩ rfl rfl) (q0 := 0) (ci := 6) (As := []) (rest := []) rfl rfl rfl hl.1 rfl (Nat.le_of_ble_eq_true rfl) d_MO_writeAll_121 ⟨Nat.zero_le _, Nat.zero_le _⟩) hD hS hA (fun z_121 H locs hz_121 hP hD hS => ?_)
      have hres := bindc_eq hz_121 hres
      have hok := bindp_eq hz_121 hok
      have hP : va_P G.1 classes (cM G ad mrf msl mst men mnw z_121.2.1 z_121.2.2.1 z_121.2.2.2.1 mrs mdr mtb mrc z_121.2.2.2.2.1 z_121.2.2.2.2.2.1 z_121.2.2.2.2.2.2.1 mve mrb mch mva mic mlb mrw mnb mlk mnk z_121.2.2.2.2.2.2.2) H := hP
      have hD : va_D A (cM G ad mrf msl mst men mnw z_121.2.1 z_121.2.2.1 z_121.2.2.2.1 mrs mdr mtb mrc z_121.2.2.2.2.1 z_121.2.2.2.2.2.1 z_121.2.2.2.2.2.2.1 mve mrb mch mva mic mlb mrw mnb mlk mnk z_121.2.2.2.2.2.2.2) := hD
      refine lv_if_eq (tgt := 139) hx hb d_MO_writeAll_124 (by decide) (fun c_124 => ?_) (fun c_124 => ?_)
      · have hres := it_t c_124 hres
        have hok := hok.1 c_124
        exact w_MO_writeAll_139 hC x1 mst men mnw z_121.2.1 z_121.2.2.1 z_121.2.2.2.1 mrs z_121.2.2.2.2.1 z_121.2.2.2.2.2.1 z_121.2.2.2.2.2.2.1 mve mrb mlk mnk z_121.2.2.2.2.2.2.2 _ _ _ hok hres hP hD hS (lv_sub hl [0, 1] rfl)
      · have hres := it_f c_124 hres
        have hok := hok.2 c_124
        exact w_MO_writeAll_127 hC x1 mst men mnw z_121.2.1 z_121.2.2.1 z_121.2.2.2.1 mrs z_121.2.2.2.2.1 z_121.2.2.2.2.2.1 z_121.2.2.2.2.2.2.1 mve mrb mlk mnk z_121.2.2.2.2.2.2.2 _ _ _ hok hres hP hD hS (lv_sub hl [0, 1] rfl)
def f_MO_writeAll_62 : Nat → Int32 → Int32 → Int32 → Int32 → Int32 → Int32 → Int32 → Int32 → Int32 → Int32 → Int32 → Int32 → Int32 → Int32 → (Nat → Int32) → (Nat → Int32) → (Nat → Int32) → (Nat → Int32) → (Nat → Int32) → (Nat → Int32) → (Nat → Int32) → (Nat → Int32) → (Nat → Int32) → (Nat → Int32) → (Nat → Int32) → Int32 × Int32 × Int32 × Int32 × Int32 × Int32 × Int32 × Int32 × Int32 × (Nat → Int32) × (Nat → Int32) × (Nat → Int32) × (Nat → Int32) × (Nat → Int32) × (Nat → Int32) × (Nat → Int32)
  | 0, x1, x2, x3, msl, mst, men, mnw, mdn, mpw, mwr, mrs, mtb, mrc, mnx, mro, mit, mve, mrb, mic, mlb, mrw, mnb, mlk, mnk, mmd => (0, (mst, men, mnw, mdn, mpw, mwr, mrs, mnx, mro, mit, mve, mrb, mlk, mnk, mmd))
  | n + 1, x1, x2, x3, msl, mst, men, mnw, mdn, mpw, mwr, mrs, mtb, mrc, mnx, mro, mit, mve, mrb, mic, mlb, mrw, mnb, mlk, mnk, mmd => if (8 : Int32) ≤ x3 then f_MO_writeAll_109 x1 x2 msl mst men mnw mdn mpw mwr mrs mtb mrc mnx mro mit mve mrb mic mlb mrw mnb mlk mnk mmd else if x2 = 0 then f_MO_writeAll_109 x1 x2 msl mst men mnw mdn mpw mwr mrs mtb mrc mnx mro mit mve mrb mic mlb mrw mnb mlk mnk mmd else bindc (f_MO_isNodeChanged x3 mic) (fun z_74 => if z_74.1 = 0 then f_MO_writeAll_62 n x1 (1 : Int32) (x3 + (1 : Int32)) msl mst men mnw mdn mpw mwr mrs mtb mrc mnx mro mit mve mrb mic mlb mrw mnb mlk mnk mmd else if (mnb x3.toNatClampNeg) = 0 then f_MO_writeAll_62 n x1 (1 : Int32) (x3 + (1 : Int32)) msl mst men mnw mdn mpw mwr mrs mtb mrc mnx mro mit mve mrb mic mlb mrw mnb mlk mnk mmd else bindc (f_MO_writeNode x3 msl mnw mdn mpw mwr mnx mro mit mnb mlk mnk mmd) (fun z_91 => if z_91.1 = 0 then f_MO_writeAll_62 n x1 (0 : Int32) (x3 + (1 : Int32)) msl mst men mnw z_91.2.1 z_91.2.2.1 z_91.2.2.2.1 mrs mtb mrc z_91.2.2.2.2.1 z_91.2.2.2.2.2.1 z_91.2.2.2.2.2.2.1 mve mrb mic mlb mrw mnb mlk z_91.2.2.2.2.2.2.2.1 z_91.2.2.2.2.2.2.2.2 else f_MO_writeAll_62 n x1 (1 : Int32) (x3 + (1 : Int32)) msl mst men mnw z_91.2.1 z_91.2.2.1 z_91.2.2.2.1 mrs mtb mrc z_91.2.2.2.2.1 z_91.2.2.2.2.2.1 z_91.2.2.2.2.2.2.1 mve mrb mic mlb mrw mnb mlk z_91.2.2.2.2.2.2.2.1 z_91.2.2.2.2.2.2.2.2))
def ok_MO_writeAll_62 : Nat → Int32 → Int32 → Int32 → Int32 → Int32 → Int32 → Int32 → Int32 → Int32 → Int32 → Int32 → Int32 → Int32 → Int32 → (Nat → Int32) → (Nat → Int32) → (Nat → Int32) → (Nat → Int32) → (Nat → Int32) → (Nat → Int32) → (Nat → Int32) → (Nat → Int32) → (Nat → Int32) → (Nat → Int32) → (Nat → Int32) → Prop
  | 0, _, _, _, _, _, _, _, _, _, _, _, _, _, _, _, _, _, _, _, _, _, _, _, _, _ => False
  | n + 1, x1, x2, x3, msl, mst, men, mnw, mdn, mpw, mwr, mrs, mtb, mrc, mnx, mro, mit, mve, mrb, mic, mlb, mrw, mnb, mlk, mnk, mmd => ((8 : Int32) ≤ x3 → ok_MO_writeAll_109  x1 x2 msl mst men mnw mdn mpw mwr mrs mtb mrc mnx mro mit mve mrb mic mlb mrw mnb mlk mnk mmd) ∧ (¬ (8 : Int32) ≤ x3 → (x2 = 0 → ok_MO_writeAll_109  x1 x2 msl mst men mnw mdn mpw mwr mrs mtb mrc mnx mro mit mve mrb mic mlb mrw mnb mlk mnk mmd) ∧ (¬ x2 = 0 → ok_MO_isNodeChanged x3 mic ∧ bindp (f_MO_isNodeChanged x3 mic) (fun z_74 => (z_74.1 = 0 → ok_MO_writeAll_62  n x1 (1 : Int32) (x3 + (1 : Int32)) msl mst men mnw mdn mpw mwr mrs mtb mrc mnx mro mit mve mrb mic mlb mrw mnb mlk mnk mmd) ∧ (¬ z_74.1 = 0 → vp_in x3 8 ∧ (((mnb x3.toNatClampNeg) = 0 → ok_MO_writeAll_62  n x1 (1 : Int32) (x3 + (1 : Int32)) msl mst men mnw mdn mpw mwr mrs mtb mrc mnx mro mit mve mrb mic mlb mrw mnb mlk mnk mmd) ∧ (¬ (mnb x3.toNatClampNeg) = 0 → ok_MO_writeNode x3 msl mnw mdn mpw mwr mnx mro mit mnb mlk mnk mmd ∧ bindp (f_MO_writeNode x3 msl mnw mdn mpw mwr mnx mro mit mnb mlk mnk mmd) (fun z_91 => (z_91.1 = 0 → ok_MO_writeAll_62  n x1 (0 : Int32) (x3 + (1 : Int32)) msl mst men mnw z_91.2.1 z_91.2.2.1 z_91.2.2.2.1 mrs mtb mrc z_91.2.2.2.2.1 z_91.2.2.2.2.2.1 z_91.2.2.2.2.2.2.1 mve mrb mic mlb mrw mnb mlk z_91.2.2.2.2.2.2.2.1 z_91.2.2.2.2.2.2.2.2) ∧ (¬ z_91.1 = 0 → ok_MO_writeAll_62  n x1 (1 : Int32) (x3 + (1 : Int32)) msl mst men mnw z_91.2.1 z_91.2.2.1 z_91.2.2.2.1 mrs mtb mrc z_91.2.2.2.2.1 z_91.2.2.2.2.2.1 z_91.2.2.2.2.2.2.1 mve mrb mic mlb mrw mnb mlk z_91.2.2.2.2.2.2.2.1 z_91.2.2.2.2.2.2.2.2))))))))
set_option maxHeartbeats 4000000 in
set_option maxRecDepth 100000 in
theorem w_MO_writeAll_62 {p : Program} {l : Launch} {e : Env} {s : State} {m : MethodId} {args : Array Value} {below : List Frame} {meth : Method} {c : Code} {A : Nat → Prop} {G : GG} {ad : Nat → Nat} {mrf : Int32} {msl : Int32} {mdr : Int32} {mtb : Int32} {mrc : Int32} {mch : (Nat → Int32)} {mva : (Nat → Int32)} {mic : (Nat → Int32)} {mlb : (Nat → Int32)} {mrw : (Nat → Int32)} {mnb : (Nat → Int32)} {res : Int32 × Int32 × Int32 × Int32 × Int32 × Int32 × Int32 × Int32 × Int32 × (Nat → Int32) × (Nat → Int32) × (Nat → Int32) × (Nat → Int32) × (Nat → Int32) × (Nat → Int32) × (Nat → Int32)} (hC : Cx p l e s m args meth c y_MO_writeAll b_MO_writeAll 5 (some .int) "BookTreesModel" G A) : ∀ (n : Nat) (x1 : Int32) (x2 : Int32) (x3 : Int32) (mst : Int32) (men : Int32) (mnw : Int32) (mdn : Int32) (mpw : Int32) (mwr : Int32) (mrs : Int32) (mnx : Int32) (mro : (Nat → Int32)) (mit : (Nat → Int32)) (mve : (Nat → Int32)) (mrb : (Nat → Int32)) (mlk : (Nat → Int32)) (mnk : (Nat → Int32)) (mmd : (Nat → Int32)) (H : Heap) (locs : List Loc) (ls : Array Slot), ok_MO_writeAll_62 n x1 x2 x3 msl mst men mnw mdn mpw mwr mrs mtb mrc mnx mro mit mve mrb mic mlb mrw mnb mlk mnk mmd → f_MO_writeAll_62 n x1 x2 x3 msl mst men mnw mdn mpw mwr mrs mtb mrc mnx mro mit mve mrb mic mlb mrw mnb mlk mnk mmd = res → va_P G.1 classes (cM G ad mrf msl mst men mnw mdn mpw mwr mrs mdr mtb mrc mnx mro mit mve mrb mch mva mic mlb mrw mnb mlk mnk mmd) H → va_D A (cM G ad mrf msl mst men mnw mdn mpw mwr mrs mdr mtb mrc mnx mro mit mve mrb mch mva mic mlb mrw mnb mlk mnk mmd) → va_S A s.heap H locs → lv_has ls 5 [(0, .ref (ad 0)), (1, .int x1), (2, .int x2), (3, .int x3)] → W p l e rm_MO_writeAll s m args below meth c H locs 0 0 (MQ below (va_Qi (eqP res) (Wb G A (fun u : Int32 × Int32 × Int32 × Int32 × Int32 × Int32 × Int32 × Int32 × (Nat → Int32) × (Nat → Int32) × (Nat → Int32) × (Nat → Int32) × (Nat → Int32) × (Nat → Int32) × (Nat → Int32) => (cM G ad mrf msl u.1 u.2.1 u.2.2.1 u.2.2.2.1 u.2.2.2.2.1 u.2.2.2.2.2.1 u.2.2.2.2.2.2.1 mdr mtb mrc u.2.2.2.2.2.2.2.1 u.2.2.2.2.2.2.2.2.1 u.2.2.2.2.2.2.2.2.2.1 u.2.2.2.2.2.2.2.2.2.2.1 u.2.2.2.2.2.2.2.2.2.2.2.1 mch mva mic mlb mrw mnb u.2.2.2.2.2.2.2.2.2.2.2.2.1 u.2.2.2.2.2.2.2.2.2.2.2.2.2.1 u.2.2.2.2.2.2.2.2.2.2.2.2.2.2))) A) args s 0 0 A) (F0 m 62 ls []) := by
  obtain ⟨hx, hb, hr, hml, hown, hlocks, ht, hK, hA⟩ := id hC
  intro n
  induction n with
  | zero => intro x1 x2 x3 mst men mnw mdn mpw mwr mrs mnx mro mit mve mrb mlk mnk mmd H locs ls hok; exact hok.elim
  | succ n ih =>
    intro x1 x2 x3 mst men mnw mdn mpw mwr mrs mnx mro mit mve mrb mlk mnk mmd H locs ls hok hres hP hD hS hl
    rw [f_MO_writeAll_62] at hres
    rw [ok_MO_writeAll_62] at hok
    refine lv_iload_n hx hb d_MO_writeAll_62 rfl (lv_at hl 3 rfl) ?_
    refine lv_bipush (v := (8 : Int32)) hx hb d_MO_writeAll_63 (by decide) ?_
    refine lv_icmp_ge (tgt := 109) hx hb d_MO_writeAll_65 (by decide) (fun c_65 => ?_) (fun c_65 => ?_)
    · have hres := it_t c_65 hres
      have hok := hok.1 c_65
      exact w_MO_writeAll_109 hC x1 x2 mst men mnw mdn mpw mwr mrs mnx mro mit mve mrb mlk mnk mmd _ _ _ hok hres hP hD hS (lv_sub hl [0, 1, 2] rfl)
    · have hres := it_f c_65 hres
      have hok := hok.2 c_65
      refine lv_iload_n hx hb d_MO_writeAll_68 rfl (lv_at hl 2 rfl) ?_
      refine lv_if_eq (tgt := 109) hx hb d_MO_writeAll_69 (by decide) (fun c_69 => ?_) (fun c_69 => ?_)
      · have hres := it_t c_69 hres
        have hok := hok.1 c_69
        exact w_MO_writeAll_109 hC x1 x2 mst men mnw mdn mpw mwr mrs mnx mro mit mve mrb mlk mnk mmd _ _ _ hok hres hP hD hS (lv_sub hl [0, 1, 2] rfl)
      · have hres := it_f c_69 hres
        have hok := hok.2 c_69
        refine lv_aload_n hx hb d_MO_writeAll_72 rfl (lv_at hl 0 rfl) ?_
        refine lv_iload_n hx hb d_MO_writeAll_73 rfl (lv_at hl 3 rfl) ?_
        obtain ⟨hk_74, hok⟩ := hok
        refine go_iz (run_V hx hb hml hown ht hK hP hD (c_MO_isNodeChanged hk_74) (cw_V ht km_MO_172 ki_MO_isNodeChanged ks_MO_isNodeChanged ini_MO kd_MO_isNodeChanged kh_MO_isNodeChanged ⟨Nat.le_of_ble_eq_true rfl, Nat.le_of_ble_eq_true rfl⟩ rfl rfl) (q0 := 0) (ci := 6) (As := [.int x3]) (rest := []) rfl rfl rfl hl.1 rfl (Nat.le_of_ble_eq_true rfl) d_MO_writeAll_74 ⟨Nat.zero_le _, Nat.zero_le _⟩) hD hS hA (fun z_74 H locs hz_74 hP hD hS => ?_)
        have hres := bindc_eq hz_74 hres
        have hok := bindp_eq hz_74 hok
        have hP : va_P G.1 classes (cM G ad mrf msl mst men mnw mdn mpw mwr mrs mdr mtb mrc mnx mro mit mve mrb mch mva mic mlb mrw mnb mlk mnk mmd) H := hP
        have hD : va_D A (cM G ad mrf msl mst men mnw mdn mpw mwr mrs mdr mtb mrc mnx mro mit mve mrb mch mva mic mlb mrw mnb mlk mnk mmd) := hD
        refine lv_if_eq (tgt := 97) hx hb d_MO_writeAll_77 (by decide) (fun c_77 => ?_) (fun c_77 => ?_)
        · have hres := it_t c_77 hres
          have hok := hok.1 c_77
          refine lv_iconst (v := (1 : Int32)) hx hb d_MO_writeAll_97 (by decide) ?_
          refine lv_goto (tgt := 102) hx hb d_MO_writeAll_98 (by decide) ?_
          refine lv_istore_n (lv' := [(2, .int (1 : Int32)), (0, .ref (ad 0)), (1, .int x1), (3, .int x3)]) hx hb d_MO_writeAll_102 rfl hl (by decide) rfl (fun ls hl => ?_)
          refine lv_iinc (v := x3 + (1 : Int32)) (lv' := [(3, .int (x3 + (1 : Int32))), (2, .int (1 : Int32)), (0, .ref (ad 0)), (1, .int x1)]) hx hb d_MO_writeAll_103 hl (k := 3) rfl rfl (by decide) rfl (fun ls hl => ?_)
          refine lv_goto (tgt := 62) hx hb d_MO_writeAll_106 (by decide) ?_
          exact ih x1 (1 : Int32) (x3 + (1 : Int32)) mst men mnw mdn mpw mwr mrs mnx mro mit mve mrb mlk mnk mmd _ _ _ hok hres hP hD hS (lv_sub hl [2, 3, 1, 0] rfl)
        · have hres := it_f c_77 hres
          have hok := hok.2 c_77
          refine lv_aload_n hx hb d_MO_writeAll_80 rfl (lv_at hl 0 rfl) ?_
          refine va_get (D := G.1) (ci := 6) (C := R_MO) (T := F_MO) (N := 26) hx hb ht in_MO hown hK hP 0 rfl rfl 19 (by decide) (ht _ kf_MO_42) (fun _ h9 => h9) rfl d_MO_writeAll_81 ?_
          refine lv_iload_n hx hb d_MO_writeAll_84 rfl (lv_at hl 3 rfl) ?_
          obtain ⟨hi_85, hok⟩ := hok
          refine va_iald hx hb hK hP 10 0 rfl rfl hi_85 d_MO_writeAll_85 ?_
          refine lv_if_eq (tgt := 97) hx hb d_MO_writeAll_86 (by decide) (fun c_86 => ?_) (fun c_86 => ?_)
          · have hres := it_t c_86 hres
            have hok := hok.1 c_86
            refine lv_iconst (v := (1 : Int32)) hx hb d_MO_writeAll_97 (by decide) ?_
            refine lv_goto (tgt := 102) hx hb d_MO_writeAll_98 (by decide) ?_
            refine lv_istore_n (lv' := [(2, .int (1 : Int32)), (0, .ref (ad 0)), (1, .int x1), (3, .int x3)]) hx hb d_MO_writeAll_102 rfl hl (by decide) rfl (fun ls hl => ?_)
            refine lv_iinc (v := x3 + (1 : Int32)) (lv' := [(3, .int (x3 + (1 : Int32))), (2, .int (1 : Int32)), (0, .ref (ad 0)), (1, .int x1)]) hx hb d_MO_writeAll_103 hl (k := 3) rfl rfl (by decide) rfl (fun ls hl => ?_)
            refine lv_goto (tgt := 62) hx hb d_MO_writeAll_106 (by decide) ?_
            exact ih x1 (1 : Int32) (x3 + (1 : Int32)) mst men mnw mdn mpw mwr mrs mnx mro mit mve mrb mlk mnk mmd _ _ _ hok hres hP hD hS (lv_sub hl [2, 3, 1, 0] rfl)
          · have hres := it_f c_86 hres
            have hok := hok.2 c_86
            refine lv_aload_n hx hb d_MO_writeAll_89 rfl (lv_at hl 0 rfl) ?_
            refine lv_iload_n hx hb d_MO_writeAll_90 rfl (lv_at hl 3 rfl) ?_
            obtain ⟨hk_91, hok⟩ := hok
            refine go_iz (run_V hx hb hml hown ht hK hP hD (c_MO_writeNode hk_91) (cw_V ht km_MO_187 ki_MO_writeNode ks_MO_writeNode ini_MO kd_MO_writeNode kh_MO_writeNode ⟨Nat.le_of_ble_eq_true rfl, Nat.le_of_ble_eq_true rfl⟩ rfl rfl) (q0 := 0) (ci := 6) (As := [.int x3]) (rest := []) rfl rfl rfl hl.1 rfl (Nat.le_of_ble_eq_true rfl) d_MO_writeAll_91 ⟨Nat.zero_le _, Nat.zero_le _⟩) hD hS hA (fun z_91 H locs hz_91 hP hD hS => ?_)
            have hres := bindc_eq hz_91 hres
            have hok := bindp_eq hz_91 hok
            have hP : va_P G.1 classes (cM G ad mrf msl mst men mnw z_91.2.1 z_91.2.2.1 z_91.2.2.2.1 mrs mdr mtb mrc z_91.2.2.2.2.1 z_91.2.2.2.2.2.1 z_91.2.2.2.2.2.2.1 mve mrb mch mva mic mlb mrw mnb mlk z_91.2.2.2.2.2.2.2.1 z_91.2.2.2.2.2.2.2.2) H := hP
            have hD : va_D A (cM G ad mrf msl mst men mnw z_91.2.1 z_91.2.2.1 z_91.2.2.2.1 mrs mdr mtb mrc z_91.2.2.2.2.1 z_91.2.2.2.2.2.1 z_91.2.2.2.2.2.2.1 mve mrb mch mva mic mlb mrw mnb mlk z_91.2.2.2.2.2.2.2.1 z_91.2.2.2.2.2.2.2.2) := hD
            refine lv_if_eq (tgt := 101) hx hb d_MO_writeAll_94 (by decide) (fun c_94 => ?_) (fun c_94 => ?_)
            · have hres := it_t c_94 hres
              have hok := hok.1 c_94
              refine lv_iconst (v := (0 : Int32)) hx hb d_MO_writeAll_101 (by decide) ?_
              refine lv_istore_n (lv' := [(2, .int (0 : Int32)), (0, .ref (ad 0)), (1, .int x1), (3, .int x3)]) hx hb d_MO_writeAll_102 rfl hl (by decide) rfl (fun ls hl => ?_)
              refine lv_iinc (v := x3 + (1 : Int32)) (lv' := [(3, .int (x3 + (1 : Int32))), (2, .int (0 : Int32)), (0, .ref (ad 0)), (1, .int x1)]) hx hb d_MO_writeAll_103 hl (k := 3) rfl rfl (by decide) rfl (fun ls hl => ?_)
              refine lv_goto (tgt := 62) hx hb d_MO_writeAll_106 (by decide) ?_
              exact ih x1 (0 : Int32) (x3 + (1 : Int32)) mst men mnw z_91.2.1 z_91.2.2.1 z_91.2.2.2.1 mrs z_91.2.2.2.2.1 z_91.2.2.2.2.2.1 z_91.2.2.2.2.2.2.1 mve mrb mlk z_91.2.2.2.2.2.2.2.1 z_91.2.2.2.2.2.2.2.2 _ _ _ hok hres hP hD hS (lv_sub hl [2, 3, 1, 0] rfl)
            · have hres := it_f c_94 hres
              have hok := hok.2 c_94
              refine lv_iconst (v := (1 : Int32)) hx hb d_MO_writeAll_97 (by decide) ?_
              refine lv_goto (tgt := 102) hx hb d_MO_writeAll_98 (by decide) ?_
              refine lv_istore_n (lv' := [(2, .int (1 : Int32)), (0, .ref (ad 0)), (1, .int x1), (3, .int x3)]) hx hb d_MO_writeAll_102 rfl hl (by decide) rfl (fun ls hl => ?_)
              refine lv_iinc (v := x3 + (1 : Int32)) (lv' := [(3, .int (x3 + (1 : Int32))), (2, .int (1 : Int32)), (0, .ref (ad 0)), (1, .int x1)]) hx hb d_MO_writeAll_103 hl (k := 3) rfl rfl (by decide) rfl (fun ls hl => ?_)
              refine lv_goto (tgt := 62) hx hb d_MO_writeAll_106 (by decide) ?_
              exact ih x1 (1 : Int32) (x3 + (1 : Int32)) mst men mnw z_91.2.1 z_91.2.2.1 z_91.2.2.2.1 mrs z_91.2.2.2.2.1 z_91.2.2.2.2.2.1 z_91.2.2.2.2.2.2.1 mve mrb mlk z_91.2.2.2.2.2.2.2.1 z_91.2.2.2.2.2.2.2.2 _ _ _ hok hres hP hD hS (lv_sub hl [2, 3, 1, 0] rfl)
def f_MO_writeAll_60 (x1 : Int32) (x2 : Int32) (msl : Int32) (mst : Int32) (men : Int32) (mnw : Int32) (mdn : Int32) (mpw : Int32) (mwr : Int32) (mrs : Int32) (mtb : Int32) (mrc : Int32) (mnx : Int32) (mro : (Nat → Int32)) (mit : (Nat → Int32)) (mve : (Nat → Int32)) (mrb : (Nat → Int32)) (mic : (Nat → Int32)) (mlb : (Nat → Int32)) (mrw : (Nat → Int32)) (mnb : (Nat → Int32)) (mlk : (Nat → Int32)) (mnk : (Nat → Int32)) (mmd : (Nat → Int32)) : Int32 × Int32 × Int32 × Int32 × Int32 × Int32 × Int32 × Int32 × Int32 × (Nat → Int32) × (Nat → Int32) × (Nat → Int32) × (Nat → Int32) × (Nat → Int32) × (Nat → Int32) × (Nat → Int32) := f_MO_writeAll_62 1024 x1 x2 (0 : Int32) msl mst men mnw mdn mpw mwr mrs mtb mrc mnx mro mit mve mrb mic mlb mrw mnb mlk mnk mmd
def ok_MO_writeAll_60 (x1 : Int32) (x2 : Int32) (msl : Int32) (mst : Int32) (men : Int32) (mnw : Int32) (mdn : Int32) (mpw : Int32) (mwr : Int32) (mrs : Int32) (mtb : Int32) (mrc : Int32) (mnx : Int32) (mro : (Nat → Int32)) (mit : (Nat → Int32)) (mve : (Nat → Int32)) (mrb : (Nat → Int32)) (mic : (Nat → Int32)) (mlb : (Nat → Int32)) (mrw : (Nat → Int32)) (mnb : (Nat → Int32)) (mlk : (Nat → Int32)) (mnk : (Nat → Int32)) (mmd : (Nat → Int32)) : Prop := ok_MO_writeAll_62  1024 x1 x2 (0 : Int32) msl mst men mnw mdn mpw mwr mrs mtb mrc mnx mro mit mve mrb mic mlb mrw mnb mlk mnk mmd
set_option maxHeartbeats 4000000 in
set_option maxRecDepth 100000 in
theorem w_MO_writeAll_60 {p : Program} {l : Launch} {e : Env} {s : State} {m : MethodId} {args : Array Value} {below : List Frame} {meth : Method} {c : Code} {A : Nat → Prop} {G : GG} {ad : Nat → Nat} {mrf : Int32} {msl : Int32} {mdr : Int32} {mtb : Int32} {mrc : Int32} {mch : (Nat → Int32)} {mva : (Nat → Int32)} {mic : (Nat → Int32)} {mlb : (Nat → Int32)} {mrw : (Nat → Int32)} {mnb : (Nat → Int32)} {res : Int32 × Int32 × Int32 × Int32 × Int32 × Int32 × Int32 × Int32 × Int32 × (Nat → Int32) × (Nat → Int32) × (Nat → Int32) × (Nat → Int32) × (Nat → Int32) × (Nat → Int32) × (Nat → Int32)} (hC : Cx p l e s m args meth c y_MO_writeAll b_MO_writeAll 5 (some .int) "BookTreesModel" G A) : ∀ (x1 : Int32) (x2 : Int32) (mst : Int32) (men : Int32) (mnw : Int32) (mdn : Int32) (mpw : Int32) (mwr : Int32) (mrs : Int32) (mnx : Int32) (mro : (Nat → Int32)) (mit : (Nat → Int32)) (mve : (Nat → Int32)) (mrb : (Nat → Int32)) (mlk : (Nat → Int32)) (mnk : (Nat → Int32)) (mmd : (Nat → Int32)) (H : Heap) (locs : List Loc) (ls : Array Slot), ok_MO_writeAll_60 x1 x2 msl mst men mnw mdn mpw mwr mrs mtb mrc mnx mro mit mve mrb mic mlb mrw mnb mlk mnk mmd → f_MO_writeAll_60 x1 x2 msl mst men mnw mdn mpw mwr mrs mtb mrc mnx mro mit mve mrb mic mlb mrw mnb mlk mnk mmd = res → va_P G.1 classes (cM G ad mrf msl mst men mnw mdn mpw mwr mrs mdr mtb mrc mnx mro mit mve mrb mch mva mic mlb mrw mnb mlk mnk mmd) H → va_D A (cM G ad mrf msl mst men mnw mdn mpw mwr mrs mdr mtb mrc mnx mro mit mve mrb mch mva mic mlb mrw mnb mlk mnk mmd) → va_S A s.heap H locs → lv_has ls 5 [(0, .ref (ad 0)), (1, .int x1), (2, .int x2)] → W p l e rm_MO_writeAll s m args below meth c H locs 0 0 (MQ below (va_Qi (eqP res) (Wb G A (fun u : Int32 × Int32 × Int32 × Int32 × Int32 × Int32 × Int32 × Int32 × (Nat → Int32) × (Nat → Int32) × (Nat → Int32) × (Nat → Int32) × (Nat → Int32) × (Nat → Int32) × (Nat → Int32) => (cM G ad mrf msl u.1 u.2.1 u.2.2.1 u.2.2.2.1 u.2.2.2.2.1 u.2.2.2.2.2.1 u.2.2.2.2.2.2.1 mdr mtb mrc u.2.2.2.2.2.2.2.1 u.2.2.2.2.2.2.2.2.1 u.2.2.2.2.2.2.2.2.2.1 u.2.2.2.2.2.2.2.2.2.2.1 u.2.2.2.2.2.2.2.2.2.2.2.1 mch mva mic mlb mrw mnb u.2.2.2.2.2.2.2.2.2.2.2.2.1 u.2.2.2.2.2.2.2.2.2.2.2.2.2.1 u.2.2.2.2.2.2.2.2.2.2.2.2.2.2))) A) args s 0 0 A) (F0 m 60 ls []) := by
  obtain ⟨hx, hb, hr, hml, hown, hlocks, ht, hK, hA⟩ := id hC
  intro x1 x2 mst men mnw mdn mpw mwr mrs mnx mro mit mve mrb mlk mnk mmd H locs ls hok hres hP hD hS hl
  rw [f_MO_writeAll_60] at hres
  rw [ok_MO_writeAll_60] at hok
  refine lv_iconst (v := (0 : Int32)) hx hb d_MO_writeAll_60 (by decide) ?_
  refine lv_istore_n (lv' := [(3, .int (0 : Int32)), (0, .ref (ad 0)), (1, .int x1), (2, .int x2)]) hx hb d_MO_writeAll_61 rfl hl (by decide) rfl (fun ls hl => ?_)
  exact w_MO_writeAll_62 hC 1024 x1 x2 (0 : Int32) mst men mnw mdn mpw mwr mrs mnx mro mit mve mrb mlk mnk mmd _ _ _ hok hres hP hD hS (lv_sub hl [1, 2, 3, 0] rfl)
def f_MO_writeAll_12 : Nat → Int32 → Int32 → Int32 → Int32 → Int32 → Int32 → Int32 → Int32 → Int32 → Int32 → Int32 → Int32 → Int32 → Int32 → (Nat → Int32) → (Nat → Int32) → (Nat → Int32) → (Nat → Int32) → (Nat → Int32) → (Nat → Int32) → (Nat → Int32) → (Nat → Int32) → (Nat → Int32) → (Nat → Int32) → (Nat → Int32) → Int32 × Int32 × Int32 × Int32 × Int32 × Int32 × Int32 × Int32 × Int32 × (Nat → Int32) × (Nat → Int32) × (Nat → Int32) × (Nat → Int32) × (Nat → Int32) × (Nat → Int32) × (Nat → Int32)
  | 0, x1, x2, x3, msl, mst, men, mnw, mdn, mpw, mwr, mrs, mtb, mrc, mnx, mro, mit, mve, mrb, mic, mlb, mrw, mnb, mlk, mnk, mmd => (0, (mst, men, mnw, mdn, mpw, mwr, mrs, mnx, mro, mit, mve, mrb, mlk, mnk, mmd))
  | n + 1, x1, x2, x3, msl, mst, men, mnw, mdn, mpw, mwr, mrs, mtb, mrc, mnx, mro, mit, mve, mrb, mic, mlb, mrw, mnb, mlk, mnk, mmd => if (64 : Int32) ≤ x3 then f_MO_writeAll_60 x1 x2 msl mst men mnw mdn mpw mwr mrs mtb mrc mnx mro mit mve mrb mic mlb mrw mnb mlk mnk mmd else if x2 = 0 then f_MO_writeAll_60 x1 x2 msl mst men mnw mdn mpw mwr mrs mtb mrc mnx mro mit mve mrb mic mlb mrw mnb mlk mnk mmd else if (mic x3.toNatClampNeg) = 0 then f_MO_writeAll_12 n x1 (1 : Int32) (x3 + (1 : Int32)) msl mst men mnw mdn mpw mwr mrs mtb mrc mnx mro mit mve mrb mic mlb mrw mnb mlk mnk mmd else if (mlb x3.toNatClampNeg) = 0 then f_MO_writeAll_12 n x1 (1 : Int32) (x3 + (1 : Int32)) msl mst men mnw mdn mpw mwr mrs mtb mrc mnx mro mit mve mrb mic mlb mrw mnb mlk mnk mmd else bindc (f_MO_writeLeaf x3 msl mnw mdn mpw mwr mnx mro mit mlb mrw mlk mmd) (fun z_42 => if z_42.1 = 0 then f_MO_writeAll_12 n x1 (0 : Int32) (x3 + (1 : Int32)) msl mst men mnw z_42.2.1 z_42.2.2.1 z_42.2.2.2.1 mrs mtb mrc z_42.2.2.2.2.1 z_42.2.2.2.2.2.1 z_42.2.2.2.2.2.2.1 mve mrb mic mlb mrw mnb z_42.2.2.2.2.2.2.2.1 mnk z_42.2.2.2.2.2.2.2.2 else f_MO_writeAll_12 n x1 (1 : Int32) (x3 + (1 : Int32)) msl mst men mnw z_42.2.1 z_42.2.2.1 z_42.2.2.2.1 mrs mtb mrc z_42.2.2.2.2.1 z_42.2.2.2.2.2.1 z_42.2.2.2.2.2.2.1 mve mrb mic mlb mrw mnb z_42.2.2.2.2.2.2.2.1 mnk z_42.2.2.2.2.2.2.2.2)
def ok_MO_writeAll_12 : Nat → Int32 → Int32 → Int32 → Int32 → Int32 → Int32 → Int32 → Int32 → Int32 → Int32 → Int32 → Int32 → Int32 → Int32 → (Nat → Int32) → (Nat → Int32) → (Nat → Int32) → (Nat → Int32) → (Nat → Int32) → (Nat → Int32) → (Nat → Int32) → (Nat → Int32) → (Nat → Int32) → (Nat → Int32) → (Nat → Int32) → Prop
  | 0, _, _, _, _, _, _, _, _, _, _, _, _, _, _, _, _, _, _, _, _, _, _, _, _, _ => False
  | n + 1, x1, x2, x3, msl, mst, men, mnw, mdn, mpw, mwr, mrs, mtb, mrc, mnx, mro, mit, mve, mrb, mic, mlb, mrw, mnb, mlk, mnk, mmd => ((64 : Int32) ≤ x3 → ok_MO_writeAll_60  x1 x2 msl mst men mnw mdn mpw mwr mrs mtb mrc mnx mro mit mve mrb mic mlb mrw mnb mlk mnk mmd) ∧ (¬ (64 : Int32) ≤ x3 → (x2 = 0 → ok_MO_writeAll_60  x1 x2 msl mst men mnw mdn mpw mwr mrs mtb mrc mnx mro mit mve mrb mic mlb mrw mnb mlk mnk mmd) ∧ (¬ x2 = 0 → vp_in x3 64 ∧ (((mic x3.toNatClampNeg) = 0 → ok_MO_writeAll_12  n x1 (1 : Int32) (x3 + (1 : Int32)) msl mst men mnw mdn mpw mwr mrs mtb mrc mnx mro mit mve mrb mic mlb mrw mnb mlk mnk mmd) ∧ (¬ (mic x3.toNatClampNeg) = 0 → vp_in x3 64 ∧ (((mlb x3.toNatClampNeg) = 0 → ok_MO_writeAll_12  n x1 (1 : Int32) (x3 + (1 : Int32)) msl mst men mnw mdn mpw mwr mrs mtb mrc mnx mro mit mve mrb mic mlb mrw mnb mlk mnk mmd) ∧ (¬ (mlb x3.toNatClampNeg) = 0 → ok_MO_writeLeaf x3 msl mnw mdn mpw mwr mnx mro mit mlb mrw mlk mmd ∧ bindp (f_MO_writeLeaf x3 msl mnw mdn mpw mwr mnx mro mit mlb mrw mlk mmd) (fun z_42 => (z_42.1 = 0 → ok_MO_writeAll_12  n x1 (0 : Int32) (x3 + (1 : Int32)) msl mst men mnw z_42.2.1 z_42.2.2.1 z_42.2.2.2.1 mrs mtb mrc z_42.2.2.2.2.1 z_42.2.2.2.2.2.1 z_42.2.2.2.2.2.2.1 mve mrb mic mlb mrw mnb z_42.2.2.2.2.2.2.2.1 mnk z_42.2.2.2.2.2.2.2.2) ∧ (¬ z_42.1 = 0 → ok_MO_writeAll_12  n x1 (1 : Int32) (x3 + (1 : Int32)) msl mst men mnw z_42.2.1 z_42.2.2.1 z_42.2.2.2.1 mrs mtb mrc z_42.2.2.2.2.1 z_42.2.2.2.2.2.1 z_42.2.2.2.2.2.2.1 mve mrb mic mlb mrw mnb z_42.2.2.2.2.2.2.2.1 mnk z_42.2.2.2.2.2.2.2.2))))))))
set_option maxHeartbeats 4000000 in
set_option maxRecDepth 100000 in
theorem w_MO_writeAll_12 {p : Program} {l : Launch} {e : Env} {s : State} {m : MethodId} {args : Array Value} {below : List Frame} {meth : Method} {c : Code} {A : Nat → Prop} {G : GG} {ad : Nat → Nat} {mrf : Int32} {msl : Int32} {mdr : Int32} {mtb : Int32} {mrc : Int32} {mch : (Nat → Int32)} {mva : (Nat → Int32)} {mic : (Nat → Int32)} {mlb : (Nat → Int32)} {mrw : (Nat → Int32)} {mnb : (Nat → Int32)} {res : Int32 × Int32 × Int32 × Int32 × Int32 × Int32 × Int32 × Int32 × Int32 × (Nat → Int32) × (Nat → Int32) × (Nat → Int32) × (Nat → Int32) × (Nat → Int32) × (Nat → Int32) × (Nat → Int32)} (hC : Cx p l e s m args meth c y_MO_writeAll b_MO_writeAll 5 (some .int) "BookTreesModel" G A) : ∀ (n : Nat) (x1 : Int32) (x2 : Int32) (x3 : Int32) (mst : Int32) (men : Int32) (mnw : Int32) (mdn : Int32) (mpw : Int32) (mwr : Int32) (mrs : Int32) (mnx : Int32) (mro : (Nat → Int32)) (mit : (Nat → Int32)) (mve : (Nat → Int32)) (mrb : (Nat → Int32)) (mlk : (Nat → Int32)) (mnk : (Nat → Int32)) (mmd : (Nat → Int32)) (H : Heap) (locs : List Loc) (ls : Array Slot), ok_MO_writeAll_12 n x1 x2 x3 msl mst men mnw mdn mpw mwr mrs mtb mrc mnx mro mit mve mrb mic mlb mrw mnb mlk mnk mmd → f_MO_writeAll_12 n x1 x2 x3 msl mst men mnw mdn mpw mwr mrs mtb mrc mnx mro mit mve mrb mic mlb mrw mnb mlk mnk mmd = res → va_P G.1 classes (cM G ad mrf msl mst men mnw mdn mpw mwr mrs mdr mtb mrc mnx mro mit mve mrb mch mva mic mlb mrw mnb mlk mnk mmd) H → va_D A (cM G ad mrf msl mst men mnw mdn mpw mwr mrs mdr mtb mrc mnx mro mit mve mrb mch mva mic mlb mrw mnb mlk mnk mmd) → va_S A s.heap H locs → lv_has ls 5 [(0, .ref (ad 0)), (1, .int x1), (2, .int x2), (3, .int x3)] → W p l e rm_MO_writeAll s m args below meth c H locs 0 0 (MQ below (va_Qi (eqP res) (Wb G A (fun u : Int32 × Int32 × Int32 × Int32 × Int32 × Int32 × Int32 × Int32 × (Nat → Int32) × (Nat → Int32) × (Nat → Int32) × (Nat → Int32) × (Nat → Int32) × (Nat → Int32) × (Nat → Int32) => (cM G ad mrf msl u.1 u.2.1 u.2.2.1 u.2.2.2.1 u.2.2.2.2.1 u.2.2.2.2.2.1 u.2.2.2.2.2.2.1 mdr mtb mrc u.2.2.2.2.2.2.2.1 u.2.2.2.2.2.2.2.2.1 u.2.2.2.2.2.2.2.2.2.1 u.2.2.2.2.2.2.2.2.2.2.1 u.2.2.2.2.2.2.2.2.2.2.2.1 mch mva mic mlb mrw mnb u.2.2.2.2.2.2.2.2.2.2.2.2.1 u.2.2.2.2.2.2.2.2.2.2.2.2.2.1 u.2.2.2.2.2.2.2.2.2.2.2.2.2.2))) A) args s 0 0 A) (F0 m 12 ls []) := by
  obtain ⟨hx, hb, hr, hml, hown, hlocks, ht, hK, hA⟩ := id hC
  intro n
  induction n with
  | zero => intro x1 x2 x3 mst men mnw mdn mpw mwr mrs mnx mro mit mve mrb mlk mnk mmd H locs ls hok; exact hok.elim
  | succ n ih =>
    intro x1 x2 x3 mst men mnw mdn mpw mwr mrs mnx mro mit mve mrb mlk mnk mmd H locs ls hok hres hP hD hS hl
    rw [f_MO_writeAll_12] at hres
    rw [ok_MO_writeAll_12] at hok
    refine lv_iload_n hx hb d_MO_writeAll_12 rfl (lv_at hl 3 rfl) ?_
    refine lv_bipush (v := (64 : Int32)) hx hb d_MO_writeAll_13 (by decide) ?_
    refine lv_icmp_ge (tgt := 60) hx hb d_MO_writeAll_15 (by decide) (fun c_15 => ?_) (fun c_15 => ?_)
    · have hres := it_t c_15 hres
      have hok := hok.1 c_15
      exact w_MO_writeAll_60 hC x1 x2 mst men mnw mdn mpw mwr mrs mnx mro mit mve mrb mlk mnk mmd _ _ _ hok hres hP hD hS (lv_sub hl [0, 1, 2] rfl)
    · have hres := it_f c_15 hres
      have hok := hok.2 c_15
      refine lv_iload_n hx hb d_MO_writeAll_18 rfl (lv_at hl 2 rfl) ?_
      refine lv_if_eq (tgt := 60) hx hb d_MO_writeAll_19 (by decide) (fun c_19 => ?_) (fun c_19 => ?_)
      · have hres := it_t c_19 hres
        have hok := hok.1 c_19
        exact w_MO_writeAll_60 hC x1 x2 mst men mnw mdn mpw mwr mrs mnx mro mit mve mrb mlk mnk mmd _ _ _ hok hres hP hD hS (lv_sub hl [0, 1, 2] rfl)
      · have hres := it_f c_19 hres
        have hok := hok.2 c_19
        refine lv_aload_n hx hb d_MO_writeAll_22 rfl (lv_at hl 0 rfl) ?_
        refine va_get (D := G.1) (ci := 6) (C := R_MO) (T := F_MO) (N := 26) hx hb ht in_MO hown hK hP 0 rfl rfl 16 (by decide) (ht _ kf_MO_33) (fun _ h9 => h9) rfl d_MO_writeAll_23 ?_
        refine lv_iload_n hx hb d_MO_writeAll_26 rfl (lv_at hl 3 rfl) ?_
        obtain ⟨hi_27, hok⟩ := hok
        refine va_zald hx hb hK hP 7 1 rfl rfl hi_27 d_MO_writeAll_27 ?_
        refine lv_if_eq (tgt := 48) hx hb d_MO_writeAll_28 (by decide) (fun c_28 => ?_) (fun c_28 => ?_)
        · have hres := it_t c_28 hres
          have hok := hok.1 c_28
          refine lv_iconst (v := (1 : Int32)) hx hb d_MO_writeAll_48 (by decide) ?_
          refine lv_goto (tgt := 53) hx hb d_MO_writeAll_49 (by decide) ?_
          refine lv_istore_n (lv' := [(2, .int (1 : Int32)), (0, .ref (ad 0)), (1, .int x1), (3, .int x3)]) hx hb d_MO_writeAll_53 rfl hl (by decide) rfl (fun ls hl => ?_)
          refine lv_iinc (v := x3 + (1 : Int32)) (lv' := [(3, .int (x3 + (1 : Int32))), (2, .int (1 : Int32)), (0, .ref (ad 0)), (1, .int x1)]) hx hb d_MO_writeAll_54 hl (k := 3) rfl rfl (by decide) rfl (fun ls hl => ?_)
          refine lv_goto (tgt := 12) hx hb d_MO_writeAll_57 (by decide) ?_
          exact ih x1 (1 : Int32) (x3 + (1 : Int32)) mst men mnw mdn mpw mwr mrs mnx mro mit mve mrb mlk mnk mmd _ _ _ hok hres hP hD hS (lv_sub hl [2, 3, 1, 0] rfl)
        · have hres := it_f c_28 hres
          have hok := hok.2 c_28
          refine lv_aload_n hx hb d_MO_writeAll_31 rfl (lv_at hl 0 rfl) ?_
          refine va_get (D := G.1) (ci := 6) (C := R_MO) (T := F_MO) (N := 26) hx hb ht in_MO hown hK hP 0 rfl rfl 17 (by decide) (ht _ kf_MO_36) (fun _ h9 => h9) rfl d_MO_writeAll_32 ?_
          refine lv_iload_n hx hb d_MO_writeAll_35 rfl (lv_at hl 3 rfl) ?_
          obtain ⟨hi_36, hok⟩ := hok
          refine va_iald hx hb hK hP 8 0 rfl rfl hi_36 d_MO_writeAll_36 ?_
          refine lv_if_eq (tgt := 48) hx hb d_MO_writeAll_37 (by decide) (fun c_37 => ?_) (fun c_37 => ?_)
          · have hres := it_t c_37 hres
            have hok := hok.1 c_37
            refine lv_iconst (v := (1 : Int32)) hx hb d_MO_writeAll_48 (by decide) ?_
            refine lv_goto (tgt := 53) hx hb d_MO_writeAll_49 (by decide) ?_
            refine lv_istore_n (lv' := [(2, .int (1 : Int32)), (0, .ref (ad 0)), (1, .int x1), (3, .int x3)]) hx hb d_MO_writeAll_53 rfl hl (by decide) rfl (fun ls hl => ?_)
            refine lv_iinc (v := x3 + (1 : Int32)) (lv' := [(3, .int (x3 + (1 : Int32))), (2, .int (1 : Int32)), (0, .ref (ad 0)), (1, .int x1)]) hx hb d_MO_writeAll_54 hl (k := 3) rfl rfl (by decide) rfl (fun ls hl => ?_)
            refine lv_goto (tgt := 12) hx hb d_MO_writeAll_57 (by decide) ?_
            exact ih x1 (1 : Int32) (x3 + (1 : Int32)) mst men mnw mdn mpw mwr mrs mnx mro mit mve mrb mlk mnk mmd _ _ _ hok hres hP hD hS (lv_sub hl [2, 3, 1, 0] rfl)
          · have hres := it_f c_37 hres
            have hok := hok.2 c_37
            refine lv_aload_n hx hb d_MO_writeAll_40 rfl (lv_at hl 0 rfl) ?_
            refine lv_iload_n hx hb d_MO_writeAll_41 rfl (lv_at hl 3 rfl) ?_
            obtain ⟨hk_42, hok⟩ := hok
            refine go_iz (run_V hx hb hml hown ht hK hP hD (c_MO_writeLeaf hk_42) (cw_V ht km_MO_184 ki_MO_writeLeaf ks_MO_writeLeaf ini_MO kd_MO_writeLeaf kh_MO_writeLeaf ⟨Nat.le_of_ble_eq_true rfl, Nat.le_of_ble_eq_true rfl⟩ rfl rfl) (q0 := 0) (ci := 6) (As := [.int x3]) (rest := []) rfl rfl rfl hl.1 rfl (Nat.le_of_ble_eq_true rfl) d_MO_writeAll_42 ⟨Nat.zero_le _, Nat.zero_le _⟩) hD hS hA (fun z_42 H locs hz_42 hP hD hS => ?_)
            have hres := bindc_eq hz_42 hres
            have hok := bindp_eq hz_42 hok
            have hP : va_P G.1 classes (cM G ad mrf msl mst men mnw z_42.2.1 z_42.2.2.1 z_42.2.2.2.1 mrs mdr mtb mrc z_42.2.2.2.2.1 z_42.2.2.2.2.2.1 z_42.2.2.2.2.2.2.1 mve mrb mch mva mic mlb mrw mnb z_42.2.2.2.2.2.2.2.1 mnk z_42.2.2.2.2.2.2.2.2) H := hP
            have hD : va_D A (cM G ad mrf msl mst men mnw z_42.2.1 z_42.2.2.1 z_42.2.2.2.1 mrs mdr mtb mrc z_42.2.2.2.2.1 z_42.2.2.2.2.2.1 z_42.2.2.2.2.2.2.1 mve mrb mch mva mic mlb mrw mnb z_42.2.2.2.2.2.2.2.1 mnk z_42.2.2.2.2.2.2.2.2) := hD
            refine lv_if_eq (tgt := 52) hx hb d_MO_writeAll_45 (by decide) (fun c_45 => ?_) (fun c_45 => ?_)
            · have hres := it_t c_45 hres
              have hok := hok.1 c_45
              refine lv_iconst (v := (0 : Int32)) hx hb d_MO_writeAll_52 (by decide) ?_
              refine lv_istore_n (lv' := [(2, .int (0 : Int32)), (0, .ref (ad 0)), (1, .int x1), (3, .int x3)]) hx hb d_MO_writeAll_53 rfl hl (by decide) rfl (fun ls hl => ?_)
              refine lv_iinc (v := x3 + (1 : Int32)) (lv' := [(3, .int (x3 + (1 : Int32))), (2, .int (0 : Int32)), (0, .ref (ad 0)), (1, .int x1)]) hx hb d_MO_writeAll_54 hl (k := 3) rfl rfl (by decide) rfl (fun ls hl => ?_)
              refine lv_goto (tgt := 12) hx hb d_MO_writeAll_57 (by decide) ?_
              exact ih x1 (0 : Int32) (x3 + (1 : Int32)) mst men mnw z_42.2.1 z_42.2.2.1 z_42.2.2.2.1 mrs z_42.2.2.2.2.1 z_42.2.2.2.2.2.1 z_42.2.2.2.2.2.2.1 mve mrb z_42.2.2.2.2.2.2.2.1 mnk z_42.2.2.2.2.2.2.2.2 _ _ _ hok hres hP hD hS (lv_sub hl [2, 3, 1, 0] rfl)
            · have hres := it_f c_45 hres
              have hok := hok.2 c_45
              refine lv_iconst (v := (1 : Int32)) hx hb d_MO_writeAll_48 (by decide) ?_
              refine lv_goto (tgt := 53) hx hb d_MO_writeAll_49 (by decide) ?_
              refine lv_istore_n (lv' := [(2, .int (1 : Int32)), (0, .ref (ad 0)), (1, .int x1), (3, .int x3)]) hx hb d_MO_writeAll_53 rfl hl (by decide) rfl (fun ls hl => ?_)
              refine lv_iinc (v := x3 + (1 : Int32)) (lv' := [(3, .int (x3 + (1 : Int32))), (2, .int (1 : Int32)), (0, .ref (ad 0)), (1, .int x1)]) hx hb d_MO_writeAll_54 hl (k := 3) rfl rfl (by decide) rfl (fun ls hl => ?_)
              refine lv_goto (tgt := 12) hx hb d_MO_writeAll_57 (by decide) ?_
              exact ih x1 (1 : Int32) (x3 + (1 : Int32)) mst men mnw z_42.2.1 z_42.2.2.1 z_42.2.2.2.1 mrs z_42.2.2.2.2.1 z_42.2.2.2.2.2.1 z_42.2.2.2.2.2.2.1 mve mrb z_42.2.2.2.2.2.2.2.1 mnk z_42.2.2.2.2.2.2.2.2 _ _ _ hok hres hP hD hS (lv_sub hl [2, 3, 1, 0] rfl)
def f_MO_writeAll (p0 : Int32) (msl : Int32) (mst : Int32) (men : Int32) (mnw : Int32) (mdn : Int32) (mpw : Int32) (mwr : Int32) (mrs : Int32) (mtb : Int32) (mrc : Int32) (mnx : Int32) (mro : (Nat → Int32)) (mit : (Nat → Int32)) (mve : (Nat → Int32)) (mrb : (Nat → Int32)) (mic : (Nat → Int32)) (mlb : (Nat → Int32)) (mrw : (Nat → Int32)) (mnb : (Nat → Int32)) (mlk : (Nat → Int32)) (mnk : (Nat → Int32)) (mmd : (Nat → Int32)) : Int32 × Int32 × Int32 × Int32 × Int32 × Int32 × Int32 × Int32 × Int32 × (Nat → Int32) × (Nat → Int32) × (Nat → Int32) × (Nat → Int32) × (Nat → Int32) × (Nat → Int32) × (Nat → Int32) := f_MO_writeAll_12 1024 p0 (1 : Int32) (0 : Int32) msl mst men mnw mdn mpw mwr mrs mtb mrc men mro mit mve mrb mic mlb mrw mnb mlk mnk mmd
def ok_MO_writeAll (p0 : Int32) (msl : Int32) (mst : Int32) (men : Int32) (mnw : Int32) (mdn : Int32) (mpw : Int32) (mwr : Int32) (mrs : Int32) (mtb : Int32) (mrc : Int32) (mnx : Int32) (mro : (Nat → Int32)) (mit : (Nat → Int32)) (mve : (Nat → Int32)) (mrb : (Nat → Int32)) (mic : (Nat → Int32)) (mlb : (Nat → Int32)) (mrw : (Nat → Int32)) (mnb : (Nat → Int32)) (mlk : (Nat → Int32)) (mnk : (Nat → Int32)) (mmd : (Nat → Int32)) : Prop := ok_MO_writeAll_12  1024 p0 (1 : Int32) (0 : Int32) msl mst men mnw mdn mpw mwr mrs mtb mrc men mro mit mve mrb mic mlb mrw mnb mlk mnk mmd
set_option maxHeartbeats 4000000 in
set_option maxRecDepth 100000 in
theorem c_MO_writeAll {l : Launch} {G : GG} {ad : Nat → Nat} {sz : Nat} {mrf : Int32} {msl : Int32} {mst : Int32} {men : Int32} {mnw : Int32} {mdn : Int32} {mpw : Int32} {mwr : Int32} {mrs : Int32} {mdr : Int32} {mtb : Int32} {mrc : Int32} {mnx : Int32} {mro : (Nat → Int32)} {mit : (Nat → Int32)} {mve : (Nat → Int32)} {mrb : (Nat → Int32)} {mch : (Nat → Int32)} {mva : (Nat → Int32)} {mic : (Nat → Int32)} {mlb : (Nat → Int32)} {mrw : (Nat → Int32)} {mnb : (Nat → Int32)} {mlk : (Nat → Int32)} {mnk : (Nat → Int32)} {mmd : (Nat → Int32)} {p0 : Int32} (hok : ok_MO_writeAll p0 msl mst men mnw mdn mpw mwr mrs mtb mrc mnx mro mit mve mrb mic mlb mrw mnb mlk mnk mmd) : CtI l y_MO_writeAll b_MO_writeAll 5 (some .int) rm_MO_writeAll G (cM G ad mrf msl mst men mnw mdn mpw mwr mrs mdr mtb mrc mnx mro mit mve mrb mch mva mic mlb mrw mnb mlk mnk mmd) sz [.ref (ad 0), .int p0] (eqP (f_MO_writeAll p0 msl mst men mnw mdn mpw mwr mrs mtb mrc mnx mro mit mve mrb mic mlb mrw mnb mlk mnk mmd)) (fun u : Int32 × Int32 × Int32 × Int32 × Int32 × Int32 × Int32 × Int32 × (Nat → Int32) × (Nat → Int32) × (Nat → Int32) × (Nat → Int32) × (Nat → Int32) × (Nat → Int32) × (Nat → Int32) => (cM G ad mrf msl u.1 u.2.1 u.2.2.1 u.2.2.2.1 u.2.2.2.2.1 u.2.2.2.2.2.1 u.2.2.2.2.2.2.1 mdr mtb mrc u.2.2.2.2.2.2.2.1 u.2.2.2.2.2.2.2.2.1 u.2.2.2.2.2.2.2.2.2.1 u.2.2.2.2.2.2.2.2.2.2.1 u.2.2.2.2.2.2.2.2.2.2.2.1 mch mva mic mlb mrw mnb u.2.2.2.2.2.2.2.2.2.2.2.2.1 u.2.2.2.2.2.2.2.2.2.2.2.2.2.1 u.2.2.2.2.2.2.2.2.2.2.2.2.2.2)) := by
  generalize hres : f_MO_writeAll p0 msl mst men mnw mdn mpw mwr mrs mtb mrc mnx mro mit mve mrb mic mlb mrw mnb mlk mnk mmd = res
  refine Met_of (Qc := fun A => va_Qi (eqP res) (Wb G A (fun u : Int32 × Int32 × Int32 × Int32 × Int32 × Int32 × Int32 × Int32 × (Nat → Int32) × (Nat → Int32) × (Nat → Int32) × (Nat → Int32) × (Nat → Int32) × (Nat → Int32) × (Nat → Int32) => (cM G ad mrf msl u.1 u.2.1 u.2.2.1 u.2.2.2.1 u.2.2.2.2.1 u.2.2.2.2.2.1 u.2.2.2.2.2.2.1 mdr mtb mrc u.2.2.2.2.2.2.2.1 u.2.2.2.2.2.2.2.2.1 u.2.2.2.2.2.2.2.2.2.1 u.2.2.2.2.2.2.2.2.2.2.1 u.2.2.2.2.2.2.2.2.2.2.2.1 mch mva mic mlb mrw mnb u.2.2.2.2.2.2.2.2.2.2.2.2.1 u.2.2.2.2.2.2.2.2.2.2.2.2.2.1 u.2.2.2.2.2.2.2.2.2.2.2.2.2.2))) A) (by decide) (Nat.le_of_ble_eq_true rfl) ?_
  intro p e s m below meth c hadm hx hb hr hml hown hlocks ht hK A hA hP hD hS ls hl
  have hC : Cx p l e s m (([.ref (ad 0), .int p0] : List Value)).toArray meth c y_MO_writeAll b_MO_writeAll 5 (some .int) "BookTreesModel" G A := ⟨hx, hb, hr, hml, hown, hlocks, ht, hK, hA⟩
  have hown : s.vm.findClass "BookTreesModel" = some m.cls := hown
  have hl : lv_has ls 5 [(0, .ref (ad 0)), (1, .int p0)] := hl
  rw [f_MO_writeAll] at hres
  rw [ok_MO_writeAll] at hok
  refine lv_aload_n hx hb d_MO_writeAll_0 rfl (lv_at hl 0 rfl) ?_
  refine lv_aload_n hx hb d_MO_writeAll_1 rfl (lv_at hl 0 rfl) ?_
  refine va_get (D := G.1) (ci := 6) (C := R_MO) (T := F_MO) (N := 26) hx hb ht in_MO hown hK hP 0 rfl rfl 5 (by decide) (ht _ kf_MO_67) (fun _ h9 => h9) rfl d_MO_writeAll_2 ?_
  refine va_put (D := G.1) (ci := 6) (v := .int men) (ty := .int) (C := R_MO) (T := F_MO) (N := 26) hx hb ht in_MO t_MO to_MO nm_MO hown hK hP hD hS 0 rfl rfl 25 (by decide) (ht _ kf_MO_154) (fun _ h9 => h9) rfl (to_MO 25 (by decide)) rfl rfl (Nat.le_of_ble_eq_true rfl) d_MO_writeAll_5 (fun H locs hP hD hS => ?_)
  have hP : va_P G.1 classes (cM G ad mrf msl mst men mnw mdn mpw mwr mrs mdr mtb mrc men mro mit mve mrb mch mva mic mlb mrw mnb mlk mnk mmd) H := hP
  have hD : va_D A (cM G ad mrf msl mst men mnw mdn mpw mwr mrs mdr mtb mrc men mro mit mve mrb mch mva mic mlb mrw mnb mlk mnk mmd) := hD
  refine lv_iconst (v := (1 : Int32)) hx hb d_MO_writeAll_8 (by decide) ?_
  refine lv_istore_n (lv' := [(2, .int (1 : Int32)), (0, .ref (ad 0)), (1, .int p0)]) hx hb d_MO_writeAll_9 rfl hl (by decide) rfl (fun ls hl => ?_)
  refine lv_iconst (v := (0 : Int32)) hx hb d_MO_writeAll_10 (by decide) ?_
  refine lv_istore_n (lv' := [(3, .int (0 : Int32)), (2, .int (1 : Int32)), (0, .ref (ad 0)), (1, .int p0)]) hx hb d_MO_writeAll_11 rfl hl (by decide) rfl (fun ls hl => ?_)
  exact w_MO_writeAll_12 hC 1024 p0 (1 : Int32) (0 : Int32) mst men mnw mdn mpw mwr mrs men mro mit mve mrb mlk mnk mmd _ _ _ hok hres hP hD hS (lv_sub hl [2, 3, 1, 0] rfl)
/-! ===== BookTreesModel.commit()I ===== -/
abbrev rm_MO_commit : Room := { frames := 6, cells := 0, slots := 0, locals := 143 }
def f_MO_commit_44 : Nat → Int32 → Int32 → Int32 → Int32 → Int32 → Int32 → Int32 → Int32 → Int32 → Int32 → Int32 → Int32 → Int32 → Int32 → (Nat → Int32) → (Nat → Int32) → (Nat → Int32) → (Nat → Int32) → (Nat → Int32) → (Nat → Int32) → (Nat → Int32) → (Nat → Int32) → (Nat → Int32) → (Nat → Int32) → (Nat → Int32) → (Nat → Int32) → (Nat → Int32) → Int32 × Int32 × Int32 × Int32 × Int32 × Int32 × Int32 × Int32 × Int32 × Int32 × Int32 × Int32 × Int32 × (Nat → Int32) × (Nat → Int32) × (Nat → Int32) × (Nat → Int32) × (Nat → Int32) × (Nat → Int32) × (Nat → Int32) × (Nat → Int32) × (Nat → Int32) × (Nat → Int32) × (Nat → Int32) × (Nat → Int32)
  | 0, x1, mrf, msl, mst, men, mnw, mdn, mpw, mwr, mrs, mdr, mtb, mrc, mnx, mro, mit, mve, mrb, mch, mva, mic, mlb, mrw, mnb, mlk, mnk, mmd => (0, (mrf, mst, men, mnw, mdn, mpw, mwr, mrs, mdr, mtb, mrc, mnx, mro, mit, mve, mrb, mch, mic, mlb, mrw, mnb, mlk, mnk, mmd))
  | n + 1, x1, mrf, msl, mst, men, mnw, mdn, mpw, mwr, mrs, mdr, mtb, mrc, mnx, mro, mit, mve, mrb, mch, mva, mic, mlb, mrw, mnb, mlk, mnk, mmd => if (512 : Int32) ≤ x1 then bindc (f_MO_readAll msl mst men mnw mrs mtb mrc mro mit mve mrb mic mlb mrw mnb mlk mnk) (fun z_93 => if z_93.1 = 0 then ((-2 : Int32), (mrf, mst, men, mnw, mdn, mpw, mwr, mrs, mdr, z_93.2.1, z_93.2.2.1, mnx, mro, mit, mve, mrb, mch, mic, z_93.2.2.2.1, z_93.2.2.2.2.1, z_93.2.2.2.2.2.1, z_93.2.2.2.2.2.2.1, z_93.2.2.2.2.2.2.2, mmd)) else bindc (f_MO_applyDraft z_93.2.2.1 mch mva z_93.2.2.2.1 z_93.2.2.2.2.1) (fun z_103 => bindc (f_MO_settle z_93.2.1 mic z_103.2.1 z_93.2.2.2.2.2.1) (fun z_107 => if z_107.1 ≤ ((msl - men) + mst) then bindc (f_MO_writeAll mst msl mst men mnw mdn mpw mwr mrs z_107.2.1 z_103.1 mnx mro mit mve mrb mic z_103.2.1 z_103.2.2 z_107.2.2 z_93.2.2.2.2.2.2.1 z_93.2.2.2.2.2.2.2 mmd) (fun z_135 => if z_135.1 = (-4 : Int32) then (z_135.1, (mrf, z_135.2.1, z_135.2.2.1, z_135.2.2.2.1, z_135.2.2.2.2.1, z_135.2.2.2.2.2.1, z_135.2.2.2.2.2.2.1, z_135.2.2.2.2.2.2.2.1, mdr, z_107.2.1, z_103.1, z_135.2.2.2.2.2.2.2.2.1, z_135.2.2.2.2.2.2.2.2.2.1, z_135.2.2.2.2.2.2.2.2.2.2.1, z_135.2.2.2.2.2.2.2.2.2.2.2.1, z_135.2.2.2.2.2.2.2.2.2.2.2.2.1, mch, mic, z_103.2.1, z_103.2.2, z_107.2.2, z_135.2.2.2.2.2.2.2.2.2.2.2.2.2.1, z_135.2.2.2.2.2.2.2.2.2.2.2.2.2.2.1, z_135.2.2.2.2.2.2.2.2.2.2.2.2.2.2.2)) else bindc (f_MO_clear mdr mch) (fun z_146 => (z_135.1, (mrf, z_135.2.1, z_135.2.2.1, z_135.2.2.2.1, z_135.2.2.2.2.1, z_135.2.2.2.2.2.1, z_135.2.2.2.2.2.2.1, z_135.2.2.2.2.2.2.2.1, z_146.1, z_107.2.1, z_103.1, z_135.2.2.2.2.2.2.2.2.1, z_135.2.2.2.2.2.2.2.2.2.1, z_135.2.2.2.2.2.2.2.2.2.2.1, z_135.2.2.2.2.2.2.2.2.2.2.2.1, z_135.2.2.2.2.2.2.2.2.2.2.2.2.1, z_146.2, mic, z_103.2.1, z_103.2.2, z_107.2.2, z_135.2.2.2.2.2.2.2.2.2.2.2.2.2.1, z_135.2.2.2.2.2.2.2.2.2.2.2.2.2.2.1, z_135.2.2.2.2.2.2.2.2.2.2.2.2.2.2.2)))) else ((-3 : Int32), (mrf, mst, men, mnw, mdn, mpw, mwr, mrs, mdr, z_107.2.1, z_103.1, mnx, mro, mit, mve, mrb, mch, mic, z_103.2.1, z_103.2.2, z_107.2.2, z_93.2.2.2.2.2.2.1, z_93.2.2.2.2.2.2.2, mmd))))) else if (mic (x1 / (8 : Int32)).toNatClampNeg) = 0 then (if (mch x1.toNatClampNeg) = 0 then f_MO_commit_44 n (x1 + (1 : Int32)) mrf msl mst men mnw mdn mpw mwr mrs mdr mtb mrc mnx mro mit mve mrb mch mva (upd mic (x1 / (8 : Int32)).toNatClampNeg (vp_nar .boolean (0 : Int32))) mlb mrw mnb mlk mnk mmd else f_MO_commit_44 n (x1 + (1 : Int32)) mrf msl mst men mnw mdn mpw mwr mrs mdr mtb mrc mnx mro mit mve mrb mch mva (upd mic (x1 / (8 : Int32)).toNatClampNeg (vp_nar .boolean (1 : Int32))) mlb mrw mnb mlk mnk mmd) else f_MO_commit_44 n (x1 + (1 : Int32)) mrf msl mst men mnw mdn mpw mwr mrs mdr mtb mrc mnx mro mit mve mrb mch mva (upd mic (x1 / (8 : Int32)).toNatClampNeg (vp_nar .boolean (1 : Int32))) mlb mrw mnb mlk mnk mmd
def ok_MO_commit_44 : Nat → Int32 → Int32 → Int32 → Int32 → Int32 → Int32 → Int32 → Int32 → Int32 → Int32 → Int32 → Int32 → Int32 → Int32 → (Nat → Int32) → (Nat → Int32) → (Nat → Int32) → (Nat → Int32) → (Nat → Int32) → (Nat → Int32) → (Nat → Int32) → (Nat → Int32) → (Nat → Int32) → (Nat → Int32) → (Nat → Int32) → (Nat → Int32) → (Nat → Int32) → Prop
  | 0, _, _, _, _, _, _, _, _, _, _, _, _, _, _, _, _, _, _, _, _, _, _, _, _, _, _, _ => False
  | n + 1, x1, mrf, msl, mst, men, mnw, mdn, mpw, mwr, mrs, mdr, mtb, mrc, mnx, mro, mit, mve, mrb, mch, mva, mic, mlb, mrw, mnb, mlk, mnk, mmd => ((512 : Int32) ≤ x1 → ok_MO_readAll msl mst men mnw mrs mtb mrc mro mit mve mrb mic mlb mrw mnb mlk mnk ∧ bindp (f_MO_readAll msl mst men mnw mrs mtb mrc mro mit mve mrb mic mlb mrw mnb mlk mnk) (fun z_93 => (z_93.1 = 0 → True) ∧ (¬ z_93.1 = 0 → ok_MO_applyDraft z_93.2.2.1 mch mva z_93.2.2.2.1 z_93.2.2.2.2.1 ∧ bindp (f_MO_applyDraft z_93.2.2.1 mch mva z_93.2.2.2.1 z_93.2.2.2.2.1) (fun z_103 => ok_MO_settle z_93.2.1 mic z_103.2.1 z_93.2.2.2.2.2.1 ∧ bindp (f_MO_settle z_93.2.1 mic z_103.2.1 z_93.2.2.2.2.2.1) (fun z_107 => (z_107.1 ≤ ((msl - men) + mst) → ok_MO_writeAll mst msl mst men mnw mdn mpw mwr mrs z_107.2.1 z_103.1 mnx mro mit mve mrb mic z_103.2.1 z_103.2.2 z_107.2.2 z_93.2.2.2.2.2.2.1 z_93.2.2.2.2.2.2.2 mmd ∧ bindp (f_MO_writeAll mst msl mst men mnw mdn mpw mwr mrs z_107.2.1 z_103.1 mnx mro mit mve mrb mic z_103.2.1 z_103.2.2 z_107.2.2 z_93.2.2.2.2.2.2.1 z_93.2.2.2.2.2.2.2 mmd) (fun z_135 => (z_135.1 = (-4 : Int32) → True) ∧ (¬ z_135.1 = (-4 : Int32) → ok_MO_clear mdr mch))) ∧ (¬ z_107.1 ≤ ((msl - men) + mst) → True)))))) ∧ (¬ (512 : Int32) ≤ x1 → vp_in (x1 / (8 : Int32)) 64 ∧ (((mic (x1 / (8 : Int32)).toNatClampNeg) = 0 → vp_in x1 512 ∧ (((mch x1.toNatClampNeg) = 0 → vp_in (x1 / (8 : Int32)) 64 ∧ (ok_MO_commit_44  n (x1 + (1 : Int32)) mrf msl mst men mnw mdn mpw mwr mrs mdr mtb mrc mnx mro mit mve mrb mch mva (upd mic (x1 / (8 : Int32)).toNatClampNeg (vp_nar .boolean (0 : Int32))) mlb mrw mnb mlk mnk mmd)) ∧ (¬ (mch x1.toNatClampNeg) = 0 → vp_in (x1 / (8 : Int32)) 64 ∧ (ok_MO_commit_44  n (x1 + (1 : Int32)) mrf msl mst men mnw mdn mpw mwr mrs mdr mtb mrc mnx mro mit mve mrb mch mva (upd mic (x1 / (8 : Int32)).toNatClampNeg (vp_nar .boolean (1 : Int32))) mlb mrw mnb mlk mnk mmd)))) ∧ (¬ (mic (x1 / (8 : Int32)).toNatClampNeg) = 0 → vp_in (x1 / (8 : Int32)) 64 ∧ (ok_MO_commit_44  n (x1 + (1 : Int32)) mrf msl mst men mnw mdn mpw mwr mrs mdr mtb mrc mnx mro mit mve mrb mch mva (upd mic (x1 / (8 : Int32)).toNatClampNeg (vp_nar .boolean (1 : Int32))) mlb mrw mnb mlk mnk mmd))))
set_option maxHeartbeats 4000000 in
set_option maxRecDepth 100000 in
theorem w_MO_commit_44 {p : Program} {l : Launch} {e : Env} {s : State} {m : MethodId} {args : Array Value} {below : List Frame} {meth : Method} {c : Code} {A : Nat → Prop} {G : GG} {ad : Nat → Nat} {msl : Int32} {mva : (Nat → Int32)} {res : Int32 × Int32 × Int32 × Int32 × Int32 × Int32 × Int32 × Int32 × Int32 × Int32 × Int32 × Int32 × Int32 × (Nat → Int32) × (Nat → Int32) × (Nat → Int32) × (Nat → Int32) × (Nat → Int32) × (Nat → Int32) × (Nat → Int32) × (Nat → Int32) × (Nat → Int32) × (Nat → Int32) × (Nat → Int32) × (Nat → Int32)} (hC : Cx p l e s m args meth c y_MO_commit b_MO_commit 2 (some .int) "BookTreesModel" G A) : ∀ (n : Nat) (x1 : Int32) (mrf : Int32) (mst : Int32) (men : Int32) (mnw : Int32) (mdn : Int32) (mpw : Int32) (mwr : Int32) (mrs : Int32) (mdr : Int32) (mtb : Int32) (mrc : Int32) (mnx : Int32) (mro : (Nat → Int32)) (mit : (Nat → Int32)) (mve : (Nat → Int32)) (mrb : (Nat → Int32)) (mch : (Nat → Int32)) (mic : (Nat → Int32)) (mlb : (Nat → Int32)) (mrw : (Nat → Int32)) (mnb : (Nat → Int32)) (mlk : (Nat → Int32)) (mnk : (Nat → Int32)) (mmd : (Nat → Int32)) (H : Heap) (locs : List Loc) (ls : Array Slot), ok_MO_commit_44 n x1 mrf msl mst men mnw mdn mpw mwr mrs mdr mtb mrc mnx mro mit mve mrb mch mva mic mlb mrw mnb mlk mnk mmd → f_MO_commit_44 n x1 mrf msl mst men mnw mdn mpw mwr mrs mdr mtb mrc mnx mro mit mve mrb mch mva mic mlb mrw mnb mlk mnk mmd = res → va_P G.1 classes (cM G ad mrf msl mst men mnw mdn mpw mwr mrs mdr mtb mrc mnx mro mit mve mrb mch mva mic mlb mrw mnb mlk mnk mmd) H → va_D A (cM G ad mrf msl mst men mnw mdn mpw mwr mrs mdr mtb mrc mnx mro mit mve mrb mch mva mic mlb mrw mnb mlk mnk mmd) → va_S A s.heap H locs → lv_has ls 2 [(0, .ref (ad 0)), (1, .int x1)] → W p l e rm_MO_commit s m args below meth c H locs 0 0 (MQ below (va_Qi (eqP res) (Wb G A (fun u : Int32 × Int32 × Int32 × Int32 × Int32 × Int32 × Int32 × Int32 × Int32 × Int32 × Int32 × Int32 × (Nat → Int32) × (Nat → Int32) × (Nat → Int32) × (Nat → Int32) × (Nat → Int32) × (Nat → Int32) × (Nat → Int32) × (Nat → Int32) × (Nat → Int32) × (Nat → Int32) × (Nat → Int32) × (Nat → Int32) => (cM G ad u.1 msl u.2.1 u.2.2.1 u.2.2.2.1 u.2.2.2.2.1 u.2.2.2.2.2.1 u.2.2.2.2.2.2.1 u.2.2.2.2.2.2.2.1 u.2.2.2.2.2.2.2.2.1 u.2.2.2.2.2.2.2.2.2.1 u.2.2.2.2.2.2.2.2.2.2.1 u.2.2.2.2.2.2.2.2.2.2.2.1 u.2.2.2.2.2.2.2.2.2.2.2.2.1 u.2.2.2.2.2.2.2.2.2.2.2.2.2.1 u.2.2.2.2.2.2.2.2.2.2.2.2.2.2.1 u.2.2.2.2.2.2.2.2.2.2.2.2.2.2.2.1 u.2.2.2.2.2.2.2.2.2.2.2.2.2.2.2.2.1 mva u.2.2.2.2.2.2.2.2.2.2.2.2.2.2.2.2.2.1 u.2.2.2.2.2.2.2.2.2.2.2.2.2.2.2.2.2.2.1 u.2.2.2.2.2.2.2.2.2.2.2.2.2.2.2.2.2.2.2.1 u.2.2.2.2.2.2.2.2.2.2.2.2.2.2.2.2.2.2.2.2.1 u.2.2.2.2.2.2.2.2.2.2.2.2.2.2.2.2.2.2.2.2.2.1 u.2.2.2.2.2.2.2.2.2.2.2.2.2.2.2.2.2.2.2.2.2.2.1 u.2.2.2.2.2.2.2.2.2.2.2.2.2.2.2.2.2.2.2.2.2.2.2))) A) args s 0 0 A) (F0 m 44 ls []) := by
  obtain ⟨hx, hb, hr, hml, hown, hlocks, ht, hK, hA⟩ := id hC
  intro n
  induction n with
  | zero => intro x1 mrf mst men mnw mdn mpw mwr mrs mdr mtb mrc mnx mro mit mve mrb mch mic mlb mrw mnb mlk mnk mmd H locs ls hok; exact hok.elim
  | succ n ih =>
    intro x1 mrf mst men mnw mdn mpw mwr mrs mdr mtb mrc mnx mro mit mve mrb mch mic mlb mrw mnb mlk mnk mmd H locs ls hok hres hP hD hS hl
    rw [f_MO_commit_44] at hres
    rw [ok_MO_commit_44] at hok
    refine lv_iload_n hx hb d_MO_commit_44 rfl (lv_at hl 1 rfl) ?_
    refine lv_sipush (v := (512 : Int32)) hx hb d_MO_commit_45 (by decide) ?_
    refine lv_icmp_ge (tgt := 92) hx hb d_MO_commit_48 (by decide) (fun c_48 => ?_) (fun c_48 => ?_)
    · have hres := it_t c_48 hres
      have hok := hok.1 c_48
      refine lv_aload_n hx hb d_MO_commit_92 rfl (lv_at hl 0 rfl) ?_
      obtain ⟨hk_93, hok⟩ := hok
      refine go_iz (run_V hx hb hml hown ht hK hP hD (c_MO_readAll hk_93) (cw_V ht km_MO_196 ki_MO_readAll ks_MO_readAll ini_MO kd_MO_readAll kh_MO_readAll ⟨Nat.le_of_ble_eq_true rfl, Nat.le_of_ble_eq_true rfl⟩ rfl rfl) (q0 := 0) (ci := 6) (As := []) (rest := []) rfl rfl rfl hl.1 rfl (Nat.le_of_ble_eq_true rfl) d_MO_commit_93 ⟨Nat.zero_le _, Nat.zero_le _⟩) hD hS hA (fun z_93 H locs hz_93 hP hD hS => ?_)
      have hres := bindc_eq hz_93 hres
      have hok := bindp_eq hz_93 hok
      have hP : va_P G.1 classes (cM G ad mrf msl mst men mnw mdn mpw mwr mrs mdr z_93.2.1 z_93.2.2.1 mnx mro mit mve mrb mch mva mic z_93.2.2.2.1 z_93.2.2.2.2.1 z_93.2.2.2.2.2.1 z_93.2.2.2.2.2.2.1 z_93.2.2.2.2.2.2.2 mmd) H := hP
      have hD : va_D A (cM G ad mrf msl mst men mnw mdn mpw mwr mrs mdr z_93.2.1 z_93.2.2.1 mnx mro mit mve mrb mch mva mic z_93.2.2.2.1 z_93.2.2.2.2.1 z_93.2.2.2.2.2.1 z_93.2.2.2.2.2.2.1 z_93.2.2.2.2.2.2.2 mmd) := hD
      refine lv_if_ne (tgt := 102) hx hb d_MO_commit_96 (by decide) (fun c_96 => ?_) (fun c_96 => ?_)
      · have hres := it_f c_96 hres
        have hok := hok.2 c_96
        refine lv_aload_n hx hb d_MO_commit_102 rfl (lv_at hl 0 rfl) ?_
        obtain ⟨hk_103, hok⟩ := hok
        refine go_vz (run_V hx hb hml hown ht hK hP hD (c_MO_applyDraft hk_103) (cw_V ht km_MO_199 ki_MO_applyDraft ks_MO_applyDraft ini_MO kd_MO_applyDraft kh_MO_applyDraft ⟨Nat.le_of_ble_eq_true rfl, Nat.le_of_ble_eq_true rfl⟩ rfl rfl) (q0 := 0) (ci := 6) (As := []) (rest := []) rfl rfl rfl hl.1 rfl (Nat.le_of_ble_eq_true rfl) d_MO_commit_103 ⟨Nat.zero_le _, Nat.zero_le _⟩) hD hS hA (fun z_103 H locs hz_103 hP hD hS => ?_)
        have hres := bindc_eq hz_103 hres
        have hok := bindp_eq hz_103 hok
        have hP : va_P G.1 classes (cM G ad mrf msl mst men mnw mdn mpw mwr mrs mdr z_93.2.1 z_103.1 mnx mro mit mve mrb mch mva mic z_103.2.1 z_103.2.2 z_93.2.2.2.2.2.1 z_93.2.2.2.2.2.2.1 z_93.2.2.2.2.2.2.2 mmd) H := hP
        have hD : va_D A (cM G ad mrf msl mst men mnw mdn mpw mwr mrs mdr z_93.2.1 z_103.1 mnx mro mit mve mrb mch mva mic z_103.2.1 z_103.2.2 z_93.2.2.2.2.2.1 z_93.2.2.2.2.2.2.1 z_93.2.2.2.2.2.2.2 mmd) := hD
        refine lv_aload_n hx hb d_MO_commit_106 rfl (lv_at hl 0 rfl) ?_
        obtain ⟨hk_107, hok⟩ := hok
        refine go_iz (run_V hx hb hml hown ht hK hP hD (c_MO_settle hk_107) (cw_V ht km_MO_202 ki_MO_settle ks_MO_settle ini_MO kd_MO_settle kh_MO_settle ⟨Nat.le_of_ble_eq_true rfl, Nat.le_of_ble_eq_true rfl⟩ rfl rfl) (q0 := 0) (ci := 6) (As := []) (rest := []) rfl rfl rfl hl.1 rfl (Nat.le_of_ble_eq_true rfl) d_MO_commit_107 ⟨Nat.zero_le _, Nat.zero_le _⟩) hD hS hA (fun z_107 H locs hz_107 hP hD hS => ?_)
        have hres := bindc_eq hz_107 hres
        have hok := bindp_eq hz_107 hok
        have hP : va_P G.1 classes (cM G ad mrf msl mst men mnw mdn mpw mwr mrs mdr z_107.2.1 z_103.1 mnx mro mit mve mrb mch mva mic z_103.2.1 z_103.2.2 z_107.2.2 z_93.2.2.2.2.2.2.1 z_93.2.2.2.2.2.2.2 mmd) H := hP
        have hD : va_D A (cM G ad mrf msl mst men mnw mdn mpw mwr mrs mdr z_107.2.1 z_103.1 mnx mro mit mve mrb mch mva mic z_103.2.1 z_103.2.2 z_107.2.2 z_93.2.2.2.2.2.2.1 z_93.2.2.2.2.2.2.2 mmd) := hD
        refine lv_aload_n hx hb d_MO_commit_110 rfl (lv_at hl 0 rfl) ?_
        refine va_get (D := G.1) (ci := 6) (C := R_MO) (T := F_MO) (N := 26) hx hb ht in_MO hown hK hP 0 rfl rfl 1 (by decide) (ht _ kf_MO_54) (fun _ h9 => h9) rfl d_MO_commit_111 ?_
        refine lv_aload_n hx hb d_MO_commit_114 rfl (lv_at hl 0 rfl) ?_
        refine va_get (D := G.1) (ci := 6) (C := R_MO) (T := F_MO) (N := 26) hx hb ht in_MO hown hK hP 0 rfl rfl 5 (by decide) (ht _ kf_MO_67) (fun _ h9 => h9) rfl d_MO_commit_115 ?_
        refine lv_isub hx hb d_MO_commit_118 ?_
        refine lv_aload_n hx hb d_MO_commit_119 rfl (lv_at hl 0 rfl) ?_
        refine va_get (D := G.1) (ci := 6) (C := R_MO) (T := F_MO) (N := 26) hx hb ht in_MO hown hK hP 0 rfl rfl 4 (by decide) (ht _ kf_MO_64) (fun _ h9 => h9) rfl d_MO_commit_120 ?_
        refine lv_iadd hx hb d_MO_commit_123 ?_
        refine lv_icmp_le (tgt := 130) hx hb d_MO_commit_124 (by decide) (fun c_124 => ?_) (fun c_124 => ?_)
        · have hres := it_t c_124 hres
          have hok := hok.1 c_124
          refine lv_aload_n hx hb d_MO_commit_130 rfl (lv_at hl 0 rfl) ?_
          refine lv_aload_n hx hb d_MO_commit_131 rfl (lv_at hl 0 rfl) ?_
          refine va_get (D := G.1) (ci := 6) (C := R_MO) (T := F_MO) (N := 26) hx hb ht in_MO hown hK hP 0 rfl rfl 4 (by decide) (ht _ kf_MO_64) (fun _ h9 => h9) rfl d_MO_commit_132 ?_
          obtain ⟨hk_135, hok⟩ := hok
          refine go_iz (run_V hx hb hml hown ht hK hP hD (c_MO_writeAll hk_135) (cw_V ht km_MO_206 ki_MO_writeAll ks_MO_writeAll ini_MO kd_MO_writeAll kh_MO_writeAll ⟨Nat.le_of_ble_eq_true rfl, Nat.le_of_ble_eq_true rfl⟩ rfl rfl) (q0 := 0) (ci := 6) (As := [.int mst]) (rest := []) rfl rfl rfl hl.1 rfl (Nat.le_of_ble_eq_true rfl) d_MO_commit_135 ⟨Nat.zero_le _, Nat.zero_le _⟩) hD hS hA (fun z_135 H locs hz_135 hP hD hS => ?_)
          have hres := bindc_eq hz_135 hres
          have hok := bindp_eq hz_135 hok
          have hP : va_P G.1 classes (cM G ad mrf msl z_135.2.1 z_135.2.2.1 z_135.2.2.2.1 z_135.2.2.2.2.1 z_135.2.2.2.2.2.1 z_135.2.2.2.2.2.2.1 z_135.2.2.2.2.2.2.2.1 mdr z_107.2.1 z_103.1 z_135.2.2.2.2.2.2.2.2.1 z_135.2.2.2.2.2.2.2.2.2.1 z_135.2.2.2.2.2.2.2.2.2.2.1 z_135.2.2.2.2.2.2.2.2.2.2.2.1 z_135.2.2.2.2.2.2.2.2.2.2.2.2.1 mch mva mic z_103.2.1 z_103.2.2 z_107.2.2 z_135.2.2.2.2.2.2.2.2.2.2.2.2.2.1 z_135.2.2.2.2.2.2.2.2.2.2.2.2.2.2.1 z_135.2.2.2.2.2.2.2.2.2.2.2.2.2.2.2) H := hP
          have hD : va_D A (cM G ad mrf msl z_135.2.1 z_135.2.2.1 z_135.2.2.2.1 z_135.2.2.2.2.1 z_135.2.2.2.2.2.1 z_135.2.2.2.2.2.2.1 z_135.2.2.2.2.2.2.2.1 mdr z_107.2.1 z_103.1 z_135.2.2.2.2.2.2.2.2.1 z_135.2.2.2.2.2.2.2.2.2.1 z_135.2.2.2.2.2.2.2.2.2.2.1 z_135.2.2.2.2.2.2.2.2.2.2.2.1 z_135.2.2.2.2.2.2.2.2.2.2.2.2.1 mch mva mic z_103.2.1 z_103.2.2 z_107.2.2 z_135.2.2.2.2.2.2.2.2.2.2.2.2.2.1 z_135.2.2.2.2.2.2.2.2.2.2.2.2.2.2.1 z_135.2.2.2.2.2.2.2.2.2.2.2.2.2.2.2) := hD
          refine lv_istore_n (lv' := [(1, .int z_135.1), (0, .ref (ad 0))]) hx hb d_MO_commit_138 rfl hl (by decide) rfl (fun ls hl => ?_)
          refine lv_iload_n hx hb d_MO_commit_139 rfl (lv_at hl 0 rfl) ?_
          refine lv_bipush (v := (-4 : Int32)) hx hb d_MO_commit_140 (by decide) ?_
          refine lv_icmp_eq (tgt := 149) hx hb d_MO_commit_142 (by decide) (fun c_142 => ?_) (fun c_142 => ?_)
          · have hres := it_t c_142 hres
            refine lv_iload_n hx hb d_MO_commit_149 rfl (lv_at hl 0 rfl) ?_
            exact en_i (w1 := (fun u : Int32 × Int32 × Int32 × Int32 × Int32 × Int32 × Int32 × Int32 × Int32 × Int32 × Int32 × Int32 × (Nat → Int32) × (Nat → Int32) × (Nat → Int32) × (Nat → Int32) × (Nat → Int32) × (Nat → Int32) × (Nat → Int32) × (Nat → Int32) × (Nat → Int32) × (Nat → Int32) × (Nat → Int32) × (Nat → Int32) => (cM G ad u.1 msl u.2.1 u.2.2.1 u.2.2.2.1 u.2.2.2.2.1 u.2.2.2.2.2.1 u.2.2.2.2.2.2.1 u.2.2.2.2.2.2.2.1 u.2.2.2.2.2.2.2.2.1 u.2.2.2.2.2.2.2.2.2.1 u.2.2.2.2.2.2.2.2.2.2.1 u.2.2.2.2.2.2.2.2.2.2.2.1 u.2.2.2.2.2.2.2.2.2.2.2.2.1 u.2.2.2.2.2.2.2.2.2.2.2.2.2.1 u.2.2.2.2.2.2.2.2.2.2.2.2.2.2.1 u.2.2.2.2.2.2.2.2.2.2.2.2.2.2.2.1 u.2.2.2.2.2.2.2.2.2.2.2.2.2.2.2.2.1 mva u.2.2.2.2.2.2.2.2.2.2.2.2.2.2.2.2.2.1 u.2.2.2.2.2.2.2.2.2.2.2.2.2.2.2.2.2.2.1 u.2.2.2.2.2.2.2.2.2.2.2.2.2.2.2.2.2.2.2.1 u.2.2.2.2.2.2.2.2.2.2.2.2.2.2.2.2.2.2.2.2.1 u.2.2.2.2.2.2.2.2.2.2.2.2.2.2.2.2.2.2.2.2.2.1 u.2.2.2.2.2.2.2.2.2.2.2.2.2.2.2.2.2.2.2.2.2.2.1 u.2.2.2.2.2.2.2.2.2.2.2.2.2.2.2.2.2.2.2.2.2.2.2))) (mrf, z_135.2.1, z_135.2.2.1, z_135.2.2.2.1, z_135.2.2.2.2.1, z_135.2.2.2.2.2.1, z_135.2.2.2.2.2.2.1, z_135.2.2.2.2.2.2.2.1, mdr, z_107.2.1, z_103.1, z_135.2.2.2.2.2.2.2.2.1, z_135.2.2.2.2.2.2.2.2.2.1, z_135.2.2.2.2.2.2.2.2.2.2.1, z_135.2.2.2.2.2.2.2.2.2.2.2.1, z_135.2.2.2.2.2.2.2.2.2.2.2.2.1, mch, mic, z_103.2.1, z_103.2.2, z_107.2.2, z_135.2.2.2.2.2.2.2.2.2.2.2.2.2.1, z_135.2.2.2.2.2.2.2.2.2.2.2.2.2.2.1, z_135.2.2.2.2.2.2.2.2.2.2.2.2.2.2.2) hx hb hr hlocks hK hP hD hS hres d_MO_commit_150
          · have hres := it_f c_142 hres
            have hok := hok.2 c_142
            refine lv_aload_n hx hb d_MO_commit_145 rfl (lv_at hl 1 rfl) ?_
            have hk_146 := hok
            refine go_vz (run_V hx hb hml hown ht hK hP hD (c_MO_clear hk_146) (cw_V ht km_MO_113 ki_MO_clear ks_MO_clear ini_MO kd_MO_clear kh_MO_clear ⟨Nat.le_of_ble_eq_true rfl, Nat.le_of_ble_eq_true rfl⟩ rfl rfl) (q0 := 0) (ci := 6) (As := []) (rest := []) rfl rfl rfl hl.1 rfl (Nat.le_of_ble_eq_true rfl) d_MO_commit_146 ⟨Nat.zero_le _, Nat.zero_le _⟩) hD hS hA (fun z_146 H locs hz_146 hP hD hS => ?_)
            have hres := bindc_eq hz_146 hres
            have hP : va_P G.1 classes (cM G ad mrf msl z_135.2.1 z_135.2.2.1 z_135.2.2.2.1 z_135.2.2.2.2.1 z_135.2.2.2.2.2.1 z_135.2.2.2.2.2.2.1 z_135.2.2.2.2.2.2.2.1 z_146.1 z_107.2.1 z_103.1 z_135.2.2.2.2.2.2.2.2.1 z_135.2.2.2.2.2.2.2.2.2.1 z_135.2.2.2.2.2.2.2.2.2.2.1 z_135.2.2.2.2.2.2.2.2.2.2.2.1 z_135.2.2.2.2.2.2.2.2.2.2.2.2.1 z_146.2 mva mic z_103.2.1 z_103.2.2 z_107.2.2 z_135.2.2.2.2.2.2.2.2.2.2.2.2.2.1 z_135.2.2.2.2.2.2.2.2.2.2.2.2.2.2.1 z_135.2.2.2.2.2.2.2.2.2.2.2.2.2.2.2) H := hP
            have hD : va_D A (cM G ad mrf msl z_135.2.1 z_135.2.2.1 z_135.2.2.2.1 z_135.2.2.2.2.1 z_135.2.2.2.2.2.1 z_135.2.2.2.2.2.2.1 z_135.2.2.2.2.2.2.2.1 z_146.1 z_107.2.1 z_103.1 z_135.2.2.2.2.2.2.2.2.1 z_135.2.2.2.2.2.2.2.2.2.1 z_135.2.2.2.2.2.2.2.2.2.2.1 z_135.2.2.2.2.2.2.2.2.2.2.2.1 z_135.2.2.2.2.2.2.2.2.2.2.2.2.1 z_146.2 mva mic z_103.2.1 z_103.2.2 z_107.2.2 z_135.2.2.2.2.2.2.2.2.2.2.2.2.2.1 z_135.2.2.2.2.2.2.2.2.2.2.2.2.2.2.1 z_135.2.2.2.2.2.2.2.2.2.2.2.2.2.2.2) := hD
            refine lv_iload_n hx hb d_MO_commit_149 rfl (lv_at hl 0 rfl) ?_
            exact en_i (w1 := (fun u : Int32 × Int32 × Int32 × Int32 × Int32 × Int32 × Int32 × Int32 × Int32 × Int32 × Int32 × Int32 × (Nat → Int32) × (Nat → Int32) × (Nat → Int32) × (Nat → Int32) × (Nat → Int32) × (Nat → Int32) × (Nat → Int32) × (Nat → Int32) × (Nat → Int32) × (Nat → Int32) × (Nat → Int32) × (Nat → Int32) => (cM G ad u.1 msl u.2.1 u.2.2.1 u.2.2.2.1 u.2.2.2.2.1 u.2.2.2.2.2.1 u.2.2.2.2.2.2.1 u.2.2.2.2.2.2.2.1 u.2.2.2.2.2.2.2.2.1 u.2.2.2.2.2.2.2.2.2.1 u.2.2.2.2.2.2.2.2.2.2.1 u.2.2.2.2.2.2.2.2.2.2.2.1 u.2.2.2.2.2.2.2.2.2.2.2.2.1 u.2.2.2.2.2.2.2.2.2.2.2.2.2.1 u.2.2.2.2.2.2.2.2.2.2.2.2.2.2.1 u.2.2.2.2.2.2.2.2.2.2.2.2.2.2.2.1 u.2.2.2.2.2.2.2.2.2.2.2.2.2.2.2.2.1 mva u.2.2.2.2.2.2.2.2.2.2.2.2.2.2.2.2.2.1 u.2.2.2.2.2.2.2.2.2.2.2.2.2.2.2.2.2.2.1 u.2.2.2.2.2.2.2.2.2.2.2.2.2.2.2.2.2.2.2.1 u.2.2.2.2.2.2.2.2.2.2.2.2.2.2.2.2.2.2.2.2.1 u.2.2.2.2.2.2.2.2.2.2.2.2.2.2.2.2.2.2.2.2.2.1 u.2.2.2.2.2.2.2.2.2.2.2.2.2.2.2.2.2.2.2.2.2.2.1 u.2.2.2.2.2.2.2.2.2.2.2.2.2.2.2.2.2.2.2.2.2.2.2))) (mrf, z_135.2.1, z_135.2.2.1, z_135.2.2.2.1, z_135.2.2.2.2.1, z_135.2.2.2.2.2.1, z_135.2.2.2.2.2.2.1, z_135.2.2.2.2.2.2.2.1, z_146.1, z_107.2.1, z_103.1, z_135.2.2.2.2.2.2.2.2.1, z_135.2.2.2.2.2.2.2.2.2.1, z_135.2.2.2.2.2.2.2.2.2.2.1, z_135.2.2.2.2.2.2.2.2.2.2.2.1, z_135.2.2.2.2.2.2.2.2.2.2.2.2.1, z_146.2, mic, z_103.2.1, z_103.2.2, z_107.2.2, z_135.2.2.2.2.2.2.2.2.2.2.2.2.2.1, z_135.2.2.2.2.2.2.2.2.2.2.2.2.2.2.1, z_135.2.2.2.2.2.2.2.2.2.2.2.2.2.2.2) hx hb hr hlocks hK hP hD hS hres d_MO_commit_150
        · have hres := it_f c_124 hres
          refine lv_bipush (v := (-3 : Int32)) hx hb d_MO_commit_127 (by decide) ?_
          exact en_i (w1 := (fun u : Int32 × Int32 × Int32 × Int32 × Int32 × Int32 × Int32 × Int32 × Int32 × Int32 × Int32 × Int32 × (Nat → Int32) × (Nat → Int32) × (Nat → Int32) × (Nat → Int32) × (Nat → Int32) × (Nat → Int32) × (Nat → Int32) × (Nat → Int32) × (Nat → Int32) × (Nat → Int32) × (Nat → Int32) × (Nat → Int32) => (cM G ad u.1 msl u.2.1 u.2.2.1 u.2.2.2.1 u.2.2.2.2.1 u.2.2.2.2.2.1 u.2.2.2.2.2.2.1 u.2.2.2.2.2.2.2.1 u.2.2.2.2.2.2.2.2.1 u.2.2.2.2.2.2.2.2.2.1 u.2.2.2.2.2.2.2.2.2.2.1 u.2.2.2.2.2.2.2.2.2.2.2.1 u.2.2.2.2.2.2.2.2.2.2.2.2.1 u.2.2.2.2.2.2.2.2.2.2.2.2.2.1 u.2.2.2.2.2.2.2.2.2.2.2.2.2.2.1 u.2.2.2.2.2.2.2.2.2.2.2.2.2.2.2.1 u.2.2.2.2.2.2.2.2.2.2.2.2.2.2.2.2.1 mva u.2.2.2.2.2.2.2.2.2.2.2.2.2.2.2.2.2.1 u.2.2.2.2.2.2.2.2.2.2.2.2.2.2.2.2.2.2.1 u.2.2.2.2.2.2.2.2.2.2.2.2.2.2.2.2.2.2.2.1 u.2.2.2.2.2.2.2.2.2.2.2.2.2.2.2.2.2.2.2.2.1 u.2.2.2.2.2.2.2.2.2.2.2.2.2.2.2.2.2.2.2.2.2.1 u.2.2.2.2.2.2.2.2.2.2.2.2.2.2.2.2.2.2.2.2.2.2.1 u.2.2.2.2.2.2.2.2.2.2.2.2.2.2.2.2.2.2.2.2.2.2.2))) (mrf, mst, men, mnw, mdn, mpw, mwr, mrs, mdr, z_107.2.1, z_103.1, mnx, mro, mit, mve, mrb, mch, mic, z_103.2.1, z_103.2.2, z_107.2.2, z_93.2.2.2.2.2.2.1, z_93.2.2.2.2.2.2.2, mmd) hx hb hr hlocks hK hP hD hS hres d_MO_commit_129
      · have hres := it_t c_96 hres
        refine lv_bipush (v := (-2 : Int32)) hx hb d_MO_commit_99 (by decide) ?_
        exact en_i (w1 := (fun u : Int32 × Int32 × Int32 × Int32 × Int32 × Int32 × Int32 × Int32 × Int32 × Int32 × Int32 × Int32 × (Nat → Int32) × (Nat → Int32) × (Nat → Int32) × (Nat → Int32) × (Nat → Int32) × (Nat → Int32) × (Nat → Int32) × (Nat → Int32) × (Nat → Int32) × (Nat → Int32) × (Nat → Int32) × (Nat → Int32) => (cM G ad u.1 msl u.2.1 u.2.2.1 u.2.2.2.1 u.2.2.2.2.1 u.2.2.2.2.2.1 u.2.2.2.2.2.2.1 u.2.2.2.2.2.2.2.1 u.2.2.2.2.2.2.2.2.1 u.2.2.2.2.2.2.2.2.2.1 u.2.2.2.2.2.2.2.2.2.2.1 u.2.2.2.2.2.2.2.2.2.2.2.1 u.2.2.2.2.2.2.2.2.2.2.2.2.1 u.2.2.2.2.2.2.2.2.2.2.2.2.2.1 u.2.2.2.2.2.2.2.2.2.2.2.2.2.2.1 u.2.2.2.2.2.2.2.2.2.2.2.2.2.2.2.1 u.2.2.2.2.2.2.2.2.2.2.2.2.2.2.2.2.1 mva u.2.2.2.2.2.2.2.2.2.2.2.2.2.2.2.2.2.1 u.2.2.2.2.2.2.2.2.2.2.2.2.2.2.2.2.2.2.1 u.2.2.2.2.2.2.2.2.2.2.2.2.2.2.2.2.2.2.2.1 u.2.2.2.2.2.2.2.2.2.2.2.2.2.2.2.2.2.2.2.2.1 u.2.2.2.2.2.2.2.2.2.2.2.2.2.2.2.2.2.2.2.2.2.1 u.2.2.2.2.2.2.2.2.2.2.2.2.2.2.2.2.2.2.2.2.2.2.1 u.2.2.2.2.2.2.2.2.2.2.2.2.2.2.2.2.2.2.2.2.2.2.2))) (mrf, mst, men, mnw, mdn, mpw, mwr, mrs, mdr, z_93.2.1, z_93.2.2.1, mnx, mro, mit, mve, mrb, mch, mic, z_93.2.2.2.1, z_93.2.2.2.2.1, z_93.2.2.2.2.2.1, z_93.2.2.2.2.2.2.1, z_93.2.2.2.2.2.2.2, mmd) hx hb hr hlocks hK hP hD hS hres d_MO_commit_101
    · have hres := it_f c_48 hres
      have hok := hok.2 c_48
      refine lv_aload_n hx hb d_MO_commit_51 rfl (lv_at hl 0 rfl) ?_
      refine va_get (D := G.1) (ci := 6) (C := R_MO) (T := F_MO) (N := 26) hx hb ht in_MO hown hK hP 0 rfl rfl 16 (by decide) (ht _ kf_MO_33) (fun _ h9 => h9) rfl d_MO_commit_52 ?_
      refine lv_iload_n hx hb d_MO_commit_55 rfl (lv_at hl 1 rfl) ?_
      refine lv_bipush (v := (8 : Int32)) hx hb d_MO_commit_56 (by decide) ?_
      refine lv_idiv hx hb d_MO_commit_58 (by decide) ?_
      refine lv_aload_n hx hb d_MO_commit_59 rfl (lv_at hl 0 rfl) ?_
      refine va_get (D := G.1) (ci := 6) (C := R_MO) (T := F_MO) (N := 26) hx hb ht in_MO hown hK hP 0 rfl rfl 16 (by decide) (ht _ kf_MO_33) (fun _ h9 => h9) rfl d_MO_commit_60 ?_
      refine lv_iload_n hx hb d_MO_commit_63 rfl (lv_at hl 1 rfl) ?_
      refine lv_bipush (v := (8 : Int32)) hx hb d_MO_commit_64 (by decide) ?_
      refine lv_idiv hx hb d_MO_commit_66 (by decide) ?_
      obtain ⟨hi_67, hok⟩ := hok
      refine va_zald hx hb hK hP 7 1 rfl rfl hi_67 d_MO_commit_67 ?_
      refine lv_if_ne (tgt := 80) hx hb d_MO_commit_68 (by decide) (fun c_68 => ?_) (fun c_68 => ?_)
      · have hres := it_f c_68 hres
        have hok := hok.2 c_68
        refine lv_iconst (v := (1 : Int32)) hx hb d_MO_commit_80 (by decide) ?_
        refine lv_goto (tgt := 85) hx hb d_MO_commit_81 (by decide) ?_
        obtain ⟨hi_85, hok⟩ := hok
        refine va_zast hx hb hK hP hD hS 7 1 rfl rfl hi_85 d_MO_commit_85 (fun H locs hP hD hS => ?_)
        have hP : va_P G.1 classes (cM G ad mrf msl mst men mnw mdn mpw mwr mrs mdr mtb mrc mnx mro mit mve mrb mch mva (upd mic (x1 / (8 : Int32)).toNatClampNeg (vp_nar .boolean (1 : Int32))) mlb mrw mnb mlk mnk mmd) H := hP
        have hD : va_D A (cM G ad mrf msl mst men mnw mdn mpw mwr mrs mdr mtb mrc mnx mro mit mve mrb mch mva (upd mic (x1 / (8 : Int32)).toNatClampNeg (vp_nar .boolean (1 : Int32))) mlb mrw mnb mlk mnk mmd) := hD
        refine lv_iinc (v := x1 + (1 : Int32)) (lv' := [(1, .int (x1 + (1 : Int32))), (0, .ref (ad 0))]) hx hb d_MO_commit_86 hl (k := 1) rfl rfl (by decide) rfl (fun ls hl => ?_)
        refine lv_goto (tgt := 44) hx hb d_MO_commit_89 (by decide) ?_
        exact ih (x1 + (1 : Int32)) mrf mst men mnw mdn mpw mwr mrs mdr mtb mrc mnx mro mit mve mrb mch (upd mic (x1 / (8 : Int32)).toNatClampNeg (vp_nar .boolean (1 : Int32))) mlb mrw mnb mlk mnk mmd _ _ _ hok hres hP hD hS (lv_sub hl [1, 0] rfl)
      · have hres := it_t c_68 hres
        have hok := hok.1 c_68
        refine lv_aload_n hx hb d_MO_commit_71 rfl (lv_at hl 0 rfl) ?_
        refine va_get (D := G.1) (ci := 6) (C := R_MO) (T := F_MO) (N := 26) hx hb ht in_MO hown hK hP 0 rfl rfl 14 (by decide) (ht _ kf_MO_27) (fun _ h9 => h9) rfl d_MO_commit_72 ?_
        refine lv_iload_n hx hb d_MO_commit_75 rfl (lv_at hl 1 rfl) ?_
        obtain ⟨hi_76, hok⟩ := hok
        refine va_iald hx hb hK hP 5 0 rfl rfl hi_76 d_MO_commit_76 ?_
        refine lv_if_eq (tgt := 84) hx hb d_MO_commit_77 (by decide) (fun c_77 => ?_) (fun c_77 => ?_)
        · have hres := it_t c_77 hres
          have hok := hok.1 c_77
          refine lv_iconst (v := (0 : Int32)) hx hb d_MO_commit_84 (by decide) ?_
          obtain ⟨hi_85, hok⟩ := hok
          refine va_zast hx hb hK hP hD hS 7 1 rfl rfl hi_85 d_MO_commit_85 (fun H locs hP hD hS => ?_)
          have hP : va_P G.1 classes (cM G ad mrf msl mst men mnw mdn mpw mwr mrs mdr mtb mrc mnx mro mit mve mrb mch mva (upd mic (x1 / (8 : Int32)).toNatClampNeg (vp_nar .boolean (0 : Int32))) mlb mrw mnb mlk mnk mmd) H := hP
          have hD : va_D A (cM G ad mrf msl mst men mnw mdn mpw mwr mrs mdr mtb mrc mnx mro mit mve mrb mch mva (upd mic (x1 / (8 : Int32)).toNatClampNeg (vp_nar .boolean (0 : Int32))) mlb mrw mnb mlk mnk mmd) := hD
          refine lv_iinc (v := x1 + (1 : Int32)) (lv' := [(1, .int (x1 + (1 : Int32))), (0, .ref (ad 0))]) hx hb d_MO_commit_86 hl (k := 1) rfl rfl (by decide) rfl (fun ls hl => ?_)
          refine lv_goto (tgt := 44) hx hb d_MO_commit_89 (by decide) ?_
          exact ih (x1 + (1 : Int32)) mrf mst men mnw mdn mpw mwr mrs mdr mtb mrc mnx mro mit mve mrb mch (upd mic (x1 / (8 : Int32)).toNatClampNeg (vp_nar .boolean (0 : Int32))) mlb mrw mnb mlk mnk mmd _ _ _ hok hres hP hD hS (lv_sub hl [1, 0] rfl)
        · have hres := it_f c_77 hres
          have hok := hok.2 c_77
          refine lv_iconst (v := (1 : Int32)) hx hb d_MO_commit_80 (by decide) ?_
          refine lv_goto (tgt := 85) hx hb d_MO_commit_81 (by decide) ?_
          obtain ⟨hi_85, hok⟩ := hok
          refine va_zast hx hb hK hP hD hS 7 1 rfl rfl hi_85 d_MO_commit_85 (fun H locs hP hD hS => ?_)
          have hP : va_P G.1 classes (cM G ad mrf msl mst men mnw mdn mpw mwr mrs mdr mtb mrc mnx mro mit mve mrb mch mva (upd mic (x1 / (8 : Int32)).toNatClampNeg (vp_nar .boolean (1 : Int32))) mlb mrw mnb mlk mnk mmd) H := hP
          have hD : va_D A (cM G ad mrf msl mst men mnw mdn mpw mwr mrs mdr mtb mrc mnx mro mit mve mrb mch mva (upd mic (x1 / (8 : Int32)).toNatClampNeg (vp_nar .boolean (1 : Int32))) mlb mrw mnb mlk mnk mmd) := hD
          refine lv_iinc (v := x1 + (1 : Int32)) (lv' := [(1, .int (x1 + (1 : Int32))), (0, .ref (ad 0))]) hx hb d_MO_commit_86 hl (k := 1) rfl rfl (by decide) rfl (fun ls hl => ?_)
          refine lv_goto (tgt := 44) hx hb d_MO_commit_89 (by decide) ?_
          exact ih (x1 + (1 : Int32)) mrf mst men mnw mdn mpw mwr mrs mdr mtb mrc mnx mro mit mve mrb mch (upd mic (x1 / (8 : Int32)).toNatClampNeg (vp_nar .boolean (1 : Int32))) mlb mrw mnb mlk mnk mmd _ _ _ hok hres hP hD hS (lv_sub hl [1, 0] rfl)
def f_MO_commit_23 : Nat → Int32 → Int32 → Int32 → Int32 → Int32 → Int32 → Int32 → Int32 → Int32 → Int32 → Int32 → Int32 → Int32 → Int32 → (Nat → Int32) → (Nat → Int32) → (Nat → Int32) → (Nat → Int32) → (Nat → Int32) → (Nat → Int32) → (Nat → Int32) → (Nat → Int32) → (Nat → Int32) → (Nat → Int32) → (Nat → Int32) → (Nat → Int32) → (Nat → Int32) → Int32 × Int32 × Int32 × Int32 × Int32 × Int32 × Int32 × Int32 × Int32 × Int32 × Int32 × Int32 × Int32 × (Nat → Int32) × (Nat → Int32) × (Nat → Int32) × (Nat → Int32) × (Nat → Int32) × (Nat → Int32) × (Nat → Int32) × (Nat → Int32) × (Nat → Int32) × (Nat → Int32) × (Nat → Int32) × (Nat → Int32)
  | 0, x1, mrf, msl, mst, men, mnw, mdn, mpw, mwr, mrs, mdr, mtb, mrc, mnx, mro, mit, mve, mrb, mch, mva, mic, mlb, mrw, mnb, mlk, mnk, mmd => (0, (mrf, mst, men, mnw, mdn, mpw, mwr, mrs, mdr, mtb, mrc, mnx, mro, mit, mve, mrb, mch, mic, mlb, mrw, mnb, mlk, mnk, mmd))
  | n + 1, x1, mrf, msl, mst, men, mnw, mdn, mpw, mwr, mrs, mdr, mtb, mrc, mnx, mro, mit, mve, mrb, mch, mva, mic, mlb, mrw, mnb, mlk, mnk, mmd => if (64 : Int32) ≤ x1 then f_MO_commit_44 1024 (0 : Int32) mrf msl mst men mnw mdn mpw mwr mrs mdr mtb mrc mnx mro mit mve mrb mch mva mic mlb mrw mnb mlk mnk mmd else f_MO_commit_23 n (x1 + (1 : Int32)) mrf msl mst men mnw mdn mpw mwr mrs mdr mtb mrc mnx mro mit mve mrb mch mva (upd mic x1.toNatClampNeg (vp_nar .boolean (0 : Int32))) mlb mrw mnb mlk mnk mmd
def ok_MO_commit_23 : Nat → Int32 → Int32 → Int32 → Int32 → Int32 → Int32 → Int32 → Int32 → Int32 → Int32 → Int32 → Int32 → Int32 → Int32 → (Nat → Int32) → (Nat → Int32) → (Nat → Int32) → (Nat → Int32) → (Nat → Int32) → (Nat → Int32) → (Nat → Int32) → (Nat → Int32) → (Nat → Int32) → (Nat → Int32) → (Nat → Int32) → (Nat → Int32) → (Nat → Int32) → Prop
  | 0, _, _, _, _, _, _, _, _, _, _, _, _, _, _, _, _, _, _, _, _, _, _, _, _, _, _, _ => False
  | n + 1, x1, mrf, msl, mst, men, mnw, mdn, mpw, mwr, mrs, mdr, mtb, mrc, mnx, mro, mit, mve, mrb, mch, mva, mic, mlb, mrw, mnb, mlk, mnk, mmd => ((64 : Int32) ≤ x1 → ok_MO_commit_44  1024 (0 : Int32) mrf msl mst men mnw mdn mpw mwr mrs mdr mtb mrc mnx mro mit mve mrb mch mva mic mlb mrw mnb mlk mnk mmd) ∧ (¬ (64 : Int32) ≤ x1 → vp_in x1 64 ∧ (ok_MO_commit_23  n (x1 + (1 : Int32)) mrf msl mst men mnw mdn mpw mwr mrs mdr mtb mrc mnx mro mit mve mrb mch mva (upd mic x1.toNatClampNeg (vp_nar .boolean (0 : Int32))) mlb mrw mnb mlk mnk mmd))
set_option maxHeartbeats 4000000 in
set_option maxRecDepth 100000 in
theorem w_MO_commit_23 {p : Program} {l : Launch} {e : Env} {s : State} {m : MethodId} {args : Array Value} {below : List Frame} {meth : Method} {c : Code} {A : Nat → Prop} {G : GG} {ad : Nat → Nat} {msl : Int32} {mva : (Nat → Int32)} {res : Int32 × Int32 × Int32 × Int32 × Int32 × Int32 × Int32 × Int32 × Int32 × Int32 × Int32 × Int32 × Int32 × (Nat → Int32) × (Nat → Int32) × (Nat → Int32) × (Nat → Int32) × (Nat → Int32) × (Nat → Int32) × (Nat → Int32) × (Nat → Int32) × (Nat → Int32) × (Nat → Int32) × (Nat → Int32) × (Nat → Int32)} (hC : Cx p l e s m args meth c y_MO_commit b_MO_commit 2 (some .int) "BookTreesModel" G A) : ∀ (n : Nat) (x1 : Int32) (mrf : Int32) (mst : Int32) (men : Int32) (mnw : Int32) (mdn : Int32) (mpw : Int32) (mwr : Int32) (mrs : Int32) (mdr : Int32) (mtb : Int32) (mrc : Int32) (mnx : Int32) (mro : (Nat → Int32)) (mit : (Nat → Int32)) (mve : (Nat → Int32)) (mrb : (Nat → Int32)) (mch : (Nat → Int32)) (mic : (Nat → Int32)) (mlb : (Nat → Int32)) (mrw : (Nat → Int32)) (mnb : (Nat → Int32)) (mlk : (Nat → Int32)) (mnk : (Nat → Int32)) (mmd : (Nat → Int32)) (H : Heap) (locs : List Loc) (ls : Array Slot), ok_MO_commit_23 n x1 mrf msl mst men mnw mdn mpw mwr mrs mdr mtb mrc mnx mro mit mve mrb mch mva mic mlb mrw mnb mlk mnk mmd → f_MO_commit_23 n x1 mrf msl mst men mnw mdn mpw mwr mrs mdr mtb mrc mnx mro mit mve mrb mch mva mic mlb mrw mnb mlk mnk mmd = res → va_P G.1 classes (cM G ad mrf msl mst men mnw mdn mpw mwr mrs mdr mtb mrc mnx mro mit mve mrb mch mva mic mlb mrw mnb mlk mnk mmd) H → va_D A (cM G ad mrf msl mst men mnw mdn mpw mwr mrs mdr mtb mrc mnx mro mit mve mrb mch mva mic mlb mrw mnb mlk mnk mmd) → va_S A s.heap H locs → lv_has ls 2 [(0, .ref (ad 0)), (1, .int x1)] → W p l e rm_MO_commit s m args below meth c H locs 0 0 (MQ below (va_Qi (eqP res) (Wb G A (fun u : Int32 × Int32 × Int32 × Int32 × Int32 × Int32 × Int32 × Int32 × Int32 × Int32 × Int32 × Int32 × (Nat → Int32) × (Nat → Int32) × (Nat → Int32) × (Nat → Int32) × (Nat → Int32) × (Nat → Int32) × (Nat → Int32) × (Nat → Int32) × (Nat → Int32) × (Nat → Int32) × (Nat → Int32) × (Nat → Int32) => (cM G ad u.1 msl u.2.1 u.2.2.1 u.2.2.2.1 u.2.2.2.2.1 u.2.2.2.2.2.1 u.2.2.2.2.2.2.1 u.2.2.2.2.2.2.2.1 u.2.2.2.2.2.2.2.2.1 u.2.2.2.2.2.2.2.2.2.1 u.2.2.2.2.2.2.2.2.2.2.1 u.2.2.2.2.2.2.2.2.2.2.2.1 u.2.2.2.2.2.2.2.2.2.2.2.2.1 u.2.2.2.2.2.2.2.2.2.2.2.2.2.1 u.2.2.2.2.2.2.2.2.2.2.2.2.2.2.1 u.2.2.2.2.2.2.2.2.2.2.2.2.2.2.2.1 u.2.2.2.2.2.2.2.2.2.2.2.2.2.2.2.2.1 mva u.2.2.2.2.2.2.2.2.2.2.2.2.2.2.2.2.2.1 u.2.2.2.2.2.2.2.2.2.2.2.2.2.2.2.2.2.2.1 u.2.2.2.2.2.2.2.2.2.2.2.2.2.2.2.2.2.2.2.1 u.2.2.2.2.2.2.2.2.2.2.2.2.2.2.2.2.2.2.2.2.1 u.2.2.2.2.2.2.2.2.2.2.2.2.2.2.2.2.2.2.2.2.2.1 u.2.2.2.2.2.2.2.2.2.2.2.2.2.2.2.2.2.2.2.2.2.2.1 u.2.2.2.2.2.2.2.2.2.2.2.2.2.2.2.2.2.2.2.2.2.2.2))) A) args s 0 0 A) (F0 m 23 ls []) := by
  obtain ⟨hx, hb, hr, hml, hown, hlocks, ht, hK, hA⟩ := id hC
  intro n
  induction n with
  | zero => intro x1 mrf mst men mnw mdn mpw mwr mrs mdr mtb mrc mnx mro mit mve mrb mch mic mlb mrw mnb mlk mnk mmd H locs ls hok; exact hok.elim
  | succ n ih =>
    intro x1 mrf mst men mnw mdn mpw mwr mrs mdr mtb mrc mnx mro mit mve mrb mch mic mlb mrw mnb mlk mnk mmd H locs ls hok hres hP hD hS hl
    rw [f_MO_commit_23] at hres
    rw [ok_MO_commit_23] at hok
    refine lv_iload_n hx hb d_MO_commit_23 rfl (lv_at hl 1 rfl) ?_
    refine lv_bipush (v := (64 : Int32)) hx hb d_MO_commit_24 (by decide) ?_
    refine lv_icmp_ge (tgt := 42) hx hb d_MO_commit_26 (by decide) (fun c_26 => ?_) (fun c_26 => ?_)
    · have hres := it_t c_26 hres
      have hok := hok.1 c_26
      refine lv_iconst (v := (0 : Int32)) hx hb d_MO_commit_42 (by decide) ?_
      refine lv_istore_n (lv' := [(1, .int (0 : Int32)), (0, .ref (ad 0))]) hx hb d_MO_commit_43 rfl hl (by decide) rfl (fun ls hl => ?_)
      exact w_MO_commit_44 hC 1024 (0 : Int32) mrf mst men mnw mdn mpw mwr mrs mdr mtb mrc mnx mro mit mve mrb mch mic mlb mrw mnb mlk mnk mmd _ _ _ hok hres hP hD hS (lv_sub hl [1, 0] rfl)
    · have hres := it_f c_26 hres
      have hok := hok.2 c_26
      refine lv_aload_n hx hb d_MO_commit_29 rfl (lv_at hl 0 rfl) ?_
      refine va_get (D := G.1) (ci := 6) (C := R_MO) (T := F_MO) (N := 26) hx hb ht in_MO hown hK hP 0 rfl rfl 16 (by decide) (ht _ kf_MO_33) (fun _ h9 => h9) rfl d_MO_commit_30 ?_
      refine lv_iload_n hx hb d_MO_commit_33 rfl (lv_at hl 1 rfl) ?_
      refine lv_iconst (v := (0 : Int32)) hx hb d_MO_commit_34 (by decide) ?_
      obtain ⟨hi_35, hok⟩ := hok
      refine va_zast hx hb hK hP hD hS 7 1 rfl rfl hi_35 d_MO_commit_35 (fun H locs hP hD hS => ?_)
      have hP : va_P G.1 classes (cM G ad mrf msl mst men mnw mdn mpw mwr mrs mdr mtb mrc mnx mro mit mve mrb mch mva (upd mic x1.toNatClampNeg (vp_nar .boolean (0 : Int32))) mlb mrw mnb mlk mnk mmd) H := hP
      have hD : va_D A (cM G ad mrf msl mst men mnw mdn mpw mwr mrs mdr mtb mrc mnx mro mit mve mrb mch mva (upd mic x1.toNatClampNeg (vp_nar .boolean (0 : Int32))) mlb mrw mnb mlk mnk mmd) := hD
      refine lv_iinc (v := x1 + (1 : Int32)) (lv' := [(1, .int (x1 + (1 : Int32))), (0, .ref (ad 0))]) hx hb d_MO_commit_36 hl (k := 1) rfl rfl (by decide) rfl (fun ls hl => ?_)
      refine lv_goto (tgt := 23) hx hb d_MO_commit_39 (by decide) ?_
      exact ih (x1 + (1 : Int32)) mrf mst men mnw mdn mpw mwr mrs mdr mtb mrc mnx mro mit mve mrb mch (upd mic x1.toNatClampNeg (vp_nar .boolean (0 : Int32))) mlb mrw mnb mlk mnk mmd _ _ _ hok hres hP hD hS (lv_sub hl [1, 0] rfl)
def f_MO_commit  (mrf : Int32) (msl : Int32) (mst : Int32) (men : Int32) (mnw : Int32) (mdn : Int32) (mpw : Int32) (mwr : Int32) (mrs : Int32) (mdr : Int32) (mtb : Int32) (mrc : Int32) (mnx : Int32) (mro : (Nat → Int32)) (mit : (Nat → Int32)) (mve : (Nat → Int32)) (mrb : (Nat → Int32)) (mch : (Nat → Int32)) (mva : (Nat → Int32)) (mic : (Nat → Int32)) (mlb : (Nat → Int32)) (mrw : (Nat → Int32)) (mnb : (Nat → Int32)) (mlk : (Nat → Int32)) (mnk : (Nat → Int32)) (mmd : (Nat → Int32)) : Int32 × Int32 × Int32 × Int32 × Int32 × Int32 × Int32 × Int32 × Int32 × Int32 × Int32 × Int32 × Int32 × (Nat → Int32) × (Nat → Int32) × (Nat → Int32) × (Nat → Int32) × (Nat → Int32) × (Nat → Int32) × (Nat → Int32) × (Nat → Int32) × (Nat → Int32) × (Nat → Int32) × (Nat → Int32) × (Nat → Int32) := bindc (f_MO_isUp mrf mdn) (fun z_1 => if z_1.1 = 0 then ((0 : Int32), (z_1.2, mst, men, mnw, mdn, mpw, mwr, mrs, mdr, mtb, mrc, mnx, mro, mit, mve, mrb, mch, mic, mlb, mrw, mnb, mlk, mnk, mmd)) else if mdr = 0 then (mnw, (z_1.2, mst, men, mnw, mdn, mpw, mwr, mrs, mdr, mtb, mrc, mnx, mro, mit, mve, mrb, mch, mic, mlb, mrw, mnb, mlk, mnk, mmd)) else f_MO_commit_23 1024 (0 : Int32) z_1.2 msl mst men mnw mdn mpw mwr mrs mdr mtb mrc mnx mro mit mve mrb mch mva mic mlb mrw mnb mlk mnk mmd)
def ok_MO_commit  (mrf : Int32) (msl : Int32) (mst : Int32) (men : Int32) (mnw : Int32) (mdn : Int32) (mpw : Int32) (mwr : Int32) (mrs : Int32) (mdr : Int32) (mtb : Int32) (mrc : Int32) (mnx : Int32) (mro : (Nat → Int32)) (mit : (Nat → Int32)) (mve : (Nat → Int32)) (mrb : (Nat → Int32)) (mch : (Nat → Int32)) (mva : (Nat → Int32)) (mic : (Nat → Int32)) (mlb : (Nat → Int32)) (mrw : (Nat → Int32)) (mnb : (Nat → Int32)) (mlk : (Nat → Int32)) (mnk : (Nat → Int32)) (mmd : (Nat → Int32)) : Prop := bindp (f_MO_isUp mrf mdn) (fun z_1 => (z_1.1 = 0 → True) ∧ (¬ z_1.1 = 0 → (mdr = 0 → True) ∧ (¬ mdr = 0 → ok_MO_commit_23  1024 (0 : Int32) z_1.2 msl mst men mnw mdn mpw mwr mrs mdr mtb mrc mnx mro mit mve mrb mch mva mic mlb mrw mnb mlk mnk mmd)))
set_option maxHeartbeats 4000000 in
set_option maxRecDepth 100000 in
theorem c_MO_commit {l : Launch} {G : GG} {ad : Nat → Nat} {sz : Nat} {mrf : Int32} {msl : Int32} {mst : Int32} {men : Int32} {mnw : Int32} {mdn : Int32} {mpw : Int32} {mwr : Int32} {mrs : Int32} {mdr : Int32} {mtb : Int32} {mrc : Int32} {mnx : Int32} {mro : (Nat → Int32)} {mit : (Nat → Int32)} {mve : (Nat → Int32)} {mrb : (Nat → Int32)} {mch : (Nat → Int32)} {mva : (Nat → Int32)} {mic : (Nat → Int32)} {mlb : (Nat → Int32)} {mrw : (Nat → Int32)} {mnb : (Nat → Int32)} {mlk : (Nat → Int32)} {mnk : (Nat → Int32)} {mmd : (Nat → Int32)}  (hok : ok_MO_commit mrf msl mst men mnw mdn mpw mwr mrs mdr mtb mrc mnx mro mit mve mrb mch mva mic mlb mrw mnb mlk mnk mmd) : CtI l y_MO_commit b_MO_commit 2 (some .int) rm_MO_commit G (cM G ad mrf msl mst men mnw mdn mpw mwr mrs mdr mtb mrc mnx mro mit mve mrb mch mva mic mlb mrw mnb mlk mnk mmd) sz [.ref (ad 0)] (eqP (f_MO_commit mrf msl mst men mnw mdn mpw mwr mrs mdr mtb mrc mnx mro mit mve mrb mch mva mic mlb mrw mnb mlk mnk mmd)) (fun u : Int32 × Int32 × Int32 × Int32 × Int32 × Int32 × Int32 × Int32 × Int32 × Int32 × Int32 × Int32 × (Nat → Int32) × (Nat → Int32) × (Nat → Int32) × (Nat → Int32) × (Nat → Int32) × (Nat → Int32) × (Nat → Int32) × (Nat → Int32) × (Nat → Int32) × (Nat → Int32) × (Nat → Int32) × (Nat → Int32) => (cM G ad u.1 msl u.2.1 u.2.2.1 u.2.2.2.1 u.2.2.2.2.1 u.2.2.2.2.2.1 u.2.2.2.2.2.2.1 u.2.2.2.2.2.2.2.1 u.2.2.2.2.2.2.2.2.1 u.2.2.2.2.2.2.2.2.2.1 u.2.2.2.2.2.2.2.2.2.2.1 u.2.2.2.2.2.2.2.2.2.2.2.1 u.2.2.2.2.2.2.2.2.2.2.2.2.1 u.2.2.2.2.2.2.2.2.2.2.2.2.2.1 u.2.2.2.2.2.2.2.2.2.2.2.2.2.2.1 u.2.2.2.2.2.2.2.2.2.2.2.2.2.2.2.1 u.2.2.2.2.2.2.2.2.2.2.2.2.2.2.2.2.1 mva u.2.2.2.2.2.2.2.2.2.2.2.2.2.2.2.2.2.1 u.2.2.2.2.2.2.2.2.2.2.2.2.2.2.2.2.2.2.1 u.2.2.2.2.2.2.2.2.2.2.2.2.2.2.2.2.2.2.2.1 u.2.2.2.2.2.2.2.2.2.2.2.2.2.2.2.2.2.2.2.2.1 u.2.2.2.2.2.2.2.2.2.2.2.2.2.2.2.2.2.2.2.2.2.1 u.2.2.2.2.2.2.2.2.2.2.2.2.2.2.2.2.2.2.2.2.2.2.1 u.2.2.2.2.2.2.2.2.2.2.2.2.2.2.2.2.2.2.2.2.2.2.2)) := by
  generalize hres : f_MO_commit mrf msl mst men mnw mdn mpw mwr mrs mdr mtb mrc mnx mro mit mve mrb mch mva mic mlb mrw mnb mlk mnk mmd = res
  refine Met_of (Qc := fun A => va_Qi (eqP res) (Wb G A (fun u : Int32 × Int32 × Int32 × Int32 × Int32 × Int32 × Int32 × Int32 × Int32 × Int32 × Int32 × Int32 × (Nat → Int32) × (Nat → Int32) × (Nat → Int32) × (Nat → Int32) × (Nat → Int32) × (Nat → Int32) × (Nat → Int32) × (Nat → Int32) × (Nat → Int32) × (Nat → Int32) × (Nat → Int32) × (Nat → Int32) => (cM G ad u.1 msl u.2.1 u.2.2.1 u.2.2.2.1 u.2.2.2.2.1 u.2.2.2.2.2.1 u.2.2.2.2.2.2.1 u.2.2.2.2.2.2.2.1 u.2.2.2.2.2.2.2.2.1 u.2.2.2.2.2.2.2.2.2.1 u.2.2.2.2.2.2.2.2.2.2.1 u.2.2.2.2.2.2.2.2.2.2.2.1 u.2.2.2.2.2.2.2.2.2.2.2.2.1 u.2.2.2.2.2.2.2.2.2.2.2.2.2.1 u.2.2.2.2.2.2.2.2.2.2.2.2.2.2.1 u.2.2.2.2.2.2.2.2.2.2.2.2.2.2.2.1 u.2.2.2.2.2.2.2.2.2.2.2.2.2.2.2.2.1 mva u.2.2.2.2.2.2.2.2.2.2.2.2.2.2.2.2.2.1 u.2.2.2.2.2.2.2.2.2.2.2.2.2.2.2.2.2.2.1 u.2.2.2.2.2.2.2.2.2.2.2.2.2.2.2.2.2.2.2.1 u.2.2.2.2.2.2.2.2.2.2.2.2.2.2.2.2.2.2.2.2.1 u.2.2.2.2.2.2.2.2.2.2.2.2.2.2.2.2.2.2.2.2.2.1 u.2.2.2.2.2.2.2.2.2.2.2.2.2.2.2.2.2.2.2.2.2.2.1 u.2.2.2.2.2.2.2.2.2.2.2.2.2.2.2.2.2.2.2.2.2.2.2))) A) (by decide) (Nat.le_of_ble_eq_true rfl) ?_
  intro p e s m below meth c hadm hx hb hr hml hown hlocks ht hK A hA hP hD hS ls hl
  have hC : Cx p l e s m (([.ref (ad 0)] : List Value)).toArray meth c y_MO_commit b_MO_commit 2 (some .int) "BookTreesModel" G A := ⟨hx, hb, hr, hml, hown, hlocks, ht, hK, hA⟩
  have hown : s.vm.findClass "BookTreesModel" = some m.cls := hown
  have hl : lv_has ls 2 [(0, .ref (ad 0))] := hl
  rw [f_MO_commit] at hres
  rw [ok_MO_commit] at hok
  refine lv_aload_n hx hb d_MO_commit_0 rfl (lv_at hl 0 rfl) ?_
  refine go_iz (run_V hx hb hml hown ht hK hP hD (c_MO_isUp) (cw_V ht km_MO_109 ki_MO_isUp ks_MO_isUp ini_MO kd_MO_isUp kh_MO_isUp ⟨Nat.le_of_ble_eq_true rfl, Nat.le_of_ble_eq_true rfl⟩ rfl rfl) (q0 := 0) (ci := 6) (As := []) (rest := []) rfl rfl rfl hl.1 rfl (Nat.le_of_ble_eq_true rfl) d_MO_commit_1 ⟨Nat.zero_le _, Nat.zero_le _⟩) hD hS hA (fun z_1 H locs hz_1 hP hD hS => ?_)
  have hres := bindc_eq hz_1 hres
  have hok := bindp_eq hz_1 hok
  have hP : va_P G.1 classes (cM G ad z_1.2 msl mst men mnw mdn mpw mwr mrs mdr mtb mrc mnx mro mit mve mrb mch mva mic mlb mrw mnb mlk mnk mmd) H := hP
  have hD : va_D A (cM G ad z_1.2 msl mst men mnw mdn mpw mwr mrs mdr mtb mrc mnx mro mit mve mrb mch mva mic mlb mrw mnb mlk mnk mmd) := hD
  refine lv_if_ne (tgt := 9) hx hb d_MO_commit_4 (by decide) (fun c_4 => ?_) (fun c_4 => ?_)
  · have hres := it_f c_4 hres
    have hok := hok.2 c_4
    refine lv_aload_n hx hb d_MO_commit_9 rfl (lv_at hl 0 rfl) ?_
    refine va_get (D := G.1) (ci := 6) (C := R_MO) (T := F_MO) (N := 26) hx hb ht in_MO hown hK hP 0 rfl rfl 13 (by decide) (ht _ kf_MO_95) (fun _ h9 => h9) rfl d_MO_commit_10 ?_
    refine lv_if_ne (tgt := 21) hx hb d_MO_commit_13 (by decide) (fun c_13 => ?_) (fun c_13 => ?_)
    · have hres := it_f c_13 hres
      have hok := hok.2 c_13
      refine lv_iconst (v := (0 : Int32)) hx hb d_MO_commit_21 (by decide) ?_
      refine lv_istore_n (lv' := [(1, .int (0 : Int32)), (0, .ref (ad 0))]) hx hb d_MO_commit_22 rfl hl (by decide) rfl (fun ls hl => ?_)
      exact w_MO_commit_23 hC 1024 (0 : Int32) z_1.2 mst men mnw mdn mpw mwr mrs mdr mtb mrc mnx mro mit mve mrb mch mic mlb mrw mnb mlk mnk mmd _ _ _ hok hres hP hD hS (lv_sub hl [1, 0] rfl)
    · have hres := it_t c_13 hres
      refine lv_aload_n hx hb d_MO_commit_16 rfl (lv_at hl 0 rfl) ?_
      refine va_get (D := G.1) (ci := 6) (C := R_MO) (T := F_MO) (N := 26) hx hb ht in_MO hown hK hP 0 rfl rfl 6 (by decide) (ht _ kf_MO_137) (fun _ h9 => h9) rfl d_MO_commit_17 ?_
      exact en_i (w1 := (fun u : Int32 × Int32 × Int32 × Int32 × Int32 × Int32 × Int32 × Int32 × Int32 × Int32 × Int32 × Int32 × (Nat → Int32) × (Nat → Int32) × (Nat → Int32) × (Nat → Int32) × (Nat → Int32) × (Nat → Int32) × (Nat → Int32) × (Nat → Int32) × (Nat → Int32) × (Nat → Int32) × (Nat → Int32) × (Nat → Int32) => (cM G ad u.1 msl u.2.1 u.2.2.1 u.2.2.2.1 u.2.2.2.2.1 u.2.2.2.2.2.1 u.2.2.2.2.2.2.1 u.2.2.2.2.2.2.2.1 u.2.2.2.2.2.2.2.2.1 u.2.2.2.2.2.2.2.2.2.1 u.2.2.2.2.2.2.2.2.2.2.1 u.2.2.2.2.2.2.2.2.2.2.2.1 u.2.2.2.2.2.2.2.2.2.2.2.2.1 u.2.2.2.2.2.2.2.2.2.2.2.2.2.1 u.2.2.2.2.2.2.2.2.2.2.2.2.2.2.1 u.2.2.2.2.2.2.2.2.2.2.2.2.2.2.2.1 u.2.2.2.2.2.2.2.2.2.2.2.2.2.2.2.2.1 mva u.2.2.2.2.2.2.2.2.2.2.2.2.2.2.2.2.2.1 u.2.2.2.2.2.2.2.2.2.2.2.2.2.2.2.2.2.2.1 u.2.2.2.2.2.2.2.2.2.2.2.2.2.2.2.2.2.2.2.1 u.2.2.2.2.2.2.2.2.2.2.2.2.2.2.2.2.2.2.2.2.1 u.2.2.2.2.2.2.2.2.2.2.2.2.2.2.2.2.2.2.2.2.2.1 u.2.2.2.2.2.2.2.2.2.2.2.2.2.2.2.2.2.2.2.2.2.2.1 u.2.2.2.2.2.2.2.2.2.2.2.2.2.2.2.2.2.2.2.2.2.2.2))) (z_1.2, mst, men, mnw, mdn, mpw, mwr, mrs, mdr, mtb, mrc, mnx, mro, mit, mve, mrb, mch, mic, mlb, mrw, mnb, mlk, mnk, mmd) hx hb hr hlocks hK hP hD hS hres d_MO_commit_20
  · have hres := it_t c_4 hres
    refine lv_iconst (v := (0 : Int32)) hx hb d_MO_commit_7 (by decide) ?_
    exact en_i (w1 := (fun u : Int32 × Int32 × Int32 × Int32 × Int32 × Int32 × Int32 × Int32 × Int32 × Int32 × Int32 × Int32 × (Nat → Int32) × (Nat → Int32) × (Nat → Int32) × (Nat → Int32) × (Nat → Int32) × (Nat → Int32) × (Nat → Int32) × (Nat → Int32) × (Nat → Int32) × (Nat → Int32) × (Nat → Int32) × (Nat → Int32) => (cM G ad u.1 msl u.2.1 u.2.2.1 u.2.2.2.1 u.2.2.2.2.1 u.2.2.2.2.2.1 u.2.2.2.2.2.2.1 u.2.2.2.2.2.2.2.1 u.2.2.2.2.2.2.2.2.1 u.2.2.2.2.2.2.2.2.2.1 u.2.2.2.2.2.2.2.2.2.2.1 u.2.2.2.2.2.2.2.2.2.2.2.1 u.2.2.2.2.2.2.2.2.2.2.2.2.1 u.2.2.2.2.2.2.2.2.2.2.2.2.2.1 u.2.2.2.2.2.2.2.2.2.2.2.2.2.2.1 u.2.2.2.2.2.2.2.2.2.2.2.2.2.2.2.1 u.2.2.2.2.2.2.2.2.2.2.2.2.2.2.2.2.1 mva u.2.2.2.2.2.2.2.2.2.2.2.2.2.2.2.2.2.1 u.2.2.2.2.2.2.2.2.2.2.2.2.2.2.2.2.2.2.1 u.2.2.2.2.2.2.2.2.2.2.2.2.2.2.2.2.2.2.2.1 u.2.2.2.2.2.2.2.2.2.2.2.2.2.2.2.2.2.2.2.2.1 u.2.2.2.2.2.2.2.2.2.2.2.2.2.2.2.2.2.2.2.2.2.1 u.2.2.2.2.2.2.2.2.2.2.2.2.2.2.2.2.2.2.2.2.2.2.1 u.2.2.2.2.2.2.2.2.2.2.2.2.2.2.2.2.2.2.2.2.2.2.2))) (z_1.2, mst, men, mnw, mdn, mpw, mwr, mrs, mdr, mtb, mrc, mnx, mro, mit, mve, mrb, mch, mic, mlb, mrw, mnb, mlk, mnk, mmd) hx hb hr hlocks hK hP hD hS hres d_MO_commit_8
/-! ===== BookTreesModel.copy()I ===== -/
abbrev rm_MO_copy : Room := { frames := 6, cells := 0, slots := 0, locals := 143 }
def f_MO_copy_11 : Nat → Int32 → Int32 → Int32 → Int32 → Int32 → Int32 → Int32 → Int32 → Int32 → Int32 → Int32 → Int32 → Int32 → (Nat → Int32) → (Nat → Int32) → (Nat → Int32) → (Nat → Int32) → (Nat → Int32) → (Nat → Int32) → (Nat → Int32) → (Nat → Int32) → (Nat → Int32) → (Nat → Int32) → (Nat → Int32) → Int32 × Int32 × Int32 × Int32 × Int32 × Int32 × Int32 × Int32 × Int32 × Int32 × Int32 × Int32 × (Nat → Int32) × (Nat → Int32) × (Nat → Int32) × (Nat → Int32) × (Nat → Int32) × (Nat → Int32) × (Nat → Int32) × (Nat → Int32) × (Nat → Int32) × (Nat → Int32) × (Nat → Int32)
  | 0, x1, mrf, msl, mst, men, mnw, mdn, mpw, mwr, mrs, mtb, mrc, mnx, mro, mit, mve, mrb, mic, mlb, mrw, mnb, mlk, mnk, mmd => (0, (mrf, mst, men, mnw, mdn, mpw, mwr, mrs, mtb, mrc, mnx, mro, mit, mve, mrb, mic, mlb, mrw, mnb, mlk, mnk, mmd))
  | n + 1, x1, mrf, msl, mst, men, mnw, mdn, mpw, mwr, mrs, mtb, mrc, mnx, mro, mit, mve, mrb, mic, mlb, mrw, mnb, mlk, mnk, mmd => if (64 : Int32) ≤ x1 then bindc (f_MO_readAll msl mst men mnw mrs mtb mrc mro mit mve mrb mic mlb mrw mnb mlk mnk) (fun z_31 => if z_31.1 = 0 then ((-2 : Int32), (mrf, mst, men, mnw, mdn, mpw, mwr, mrs, z_31.2.1, z_31.2.2.1, mnx, mro, mit, mve, mrb, mic, z_31.2.2.2.1, z_31.2.2.2.2.1, z_31.2.2.2.2.2.1, z_31.2.2.2.2.2.2.1, z_31.2.2.2.2.2.2.2, mmd)) else bindc (f_MO_settle z_31.2.1 mic z_31.2.2.2.1 z_31.2.2.2.2.2.1) (fun z_41 => if z_41.1 ≤ ((msl - men) + mst) then bindc (f_MO_writeAll men msl mst men mnw mdn mpw mwr mrs z_41.2.1 z_31.2.2.1 mnx mro mit mve mrb mic z_31.2.2.2.1 z_31.2.2.2.2.1 z_41.2.2 z_31.2.2.2.2.2.2.1 z_31.2.2.2.2.2.2.2 mmd) (fun z_71 => (z_71.1, (mrf, z_71.2.1, z_71.2.2.1, z_71.2.2.2.1, z_71.2.2.2.2.1, z_71.2.2.2.2.2.1, z_71.2.2.2.2.2.2.1, z_71.2.2.2.2.2.2.2.1, z_41.2.1, z_31.2.2.1, z_71.2.2.2.2.2.2.2.2.1, z_71.2.2.2.2.2.2.2.2.2.1, z_71.2.2.2.2.2.2.2.2.2.2.1, z_71.2.2.2.2.2.2.2.2.2.2.2.1, z_71.2.2.2.2.2.2.2.2.2.2.2.2.1, mic, z_31.2.2.2.1, z_31.2.2.2.2.1, z_41.2.2, z_71.2.2.2.2.2.2.2.2.2.2.2.2.2.1, z_71.2.2.2.2.2.2.2.2.2.2.2.2.2.2.1, z_71.2.2.2.2.2.2.2.2.2.2.2.2.2.2.2))) else ((-3 : Int32), (mrf, mst, men, mnw, mdn, mpw, mwr, mrs, z_41.2.1, z_31.2.2.1, mnx, mro, mit, mve, mrb, mic, z_31.2.2.2.1, z_31.2.2.2.2.1, z_41.2.2, z_31.2.2.2.2.2.2.1, z_31.2.2.2.2.2.2.2, mmd)))) else f_MO_copy_11 n (x1 + (1 : Int32)) mrf msl mst men mnw mdn mpw mwr mrs mtb mrc mnx mro mit mve mrb (upd mic x1.toNatClampNeg (vp_nar .boolean (1 : Int32))) mlb mrw mnb mlk mnk mmd
def ok_MO_copy_11 : Nat → Int32 → Int32 → Int32 → Int32 → Int32 → Int32 → Int32 → Int32 → Int32 → Int32 → Int32 → Int32 → Int32 → (Nat → Int32) → (Nat → Int32) → (Nat → Int32) → (Nat → Int32) → (Nat → Int32) → (Nat → Int32) → (Nat → Int32) → (Nat → Int32) → (Nat → Int32) → (Nat → Int32) → (Nat → Int32) → Prop
  | 0, _, _, _, _, _, _, _, _, _, _, _, _, _, _, _, _, _, _, _, _, _, _, _, _ => False
  | n + 1, x1, mrf, msl, mst, men, mnw, mdn, mpw, mwr, mrs, mtb, mrc, mnx, mro, mit, mve, mrb, mic, mlb, mrw, mnb, mlk, mnk, mmd => ((64 : Int32) ≤ x1 → ok_MO_readAll msl mst men mnw mrs mtb mrc mro mit mve mrb mic mlb mrw mnb mlk mnk ∧ bindp (f_MO_readAll msl mst men mnw mrs mtb mrc mro mit mve mrb mic mlb mrw mnb mlk mnk) (fun z_31 => (z_31.1 = 0 → True) ∧ (¬ z_31.1 = 0 → ok_MO_settle z_31.2.1 mic z_31.2.2.2.1 z_31.2.2.2.2.2.1 ∧ bindp (f_MO_settle z_31.2.1 mic z_31.2.2.2.1 z_31.2.2.2.2.2.1) (fun z_41 => (z_41.1 ≤ ((msl - men) + mst) → ok_MO_writeAll men msl mst men mnw mdn mpw mwr mrs z_41.2.1 z_31.2.2.1 mnx mro mit mve mrb mic z_31.2.2.2.1 z_31.2.2.2.2.1 z_41.2.2 z_31.2.2.2.2.2.2.1 z_31.2.2.2.2.2.2.2 mmd) ∧ (¬ z_41.1 ≤ ((msl - men) + mst) → True))))) ∧ (¬ (64 : Int32) ≤ x1 → vp_in x1 64 ∧ (ok_MO_copy_11  n (x1 + (1 : Int32)) mrf msl mst men mnw mdn mpw mwr mrs mtb mrc mnx mro mit mve mrb (upd mic x1.toNatClampNeg (vp_nar .boolean (1 : Int32))) mlb mrw mnb mlk mnk mmd))
set_option maxHeartbeats 4000000 in
set_option maxRecDepth 100000 in
theorem w_MO_copy_11 {p : Program} {l : Launch} {e : Env} {s : State} {m : MethodId} {args : Array Value} {below : List Frame} {meth : Method} {c : Code} {A : Nat → Prop} {G : GG} {ad : Nat → Nat} {msl : Int32} {mdr : Int32} {mch : (Nat → Int32)} {mva : (Nat → Int32)} {res : Int32 × Int32 × Int32 × Int32 × Int32 × Int32 × Int32 × Int32 × Int32 × Int32 × Int32 × Int32 × (Nat → Int32) × (Nat → Int32) × (Nat → Int32) × (Nat → Int32) × (Nat → Int32) × (Nat → Int32) × (Nat → Int32) × (Nat → Int32) × (Nat → Int32) × (Nat → Int32) × (Nat → Int32)} (hC : Cx p l e s m args meth c y_MO_copy b_MO_copy 2 (some .int) "BookTreesModel" G A) : ∀ (n : Nat) (x1 : Int32) (mrf : Int32) (mst : Int32) (men : Int32) (mnw : Int32) (mdn : Int32) (mpw : Int32) (mwr : Int32) (mrs : Int32) (mtb : Int32) (mrc : Int32) (mnx : Int32) (mro : (Nat → Int32)) (mit : (Nat → Int32)) (mve : (Nat → Int32)) (mrb : (Nat → Int32)) (mic : (Nat → Int32)) (mlb : (Nat → Int32)) (mrw : (Nat → Int32)) (mnb : (Nat → Int32)) (mlk : (Nat → Int32)) (mnk : (Nat → Int32)) (mmd : (Nat → Int32)) (H : Heap) (locs : List Loc) (ls : Array Slot), ok_MO_copy_11 n x1 mrf msl mst men mnw mdn mpw mwr mrs mtb mrc mnx mro mit mve mrb mic mlb mrw mnb mlk mnk mmd → f_MO_copy_11 n x1 mrf msl mst men mnw mdn mpw mwr mrs mtb mrc mnx mro mit mve mrb mic mlb mrw mnb mlk mnk mmd = res → va_P G.1 classes (cM G ad mrf msl mst men mnw mdn mpw mwr mrs mdr mtb mrc mnx mro mit mve mrb mch mva mic mlb mrw mnb mlk mnk mmd) H → va_D A (cM G ad mrf msl mst men mnw mdn mpw mwr mrs mdr mtb mrc mnx mro mit mve mrb mch mva mic mlb mrw mnb mlk mnk mmd) → va_S A s.heap H locs → lv_has ls 2 [(0, .ref (ad 0)), (1, .int x1)] → W p l e rm_MO_copy s m args below meth c H locs 0 0 (MQ below (va_Qi (eqP res) (Wb G A (fun u : Int32 × Int32 × Int32 × Int32 × Int32 × Int32 × Int32 × Int32 × Int32 × Int32 × Int32 × (Nat → Int32) × (Nat → Int32) × (Nat → Int32) × (Nat → Int32) × (Nat → Int32) × (Nat → Int32) × (Nat → Int32) × (Nat → Int32) × (Nat → Int32) × (Nat → Int32) × (Nat → Int32) => (cM G ad u.1 msl u.2.1 u.2.2.1 u.2.2.2.1 u.2.2.2.2.1 u.2.2.2.2.2.1 u.2.2.2.2.2.2.1 u.2.2.2.2.2.2.2.1 mdr u.2.2.2.2.2.2.2.2.1 u.2.2.2.2.2.2.2.2.2.1 u.2.2.2.2.2.2.2.2.2.2.1 u.2.2.2.2.2.2.2.2.2.2.2.1 u.2.2.2.2.2.2.2.2.2.2.2.2.1 u.2.2.2.2.2.2.2.2.2.2.2.2.2.1 u.2.2.2.2.2.2.2.2.2.2.2.2.2.2.1 mch mva u.2.2.2.2.2.2.2.2.2.2.2.2.2.2.2.1 u.2.2.2.2.2.2.2.2.2.2.2.2.2.2.2.2.1 u.2.2.2.2.2.2.2.2.2.2.2.2.2.2.2.2.2.1 u.2.2.2.2.2.2.2.2.2.2.2.2.2.2.2.2.2.2.1 u.2.2.2.2.2.2.2.2.2.2.2.2.2.2.2.2.2.2.2.1 u.2.2.2.2.2.2.2.2.2.2.2.2.2.2.2.2.2.2.2.2.1 u.2.2.2.2.2.2.2.2.2.2.2.2.2.2.2.2.2.2.2.2.2))) A) args s 0 0 A) (F0 m 11 ls []) := by
  obtain ⟨hx, hb, hr, hml, hown, hlocks, ht, hK, hA⟩ := id hC
  intro n
  induction n with
  | zero => intro x1 mrf mst men mnw mdn mpw mwr mrs mtb mrc mnx mro mit mve mrb mic mlb mrw mnb mlk mnk mmd H locs ls hok; exact hok.elim
  | succ n ih =>
    intro x1 mrf mst men mnw mdn mpw mwr mrs mtb mrc mnx mro mit mve mrb mic mlb mrw mnb mlk mnk mmd H locs ls hok hres hP hD hS hl
    rw [f_MO_copy_11] at hres
    rw [ok_MO_copy_11] at hok
    refine lv_iload_n hx hb d_MO_copy_11 rfl (lv_at hl 1 rfl) ?_
    refine lv_bipush (v := (64 : Int32)) hx hb d_MO_copy_12 (by decide) ?_
    refine lv_icmp_ge (tgt := 30) hx hb d_MO_copy_14 (by decide) (fun c_14 => ?_) (fun c_14 => ?_)
    · have hres := it_t c_14 hres
      have hok := hok.1 c_14
      refine lv_aload_n hx hb d_MO_copy_30 rfl (lv_at hl 0 rfl) ?_
      obtain ⟨hk_31, hok⟩ := hok
      refine go_iz (run_V hx hb hml hown ht hK hP hD (c_MO_readAll hk_31) (cw_V ht km_MO_196 ki_MO_readAll ks_MO_readAll ini_MO kd_MO_readAll kh_MO_readAll ⟨Nat.le_of_ble_eq_true rfl, Nat.le_of_ble_eq_true rfl⟩ rfl rfl) (q0 := 0) (ci := 6) (As := []) (rest := []) rfl rfl rfl hl.1 rfl (Nat.le_of_ble_eq_true rfl) d_MO_copy_31 ⟨Nat.zero_le _, Nat.zero_le _⟩) hD hS hA (fun z_31 H locs hz_31 hP hD hS => ?_)
      have hres := bindc_eq hz_31 hres
      have hok := bindp_eq hz_31 hok
      have hP : va_P G.1 classes (cM G ad mrf msl mst men mnw mdn mpw mwr mrs mdr z_31.2.1 z_31.2.2.1 mnx mro mit mve mrb mch mva mic z_31.2.2.2.1 z_31.2.2.2.2.1 z_31.2.2.2.2.2.1 z_31.2.2.2.2.2.2.1 z_31.2.2.2.2.2.2.2 mmd) H := hP
      have hD : va_D A (cM G ad mrf msl mst men mnw mdn mpw mwr mrs mdr z_31.2.1 z_31.2.2.1 mnx mro mit mve mrb mch mva mic z_31.2.2.2.1 z_31.2.2.2.2.1 z_31.2.2.2.2.2.1 z_31.2.2.2.2.2.2.1 z_31.2.2.2.2.2.2.2 mmd) := hD
      refine lv_if_ne (tgt := 40) hx hb d_MO_copy_34 (by decide) (fun c_34 => ?_) (fun c_34 => ?_)
      · have hres := it_f c_34 hres
        have hok := hok.2 c_34
        refine lv_aload_n hx hb d_MO_copy_40 rfl (lv_at hl 0 rfl) ?_
        obtain ⟨hk_41, hok⟩ := hok
        refine go_iz (run_V hx hb hml hown ht hK hP hD (c_MO_settle hk_41) (cw_V ht km_MO_202 ki_MO_settle ks_MO_settle ini_MO kd_MO_settle kh_MO_settle ⟨Nat.le_of_ble_eq_true rfl, Nat.le_of_ble_eq_true rfl⟩ rfl rfl) (q0 := 0) (ci := 6) (As := []) (rest := []) rfl rfl rfl hl.1 rfl (Nat.le_of_ble_eq_true rfl) d_MO_copy_41 ⟨Nat.zero_le _, Nat.zero_le _⟩) hD hS hA (fun z_41 H locs hz_41 hP hD hS => ?_)
        have hres := bindc_eq hz_41 hres
        have hok := bindp_eq hz_41 hok
        have hP : va_P G.1 classes (cM G ad mrf msl mst men mnw mdn mpw mwr mrs mdr z_41.2.1 z_31.2.2.1 mnx mro mit mve mrb mch mva mic z_31.2.2.2.1 z_31.2.2.2.2.1 z_41.2.2 z_31.2.2.2.2.2.2.1 z_31.2.2.2.2.2.2.2 mmd) H := hP
        have hD : va_D A (cM G ad mrf msl mst men mnw mdn mpw mwr mrs mdr z_41.2.1 z_31.2.2.1 mnx mro mit mve mrb mch mva mic z_31.2.2.2.1 z_31.2.2.2.2.1 z_41.2.2 z_31.2.2.2.2.2.2.1 z_31.2.2.2.2.2.2.2 mmd) := hD
        refine lv_aload_n hx hb d_MO_copy_44 rfl (lv_at hl 0 rfl) ?_
        refine va_get (D := G.1) (ci := 6) (C := R_MO) (T := F_MO) (N := 26) hx hb ht in_MO hown hK hP 0 rfl rfl 1 (by decide) (ht _ kf_MO_54) (fun _ h9 => h9) rfl d_MO_copy_45 ?_
        refine lv_aload_n hx hb d_MO_copy_48 rfl (lv_at hl 0 rfl) ?_
        refine va_get (D := G.1) (ci := 6) (C := R_MO) (T := F_MO) (N := 26) hx hb ht in_MO hown hK hP 0 rfl rfl 5 (by decide) (ht _ kf_MO_67) (fun _ h9 => h9) rfl d_MO_copy_49 ?_
        refine lv_isub hx hb d_MO_copy_52 ?_
        refine lv_aload_n hx hb d_MO_copy_53 rfl (lv_at hl 0 rfl) ?_
        refine va_get (D := G.1) (ci := 6) (C := R_MO) (T := F_MO) (N := 26) hx hb ht in_MO hown hK hP 0 rfl rfl 4 (by decide) (ht _ kf_MO_64) (fun _ h9 => h9) rfl d_MO_copy_54 ?_
        refine lv_iadd hx hb d_MO_copy_57 ?_
        refine lv_icmp_le (tgt := 66) hx hb d_MO_copy_58 (by decide) (fun c_58 => ?_) (fun c_58 => ?_)
        · have hres := it_t c_58 hres
          have hok := hok.1 c_58
          refine lv_aload_n hx hb d_MO_copy_66 rfl (lv_at hl 0 rfl) ?_
          refine lv_aload_n hx hb d_MO_copy_67 rfl (lv_at hl 0 rfl) ?_
          refine va_get (D := G.1) (ci := 6) (C := R_MO) (T := F_MO) (N := 26) hx hb ht in_MO hown hK hP 0 rfl rfl 5 (by decide) (ht _ kf_MO_67) (fun _ h9 => h9) rfl d_MO_copy_68 ?_
          have hk_71 := hok
          refine go_iz (run_V hx hb hml hown ht hK hP hD (c_MO_writeAll hk_71) (cw_V ht km_MO_206 ki_MO_writeAll ks_MO_writeAll ini_MO kd_MO_writeAll kh_MO_writeAll ⟨Nat.le_of_ble_eq_true rfl, Nat.le_of_ble_eq_true rfl⟩ rfl rfl) (q0 := 0) (ci := 6) (As := [.int men]) (rest := []) rfl rfl rfl hl.1 rfl (Nat.le_of_ble_eq_true rfl) d_MO_copy_71 ⟨Nat.zero_le _, Nat.zero_le _⟩) hD hS hA (fun z_71 H locs hz_71 hP hD hS => ?_)
          have hres := bindc_eq hz_71 hres
          have hP : va_P G.1 classes (cM G ad mrf msl z_71.2.1 z_71.2.2.1 z_71.2.2.2.1 z_71.2.2.2.2.1 z_71.2.2.2.2.2.1 z_71.2.2.2.2.2.2.1 z_71.2.2.2.2.2.2.2.1 mdr z_41.2.1 z_31.2.2.1 z_71.2.2.2.2.2.2.2.2.1 z_71.2.2.2.2.2.2.2.2.2.1 z_71.2.2.2.2.2.2.2.2.2.2.1 z_71.2.2.2.2.2.2.2.2.2.2.2.1 z_71.2.2.2.2.2.2.2.2.2.2.2.2.1 mch mva mic z_31.2.2.2.1 z_31.2.2.2.2.1 z_41.2.2 z_71.2.2.2.2.2.2.2.2.2.2.2.2.2.1 z_71.2.2.2.2.2.2.2.2.2.2.2.2.2.2.1 z_71.2.2.2.2.2.2.2.2.2.2.2.2.2.2.2) H := hP
          have hD : va_D A (cM G ad mrf msl z_71.2.1 z_71.2.2.1 z_71.2.2.2.1 z_71.2.2.2.2.1 z_71.2.2.2.2.2.1 z_71.2.2.2.2.2.2.1 z_71.2.2.2.2.2.2.2.1 mdr z_41.2.1 z_31.2.2.1 z_71.2.2.2.2.2.2.2.2.1 z_71.2.2.2.2.2.2.2.2.2.1 z_71.2.2.2.2.2.2.2.2.2.2.1 z_71.2.2.2.2.2.2.2.2.2.2.2.1 z_71.2.2.2.2.2.2.2.2.2.2.2.2.1 mch mva mic z_31.2.2.2.1 z_31.2.2.2.2.1 z_41.2.2 z_71.2.2.2.2.2.2.2.2.2.2.2.2.2.1 z_71.2.2.2.2.2.2.2.2.2.2.2.2.2.2.1 z_71.2.2.2.2.2.2.2.2.2.2.2.2.2.2.2) := hD
          exact en_i (w1 := (fun u : Int32 × Int32 × Int32 × Int32 × Int32 × Int32 × Int32 × Int32 × Int32 × Int32 × Int32 × (Nat → Int32) × (Nat → Int32) × (Nat → Int32) × (Nat → Int32) × (Nat → Int32) × (Nat → Int32) × (Nat → Int32) × (Nat → Int32) × (Nat → Int32) × (Nat → Int32) × (Nat → Int32) => (cM G ad u.1 msl u.2.1 u.2.2.1 u.2.2.2.1 u.2.2.2.2.1 u.2.2.2.2.2.1 u.2.2.2.2.2.2.1 u.2.2.2.2.2.2.2.1 mdr u.2.2.2.2.2.2.2.2.1 u.2.2.2.2.2.2.2.2.2.1 u.2.2.2.2.2.2.2.2.2.2.1 u.2.2.2.2.2.2.2.2.2.2.2.1 u.2.2.2.2.2.2.2.2.2.2.2.2.1 u.2.2.2.2.2.2.2.2.2.2.2.2.2.1 u.2.2.2.2.2.2.2.2.2.2.2.2.2.2.1 mch mva u.2.2.2.2.2.2.2.2.2.2.2.2.2.2.2.1 u.2.2.2.2.2.2.2.2.2.2.2.2.2.2.2.2.1 u.2.2.2.2.2.2.2.2.2.2.2.2.2.2.2.2.2.1 u.2.2.2.2.2.2.2.2.2.2.2.2.2.2.2.2.2.2.1 u.2.2.2.2.2.2.2.2.2.2.2.2.2.2.2.2.2.2.2.1 u.2.2.2.2.2.2.2.2.2.2.2.2.2.2.2.2.2.2.2.2.1 u.2.2.2.2.2.2.2.2.2.2.2.2.2.2.2.2.2.2.2.2.2))) (mrf, z_71.2.1, z_71.2.2.1, z_71.2.2.2.1, z_71.2.2.2.2.1, z_71.2.2.2.2.2.1, z_71.2.2.2.2.2.2.1, z_71.2.2.2.2.2.2.2.1, z_41.2.1, z_31.2.2.1, z_71.2.2.2.2.2.2.2.2.1, z_71.2.2.2.2.2.2.2.2.2.1, z_71.2.2.2.2.2.2.2.2.2.2.1, z_71.2.2.2.2.2.2.2.2.2.2.2.1, z_71.2.2.2.2.2.2.2.2.2.2.2.2.1, mic, z_31.2.2.2.1, z_31.2.2.2.2.1, z_41.2.2, z_71.2.2.2.2.2.2.2.2.2.2.2.2.2.1, z_71.2.2.2.2.2.2.2.2.2.2.2.2.2.2.1, z_71.2.2.2.2.2.2.2.2.2.2.2.2.2.2.2) hx hb hr hlocks hK hP hD hS hres d_MO_copy_74
        · have hres := it_f c_58 hres
          refine lv_bipush (v := (-3 : Int32)) hx hb d_MO_copy_61 (by decide) ?_
          refine lv_goto (tgt := 74) hx hb d_MO_copy_63 (by decide) ?_
          exact en_i (w1 := (fun u : Int32 × Int32 × Int32 × Int32 × Int32 × Int32 × Int32 × Int32 × Int32 × Int32 × Int32 × (Nat → Int32) × (Nat → Int32) × (Nat → Int32) × (Nat → Int32) × (Nat → Int32) × (Nat → Int32) × (Nat → Int32) × (Nat → Int32) × (Nat → Int32) × (Nat → Int32) × (Nat → Int32) => (cM G ad u.1 msl u.2.1 u.2.2.1 u.2.2.2.1 u.2.2.2.2.1 u.2.2.2.2.2.1 u.2.2.2.2.2.2.1 u.2.2.2.2.2.2.2.1 mdr u.2.2.2.2.2.2.2.2.1 u.2.2.2.2.2.2.2.2.2.1 u.2.2.2.2.2.2.2.2.2.2.1 u.2.2.2.2.2.2.2.2.2.2.2.1 u.2.2.2.2.2.2.2.2.2.2.2.2.1 u.2.2.2.2.2.2.2.2.2.2.2.2.2.1 u.2.2.2.2.2.2.2.2.2.2.2.2.2.2.1 mch mva u.2.2.2.2.2.2.2.2.2.2.2.2.2.2.2.1 u.2.2.2.2.2.2.2.2.2.2.2.2.2.2.2.2.1 u.2.2.2.2.2.2.2.2.2.2.2.2.2.2.2.2.2.1 u.2.2.2.2.2.2.2.2.2.2.2.2.2.2.2.2.2.2.1 u.2.2.2.2.2.2.2.2.2.2.2.2.2.2.2.2.2.2.2.1 u.2.2.2.2.2.2.2.2.2.2.2.2.2.2.2.2.2.2.2.2.1 u.2.2.2.2.2.2.2.2.2.2.2.2.2.2.2.2.2.2.2.2.2))) (mrf, mst, men, mnw, mdn, mpw, mwr, mrs, z_41.2.1, z_31.2.2.1, mnx, mro, mit, mve, mrb, mic, z_31.2.2.2.1, z_31.2.2.2.2.1, z_41.2.2, z_31.2.2.2.2.2.2.1, z_31.2.2.2.2.2.2.2, mmd) hx hb hr hlocks hK hP hD hS hres d_MO_copy_74
      · have hres := it_t c_34 hres
        refine lv_bipush (v := (-2 : Int32)) hx hb d_MO_copy_37 (by decide) ?_
        exact en_i (w1 := (fun u : Int32 × Int32 × Int32 × Int32 × Int32 × Int32 × Int32 × Int32 × Int32 × Int32 × Int32 × (Nat → Int32) × (Nat → Int32) × (Nat → Int32) × (Nat → Int32) × (Nat → Int32) × (Nat → Int32) × (Nat → Int32) × (Nat → Int32) × (Nat → Int32) × (Nat → Int32) × (Nat → Int32) => (cM G ad u.1 msl u.2.1 u.2.2.1 u.2.2.2.1 u.2.2.2.2.1 u.2.2.2.2.2.1 u.2.2.2.2.2.2.1 u.2.2.2.2.2.2.2.1 mdr u.2.2.2.2.2.2.2.2.1 u.2.2.2.2.2.2.2.2.2.1 u.2.2.2.2.2.2.2.2.2.2.1 u.2.2.2.2.2.2.2.2.2.2.2.1 u.2.2.2.2.2.2.2.2.2.2.2.2.1 u.2.2.2.2.2.2.2.2.2.2.2.2.2.1 u.2.2.2.2.2.2.2.2.2.2.2.2.2.2.1 mch mva u.2.2.2.2.2.2.2.2.2.2.2.2.2.2.2.1 u.2.2.2.2.2.2.2.2.2.2.2.2.2.2.2.2.1 u.2.2.2.2.2.2.2.2.2.2.2.2.2.2.2.2.2.1 u.2.2.2.2.2.2.2.2.2.2.2.2.2.2.2.2.2.2.1 u.2.2.2.2.2.2.2.2.2.2.2.2.2.2.2.2.2.2.2.1 u.2.2.2.2.2.2.2.2.2.2.2.2.2.2.2.2.2.2.2.2.1 u.2.2.2.2.2.2.2.2.2.2.2.2.2.2.2.2.2.2.2.2.2))) (mrf, mst, men, mnw, mdn, mpw, mwr, mrs, z_31.2.1, z_31.2.2.1, mnx, mro, mit, mve, mrb, mic, z_31.2.2.2.1, z_31.2.2.2.2.1, z_31.2.2.2.2.2.1, z_31.2.2.2.2.2.2.1, z_31.2.2.2.2.2.2.2, mmd) hx hb hr hlocks hK hP hD hS hres d_MO_copy_39
    · have hres := it_f c_14 hres
      have hok := hok.2 c_14
      refine lv_aload_n hx hb d_MO_copy_17 rfl (lv_at hl 0 rfl) ?_
      refine va_get (D := G.1) (ci := 6) (C := R_MO) (T := F_MO) (N := 26) hx hb ht in_MO hown hK hP 0 rfl rfl 16 (by decide) (ht _ kf_MO_33) (fun _ h9 => h9) rfl d_MO_copy_18 ?_
      refine lv_iload_n hx hb d_MO_copy_21 rfl (lv_at hl 1 rfl) ?_
      refine lv_iconst (v := (1 : Int32)) hx hb d_MO_copy_22 (by decide) ?_
      obtain ⟨hi_23, hok⟩ := hok
      refine va_zast hx hb hK hP hD hS 7 1 rfl rfl hi_23 d_MO_copy_23 (fun H locs hP hD hS => ?_)
      have hP : va_P G.1 classes (cM G ad mrf msl mst men mnw mdn mpw mwr mrs mdr mtb mrc mnx mro mit mve mrb mch mva (upd mic x1.toNatClampNeg (vp_nar .boolean (1 : Int32))) mlb mrw mnb mlk mnk mmd) H := hP
      have hD : va_D A (cM G ad mrf msl mst men mnw mdn mpw mwr mrs mdr mtb mrc mnx mro mit mve mrb mch mva (upd mic x1.toNatClampNeg (vp_nar .boolean (1 : Int32))) mlb mrw mnb mlk mnk mmd) := hD
      refine lv_iinc (v := x1 + (1 : Int32)) (lv' := [(1, .int (x1 + (1 : Int32))), (0, .ref (ad 0))]) hx hb d_MO_copy_24 hl (k := 1) rfl rfl (by decide) rfl (fun ls hl => ?_)
      refine lv_goto (tgt := 11) hx hb d_MO_copy_27 (by decide) ?_
      exact ih (x1 + (1 : Int32)) mrf mst men mnw mdn mpw mwr mrs mtb mrc mnx mro mit mve mrb (upd mic x1.toNatClampNeg (vp_nar .boolean (1 : Int32))) mlb mrw mnb mlk mnk mmd _ _ _ hok hres hP hD hS (lv_sub hl [1, 0] rfl)
def f_MO_copy  (mrf : Int32) (msl : Int32) (mst : Int32) (men : Int32) (mnw : Int32) (mdn : Int32) (mpw : Int32) (mwr : Int32) (mrs : Int32) (mtb : Int32) (mrc : Int32) (mnx : Int32) (mro : (Nat → Int32)) (mit : (Nat → Int32)) (mve : (Nat → Int32)) (mrb : (Nat → Int32)) (mic : (Nat → Int32)) (mlb : (Nat → Int32)) (mrw : (Nat → Int32)) (mnb : (Nat → Int32)) (mlk : (Nat → Int32)) (mnk : (Nat → Int32)) (mmd : (Nat → Int32)) : Int32 × Int32 × Int32 × Int32 × Int32 × Int32 × Int32 × Int32 × Int32 × Int32 × Int32 × Int32 × (Nat → Int32) × (Nat → Int32) × (Nat → Int32) × (Nat → Int32) × (Nat → Int32) × (Nat → Int32) × (Nat → Int32) × (Nat → Int32) × (Nat → Int32) × (Nat → Int32) × (Nat → Int32) := bindc (f_MO_isUp mrf mdn) (fun z_1 => if z_1.1 = 0 then ((0 : Int32), (z_1.2, mst, men, mnw, mdn, mpw, mwr, mrs, mtb, mrc, mnx, mro, mit, mve, mrb, mic, mlb, mrw, mnb, mlk, mnk, mmd)) else f_MO_copy_11 1024 (0 : Int32) z_1.2 msl mst men mnw mdn mpw mwr mrs mtb mrc mnx mro mit mve mrb mic mlb mrw mnb mlk mnk mmd)
def ok_MO_copy  (mrf : Int32) (msl : Int32) (mst : Int32) (men : Int32) (mnw : Int32) (mdn : Int32) (mpw : Int32) (mwr : Int32) (mrs : Int32) (mtb : Int32) (mrc : Int32) (mnx : Int32) (mro : (Nat → Int32)) (mit : (Nat → Int32)) (mve : (Nat → Int32)) (mrb : (Nat → Int32)) (mic : (Nat → Int32)) (mlb : (Nat → Int32)) (mrw : (Nat → Int32)) (mnb : (Nat → Int32)) (mlk : (Nat → Int32)) (mnk : (Nat → Int32)) (mmd : (Nat → Int32)) : Prop := bindp (f_MO_isUp mrf mdn) (fun z_1 => (z_1.1 = 0 → True) ∧ (¬ z_1.1 = 0 → ok_MO_copy_11  1024 (0 : Int32) z_1.2 msl mst men mnw mdn mpw mwr mrs mtb mrc mnx mro mit mve mrb mic mlb mrw mnb mlk mnk mmd))
set_option maxHeartbeats 4000000 in
set_option maxRecDepth 100000 in
theorem c_MO_copy {l : Launch} {G : GG} {ad : Nat → Nat} {sz : Nat} {mrf : Int32} {msl : Int32} {mst : Int32} {men : Int32} {mnw : Int32} {mdn : Int32} {mpw : Int32} {mwr : Int32} {mrs : Int32} {mdr : Int32} {mtb : Int32} {mrc : Int32} {mnx : Int32} {mro : (Nat → Int32)} {mit : (Nat → Int32)} {mve : (Nat → Int32)} {mrb : (Nat → Int32)} {mch : (Nat → Int32)} {mva : (Nat → Int32)} {mic : (Nat → Int32)} {mlb : (Nat → Int32)} {mrw : (Nat → Int32)} {mnb : (Nat → Int32)} {mlk : (Nat → Int32)} {mnk : (Nat → Int32)} {mmd : (Nat → Int32)}  (hok : ok_MO_copy mrf msl mst men mnw mdn mpw mwr mrs mtb mrc mnx mro mit mve mrb mic mlb mrw mnb mlk mnk mmd) : CtI l y_MO_copy b_MO_copy 2 (some .int) rm_MO_copy G (cM G ad mrf msl mst men mnw mdn mpw mwr mrs mdr mtb mrc mnx mro mit mve mrb mch mva mic mlb mrw mnb mlk mnk mmd) sz [.ref (ad 0)] (eqP (f_MO_copy mrf msl mst men mnw mdn mpw mwr mrs mtb mrc mnx mro mit mve mrb mic mlb mrw mnb mlk mnk mmd)) (fun u : Int32 × Int32 × Int32 × Int32 × Int32 × Int32 × Int32 × Int32 × Int32 × Int32 × Int32 × (Nat → Int32) × (Nat → Int32) × (Nat → Int32) × (Nat → Int32) × (Nat → Int32) × (Nat → Int32) × (Nat → Int32) × (Nat → Int32) × (Nat → Int32) × (Nat → Int32) × (Nat → Int32) => (cM G ad u.1 msl u.2.1 u.2.2.1 u.2.2.2.1 u.2.2.2.2.1 u.2.2.2.2.2.1 u.2.2.2.2.2.2.1 u.2.2.2.2.2.2.2.1 mdr u.2.2.2.2.2.2.2.2.1 u.2.2.2.2.2.2.2.2.2.1 u.2.2.2.2.2.2.2.2.2.2.1 u.2.2.2.2.2.2.2.2.2.2.2.1 u.2.2.2.2.2.2.2.2.2.2.2.2.1 u.2.2.2.2.2.2.2.2.2.2.2.2.2.1 u.2.2.2.2.2.2.2.2.2.2.2.2.2.2.1 mch mva u.2.2.2.2.2.2.2.2.2.2.2.2.2.2.2.1 u.2.2.2.2.2.2.2.2.2.2.2.2.2.2.2.2.1 u.2.2.2.2.2.2.2.2.2.2.2.2.2.2.2.2.2.1 u.2.2.2.2.2.2.2.2.2.2.2.2.2.2.2.2.2.2.1 u.2.2.2.2.2.2.2.2.2.2.2.2.2.2.2.2.2.2.2.1 u.2.2.2.2.2.2.2.2.2.2.2.2.2.2.2.2.2.2.2.2.1 u.2.2.2.2.2.2.2.2.2.2.2.2.2.2.2.2.2.2.2.2.2)) := by
  generalize hres : f_MO_copy mrf msl mst men mnw mdn mpw mwr mrs mtb mrc mnx mro mit mve mrb mic mlb mrw mnb mlk mnk mmd = res
  refine Met_of (Qc := fun A => va_Qi (eqP res) (Wb G A (fun u : Int32 × Int32 × Int32 × Int32 × Int32 × Int32 × Int32 × Int32 × Int32 × Int32 × Int32 × (Nat → Int32) × (Nat → Int32) × (Nat → Int32) × (Nat → Int32) × (Nat → Int32) × (Nat → Int32) × (Nat → Int32) × (Nat → Int32) × (Nat → Int32) × (Nat → Int32) × (Nat → Int32) => (cM G ad u.1 msl u.2.1 u.2.2.1 u.2.2.2.1 u.2.2.2.2.1 u.2.2.2.2.2.1 u.2.2.2.2.2.2.1 u.2.2.2.2.2.2.2.1 mdr u.2.2.2.2.2.2.2.2.1 u.2.2.2.2.2.2.2.2.2.1 u.2.2.2.2.2.2.2.2.2.2.1 u.2.2.2.2.2.2.2.2.2.2.2.1 u.2.2.2.2.2.2.2.2.2.2.2.2.1 u.2.2.2.2.2.2.2.2.2.2.2.2.2.1 u.2.2.2.2.2.2.2.2.2.2.2.2.2.2.1 mch mva u.2.2.2.2.2.2.2.2.2.2.2.2.2.2.2.1 u.2.2.2.2.2.2.2.2.2.2.2.2.2.2.2.2.1 u.2.2.2.2.2.2.2.2.2.2.2.2.2.2.2.2.2.1 u.2.2.2.2.2.2.2.2.2.2.2.2.2.2.2.2.2.2.1 u.2.2.2.2.2.2.2.2.2.2.2.2.2.2.2.2.2.2.2.1 u.2.2.2.2.2.2.2.2.2.2.2.2.2.2.2.2.2.2.2.2.1 u.2.2.2.2.2.2.2.2.2.2.2.2.2.2.2.2.2.2.2.2.2))) A) (by decide) (Nat.le_of_ble_eq_true rfl) ?_
  intro p e s m below meth c hadm hx hb hr hml hown hlocks ht hK A hA hP hD hS ls hl
  have hC : Cx p l e s m (([.ref (ad 0)] : List Value)).toArray meth c y_MO_copy b_MO_copy 2 (some .int) "BookTreesModel" G A := ⟨hx, hb, hr, hml, hown, hlocks, ht, hK, hA⟩
  have hown : s.vm.findClass "BookTreesModel" = some m.cls := hown
  have hl : lv_has ls 2 [(0, .ref (ad 0))] := hl
  rw [f_MO_copy] at hres
  rw [ok_MO_copy] at hok
  refine lv_aload_n hx hb d_MO_copy_0 rfl (lv_at hl 0 rfl) ?_
  refine go_iz (run_V hx hb hml hown ht hK hP hD (c_MO_isUp) (cw_V ht km_MO_109 ki_MO_isUp ks_MO_isUp ini_MO kd_MO_isUp kh_MO_isUp ⟨Nat.le_of_ble_eq_true rfl, Nat.le_of_ble_eq_true rfl⟩ rfl rfl) (q0 := 0) (ci := 6) (As := []) (rest := []) rfl rfl rfl hl.1 rfl (Nat.le_of_ble_eq_true rfl) d_MO_copy_1 ⟨Nat.zero_le _, Nat.zero_le _⟩) hD hS hA (fun z_1 H locs hz_1 hP hD hS => ?_)
  have hres := bindc_eq hz_1 hres
  have hok := bindp_eq hz_1 hok
  have hP : va_P G.1 classes (cM G ad z_1.2 msl mst men mnw mdn mpw mwr mrs mdr mtb mrc mnx mro mit mve mrb mch mva mic mlb mrw mnb mlk mnk mmd) H := hP
  have hD : va_D A (cM G ad z_1.2 msl mst men mnw mdn mpw mwr mrs mdr mtb mrc mnx mro mit mve mrb mch mva mic mlb mrw mnb mlk mnk mmd) := hD
  refine lv_if_ne (tgt := 9) hx hb d_MO_copy_4 (by decide) (fun c_4 => ?_) (fun c_4 => ?_)
  · have hres := it_f c_4 hres
    have hok := hok.2 c_4
    refine lv_iconst (v := (0 : Int32)) hx hb d_MO_copy_9 (by decide) ?_
    refine lv_istore_n (lv' := [(1, .int (0 : Int32)), (0, .ref (ad 0))]) hx hb d_MO_copy_10 rfl hl (by decide) rfl (fun ls hl => ?_)
    exact w_MO_copy_11 hC 1024 (0 : Int32) z_1.2 mst men mnw mdn mpw mwr mrs mtb mrc mnx mro mit mve mrb mic mlb mrw mnb mlk mnk mmd _ _ _ hok hres hP hD hS (lv_sub hl [1, 0] rfl)
  · have hres := it_t c_4 hres
    refine lv_iconst (v := (0 : Int32)) hx hb d_MO_copy_7 (by decide) ?_
    exact en_i (w1 := (fun u : Int32 × Int32 × Int32 × Int32 × Int32 × Int32 × Int32 × Int32 × Int32 × Int32 × Int32 × (Nat → Int32) × (Nat → Int32) × (Nat → Int32) × (Nat → Int32) × (Nat → Int32) × (Nat → Int32) × (Nat → Int32) × (Nat → Int32) × (Nat → Int32) × (Nat → Int32) × (Nat → Int32) => (cM G ad u.1 msl u.2.1 u.2.2.1 u.2.2.2.1 u.2.2.2.2.1 u.2.2.2.2.2.1 u.2.2.2.2.2.2.1 u.2.2.2.2.2.2.2.1 mdr u.2.2.2.2.2.2.2.2.1 u.2.2.2.2.2.2.2.2.2.1 u.2.2.2.2.2.2.2.2.2.2.1 u.2.2.2.2.2.2.2.2.2.2.2.1 u.2.2.2.2.2.2.2.2.2.2.2.2.1 u.2.2.2.2.2.2.2.2.2.2.2.2.2.1 u.2.2.2.2.2.2.2.2.2.2.2.2.2.2.1 mch mva u.2.2.2.2.2.2.2.2.2.2.2.2.2.2.2.1 u.2.2.2.2.2.2.2.2.2.2.2.2.2.2.2.2.1 u.2.2.2.2.2.2.2.2.2.2.2.2.2.2.2.2.2.1 u.2.2.2.2.2.2.2.2.2.2.2.2.2.2.2.2.2.2.1 u.2.2.2.2.2.2.2.2.2.2.2.2.2.2.2.2.2.2.2.1 u.2.2.2.2.2.2.2.2.2.2.2.2.2.2.2.2.2.2.2.2.1 u.2.2.2.2.2.2.2.2.2.2.2.2.2.2.2.2.2.2.2.2.2))) (z_1.2, mst, men, mnw, mdn, mpw, mwr, mrs, mtb, mrc, mnx, mro, mit, mve, mrb, mic, mlb, mrw, mnb, mlk, mnk, mmd) hx hb hr hlocks hK hP hD hS hres d_MO_copy_8
