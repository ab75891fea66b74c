/-! ===== BookTreesModel.crash(I)V ===== -/
abbrev rm_MO_crash : Room := { frames := 1, cells := 0, slots := 0, locals := 21 }
def f_MO_crash (p0 : Int32) (mrf : Int32) (mdn : Int32) (mpw : Int32) : Int32 × Int32 × Int32 := if p0 < (-1 : Int32) then bindc (f_MO_goes (0 : Int32) mrf mdn) (fun z_17 => if z_17.1 = 0 then (z_17.2, mdn, mpw) else if p0 = 0 then (z_17.2, (1 : Int32), p0) else (z_17.2, (0 : Int32), p0)) else if (100000 : Int32) < p0 then bindc (f_MO_goes (0 : Int32) mrf mdn) (fun z_17 => if z_17.1 = 0 then (z_17.2, mdn, mpw) else if p0 = 0 then (z_17.2, (1 : Int32), p0) else (z_17.2, (0 : Int32), p0)) else bindc (f_MO_goes (1 : Int32) mrf mdn) (fun z_17 => if z_17.1 = 0 then (z_17.2, mdn, mpw) else if p0 = 0 then (z_17.2, (1 : Int32), p0) else (z_17.2, (0 : Int32), p0))
set_option maxHeartbeats 4000000 in
set_option maxRecDepth 100000 in
theorem c_MO_crash {l : Launch} {G : GG} {ad : Nat → Nat} {sz : Nat} {mrf : Int32} {msl : Int32} {mst : Int32} {men : Int32} {mnw : Int32} {mdn : Int32} {mpw : Int32} {mwr : Int32} {mrs : Int32} {mdr : Int32} {mtb : Int32} {mrc : Int32} {mnx : Int32} {mro : (Nat → Int32)} {mit : (Nat → Int32)} {mve : (Nat → Int32)} {mrb : (Nat → Int32)} {mch : (Nat → Int32)} {mva : (Nat → Int32)} {mic : (Nat → Int32)} {mlb : (Nat → Int32)} {mrw : (Nat → Int32)} {mnb : (Nat → Int32)} {mlk : (Nat → Int32)} {mnk : (Nat → Int32)} {mmd : (Nat → Int32)} {p0 : Int32} : CtV l y_MO_crash b_MO_crash 2 none rm_MO_crash G (cM G ad mrf msl mst men mnw mdn mpw mwr mrs mdr mtb mrc mnx mro mit mve mrb mch mva mic mlb mrw mnb mlk mnk mmd) sz [.ref (ad 0), .int p0] (eqV (f_MO_crash p0 mrf mdn mpw)) (fun u : Int32 × Int32 × Int32 => (cM G ad u.1 msl mst men mnw u.2.1 u.2.2 mwr mrs mdr mtb mrc mnx mro mit mve mrb mch mva mic mlb mrw mnb mlk mnk mmd)) := by
  generalize hres : f_MO_crash p0 mrf mdn mpw = res
  refine Met_of (Qc := fun A => va_Qv (eqV res) (Wb G A (fun u : Int32 × Int32 × Int32 => (cM G ad u.1 msl mst men mnw u.2.1 u.2.2 mwr mrs mdr mtb mrc mnx mro mit mve mrb mch mva mic mlb mrw mnb mlk mnk mmd))) A) (by decide) (Nat.le_of_ble_eq_true rfl) ?_
  intro p e s m below meth c hadm hx hb hr hml hown hlocks ht hK A hA hP hD hS ls hl
  have hC : Cx p l e s m (([.ref (ad 0), .int p0] : List Value)).toArray meth c y_MO_crash b_MO_crash 2 none "BookTreesModel" G A := ⟨hx, hb, hr, hml, hown, hlocks, ht, hK, hA⟩
  have hown : s.vm.findClass "BookTreesModel" = some m.cls := hown
  have hl : lv_has ls 2 [(0, .ref (ad 0)), (1, .int p0)] := hl
  rw [f_MO_crash] at hres
  refine lv_aload_n hx hb d_MO_crash_0 rfl (lv_at hl 0 rfl) ?_
  refine lv_iload_n hx hb d_MO_crash_1 rfl (lv_at hl 1 rfl) ?_
  refine lv_iconst (v := (-1 : Int32)) hx hb d_MO_crash_2 (by decide) ?_
  refine lv_icmp_lt (tgt := 16) hx hb d_MO_crash_3 (by decide) (fun c_3 => ?_) (fun c_3 => ?_)
  · have hres := it_t c_3 hres
    refine lv_iconst (v := (0 : Int32)) hx hb d_MO_crash_16 (by decide) ?_
    refine go_iz (run_V hx hb hml hown ht hK hP hD (c_MO_goes) (cw_V ht km_MO_101 ki_MO_goes ks_MO_goes ini_MO kd_MO_goes kh_MO_goes ⟨Nat.le_of_ble_eq_true rfl, Nat.le_of_ble_eq_true rfl⟩ rfl rfl) (q0 := 0) (ci := 6) (As := [.int (0 : Int32)]) (rest := []) rfl rfl rfl hl.1 rfl (Nat.le_of_ble_eq_true rfl) d_MO_crash_17 ⟨Nat.zero_le _, Nat.zero_le _⟩) hD hS hA (fun z_17 H locs hz_17 hP hD hS => ?_)
    have hres := bindc_eq hz_17 hres
    have hP : va_P G.1 classes (cM G ad z_17.2 msl mst men mnw mdn mpw mwr mrs mdr mtb mrc mnx mro mit mve mrb mch mva mic mlb mrw mnb mlk mnk mmd) H := hP
    have hD : va_D A (cM G ad z_17.2 msl mst men mnw mdn mpw mwr mrs mdr mtb mrc mnx mro mit mve mrb mch mva mic mlb mrw mnb mlk mnk mmd) := hD
    refine lv_if_eq (tgt := 41) hx hb d_MO_crash_20 (by decide) (fun c_20 => ?_) (fun c_20 => ?_)
    · have hres := it_t c_20 hres
      exact en_v (w1 := (fun u : Int32 × Int32 × Int32 => (cM G ad u.1 msl mst men mnw u.2.1 u.2.2 mwr mrs mdr mtb mrc mnx mro mit mve mrb mch mva mic mlb mrw mnb mlk mnk mmd))) (z_17.2, mdn, mpw) hx hb hr hlocks hK hP hD hS hres d_MO_crash_41
    · have hres := it_f c_20 hres
      refine lv_aload_n hx hb d_MO_crash_23 rfl (lv_at hl 0 rfl) ?_
      refine lv_iload_n hx hb d_MO_crash_24 rfl (lv_at hl 1 rfl) ?_
      refine va_put (D := G.1) (ci := 6) (v := .int p0) (ty := .int) (C := R_MO) (T := F_MO) (N := 26) hx hb ht in_MO t_MO to_MO nm_MO hown hK hP hD hS 0 rfl rfl 8 (by decide) (ht _ kf_MO_17) (fun _ h9 => h9) rfl (to_MO 8 (by decide)) rfl rfl (Nat.le_of_ble_eq_true rfl) d_MO_crash_25 (fun H locs hP hD hS => ?_)
      have hP : va_P G.1 classes (cM G ad z_17.2 msl mst men mnw mdn p0 mwr mrs mdr mtb mrc mnx mro mit mve mrb mch mva mic mlb mrw mnb mlk mnk mmd) H := hP
      have hD : va_D A (cM G ad z_17.2 msl mst men mnw mdn p0 mwr mrs mdr mtb mrc mnx mro mit mve mrb mch mva mic mlb mrw mnb mlk mnk mmd) := hD
      refine lv_aload_n hx hb d_MO_crash_28 rfl (lv_at hl 0 rfl) ?_
      refine lv_iload_n hx hb d_MO_crash_29 rfl (lv_at hl 1 rfl) ?_
      refine lv_if_ne (tgt := 37) hx hb d_MO_crash_30 (by decide) (fun c_30 => ?_) (fun c_30 => ?_)
      · have hres := it_f c_30 hres
        refine lv_iconst (v := (0 : Int32)) hx hb d_MO_crash_37 (by decide) ?_
        refine va_put (D := G.1) (ci := 6) (v := .int (0 : Int32)) (ty := .boolean) (C := R_MO) (T := F_MO) (N := 26) hx hb ht in_MO t_MO to_MO nm_MO hown hK hP hD hS 0 rfl rfl 7 (by decide) (ht _ kf_MO_60) (fun _ h9 => h9) rfl (to_MO 7 (by decide)) rfl rfl (Nat.le_of_ble_eq_true rfl) d_MO_crash_38 (fun H locs hP hD hS => ?_)
        have hP : va_P G.1 classes (cM G ad z_17.2 msl mst men mnw (0 : Int32) p0 mwr mrs mdr mtb mrc mnx mro mit mve mrb mch mva mic mlb mrw mnb mlk mnk mmd) H := hP
        have hD : va_D A (cM G ad z_17.2 msl mst men mnw (0 : Int32) p0 mwr mrs mdr mtb mrc mnx mro mit mve mrb mch mva mic mlb mrw mnb mlk mnk mmd) := hD
        exact en_v (w1 := (fun u : Int32 × Int32 × Int32 => (cM G ad u.1 msl mst men mnw u.2.1 u.2.2 mwr mrs mdr mtb mrc mnx mro mit mve mrb mch mva mic mlb mrw mnb mlk mnk mmd))) (z_17.2, (0 : Int32), p0) hx hb hr hlocks hK hP hD hS hres d_MO_crash_41
      · have hres := it_t c_30 hres
        refine lv_iconst (v := (1 : Int32)) hx hb d_MO_crash_33 (by decide) ?_
        refine lv_goto (tgt := 38) hx hb d_MO_crash_34 (by decide) ?_
        refine va_put (D := G.1) (ci := 6) (v := .int (1 : Int32)) (ty := .boolean) (C := R_MO) (T := F_MO) (N := 26) hx hb ht in_MO t_MO to_MO nm_MO hown hK hP hD hS 0 rfl rfl 7 (by decide) (ht _ kf_MO_60) (fun _ h9 => h9) rfl (to_MO 7 (by decide)) rfl rfl (Nat.le_of_ble_eq_true rfl) d_MO_crash_38 (fun H locs hP hD hS => ?_)
        have hP : va_P G.1 classes (cM G ad z_17.2 msl mst men mnw (1 : Int32) p0 mwr mrs mdr mtb mrc mnx mro mit mve mrb mch mva mic mlb mrw mnb mlk mnk mmd) H := hP
        have hD : va_D A (cM G ad z_17.2 msl mst men mnw (1 : Int32) p0 mwr mrs mdr mtb mrc mnx mro mit mve mrb mch mva mic mlb mrw mnb mlk mnk mmd) := hD
        exact en_v (w1 := (fun u : Int32 × Int32 × Int32 => (cM G ad u.1 msl mst men mnw u.2.1 u.2.2 mwr mrs mdr mtb mrc mnx mro mit mve mrb mch mva mic mlb mrw mnb mlk mnk mmd))) (z_17.2, (1 : Int32), p0) hx hb hr hlocks hK hP hD hS hres d_MO_crash_41
  · have hres := it_f c_3 hres
    refine lv_iload_n hx hb d_MO_crash_6 rfl (lv_at hl 1 rfl) ?_
    refine lv_ldc hx hb hown (ht _ kk_MO_209) d_MO_crash_7 ?_
    refine lv_icmp_gt (tgt := 16) hx hb d_MO_crash_9 (by decide) (fun c_9 => ?_) (fun c_9 => ?_)
    · have hres := it_t c_9 hres
      refine lv_iconst (v := (0 : Int32)) hx hb d_MO_crash_16 (by decide) ?_
      refine go_iz (run_V hx hb hml hown ht hK hP hD (c_MO_goes) (cw_V ht km_MO_101 ki_MO_goes ks_MO_goes ini_MO kd_MO_goes kh_MO_goes ⟨Nat.le_of_ble_eq_true rfl, Nat.le_of_ble_eq_true rfl⟩ rfl rfl) (q0 := 0) (ci := 6) (As := [.int (0 : Int32)]) (rest := []) rfl rfl rfl hl.1 rfl (Nat.le_of_ble_eq_true rfl) d_MO_crash_17 ⟨Nat.zero_le _, Nat.zero_le _⟩) hD hS hA (fun z_17 H locs hz_17 hP hD hS => ?_)
      have hres := bindc_eq hz_17 hres
      have hP : va_P G.1 classes (cM G ad z_17.2 msl mst men mnw mdn mpw mwr mrs mdr mtb mrc mnx mro mit mve mrb mch mva mic mlb mrw mnb mlk mnk mmd) H := hP
      have hD : va_D A (cM G ad z_17.2 msl mst men mnw mdn mpw mwr mrs mdr mtb mrc mnx mro mit mve mrb mch mva mic mlb mrw mnb mlk mnk mmd) := hD
      refine lv_if_eq (tgt := 41) hx hb d_MO_crash_20 (by decide) (fun c_20 => ?_) (fun c_20 => ?_)
      · have hres := it_t c_20 hres
        exact en_v (w1 := (fun u : Int32 × Int32 × Int32 => (cM G ad u.1 msl mst men mnw u.2.1 u.2.2 mwr mrs mdr mtb mrc mnx mro mit mve mrb mch mva mic mlb mrw mnb mlk mnk mmd))) (z_17.2, mdn, mpw) hx hb hr hlocks hK hP hD hS hres d_MO_crash_41
      · have hres := it_f c_20 hres
        refine lv_aload_n hx hb d_MO_crash_23 rfl (lv_at hl 0 rfl) ?_
        refine lv_iload_n hx hb d_MO_crash_24 rfl (lv_at hl 1 rfl) ?_
        refine va_put (D := G.1) (ci := 6) (v := .int p0) (ty := .int) (C := R_MO) (T := F_MO) (N := 26) hx hb ht in_MO t_MO to_MO nm_MO hown hK hP hD hS 0 rfl rfl 8 (by decide) (ht _ kf_MO_17) (fun _ h9 => h9) rfl (to_MO 8 (by decide)) rfl rfl (Nat.le_of_ble_eq_true rfl) d_MO_crash_25 (fun H locs hP hD hS => ?_)
        have hP : va_P G.1 classes (cM G ad z_17.2 msl mst men mnw mdn p0 mwr mrs mdr mtb mrc mnx mro mit mve mrb mch mva mic mlb mrw mnb mlk mnk mmd) H := hP
        have hD : va_D A (cM G ad z_17.2 msl mst men mnw mdn p0 mwr mrs mdr mtb mrc mnx mro mit mve mrb mch mva mic mlb mrw mnb mlk mnk mmd) := hD
        refine lv_aload_n hx hb d_MO_crash_28 rfl (lv_at hl 0 rfl) ?_
        refine lv_iload_n hx hb d_MO_crash_29 rfl (lv_at hl 1 rfl) ?_
        refine lv_if_ne (tgt := 37) hx hb d_MO_crash_30 (by decide) (fun c_30 => ?_) (fun c_30 => ?_)
        · have hres := it_f c_30 hres
          refine lv_iconst (v := (0 : Int32)) hx hb d_MO_crash_37 (by decide) ?_
          refine va_put (D := G.1) (ci := 6) (v := .int (0 : Int32)) (ty := .boolean) (C := R_MO) (T := F_MO) (N := 26) hx hb ht in_MO t_MO to_MO nm_MO hown hK hP hD hS 0 rfl rfl 7 (by decide) (ht _ kf_MO_60) (fun _ h9 => h9) rfl (to_MO 7 (by decide)) rfl rfl (Nat.le_of_ble_eq_true rfl) d_MO_crash_38 (fun H locs hP hD hS => ?_)
          have hP : va_P G.1 classes (cM G ad z_17.2 msl mst men mnw (0 : Int32) p0 mwr mrs mdr mtb mrc mnx mro mit mve mrb mch mva mic mlb mrw mnb mlk mnk mmd) H := hP
          have hD : va_D A (cM G ad z_17.2 msl mst men mnw (0 : Int32) p0 mwr mrs mdr mtb mrc mnx mro mit mve mrb mch mva mic mlb mrw mnb mlk mnk mmd) := hD
          exact en_v (w1 := (fun u : Int32 × Int32 × Int32 => (cM G ad u.1 msl mst men mnw u.2.1 u.2.2 mwr mrs mdr mtb mrc mnx mro mit mve mrb mch mva mic mlb mrw mnb mlk mnk mmd))) (z_17.2, (0 : Int32), p0) hx hb hr hlocks hK hP hD hS hres d_MO_crash_41
        · have hres := it_t c_30 hres
          refine lv_iconst (v := (1 : Int32)) hx hb d_MO_crash_33 (by decide) ?_
          refine lv_goto (tgt := 38) hx hb d_MO_crash_34 (by decide) ?_
          refine va_put (D := G.1) (ci := 6) (v := .int (1 : Int32)) (ty := .boolean) (C := R_MO) (T := F_MO) (N := 26) hx hb ht in_MO t_MO to_MO nm_MO hown hK hP hD hS 0 rfl rfl 7 (by decide) (ht _ kf_MO_60) (fun _ h9 => h9) rfl (to_MO 7 (by decide)) rfl rfl (Nat.le_of_ble_eq_true rfl) d_MO_crash_38 (fun H locs hP hD hS => ?_)
          have hP : va_P G.1 classes (cM G ad z_17.2 msl mst men mnw (1 : Int32) p0 mwr mrs mdr mtb mrc mnx mro mit mve mrb mch mva mic mlb mrw mnb mlk mnk mmd) H := hP
          have hD : va_D A (cM G ad z_17.2 msl mst men mnw (1 : Int32) p0 mwr mrs mdr mtb mrc mnx mro mit mve mrb mch mva mic mlb mrw mnb mlk mnk mmd) := hD
          exact en_v (w1 := (fun u : Int32 × Int32 × Int32 => (cM G ad u.1 msl mst men mnw u.2.1 u.2.2 mwr mrs mdr mtb mrc mnx mro mit mve mrb mch mva mic mlb mrw mnb mlk mnk mmd))) (z_17.2, (1 : Int32), p0) hx hb hr hlocks hK hP hD hS hres d_MO_crash_41
    · have hres := it_f c_9 hres
      refine lv_iconst (v := (1 : Int32)) hx hb d_MO_crash_12 (by decide) ?_
      refine lv_goto (tgt := 17) hx hb d_MO_crash_13 (by decide) ?_
      refine go_iz (run_V hx hb hml hown ht hK hP hD (c_MO_goes) (cw_V ht km_MO_101 ki_MO_goes ks_MO_goes ini_MO kd_MO_goes kh_MO_goes ⟨Nat.le_of_ble_eq_true rfl, Nat.le_of_ble_eq_true rfl⟩ rfl rfl) (q0 := 0) (ci := 6) (As := [.int (1 : Int32)]) (rest := []) rfl rfl rfl hl.1 rfl (Nat.le_of_ble_eq_true rfl) d_MO_crash_17 ⟨Nat.zero_le _, Nat.zero_le _⟩) hD hS hA (fun z_17 H locs hz_17 hP hD hS => ?_)
      have hres := bindc_eq hz_17 hres
      have hP : va_P G.1 classes (cM G ad z_17.2 msl mst men mnw mdn mpw mwr mrs mdr mtb mrc mnx mro mit mve mrb mch mva mic mlb mrw mnb mlk mnk mmd) H := hP
      have hD : va_D A (cM G ad z_17.2 msl mst men mnw mdn mpw mwr mrs mdr mtb mrc mnx mro mit mve mrb mch mva mic mlb mrw mnb mlk mnk mmd) := hD
      refine lv_if_eq (tgt := 41) hx hb d_MO_crash_20 (by decide) (fun c_20 => ?_) (fun c_20 => ?_)
      · have hres := it_t c_20 hres
        exact en_v (w1 := (fun u : Int32 × Int32 × Int32 => (cM G ad u.1 msl mst men mnw u.2.1 u.2.2 mwr mrs mdr mtb mrc mnx mro mit mve mrb mch mva mic mlb mrw mnb mlk mnk mmd))) (z_17.2, mdn, mpw) hx hb hr hlocks hK hP hD hS hres d_MO_crash_41
      · have hres := it_f c_20 hres
        refine lv_aload_n hx hb d_MO_crash_23 rfl (lv_at hl 0 rfl) ?_
        refine lv_iload_n hx hb d_MO_crash_24 rfl (lv_at hl 1 rfl) ?_
        refine va_put (D := G.1) (ci := 6) (v := .int p0) (ty := .int) (C := R_MO) (T := F_MO) (N := 26) hx hb ht in_MO t_MO to_MO nm_MO hown hK hP hD hS 0 rfl rfl 8 (by decide) (ht _ kf_MO_17) (fun _ h9 => h9) rfl (to_MO 8 (by decide)) rfl rfl (Nat.le_of_ble_eq_true rfl) d_MO_crash_25 (fun H locs hP hD hS => ?_)
        have hP : va_P G.1 classes (cM G ad z_17.2 msl mst men mnw mdn p0 mwr mrs mdr mtb mrc mnx mro mit mve mrb mch mva mic mlb mrw mnb mlk mnk mmd) H := hP
        have hD : va_D A (cM G ad z_17.2 msl mst men mnw mdn p0 mwr mrs mdr mtb mrc mnx mro mit mve mrb mch mva mic mlb mrw mnb mlk mnk mmd) := hD
        refine lv_aload_n hx hb d_MO_crash_28 rfl (lv_at hl 0 rfl) ?_
        refine lv_iload_n hx hb d_MO_crash_29 rfl (lv_at hl 1 rfl) ?_
        refine lv_if_ne (tgt := 37) hx hb d_MO_crash_30 (by decide) (fun c_30 => ?_) (fun c_30 => ?_)
        · have hres := it_f c_30 hres
          refine lv_iconst (v := (0 : Int32)) hx hb d_MO_crash_37 (by decide) ?_
          refine va_put (D := G.1) (ci := 6) (v := .int (0 : Int32)) (ty := .boolean) (C := R_MO) (T := F_MO) (N := 26) hx hb ht in_MO t_MO to_MO nm_MO hown hK hP hD hS 0 rfl rfl 7 (by decide) (ht _ kf_MO_60) (fun _ h9 => h9) rfl (to_MO 7 (by decide)) rfl rfl (Nat.le_of_ble_eq_true rfl) d_MO_crash_38 (fun H locs hP hD hS => ?_)
          have hP : va_P G.1 classes (cM G ad z_17.2 msl mst men mnw (0 : Int32) p0 mwr mrs mdr mtb mrc mnx mro mit mve mrb mch mva mic mlb mrw mnb mlk mnk mmd) H := hP
          have hD : va_D A (cM G ad z_17.2 msl mst men mnw (0 : Int32) p0 mwr mrs mdr mtb mrc mnx mro mit mve mrb mch mva mic mlb mrw mnb mlk mnk mmd) := hD
          exact en_v (w1 := (fun u : Int32 × Int32 × Int32 => (cM G ad u.1 msl mst men mnw u.2.1 u.2.2 mwr mrs mdr mtb mrc mnx mro mit mve mrb mch mva mic mlb mrw mnb mlk mnk mmd))) (z_17.2, (0 : Int32), p0) hx hb hr hlocks hK hP hD hS hres d_MO_crash_41
        · have hres := it_t c_30 hres
          refine lv_iconst (v := (1 : Int32)) hx hb d_MO_crash_33 (by decide) ?_
          refine lv_goto (tgt := 38) hx hb d_MO_crash_34 (by decide) ?_
          refine va_put (D := G.1) (ci := 6) (v := .int (1 : Int32)) (ty := .boolean) (C := R_MO) (T := F_MO) (N := 26) hx hb ht in_MO t_MO to_MO nm_MO hown hK hP hD hS 0 rfl rfl 7 (by decide) (ht _ kf_MO_60) (fun _ h9 => h9) rfl (to_MO 7 (by decide)) rfl rfl (Nat.le_of_ble_eq_true rfl) d_MO_crash_38 (fun H locs hP hD hS => ?_)
          have hP : va_P G.1 classes (cM G ad z_17.2 msl mst men mnw (1 : Int32) p0 mwr mrs mdr mtb mrc mnx mro mit mve mrb mch mva mic mlb mrw mnb mlk mnk mmd) H := hP
          have hD : va_D A (cM G ad z_17.2 msl mst men mnw (1 : Int32) p0 mwr mrs mdr mtb mrc mnx mro mit mve mrb mch mva mic mlb mrw mnb mlk mnk mmd) := hD
          exact en_v (w1 := (fun u : Int32 × Int32 × Int32 => (cM G ad u.1 msl mst men mnw u.2.1 u.2.2 mwr mrs mdr mtb mrc mnx mro mit mve mrb mch mva mic mlb mrw mnb mlk mnk mmd))) (z_17.2, (1 : Int32), p0) hx hb hr hlocks hK hP hD hS hres d_MO_crash_41
/-! ===== BookTreesModel.isWhole(I)Z ===== -/
abbrev rm_MO_isWhole : Room := { frames := 2, cells := 0, slots := 0, locals := 49 }
def f_MO_isWhole (p0 : Int32) (msl : Int32) (mro : (Nat → Int32)) (mit : (Nat → Int32)) : Int32 × Unit := bindc (f_MO_number (((64 : Int32) * p0) + (40 : Int32)) mro) (fun z_10 => bindc (f_MO_number (((64 : Int32) * p0) + (4 : Int32)) mro) (fun z_18 => bindc (f_MO_number (((64 : Int32) * p0) + (16 : Int32)) mro) (fun z_28 => bindc (f_MO_hasSum ((64 : Int32) * p0) mro mit) (fun z_35 => if z_35.1 = 0 then ((0 : Int32), ()) else if (mro ((64 : Int32) * p0).toNatClampNeg) = (4 : Int32) then (if z_10.1 < 0 then ((0 : Int32), ()) else if (1000000 : Int32) < z_10.1 then ((0 : Int32), ()) else if (z_10.1 - z_10.1 / msl * msl) = p0 then (if z_18.1 < (1 : Int32) then ((0 : Int32), ()) else if (1000000 : Int32) < z_18.1 then ((0 : Int32), ()) else if z_28.1 < 0 then ((0 : Int32), ()) else if z_10.1 < z_28.1 then ((0 : Int32), ()) else if msl ≤ (z_10.1 - z_28.1) then ((0 : Int32), ()) else ((1 : Int32), ())) else ((0 : Int32), ())) else ((0 : Int32), ())))))
def ok_MO_isWhole (p0 : Int32) (msl : Int32) (mro : (Nat → Int32)) (mit : (Nat → Int32)) : Prop := ok_MO_number (((64 : Int32) * p0) + (40 : Int32)) mro ∧ bindp (f_MO_number (((64 : Int32) * p0) + (40 : Int32)) mro) (fun z_10 => ok_MO_number (((64 : Int32) * p0) + (4 : Int32)) mro ∧ bindp (f_MO_number (((64 : Int32) * p0) + (4 : Int32)) mro) (fun z_18 => ok_MO_number (((64 : Int32) * p0) + (16 : Int32)) mro ∧ bindp (f_MO_number (((64 : Int32) * p0) + (16 : Int32)) mro) (fun z_28 => ok_MO_hasSum ((64 : Int32) * p0) mro mit ∧ bindp (f_MO_hasSum ((64 : Int32) * p0) mro mit) (fun z_35 => (z_35.1 = 0 → True) ∧ (¬ z_35.1 = 0 → vp_in ((64 : Int32) * p0) 12800 ∧ (((mro ((64 : Int32) * p0).toNatClampNeg) = (4 : Int32) → (z_10.1 < 0 → True) ∧ (¬ z_10.1 < 0 → ((1000000 : Int32) < z_10.1 → True) ∧ (¬ (1000000 : Int32) < z_10.1 → ¬ msl = 0))) ∧ (¬ (mro ((64 : Int32) * p0).toNatClampNeg) = (4 : Int32) → True)))))))
set_option maxHeartbeats 4000000 in
set_option maxRecDepth 100000 in
theorem c_MO_isWhole {l : Launch} {G : GG} {ad : Nat → Nat} {sz : Nat} {mrf : Int32} {msl : Int32} {mst : Int32} {men : Int32} {mnw : Int32} {mdn : Int32} {mpw : Int32} {mwr : Int32} {mrs : Int32} {mdr : Int32} {mtb : Int32} {mrc : Int32} {mnx : Int32} {mro : (Nat → Int32)} {mit : (Nat → Int32)} {mve : (Nat → Int32)} {mrb : (Nat → Int32)} {mch : (Nat → Int32)} {mva : (Nat → Int32)} {mic : (Nat → Int32)} {mlb : (Nat → Int32)} {mrw : (Nat → Int32)} {mnb : (Nat → Int32)} {mlk : (Nat → Int32)} {mnk : (Nat → Int32)} {mmd : (Nat → Int32)} {p0 : Int32} (hok : ok_MO_isWhole p0 msl mro mit) : CtI l y_MO_isWhole b_MO_isWhole 6 (some .boolean) rm_MO_isWhole G (cM G ad mrf msl mst men mnw mdn mpw mwr mrs mdr mtb mrc mnx mro mit mve mrb mch mva mic mlb mrw mnb mlk mnk mmd) sz [.ref (ad 0), .int p0] (eqP (f_MO_isWhole p0 msl mro mit)) (fun _ : Unit => (cM G ad mrf msl mst men mnw mdn mpw mwr mrs mdr mtb mrc mnx mro mit mve mrb mch mva mic mlb mrw mnb mlk mnk mmd)) := by
  generalize hres : f_MO_isWhole p0 msl mro mit = res
  refine Met_of (Qc := fun A => va_Qi (eqP res) (Wb G A (fun _ : Unit => (cM G ad mrf msl mst men mnw mdn mpw mwr mrs mdr mtb mrc mnx mro mit mve mrb mch mva mic mlb mrw mnb mlk mnk mmd))) A) (by decide) (Nat.le_of_ble_eq_true rfl) ?_
  intro p e s m below meth c hadm hx hb hr hml hown hlocks ht hK A hA hP hD hS ls hl
  have hC : Cx p l e s m (([.ref (ad 0), .int p0] : List Value)).toArray meth c y_MO_isWhole b_MO_isWhole 6 (some .boolean) "BookTreesModel" G A := ⟨hx, hb, hr, hml, hown, hlocks, ht, hK, hA⟩
  have hown : s.vm.findClass "BookTreesModel" = some m.cls := hown
  have hl : lv_has ls 6 [(0, .ref (ad 0)), (1, .int p0)] := hl
  rw [f_MO_isWhole] at hres
  rw [ok_MO_isWhole] at hok
  refine lv_bipush (v := (64 : Int32)) hx hb d_MO_isWhole_0 (by decide) ?_
  refine lv_iload_n hx hb d_MO_isWhole_2 rfl (lv_at hl 1 rfl) ?_
  refine lv_imul hx hb d_MO_isWhole_3 ?_
  refine lv_istore_n (lv' := [(2, .int ((64 : Int32) * p0)), (0, .ref (ad 0)), (1, .int p0)]) hx hb d_MO_isWhole_4 rfl hl (by decide) rfl (fun ls hl => ?_)
  refine lv_aload_n hx hb d_MO_isWhole_5 rfl (lv_at hl 1 rfl) ?_
  refine lv_iload_n hx hb d_MO_isWhole_6 rfl (lv_at hl 0 rfl) ?_
  refine lv_bipush (v := (40 : Int32)) hx hb d_MO_isWhole_7 (by decide) ?_
  refine lv_iadd hx hb d_MO_isWhole_9 ?_
  obtain ⟨hk_10, hok⟩ := hok
  refine go_iz (run_V hx hb hml hown ht hK hP hD (c_MO_number hk_10) (cw_V ht km_MO_89 ki_MO_number ks_MO_number ini_MO kd_MO_number kh_MO_number ⟨Nat.le_of_ble_eq_true rfl, Nat.le_of_ble_eq_true rfl⟩ rfl rfl) (q0 := 0) (ci := 6) (As := [.int (((64 : Int32) * p0) + (40 : Int32))]) (rest := []) rfl rfl rfl hl.1 rfl (Nat.le_of_ble_eq_true rfl) d_MO_isWhole_10 ⟨Nat.zero_le _, Nat.zero_le _⟩) hD hS hA (fun z_10 H locs hz_10 hP hD hS => ?_)
  have hres := bindc_eq hz_10 hres
  have hok := bindp_eq hz_10 hok
  have hP : va_P G.1 classes (cM G ad mrf msl mst men mnw mdn mpw mwr mrs mdr mtb mrc mnx mro mit mve mrb mch mva mic mlb mrw mnb mlk mnk mmd) H := hP
  have hD : va_D A (cM G ad mrf msl mst men mnw mdn mpw mwr mrs mdr mtb mrc mnx mro mit mve mrb mch mva mic mlb mrw mnb mlk mnk mmd) := hD
  refine lv_istore_n (lv' := [(3, .int z_10.1), (2, .int ((64 : Int32) * p0)), (0, .ref (ad 0)), (1, .int p0)]) hx hb d_MO_isWhole_13 rfl hl (by decide) rfl (fun ls hl => ?_)
  refine lv_aload_n hx hb d_MO_isWhole_14 rfl (lv_at hl 2 rfl) ?_
  refine lv_iload_n hx hb d_MO_isWhole_15 rfl (lv_at hl 1 rfl) ?_
  refine lv_iconst (v := (4 : Int32)) hx hb d_MO_isWhole_16 (by decide) ?_
  refine lv_iadd hx hb d_MO_isWhole_17 ?_
  obtain ⟨hk_18, hok⟩ := hok
  refine go_iz (run_V hx hb hml hown ht hK hP hD (c_MO_number hk_18) (cw_V ht km_MO_89 ki_MO_number ks_MO_number ini_MO kd_MO_number kh_MO_number ⟨Nat.le_of_ble_eq_true rfl, Nat.le_of_ble_eq_true rfl⟩ rfl rfl) (q0 := 0) (ci := 6) (As := [.int (((64 : Int32) * p0) + (4 : Int32))]) (rest := []) rfl rfl rfl hl.1 rfl (Nat.le_of_ble_eq_true rfl) d_MO_isWhole_18 ⟨Nat.zero_le _, Nat.zero_le _⟩) hD hS hA (fun z_18 H locs hz_18 hP hD hS => ?_)
  have hres := bindc_eq hz_18 hres
  have hok := bindp_eq hz_18 hok
  have hP : va_P G.1 classes (cM G ad mrf msl mst men mnw mdn mpw mwr mrs mdr mtb mrc mnx mro mit mve mrb mch mva mic mlb mrw mnb mlk mnk mmd) H := hP
  have hD : va_D A (cM G ad mrf msl mst men mnw mdn mpw mwr mrs mdr mtb mrc mnx mro mit mve mrb mch mva mic mlb mrw mnb mlk mnk mmd) := hD
  refine lv_istore (lv' := [(4, .int z_18.1), (3, .int z_10.1), (2, .int ((64 : Int32) * p0)), (0, .ref (ad 0)), (1, .int p0)]) hx hb d_MO_isWhole_21 hl (by decide) rfl (fun ls hl => ?_)
  refine lv_aload_n hx hb d_MO_isWhole_23 rfl (lv_at hl 3 rfl) ?_
  refine lv_iload_n hx hb d_MO_isWhole_24 rfl (lv_at hl 2 rfl) ?_
  refine lv_bipush (v := (16 : Int32)) hx hb d_MO_isWhole_25 (by decide) ?_
  refine lv_iadd hx hb d_MO_isWhole_27 ?_
  obtain ⟨hk_28, hok⟩ := hok
  refine go_iz (run_V hx hb hml hown ht hK hP hD (c_MO_number hk_28) (cw_V ht km_MO_89 ki_MO_number ks_MO_number ini_MO kd_MO_number kh_MO_number ⟨Nat.le_of_ble_eq_true rfl, Nat.le_of_ble_eq_true rfl⟩ rfl rfl) (q0 := 0) (ci := 6) (As := [.int (((64 : Int32) * p0) + (16 : Int32))]) (rest := []) rfl rfl rfl hl.1 rfl (Nat.le_of_ble_eq_true rfl) d_MO_isWhole_28 ⟨Nat.zero_le _, Nat.zero_le _⟩) hD hS hA (fun z_28 H locs hz_28 hP hD hS => ?_)
  have hres := bindc_eq hz_28 hres
  have hok := bindp_eq hz_28 hok
  have hP : va_P G.1 classes (cM G ad mrf msl mst men mnw mdn mpw mwr mrs mdr mtb mrc mnx mro mit mve mrb mch mva mic mlb mrw mnb mlk mnk mmd) H := hP
  have hD : va_D A (cM G ad mrf msl mst men mnw mdn mpw mwr mrs mdr mtb mrc mnx mro mit mve mrb mch mva mic mlb mrw mnb mlk mnk mmd) := hD
  refine lv_istore (lv' := [(5, .int z_28.1), (4, .int z_18.1), (3, .int z_10.1), (2, .int ((64 : Int32) * p0)), (0, .ref (ad 0)), (1, .int p0)]) hx hb d_MO_isWhole_31 hl (by decide) rfl (fun ls hl => ?_)
  refine lv_aload_n hx hb d_MO_isWhole_33 rfl (lv_at hl 4 rfl) ?_
  refine lv_iload_n hx hb d_MO_isWhole_34 rfl (lv_at hl 3 rfl) ?_
  obtain ⟨hk_35, hok⟩ := hok
  refine go_iz (run_V hx hb hml hown ht hK hP hD (c_MO_hasSum hk_35) (cw_V ht km_MO_86 ki_MO_hasSum ks_MO_hasSum ini_MO kd_MO_hasSum kh_MO_hasSum ⟨Nat.le_of_ble_eq_true rfl, Nat.le_of_ble_eq_true rfl⟩ rfl rfl) (q0 := 0) (ci := 6) (As := [.int ((64 : Int32) * p0)]) (rest := []) rfl rfl rfl hl.1 rfl (Nat.le_of_ble_eq_true rfl) d_MO_isWhole_35 ⟨Nat.zero_le _, Nat.zero_le _⟩) hD hS hA (fun z_35 H locs hz_35 hP hD hS => ?_)
  have hres := bindc_eq hz_35 hres
  have hok := bindp_eq hz_35 hok
  have hP : va_P G.1 classes (cM G ad mrf msl mst men mnw mdn mpw mwr mrs mdr mtb mrc mnx mro mit mve mrb mch mva mic mlb mrw mnb mlk mnk mmd) H := hP
  have hD : va_D A (cM G ad mrf msl mst men mnw mdn mpw mwr mrs mdr mtb mrc mnx mro mit mve mrb mch mva mic mlb mrw mnb mlk mnk mmd) := hD
  refine lv_if_eq (tgt := 110) hx hb d_MO_isWhole_38 (by decide) (fun c_38 => ?_) (fun c_38 => ?_)
  · have hres := it_t c_38 hres
    refine lv_iconst (v := (0 : Int32)) hx hb d_MO_isWhole_110 (by decide) ?_
    exact en_z (w1 := (fun _ : Unit => (cM G ad mrf msl mst men mnw mdn mpw mwr mrs mdr mtb mrc mnx mro mit mve mrb mch mva mic mlb mrw mnb mlk mnk mmd))) () hx hb hr hlocks hK hP hD hS hres isB_0 d_MO_isWhole_111
  · have hres := it_f c_38 hres
    have hok := hok.2 c_38
    refine lv_aload_n hx hb d_MO_isWhole_41 rfl (lv_at hl 4 rfl) ?_
    refine va_get (D := G.1) (ci := 6) (C := R_MO) (T := F_MO) (N := 26) hx hb ht in_MO hown hK hP 0 rfl rfl 2 (by decide) (ht _ kf_MO_7) (fun _ h9 => h9) rfl d_MO_isWhole_42 ?_
    refine lv_iload_n hx hb d_MO_isWhole_45 rfl (lv_at hl 3 rfl) ?_
    obtain ⟨hi_46, hok⟩ := hok
    refine va_iald hx hb hK hP 1 0 rfl rfl hi_46 d_MO_isWhole_46 ?_
    refine lv_iconst (v := (4 : Int32)) hx hb d_MO_isWhole_47 (by decide) ?_
    refine lv_icmp_ne (tgt := 110) hx hb d_MO_isWhole_48 (by decide) (fun c_48 => ?_) (fun c_48 => ?_)
    · have hres := it_f c_48 hres
      refine lv_iconst (v := (0 : Int32)) hx hb d_MO_isWhole_110 (by decide) ?_
      exact en_z (w1 := (fun _ : Unit => (cM G ad mrf msl mst men mnw mdn mpw mwr mrs mdr mtb mrc mnx mro mit mve mrb mch mva mic mlb mrw mnb mlk mnk mmd))) () hx hb hr hlocks hK hP hD hS hres isB_0 d_MO_isWhole_111
    · have hres := it_t c_48 hres
      have hok := hok.1 c_48
      refine lv_iload_n hx hb d_MO_isWhole_51 rfl (lv_at hl 2 rfl) ?_
      refine lv_if_lt (tgt := 110) hx hb d_MO_isWhole_52 (by decide) (fun c_52 => ?_) (fun c_52 => ?_)
      · have hres := it_t c_52 hres
        refine lv_iconst (v := (0 : Int32)) hx hb d_MO_isWhole_110 (by decide) ?_
        exact en_z (w1 := (fun _ : Unit => (cM G ad mrf msl mst men mnw mdn mpw mwr mrs mdr mtb mrc mnx mro mit mve mrb mch mva mic mlb mrw mnb mlk mnk mmd))) () hx hb hr hlocks hK hP hD hS hres isB_0 d_MO_isWhole_111
      · have hres := it_f c_52 hres
        have hok := hok.2 c_52
        refine lv_iload_n hx hb d_MO_isWhole_55 rfl (lv_at hl 2 rfl) ?_
        refine lv_ldc hx hb hown (ht _ kk_MO_210) d_MO_isWhole_56 ?_
        refine lv_icmp_gt (tgt := 110) hx hb d_MO_isWhole_58 (by decide) (fun c_58 => ?_) (fun c_58 => ?_)
        · have hres := it_t c_58 hres
          refine lv_iconst (v := (0 : Int32)) hx hb d_MO_isWhole_110 (by decide) ?_
          exact en_z (w1 := (fun _ : Unit => (cM G ad mrf msl mst men mnw mdn mpw mwr mrs mdr mtb mrc mnx mro mit mve mrb mch mva mic mlb mrw mnb mlk mnk mmd))) () hx hb hr hlocks hK hP hD hS hres isB_0 d_MO_isWhole_111
        · have hres := it_f c_58 hres
          have hok := hok.2 c_58
          refine lv_iload_n hx hb d_MO_isWhole_61 rfl (lv_at hl 2 rfl) ?_
          refine lv_aload_n hx hb d_MO_isWhole_62 rfl (lv_at hl 4 rfl) ?_
          refine va_get (D := G.1) (ci := 6) (C := R_MO) (T := F_MO) (N := 26) hx hb ht in_MO hown hK hP 0 rfl rfl 1 (by decide) (ht _ kf_MO_54) (fun _ h9 => h9) rfl d_MO_isWhole_63 ?_
          have hn_66 := hok
          refine lv_irem hx hb d_MO_isWhole_66 hn_66 ?_
          refine lv_iload_n hx hb d_MO_isWhole_67 rfl (lv_at hl 5 rfl) ?_
          refine lv_icmp_ne (tgt := 110) hx hb d_MO_isWhole_68 (by decide) (fun c_68 => ?_) (fun c_68 => ?_)
          · have hres := it_f c_68 hres
            refine lv_iconst (v := (0 : Int32)) hx hb d_MO_isWhole_110 (by decide) ?_
            exact en_z (w1 := (fun _ : Unit => (cM G ad mrf msl mst men mnw mdn mpw mwr mrs mdr mtb mrc mnx mro mit mve mrb mch mva mic mlb mrw mnb mlk mnk mmd))) () hx hb hr hlocks hK hP hD hS hres isB_0 d_MO_isWhole_111
          · have hres := it_t c_68 hres
            refine lv_iload hx hb d_MO_isWhole_71 (lv_at hl 1 rfl) ?_
            refine lv_iconst (v := (1 : Int32)) hx hb d_MO_isWhole_73 (by decide) ?_
            refine lv_icmp_lt (tgt := 110) hx hb d_MO_isWhole_74 (by decide) (fun c_74 => ?_) (fun c_74 => ?_)
            · have hres := it_t c_74 hres
              refine lv_iconst (v := (0 : Int32)) hx hb d_MO_isWhole_110 (by decide) ?_
              exact en_z (w1 := (fun _ : Unit => (cM G ad mrf msl mst men mnw mdn mpw mwr mrs mdr mtb mrc mnx mro mit mve mrb mch mva mic mlb mrw mnb mlk mnk mmd))) () hx hb hr hlocks hK hP hD hS hres isB_0 d_MO_isWhole_111
            · have hres := it_f c_74 hres
              refine lv_iload hx hb d_MO_isWhole_77 (lv_at hl 1 rfl) ?_
              refine lv_ldc hx hb hown (ht _ kk_MO_210) d_MO_isWhole_79 ?_
              refine lv_icmp_gt (tgt := 110) hx hb d_MO_isWhole_81 (by decide) (fun c_81 => ?_) (fun c_81 => ?_)
              · have hres := it_t c_81 hres
                refine lv_iconst (v := (0 : Int32)) hx hb d_MO_isWhole_110 (by decide) ?_
                exact en_z (w1 := (fun _ : Unit => (cM G ad mrf msl mst men mnw mdn mpw mwr mrs mdr mtb mrc mnx mro mit mve mrb mch mva mic mlb mrw mnb mlk mnk mmd))) () hx hb hr hlocks hK hP hD hS hres isB_0 d_MO_isWhole_111
              · have hres := it_f c_81 hres
                refine lv_iload hx hb d_MO_isWhole_84 (lv_at hl 0 rfl) ?_
                refine lv_if_lt (tgt := 110) hx hb d_MO_isWhole_86 (by decide) (fun c_86 => ?_) (fun c_86 => ?_)
                · have hres := it_t c_86 hres
                  refine lv_iconst (v := (0 : Int32)) hx hb d_MO_isWhole_110 (by decide) ?_
                  exact en_z (w1 := (fun _ : Unit => (cM G ad mrf msl mst men mnw mdn mpw mwr mrs mdr mtb mrc mnx mro mit mve mrb mch mva mic mlb mrw mnb mlk mnk mmd))) () hx hb hr hlocks hK hP hD hS hres isB_0 d_MO_isWhole_111
                · have hres := it_f c_86 hres
                  refine lv_iload hx hb d_MO_isWhole_89 (lv_at hl 0 rfl) ?_
                  refine lv_iload_n hx hb d_MO_isWhole_91 rfl (lv_at hl 2 rfl) ?_
                  refine lv_icmp_gt (tgt := 110) hx hb d_MO_isWhole_92 (by decide) (fun c_92 => ?_) (fun c_92 => ?_)
                  · have hres := it_t c_92 hres
                    refine lv_iconst (v := (0 : Int32)) hx hb d_MO_isWhole_110 (by decide) ?_
                    exact en_z (w1 := (fun _ : Unit => (cM G ad mrf msl mst men mnw mdn mpw mwr mrs mdr mtb mrc mnx mro mit mve mrb mch mva mic mlb mrw mnb mlk mnk mmd))) () hx hb hr hlocks hK hP hD hS hres isB_0 d_MO_isWhole_111
                  · have hres := it_f c_92 hres
                    refine lv_iload_n hx hb d_MO_isWhole_95 rfl (lv_at hl 2 rfl) ?_
                    refine lv_iload hx hb d_MO_isWhole_96 (lv_at hl 0 rfl) ?_
                    refine lv_isub hx hb d_MO_isWhole_98 ?_
                    refine lv_aload_n hx hb d_MO_isWhole_99 rfl (lv_at hl 4 rfl) ?_
                    refine va_get (D := G.1) (ci := 6) (C := R_MO) (T := F_MO) (N := 26) hx hb ht in_MO hown hK hP 0 rfl rfl 1 (by decide) (ht _ kf_MO_54) (fun _ h9 => h9) rfl d_MO_isWhole_100 ?_
                    refine lv_icmp_ge (tgt := 110) hx hb d_MO_isWhole_103 (by decide) (fun c_103 => ?_) (fun c_103 => ?_)
                    · have hres := it_t c_103 hres
                      refine lv_iconst (v := (0 : Int32)) hx hb d_MO_isWhole_110 (by decide) ?_
                      exact en_z (w1 := (fun _ : Unit => (cM G ad mrf msl mst men mnw mdn mpw mwr mrs mdr mtb mrc mnx mro mit mve mrb mch mva mic mlb mrw mnb mlk mnk mmd))) () hx hb hr hlocks hK hP hD hS hres isB_0 d_MO_isWhole_111
                    · have hres := it_f c_103 hres
                      refine lv_iconst (v := (1 : Int32)) hx hb d_MO_isWhole_106 (by decide) ?_
                      refine lv_goto (tgt := 111) hx hb d_MO_isWhole_107 (by decide) ?_
                      exact en_z (w1 := (fun _ : Unit => (cM G ad mrf msl mst men mnw mdn mpw mwr mrs mdr mtb mrc mnx mro mit mve mrb mch mva mic mlb mrw mnb mlk mnk mmd))) () hx hb hr hlocks hK hP hD hS hres isB_1 d_MO_isWhole_111
/-! ===== BookTreesModel.keep(II)V ===== -/
abbrev rm_MO_keep : Room := { frames := 0, cells := 0, slots := 0, locals := 0 }
def f_MO_keep_77 : Nat → Int32 → Int32 → Int32 → Int32 → Int32 → (Nat → Int32) → (Nat → Int32) → Int32 × (Nat → Int32) × (Nat → Int32)
  | 0, x1, x2, x3, x4, mrs, mve, mrb => (mrs, mve, mrb)
  | n + 1, x1, x2, x3, x4, mrs, mve, mrb => if x4 ≤ x3 then (mrs + (1 : Int32), upd mve x3.toNatClampNeg x1, upd mrb x3.toNatClampNeg x2) else f_MO_keep_77 n x1 x2 x3 (x4 + (-1 : Int32)) mrs (upd mve x4.toNatClampNeg (mve (x4 - (1 : Int32)).toNatClampNeg)) (upd mrb x4.toNatClampNeg (mrb (x4 - (1 : Int32)).toNatClampNeg))
def ok_MO_keep_77 : Nat → Int32 → Int32 → Int32 → Int32 → Int32 → (Nat → Int32) → (Nat → Int32) → Prop
  | 0, _, _, _, _, _, _, _ => False
  | n + 1, x1, x2, x3, x4, mrs, mve, mrb => (x4 ≤ x3 → vp_in x3 4000 ∧ (vp_in x3 4000)) ∧ (¬ x4 ≤ x3 → vp_in (x4 - (1 : Int32)) 4000 ∧ (vp_in x4 4000 ∧ (vp_in (x4 - (1 : Int32)) 4000 ∧ (vp_in x4 4000 ∧ (ok_MO_keep_77  n x1 x2 x3 (x4 + (-1 : Int32)) mrs (upd mve x4.toNatClampNeg (mve (x4 - (1 : Int32)).toNatClampNeg)) (upd mrb x4.toNatClampNeg (mrb (x4 - (1 : Int32)).toNatClampNeg)))))))
set_option maxHeartbeats 4000000 in
set_option maxRecDepth 100000 in
theorem w_MO_keep_77 {p : Program} {l : Launch} {e : Env} {s : State} {m : MethodId} {args : Array Value} {below : List Frame} {meth : Method} {c : Code} {A : Nat → Prop} {G : GG} {ad : Nat → Nat} {mrf : Int32} {msl : Int32} {mst : Int32} {men : Int32} {mnw : Int32} {mdn : Int32} {mpw : Int32} {mwr : Int32} {mdr : Int32} {mtb : Int32} {mrc : Int32} {mnx : Int32} {mro : (Nat → Int32)} {mit : (Nat → Int32)} {mch : (Nat → Int32)} {mva : (Nat → Int32)} {mic : (Nat → Int32)} {mlb : (Nat → Int32)} {mrw : (Nat → Int32)} {mnb : (Nat → Int32)} {mlk : (Nat → Int32)} {mnk : (Nat → Int32)} {mmd : (Nat → Int32)} {res : Int32 × (Nat → Int32) × (Nat → Int32)} (hC : Cx p l e s m args meth c y_MO_keep b_MO_keep 5 none "BookTreesModel" G A) : ∀ (n : Nat) (x1 : Int32) (x2 : Int32) (x3 : Int32) (x4 : Int32) (mrs : Int32) (mve : (Nat → Int32)) (mrb : (Nat → Int32)) (H : Heap) (locs : List Loc) (ls : Array Slot), ok_MO_keep_77 n x1 x2 x3 x4 mrs mve mrb → f_MO_keep_77 n x1 x2 x3 x4 mrs mve mrb = res → va_P G.1 classes (cM G ad mrf msl mst men mnw mdn mpw mwr mrs mdr mtb mrc mnx mro mit mve mrb mch mva mic mlb mrw mnb mlk mnk mmd) H → va_D A (cM G ad mrf msl mst men mnw mdn mpw mwr mrs mdr mtb mrc mnx mro mit mve mrb mch mva mic mlb mrw mnb mlk mnk mmd) → va_S A s.heap H locs → lv_has ls 5 [(0, .ref (ad 0)), (1, .int x1), (2, .int x2), (3, .int x3), (4, .int x4)] → W p l e rm_MO_keep s m args below meth c H locs 0 0 (MQ below (va_Qv (eqV res) (Wb G A (fun u : Int32 × (Nat → Int32) × (Nat → Int32) => (cM G ad mrf msl mst men mnw mdn mpw mwr u.1 mdr mtb mrc mnx mro mit u.2.1 u.2.2 mch mva mic mlb mrw mnb mlk mnk mmd))) A) args s 0 0 A) (F0 m 77 ls []) := by
  obtain ⟨hx, hb, hr, hml, hown, hlocks, ht, hK, hA⟩ := id hC
  intro n
  induction n with
  | zero => intro x1 x2 x3 x4 mrs mve mrb H locs ls hok; exact hok.elim
  | succ n ih =>
    intro x1 x2 x3 x4 mrs mve mrb H locs ls hok hres hP hD hS hl
    rw [f_MO_keep_77] at hres
    rw [ok_MO_keep_77] at hok
    refine lv_iload hx hb d_MO_keep_77 (lv_at hl 4 rfl) ?_
    refine lv_iload_n hx hb d_MO_keep_79 rfl (lv_at hl 3 rfl) ?_
    refine lv_icmp_le (tgt := 121) hx hb d_MO_keep_80 (by decide) (fun c_80 => ?_) (fun c_80 => ?_)
    · have hres := it_t c_80 hres
      have hok := hok.1 c_80
      refine lv_aload_n hx hb d_MO_keep_121 rfl (lv_at hl 0 rfl) ?_
      refine va_get (D := G.1) (ci := 6) (C := R_MO) (T := F_MO) (N := 26) hx hb ht in_MO hown hK hP 0 rfl rfl 11 (by decide) (ht _ kf_MO_21) (fun _ h9 => h9) rfl d_MO_keep_122 ?_
      refine lv_iload_n hx hb d_MO_keep_125 rfl (lv_at hl 3 rfl) ?_
      refine lv_iload_n hx hb d_MO_keep_126 rfl (lv_at hl 1 rfl) ?_
      obtain ⟨hi_127, hok⟩ := hok
      refine va_iast hx hb hK hP hD hS 3 0 rfl rfl hi_127 d_MO_keep_127 (fun H locs hP hD hS => ?_)
      have hP : va_P G.1 classes (cM G ad mrf msl mst men mnw mdn mpw mwr mrs mdr mtb mrc mnx mro mit (upd mve x3.toNatClampNeg x1) mrb mch mva mic mlb mrw mnb mlk mnk mmd) H := hP
      have hD : va_D A (cM G ad mrf msl mst men mnw mdn mpw mwr mrs mdr mtb mrc mnx mro mit (upd mve x3.toNatClampNeg x1) mrb mch mva mic mlb mrw mnb mlk mnk mmd) := hD
      refine lv_aload_n hx hb d_MO_keep_128 rfl (lv_at hl 0 rfl) ?_
      refine va_get (D := G.1) (ci := 6) (C := R_MO) (T := F_MO) (N := 26) hx hb ht in_MO hown hK hP 0 rfl rfl 12 (by decide) (ht _ kf_MO_24) (fun _ h9 => h9) rfl d_MO_keep_129 ?_
      refine lv_iload_n hx hb d_MO_keep_132 rfl (lv_at hl 3 rfl) ?_
      refine lv_iload_n hx hb d_MO_keep_133 rfl (lv_at hl 2 rfl) ?_
      have hi_134 := hok
      refine va_iast hx hb hK hP hD hS 4 0 rfl rfl hi_134 d_MO_keep_134 (fun H locs hP hD hS => ?_)
      have hP : va_P G.1 classes (cM G ad mrf msl mst men mnw mdn mpw mwr mrs mdr mtb mrc mnx mro mit (upd mve x3.toNatClampNeg x1) (upd mrb x3.toNatClampNeg x2) mch mva mic mlb mrw mnb mlk mnk mmd) H := hP
      have hD : va_D A (cM G ad mrf msl mst men mnw mdn mpw mwr mrs mdr mtb mrc mnx mro mit (upd mve x3.toNatClampNeg x1) (upd mrb x3.toNatClampNeg x2) mch mva mic mlb mrw mnb mlk mnk mmd) := hD
      refine lv_aload_n hx hb d_MO_keep_135 rfl (lv_at hl 0 rfl) ?_
      refine lv_dup hx hb d_MO_keep_136 rfl ?_
      refine va_get (D := G.1) (ci := 6) (C := R_MO) (T := F_MO) (N := 26) hx hb ht in_MO hown hK hP 0 rfl rfl 10 (by decide) (ht _ kf_MO_116) (fun _ h9 => h9) rfl d_MO_keep_137 ?_
      refine lv_iconst (v := (1 : Int32)) hx hb d_MO_keep_140 (by decide) ?_
      refine lv_iadd hx hb d_MO_keep_141 ?_
      refine va_put (D := G.1) (ci := 6) (v := .int (mrs + (1 : Int32))) (ty := .int) (C := R_MO) (T := F_MO) (N := 26) hx hb ht in_MO t_MO to_MO nm_MO hown hK hP hD hS 0 rfl rfl 10 (by decide) (ht _ kf_MO_116) (fun _ h9 => h9) rfl (to_MO 10 (by decide)) rfl rfl (Nat.le_of_ble_eq_true rfl) d_MO_keep_142 (fun H locs hP hD hS => ?_)
      have hP : va_P G.1 classes (cM G ad mrf msl mst men mnw mdn mpw mwr (mrs + (1 : Int32)) mdr mtb mrc mnx mro mit (upd mve x3.toNatClampNeg x1) (upd mrb x3.toNatClampNeg x2) mch mva mic mlb mrw mnb mlk mnk mmd) H := hP
      have hD : va_D A (cM G ad mrf msl mst men mnw mdn mpw mwr (mrs + (1 : Int32)) mdr mtb mrc mnx mro mit (upd mve x3.toNatClampNeg x1) (upd mrb x3.toNatClampNeg x2) mch mva mic mlb mrw mnb mlk mnk mmd) := hD
      exact en_v (w1 := (fun u : Int32 × (Nat → Int32) × (Nat → Int32) => (cM G ad mrf msl mst men mnw mdn mpw mwr u.1 mdr mtb mrc mnx mro mit u.2.1 u.2.2 mch mva mic mlb mrw mnb mlk mnk mmd))) (mrs + (1 : Int32), upd mve x3.toNatClampNeg x1, upd mrb x3.toNatClampNeg x2) hx hb hr hlocks hK hP hD hS hres d_MO_keep_145
    · have hres := it_f c_80 hres
      have hok := hok.2 c_80
      refine lv_aload_n hx hb d_MO_keep_83 rfl (lv_at hl 0 rfl) ?_
      refine va_get (D := G.1) (ci := 6) (C := R_MO) (T := F_MO) (N := 26) hx hb ht in_MO hown hK hP 0 rfl rfl 11 (by decide) (ht _ kf_MO_21) (fun _ h9 => h9) rfl d_MO_keep_84 ?_
      refine lv_iload hx hb d_MO_keep_87 (lv_at hl 4 rfl) ?_
      refine lv_aload_n hx hb d_MO_keep_89 rfl (lv_at hl 0 rfl) ?_
      refine va_get (D := G.1) (ci := 6) (C := R_MO) (T := F_MO) (N := 26) hx hb ht in_MO hown hK hP 0 rfl rfl 11 (by decide) (ht _ kf_MO_21) (fun _ h9 => h9) rfl d_MO_keep_90 ?_
      refine lv_iload hx hb d_MO_keep_93 (lv_at hl 4 rfl) ?_
      refine lv_iconst (v := (1 : Int32)) hx hb d_MO_keep_95 (by decide) ?_
      refine lv_isub hx hb d_MO_keep_96 ?_
      obtain ⟨hi_97, hok⟩ := hok
      refine va_iald hx hb hK hP 3 0 rfl rfl hi_97 d_MO_keep_97 ?_
      obtain ⟨hi_98, hok⟩ := hok
      refine va_iast hx hb hK hP hD hS 3 0 rfl rfl hi_98 d_MO_keep_98 (fun H locs hP hD hS => ?_)
      have hP : va_P G.1 classes (cM G ad mrf msl mst men mnw mdn mpw mwr mrs mdr mtb mrc mnx mro mit (upd mve x4.toNatClampNeg (mve (x4 - (1 : Int32)).toNatClampNeg)) mrb mch mva mic mlb mrw mnb mlk mnk mmd) H := hP
      have hD : va_D A (cM G ad mrf msl mst men mnw mdn mpw mwr mrs mdr mtb mrc mnx mro mit (upd mve x4.toNatClampNeg (mve (x4 - (1 : Int32)).toNatClampNeg)) mrb mch mva mic mlb mrw mnb mlk mnk mmd) := hD
      refine lv_aload_n hx hb d_MO_keep_99 rfl (lv_at hl 0 rfl) ?_
      refine va_get (D := G.1) (ci := 6) (C := R_MO) (T := F_MO) (N := 26) hx hb ht in_MO hown hK hP 0 rfl rfl 12 (by decide) (ht _ kf_MO_24) (fun _ h9 => h9) rfl d_MO_keep_100 ?_
      refine lv_iload hx hb d_MO_keep_103 (lv_at hl 4 rfl) ?_
      refine lv_aload_n hx hb d_MO_keep_105 rfl (lv_at hl 0 rfl) ?_
      refine va_get (D := G.1) (ci := 6) (C := R_MO) (T := F_MO) (N := 26) hx hb ht in_MO hown hK hP 0 rfl rfl 12 (by decide) (ht _ kf_MO_24) (fun _ h9 => h9) rfl d_MO_keep_106 ?_
      refine lv_iload hx hb d_MO_keep_109 (lv_at hl 4 rfl) ?_
      refine lv_iconst (v := (1 : Int32)) hx hb d_MO_keep_111 (by decide) ?_
      refine lv_isub hx hb d_MO_keep_112 ?_
      obtain ⟨hi_113, hok⟩ := hok
      refine va_iald hx hb hK hP 4 0 rfl rfl hi_113 d_MO_keep_113 ?_
      obtain ⟨hi_114, hok⟩ := hok
      refine va_iast hx hb hK hP hD hS 4 0 rfl rfl hi_114 d_MO_keep_114 (fun H locs hP hD hS => ?_)
      have hP : va_P G.1 classes (cM G ad mrf msl mst men mnw mdn mpw mwr mrs mdr mtb mrc mnx mro mit (upd mve x4.toNatClampNeg (mve (x4 - (1 : Int32)).toNatClampNeg)) (upd mrb x4.toNatClampNeg (mrb (x4 - (1 : Int32)).toNatClampNeg)) mch mva mic mlb mrw mnb mlk mnk mmd) H := hP
      have hD : va_D A (cM G ad mrf msl mst men mnw mdn mpw mwr mrs mdr mtb mrc mnx mro mit (upd mve x4.toNatClampNeg (mve (x4 - (1 : Int32)).toNatClampNeg)) (upd mrb x4.toNatClampNeg (mrb (x4 - (1 : Int32)).toNatClampNeg)) mch mva mic mlb mrw mnb mlk mnk mmd) := hD
      refine lv_iinc (v := x4 + (-1 : Int32)) (lv' := [(4, .int (x4 + (-1 : Int32))), (0, .ref (ad 0)), (1, .int x1), (2, .int x2), (3, .int x3)]) hx hb d_MO_keep_115 hl (k := 4) rfl rfl (by decide) rfl (fun ls hl => ?_)
      refine lv_goto (tgt := 77) hx hb d_MO_keep_118 (by decide) ?_
      exact ih x1 x2 x3 (x4 + (-1 : Int32)) mrs (upd mve x4.toNatClampNeg (mve (x4 - (1 : Int32)).toNatClampNeg)) (upd mrb x4.toNatClampNeg (mrb (x4 - (1 : Int32)).toNatClampNeg)) _ _ _ hok hres hP hD hS (lv_sub hl [1, 2, 3, 4, 0] rfl)
def f_MO_keep_71 (x1 : Int32) (x2 : Int32) (x3 : Int32) (mrs : Int32) (mve : (Nat → Int32)) (mrb : (Nat → Int32)) : Int32 × (Nat → Int32) × (Nat → Int32) := f_MO_keep_77 1024 x1 x2 x3 mrs mrs mve mrb
def ok_MO_keep_71 (x1 : Int32) (x2 : Int32) (x3 : Int32) (mrs : Int32) (mve : (Nat → Int32)) (mrb : (Nat → Int32)) : Prop := ok_MO_keep_77  1024 x1 x2 x3 mrs mrs mve mrb
set_option maxHeartbeats 4000000 in
set_option maxRecDepth 100000 in
theorem w_MO_keep_71 {p : Program} {l : Launch} {e : Env} {s : State} {m : MethodId} {args : Array Value} {below : List Frame} {meth : Method} {c : Code} {A : Nat → Prop} {G : GG} {ad : Nat → Nat} {mrf : Int32} {msl : Int32} {mst : Int32} {men : Int32} {mnw : Int32} {mdn : Int32} {mpw : Int32} {mwr : Int32} {mdr : Int32} {mtb : Int32} {mrc : Int32} {mnx : Int32} {mro : (Nat → Int32)} {mit : (Nat → Int32)} {mch : (Nat → Int32)} {mva : (Nat → Int32)} {mic : (Nat → Int32)} {mlb : (Nat → Int32)} {mrw : (Nat → Int32)} {mnb : (Nat → Int32)} {mlk : (Nat → Int32)} {mnk : (Nat → Int32)} {mmd : (Nat → Int32)} {res : Int32 × (Nat → Int32) × (Nat → Int32)} (hC : Cx p l e s m args meth c y_MO_keep b_MO_keep 5 none "BookTreesModel" G A) : ∀ (x1 : Int32) (x2 : Int32) (x3 : Int32) (mrs : Int32) (mve : (Nat → Int32)) (mrb : (Nat → Int32)) (H : Heap) (locs : List Loc) (ls : Array Slot), ok_MO_keep_71 x1 x2 x3 mrs mve mrb → f_MO_keep_71 x1 x2 x3 mrs mve mrb = res → va_P G.1 classes (cM G ad mrf msl mst men mnw mdn mpw mwr mrs mdr mtb mrc mnx mro mit mve mrb mch mva mic mlb mrw mnb mlk mnk mmd) H → va_D A (cM G ad mrf msl mst men mnw mdn mpw mwr mrs mdr mtb mrc mnx mro mit mve mrb mch mva mic mlb mrw mnb mlk mnk mmd) → va_S A s.heap H locs → lv_has ls 5 [(0, .ref (ad 0)), (1, .int x1), (2, .int x2), (3, .int x3)] → W p l e rm_MO_keep s m args below meth c H locs 0 0 (MQ below (va_Qv (eqV res) (Wb G A (fun u : Int32 × (Nat → Int32) × (Nat → Int32) => (cM G ad mrf msl mst men mnw mdn mpw mwr u.1 mdr mtb mrc mnx mro mit u.2.1 u.2.2 mch mva mic mlb mrw mnb mlk mnk mmd))) A) args s 0 0 A) (F0 m 71 ls []) := by
  obtain ⟨hx, hb, hr, hml, hown, hlocks, ht, hK, hA⟩ := id hC
  intro x1 x2 x3 mrs mve mrb H locs ls hok hres hP hD hS hl
  rw [f_MO_keep_71] at hres
  rw [ok_MO_keep_71] at hok
  refine lv_aload_n hx hb d_MO_keep_71 rfl (lv_at hl 0 rfl) ?_
  refine va_get (D := G.1) (ci := 6) (C := R_MO) (T := F_MO) (N := 26) hx hb ht in_MO hown hK hP 0 rfl rfl 10 (by decide) (ht _ kf_MO_116) (fun _ h9 => h9) rfl d_MO_keep_72 ?_
  refine lv_istore (lv' := [(4, .int mrs), (0, .ref (ad 0)), (1, .int x1), (2, .int x2), (3, .int x3)]) hx hb d_MO_keep_75 hl (by decide) rfl (fun ls hl => ?_)
  exact w_MO_keep_77 hC 1024 x1 x2 x3 mrs mrs mve mrb _ _ _ hok hres hP hD hS (lv_sub hl [1, 2, 3, 4, 0] rfl)
def f_MO_keep_26 (x1 : Int32) (x2 : Int32) (x3 : Int32) (mrs : Int32) (mve : (Nat → Int32)) (mrb : (Nat → Int32)) : Int32 × (Nat → Int32) × (Nat → Int32) := if mrs ≤ x3 then f_MO_keep_71 x1 x2 x3 mrs mve mrb else if (mve x3.toNatClampNeg) = x1 then (if (mrb x3.toNatClampNeg) ≤ x2 then (mrs, mve, upd mrb x3.toNatClampNeg x2) else (mrs, mve, upd mrb x3.toNatClampNeg (mrb x3.toNatClampNeg))) else f_MO_keep_71 x1 x2 x3 mrs mve mrb
def ok_MO_keep_26 (x1 : Int32) (x2 : Int32) (x3 : Int32) (mrs : Int32) (mve : (Nat → Int32)) (mrb : (Nat → Int32)) : Prop := (mrs ≤ x3 → ok_MO_keep_71  x1 x2 x3 mrs mve mrb) ∧ (¬ mrs ≤ x3 → vp_in x3 4000 ∧ (((mve x3.toNatClampNeg) = x1 → vp_in x3 4000 ∧ (((mrb x3.toNatClampNeg) ≤ x2 → vp_in x3 4000) ∧ (¬ (mrb x3.toNatClampNeg) ≤ x2 → vp_in x3 4000 ∧ (vp_in x3 4000)))) ∧ (¬ (mve x3.toNatClampNeg) = x1 → ok_MO_keep_71  x1 x2 x3 mrs mve mrb)))
set_option maxHeartbeats 4000000 in
set_option maxRecDepth 100000 in
theorem w_MO_keep_26 {p : Program} {l : Launch} {e : Env} {s : State} {m : MethodId} {args : Array Value} {below : List Frame} {meth : Method} {c : Code} {A : Nat → Prop} {G : GG} {ad : Nat → Nat} {mrf : Int32} {msl : Int32} {mst : Int32} {men : Int32} {mnw : Int32} {mdn : Int32} {mpw : Int32} {mwr : Int32} {mdr : Int32} {mtb : Int32} {mrc : Int32} {mnx : Int32} {mro : (Nat → Int32)} {mit : (Nat → Int32)} {mch : (Nat → Int32)} {mva : (Nat → Int32)} {mic : (Nat → Int32)} {mlb : (Nat → Int32)} {mrw : (Nat → Int32)} {mnb : (Nat → Int32)} {mlk : (Nat → Int32)} {mnk : (Nat → Int32)} {mmd : (Nat → Int32)} {res : Int32 × (Nat → Int32) × (Nat → Int32)} (hC : Cx p l e s m args meth c y_MO_keep b_MO_keep 5 none "BookTreesModel" G A) : ∀ (x1 : Int32) (x2 : Int32) (x3 : Int32) (mrs : Int32) (mve : (Nat → Int32)) (mrb : (Nat → Int32)) (H : Heap) (locs : List Loc) (ls : Array Slot), ok_MO_keep_26 x1 x2 x3 mrs mve mrb → f_MO_keep_26 x1 x2 x3 mrs mve mrb = res → va_P G.1 classes (cM G ad mrf msl mst men mnw mdn mpw mwr mrs mdr mtb mrc mnx mro mit mve mrb mch mva mic mlb mrw mnb mlk mnk mmd) H → va_D A (cM G ad mrf msl mst men mnw mdn mpw mwr mrs mdr mtb mrc mnx mro mit mve mrb mch mva mic mlb mrw mnb mlk mnk mmd) → va_S A s.heap H locs → lv_has ls 5 [(0, .ref (ad 0)), (1, .int x1), (2, .int x2), (3, .int x3)] → W p l e rm_MO_keep s m args below meth c H locs 0 0 (MQ below (va_Qv (eqV res) (Wb G A (fun u : Int32 × (Nat → Int32) × (Nat → Int32) => (cM G ad mrf msl mst men mnw mdn mpw mwr u.1 mdr mtb mrc mnx mro mit u.2.1 u.2.2 mch mva mic mlb mrw mnb mlk mnk mmd))) A) args s 0 0 A) (F0 m 26 ls []) := by
  obtain ⟨hx, hb, hr, hml, hown, hlocks, ht, hK, hA⟩ := id hC
  intro x1 x2 x3 mrs mve mrb H locs ls hok hres hP hD hS hl
  rw [f_MO_keep_26] at hres
  rw [ok_MO_keep_26] at hok
  refine lv_iload_n hx hb d_MO_keep_26 rfl (lv_at hl 3 rfl) ?_
  refine lv_aload_n hx hb d_MO_keep_27 rfl (lv_at hl 0 rfl) ?_
  refine va_get (D := G.1) (ci := 6) (C := R_MO) (T := F_MO) (N := 26) hx hb ht in_MO hown hK hP 0 rfl rfl 10 (by decide) (ht _ kf_MO_116) (fun _ h9 => h9) rfl d_MO_keep_28 ?_
  refine lv_icmp_ge (tgt := 71) hx hb d_MO_keep_31 (by decide) (fun c_31 => ?_) (fun c_31 => ?_)
  · have hres := it_t c_31 hres
    have hok := hok.1 c_31
    exact w_MO_keep_71 hC x1 x2 x3 mrs mve mrb _ _ _ hok hres hP hD hS (lv_sub hl [0, 1, 2, 3] rfl)
  · have hres := it_f c_31 hres
    have hok := hok.2 c_31
    refine lv_aload_n hx hb d_MO_keep_34 rfl (lv_at hl 0 rfl) ?_
    refine va_get (D := G.1) (ci := 6) (C := R_MO) (T := F_MO) (N := 26) hx hb ht in_MO hown hK hP 0 rfl rfl 11 (by decide) (ht _ kf_MO_21) (fun _ h9 => h9) rfl d_MO_keep_35 ?_
    refine lv_iload_n hx hb d_MO_keep_38 rfl (lv_at hl 3 rfl) ?_
    obtain ⟨hi_39, hok⟩ := hok
    refine va_iald hx hb hK hP 3 0 rfl rfl hi_39 d_MO_keep_39 ?_
    refine lv_iload_n hx hb d_MO_keep_40 rfl (lv_at hl 1 rfl) ?_
    refine lv_icmp_ne (tgt := 71) hx hb d_MO_keep_41 (by decide) (fun c_41 => ?_) (fun c_41 => ?_)
    · have hres := it_f c_41 hres
      have hok := hok.2 c_41
      exact w_MO_keep_71 hC x1 x2 x3 mrs mve mrb _ _ _ hok hres hP hD hS (lv_sub hl [0, 1, 2, 3] rfl)
    · have hres := it_t c_41 hres
      have hok := hok.1 c_41
      refine lv_aload_n hx hb d_MO_keep_44 rfl (lv_at hl 0 rfl) ?_
      refine va_get (D := G.1) (ci := 6) (C := R_MO) (T := F_MO) (N := 26) hx hb ht in_MO hown hK hP 0 rfl rfl 12 (by decide) (ht _ kf_MO_24) (fun _ h9 => h9) rfl d_MO_keep_45 ?_
      refine lv_iload_n hx hb d_MO_keep_48 rfl (lv_at hl 3 rfl) ?_
      refine lv_aload_n hx hb d_MO_keep_49 rfl (lv_at hl 0 rfl) ?_
      refine va_get (D := G.1) (ci := 6) (C := R_MO) (T := F_MO) (N := 26) hx hb ht in_MO hown hK hP 0 rfl rfl 12 (by decide) (ht _ kf_MO_24) (fun _ h9 => h9) rfl d_MO_keep_50 ?_
      refine lv_iload_n hx hb d_MO_keep_53 rfl (lv_at hl 3 rfl) ?_
      obtain ⟨hi_54, hok⟩ := hok
      refine va_iald hx hb hK hP 4 0 rfl rfl hi_54 d_MO_keep_54 ?_
      refine lv_iload_n hx hb d_MO_keep_55 rfl (lv_at hl 2 rfl) ?_
      refine lv_icmp_le (tgt := 68) hx hb d_MO_keep_56 (by decide) (fun c_56 => ?_) (fun c_56 => ?_)
      · have hres := it_t c_56 hres
        have hok := hok.1 c_56
        refine lv_iload_n hx hb d_MO_keep_68 rfl (lv_at hl 2 rfl) ?_
        have hi_69 := hok
        refine va_iast hx hb hK hP hD hS 4 0 rfl rfl hi_69 d_MO_keep_69 (fun H locs hP hD hS => ?_)
        have hP : va_P G.1 classes (cM G ad mrf msl mst men mnw mdn mpw mwr mrs mdr mtb mrc mnx mro mit mve (upd mrb x3.toNatClampNeg x2) mch mva mic mlb mrw mnb mlk mnk mmd) H := hP
        have hD : va_D A (cM G ad mrf msl mst men mnw mdn mpw mwr mrs mdr mtb mrc mnx mro mit mve (upd mrb x3.toNatClampNeg x2) mch mva mic mlb mrw mnb mlk mnk mmd) := hD
        exact en_v (w1 := (fun u : Int32 × (Nat → Int32) × (Nat → Int32) => (cM G ad mrf msl mst men mnw mdn mpw mwr u.1 mdr mtb mrc mnx mro mit u.2.1 u.2.2 mch mva mic mlb mrw mnb mlk mnk mmd))) (mrs, mve, upd mrb x3.toNatClampNeg x2) hx hb hr hlocks hK hP hD hS hres d_MO_keep_70
      · have hres := it_f c_56 hres
        have hok := hok.2 c_56
        refine lv_aload_n hx hb d_MO_keep_59 rfl (lv_at hl 0 rfl) ?_
        refine va_get (D := G.1) (ci := 6) (C := R_MO) (T := F_MO) (N := 26) hx hb ht in_MO hown hK hP 0 rfl rfl 12 (by decide) (ht _ kf_MO_24) (fun _ h9 => h9) rfl d_MO_keep_60 ?_
        refine lv_iload_n hx hb d_MO_keep_63 rfl (lv_at hl 3 rfl) ?_
        obtain ⟨hi_64, hok⟩ := hok
        refine va_iald hx hb hK hP 4 0 rfl rfl hi_64 d_MO_keep_64 ?_
        refine lv_goto (tgt := 69) hx hb d_MO_keep_65 (by decide) ?_
        have hi_69 := hok
        refine va_iast hx hb hK hP hD hS 4 0 rfl rfl hi_69 d_MO_keep_69 (fun H locs hP hD hS => ?_)
        have hP : va_P G.1 classes (cM G ad mrf msl mst men mnw mdn mpw mwr mrs mdr mtb mrc mnx mro mit mve (upd mrb x3.toNatClampNeg (mrb x3.toNatClampNeg)) mch mva mic mlb mrw mnb mlk mnk mmd) H := hP
        have hD : va_D A (cM G ad mrf msl mst men mnw mdn mpw mwr mrs mdr mtb mrc mnx mro mit mve (upd mrb x3.toNatClampNeg (mrb x3.toNatClampNeg)) mch mva mic mlb mrw mnb mlk mnk mmd) := hD
        exact en_v (w1 := (fun u : Int32 × (Nat → Int32) × (Nat → Int32) => (cM G ad mrf msl mst men mnw mdn mpw mwr u.1 mdr mtb mrc mnx mro mit u.2.1 u.2.2 mch mva mic mlb mrw mnb mlk mnk mmd))) (mrs, mve, upd mrb x3.toNatClampNeg (mrb x3.toNatClampNeg)) hx hb hr hlocks hK hP hD hS hres d_MO_keep_70
def f_MO_keep_2 : Nat → Int32 → Int32 → Int32 → Int32 → (Nat → Int32) → (Nat → Int32) → Int32 × (Nat → Int32) × (Nat → Int32)
  | 0, x1, x2, x3, mrs, mve, mrb => (mrs, mve, mrb)
  | n + 1, x1, x2, x3, mrs, mve, mrb => if mrs ≤ x3 then f_MO_keep_26 x1 x2 x3 mrs mve mrb else if x1 ≤ (mve x3.toNatClampNeg) then f_MO_keep_26 x1 x2 x3 mrs mve mrb else f_MO_keep_2 n x1 x2 (x3 + (1 : Int32)) mrs mve mrb
def ok_MO_keep_2 : Nat → Int32 → Int32 → Int32 → Int32 → (Nat → Int32) → (Nat → Int32) → Prop
  | 0, _, _, _, _, _, _ => False
  | n + 1, x1, x2, x3, mrs, mve, mrb => (mrs ≤ x3 → ok_MO_keep_26  x1 x2 x3 mrs mve mrb) ∧ (¬ mrs ≤ x3 → vp_in x3 4000 ∧ ((x1 ≤ (mve x3.toNatClampNeg) → ok_MO_keep_26  x1 x2 x3 mrs mve mrb) ∧ (¬ x1 ≤ (mve x3.toNatClampNeg) → ok_MO_keep_2  n x1 x2 (x3 + (1 : Int32)) mrs mve mrb)))
set_option maxHeartbeats 4000000 in
set_option maxRecDepth 100000 in
theorem w_MO_keep_2 {p : Program} {l : Launch} {e : Env} {s : State} {m : MethodId} {args : Array Value} {below : List Frame} {meth : Method} {c : Code} {A : Nat → Prop} {G : GG} {ad : Nat → Nat} {mrf : Int32} {msl : Int32} {mst : Int32} {men : Int32} {mnw : Int32} {mdn : Int32} {mpw : Int32} {mwr : Int32} {mdr : Int32} {mtb : Int32} {mrc : Int32} {mnx : Int32} {mro : (Nat → Int32)} {mit : (Nat → Int32)} {mch : (Nat → Int32)} {mva : (Nat → Int32)} {mic : (Nat → Int32)} {mlb : (Nat → Int32)} {mrw : (Nat → Int32)} {mnb : (Nat → Int32)} {mlk : (Nat → Int32)} {mnk : (Nat → Int32)} {mmd : (Nat → Int32)} {res : Int32 × (Nat → Int32) × (Nat → Int32)} (hC : Cx p l e s m args meth c y_MO_keep b_MO_keep 5 none "BookTreesModel" G A) : ∀ (n : Nat) (x1 : Int32) (x2 : Int32) (x3 : Int32) (mrs : Int32) (mve : (Nat → Int32)) (mrb : (Nat → Int32)) (H : Heap) (locs : List Loc) (ls : Array Slot), ok_MO_keep_2 n x1 x2 x3 mrs mve mrb → f_MO_keep_2 n x1 x2 x3 mrs mve mrb = res → va_P G.1 classes (cM G ad mrf msl mst men mnw mdn mpw mwr mrs mdr mtb mrc mnx mro mit mve mrb mch mva mic mlb mrw mnb mlk mnk mmd) H → va_D A (cM G ad mrf msl mst men mnw mdn mpw mwr mrs mdr mtb mrc mnx mro mit mve mrb mch mva mic mlb mrw mnb mlk mnk mmd) → va_S A s.heap H locs → lv_has ls 5 [(0, .ref (ad 0)), (1, .int x1), (2, .int x2), (3, .int x3)] → W p l e rm_MO_keep s m args below meth c H locs 0 0 (MQ below (va_Qv (eqV res) (Wb G A (fun u : Int32 × (Nat → Int32) × (Nat → Int32) => (cM G ad mrf msl mst men mnw mdn mpw mwr u.1 mdr mtb mrc mnx mro mit u.2.1 u.2.2 mch mva mic mlb mrw mnb mlk mnk mmd))) A) args s 0 0 A) (F0 m 2 ls []) := by
  obtain ⟨hx, hb, hr, hml, hown, hlocks, ht, hK, hA⟩ := id hC
  intro n
  induction n with
  | zero => intro x1 x2 x3 mrs mve mrb H locs ls hok; exact hok.elim
  | succ n ih =>
    intro x1 x2 x3 mrs mve mrb H locs ls hok hres hP hD hS hl
    rw [f_MO_keep_2] at hres
    rw [ok_MO_keep_2] at hok
    refine lv_iload_n hx hb d_MO_keep_2 rfl (lv_at hl 3 rfl) ?_
    refine lv_aload_n hx hb d_MO_keep_3 rfl (lv_at hl 0 rfl) ?_
    refine va_get (D := G.1) (ci := 6) (C := R_MO) (T := F_MO) (N := 26) hx hb ht in_MO hown hK hP 0 rfl rfl 10 (by decide) (ht _ kf_MO_116) (fun _ h9 => h9) rfl d_MO_keep_4 ?_
    refine lv_icmp_ge (tgt := 26) hx hb d_MO_keep_7 (by decide) (fun c_7 => ?_) (fun c_7 => ?_)
    · have hres := it_t c_7 hres
      have hok := hok.1 c_7
      exact w_MO_keep_26 hC x1 x2 x3 mrs mve mrb _ _ _ hok hres hP hD hS (lv_sub hl [0, 1, 2, 3] rfl)
    · have hres := it_f c_7 hres
      have hok := hok.2 c_7
      refine lv_aload_n hx hb d_MO_keep_10 rfl (lv_at hl 0 rfl) ?_
      refine va_get (D := G.1) (ci := 6) (C := R_MO) (T := F_MO) (N := 26) hx hb ht in_MO hown hK hP 0 rfl rfl 11 (by decide) (ht _ kf_MO_21) (fun _ h9 => h9) rfl d_MO_keep_11 ?_
      refine lv_iload_n hx hb d_MO_keep_14 rfl (lv_at hl 3 rfl) ?_
      obtain ⟨hi_15, hok⟩ := hok
      refine va_iald hx hb hK hP 3 0 rfl rfl hi_15 d_MO_keep_15 ?_
      refine lv_iload_n hx hb d_MO_keep_16 rfl (lv_at hl 1 rfl) ?_
      refine lv_icmp_ge (tgt := 26) hx hb d_MO_keep_17 (by decide) (fun c_17 => ?_) (fun c_17 => ?_)
      · have hres := it_t c_17 hres
        have hok := hok.1 c_17
        exact w_MO_keep_26 hC x1 x2 x3 mrs mve mrb _ _ _ hok hres hP hD hS (lv_sub hl [0, 1, 2, 3] rfl)
      · have hres := it_f c_17 hres
        have hok := hok.2 c_17
        refine lv_iinc (v := x3 + (1 : Int32)) (lv' := [(3, .int (x3 + (1 : Int32))), (0, .ref (ad 0)), (1, .int x1), (2, .int x2)]) hx hb d_MO_keep_20 hl (k := 3) rfl rfl (by decide) rfl (fun ls hl => ?_)
        refine lv_goto (tgt := 2) hx hb d_MO_keep_23 (by decide) ?_
        exact ih x1 x2 (x3 + (1 : Int32)) mrs mve mrb _ _ _ hok hres hP hD hS (lv_sub hl [1, 2, 3, 0] rfl)
def f_MO_keep (p0 : Int32) (p1 : Int32) (mrs : Int32) (mve : (Nat → Int32)) (mrb : (Nat → Int32)) : Int32 × (Nat → Int32) × (Nat → Int32) := f_MO_keep_2 1024 p0 p1 (0 : Int32) mrs mve mrb
def ok_MO_keep (p0 : Int32) (p1 : Int32) (mrs : Int32) (mve : (Nat → Int32)) (mrb : (Nat → Int32)) : Prop := ok_MO_keep_2  1024 p0 p1 (0 : Int32) mrs mve mrb
set_option maxHeartbeats 4000000 in
set_option maxRecDepth 100000 in
theorem c_MO_keep {l : Launch} {G : GG} {ad : Nat → Nat} {sz : Nat} {mrf : Int32} {msl : Int32} {mst : Int32} {men : Int32} {mnw : Int32} {mdn : Int32} {mpw : Int32} {mwr : Int32} {mrs : Int32} {mdr : Int32} {mtb : Int32} {mrc : Int32} {mnx : Int32} {mro : (Nat → Int32)} {mit : (Nat → Int32)} {mve : (Nat → Int32)} {mrb : (Nat → Int32)} {mch : (Nat → Int32)} {mva : (Nat → Int32)} {mic : (Nat → Int32)} {mlb : (Nat → Int32)} {mrw : (Nat → Int32)} {mnb : (Nat → Int32)} {mlk : (Nat → Int32)} {mnk : (Nat → Int32)} {mmd : (Nat → Int32)} {p0 : Int32} {p1 : Int32} (hok : ok_MO_keep p0 p1 mrs mve mrb) : CtV l y_MO_keep b_MO_keep 5 none rm_MO_keep G (cM G ad mrf msl mst men mnw mdn mpw mwr mrs mdr mtb mrc mnx mro mit mve mrb mch mva mic mlb mrw mnb mlk mnk mmd) sz [.ref (ad 0), .int p0, .int p1] (eqV (f_MO_keep p0 p1 mrs mve mrb)) (fun u : Int32 × (Nat → Int32) × (Nat → Int32) => (cM G ad mrf msl mst men mnw mdn mpw mwr u.1 mdr mtb mrc mnx mro mit u.2.1 u.2.2 mch mva mic mlb mrw mnb mlk mnk mmd)) := by
  generalize hres : f_MO_keep p0 p1 mrs mve mrb = res
  refine Met_of (Qc := fun A => va_Qv (eqV res) (Wb G A (fun u : Int32 × (Nat → Int32) × (Nat → Int32) => (cM G ad mrf msl mst men mnw mdn mpw mwr u.1 mdr mtb mrc mnx mro mit u.2.1 u.2.2 mch mva mic mlb mrw mnb mlk mnk mmd))) A) (by decide) (Nat.le_of_ble_eq_true rfl) ?_
  intro p e s m below meth c hadm hx hb hr hml hown hlocks ht hK A hA hP hD hS ls hl
  have hC : Cx p l e s m (([.ref (ad 0), .int p0, .int p1] : List Value)).toArray meth c y_MO_keep b_MO_keep 5 none "BookTreesModel" G A := ⟨hx, hb, hr, hml, hown, hlocks, ht, hK, hA⟩
  have hown : s.vm.findClass "BookTreesModel" = some m.cls := hown
  have hl : lv_has ls 5 [(0, .ref (ad 0)), (1, .int p0), (2, .int p1)] := hl
  rw [f_MO_keep] at hres
  rw [ok_MO_keep] at hok
  refine lv_iconst (v := (0 : Int32)) hx hb d_MO_keep_0 (by decide) ?_
  refine lv_istore_n (lv' := [(3, .int (0 : Int32)), (0, .ref (ad 0)), (1, .int p0), (2, .int p1)]) hx hb d_MO_keep_1 rfl hl (by decide) rfl (fun ls hl => ?_)
  exact w_MO_keep_2 hC 1024 p0 p1 (0 : Int32) mrs mve mrb _ _ _ hok hres hP hD hS (lv_sub hl [1, 2, 3, 0] rfl)
/-! ===== BookTreesModel.reopen()I ===== -/
abbrev rm_MO_reopen : Room := { frames := 3, cells := 0, slots := 0, locals := 74 }
def f_MO_reopen_150 : Nat → Int32 → Int32 → Int32 → Int32 → Int32 → Int32 → Int32 → Int32 → Int32 → Int32 → (Nat → Int32) → (Nat → Int32) → (Nat → Int32) → (Nat → Int32) → (Nat → Int32) → Int32 × Int32 × Int32 × Int32 × Int32 × Int32 × Int32 × Int32 × Int32 × (Nat → Int32) × (Nat → Int32) × (Nat → Int32)
  | 0, x1, mrf, msl, mst, men, mnw, mdn, mpw, mrs, mdr, mro, mit, mve, mrb, mch => (0, (mrf, mst, men, mnw, mdn, mpw, mrs, mdr, mve, mrb, mch))
  | n + 1, x1, mrf, msl, mst, men, mnw, mdn, mpw, mrs, mdr, mro, mit, mve, mrb, mch => if msl ≤ x1 then (mnw, (mrf, mst, men, mnw, mdn, mpw, mrs, mdr, mve, mrb, mch)) else bindc (f_MO_isWhole x1 msl mro mit) (fun z_165 => if z_165.1 = 0 then f_MO_reopen_150 n (x1 + (1 : Int32)) mrf msl mst men mnw mdn mpw mrs mdr mro mit mve mrb mch else bindc (f_MO_number (((64 : Int32) * x1) + (40 : Int32)) mro) (fun z_177 => bindc (f_MO_isUsed z_177.1 mst men) (fun z_180 => if z_180.1 = 0 then f_MO_reopen_150 n (x1 + (1 : Int32)) mrf msl mst men mnw mdn mpw mrs mdr mro mit mve mrb mch else bindc (f_MO_number (((64 : Int32) * x1) + (4 : Int32)) mro) (fun z_191 => bindc (f_MO_number (((64 : Int32) * x1) + (40 : Int32)) mro) (fun z_199 => bindc (f_MO_keep z_191.1 z_199.1 mrs mve mrb) (fun z_202 => f_MO_reopen_150 n (x1 + (1 : Int32)) mrf msl mst men mnw mdn mpw z_202.1 mdr mro mit z_202.2.1 z_202.2.2 mch))))))
def ok_MO_reopen_150 : Nat → Int32 → Int32 → Int32 → Int32 → Int32 → Int32 → Int32 → Int32 → Int32 → Int32 → (Nat → Int32) → (Nat → Int32) → (Nat → Int32) → (Nat → Int32) → (Nat → Int32) → Prop
  | 0, _, _, _, _, _, _, _, _, _, _, _, _, _, _, _ => False
  | n + 1, x1, mrf, msl, mst, men, mnw, mdn, mpw, mrs, mdr, mro, mit, mve, mrb, mch => (msl ≤ x1 → True) ∧ (¬ msl ≤ x1 → ok_MO_isWhole x1 msl mro mit ∧ bindp (f_MO_isWhole x1 msl mro mit) (fun z_165 => (z_165.1 = 0 → ok_MO_reopen_150  n (x1 + (1 : Int32)) mrf msl mst men mnw mdn mpw mrs mdr mro mit mve mrb mch) ∧ (¬ z_165.1 = 0 → ok_MO_number (((64 : Int32) * x1) + (40 : Int32)) mro ∧ bindp (f_MO_number (((64 : Int32) * x1) + (40 : Int32)) mro) (fun z_177 => bindp (f_MO_isUsed z_177.1 mst men) (fun z_180 => (z_180.1 = 0 → ok_MO_reopen_150  n (x1 + (1 : Int32)) mrf msl mst men mnw mdn mpw mrs mdr mro mit mve mrb mch) ∧ (¬ z_180.1 = 0 → ok_MO_number (((64 : Int32) * x1) + (4 : Int32)) mro ∧ bindp (f_MO_number (((64 : Int32) * x1) + (4 : Int32)) mro) (fun z_191 => ok_MO_number (((64 : Int32) * x1) + (40 : Int32)) mro ∧ bindp (f_MO_number (((64 : Int32) * x1) + (40 : Int32)) mro) (fun z_199 => ok_MO_keep z_191.1 z_199.1 mrs mve mrb ∧ bindp (f_MO_keep z_191.1 z_199.1 mrs mve mrb) (fun z_202 => ok_MO_reopen_150  n (x1 + (1 : Int32)) mrf msl mst men mnw mdn mpw z_202.1 mdr mro mit z_202.2.1 z_202.2.2 mch)))))))))
set_option maxHeartbeats 4000000 in
set_option maxRecDepth 100000 in
theorem w_MO_reopen_150 {p : Program} {l : Launch} {e : Env} {s : State} {m : MethodId} {args : Array Value} {below : List Frame} {meth : Method} {c : Code} {A : Nat → Prop} {G : GG} {ad : Nat → Nat} {msl : Int32} {mwr : Int32} {mtb : Int32} {mrc : Int32} {mnx : Int32} {mro : (Nat → Int32)} {mit : (Nat → Int32)} {mva : (Nat → Int32)} {mic : (Nat → Int32)} {mlb : (Nat → Int32)} {mrw : (Nat → Int32)} {mnb : (Nat → Int32)} {mlk : (Nat → Int32)} {mnk : (Nat → Int32)} {mmd : (Nat → Int32)} {res : Int32 × Int32 × Int32 × Int32 × Int32 × Int32 × Int32 × Int32 × Int32 × (Nat → Int32) × (Nat → Int32) × (Nat → Int32)} (hC : Cx p l e s m args meth c y_MO_reopen b_MO_reopen 3 (some .int) "BookTreesModel" G A) : ∀ (n : Nat) (x1 : Int32) (mrf : Int32) (mst : Int32) (men : Int32) (mnw : Int32) (mdn : Int32) (mpw : Int32) (mrs : Int32) (mdr : Int32) (mve : (Nat → Int32)) (mrb : (Nat → Int32)) (mch : (Nat → Int32)) (H : Heap) (locs : List Loc) (ls : Array Slot), ok_MO_reopen_150 n x1 mrf msl mst men mnw mdn mpw mrs mdr mro mit mve mrb mch → f_MO_reopen_150 n x1 mrf msl mst men mnw mdn mpw mrs mdr mro mit mve mrb mch = res → va_P G.1 classes (cM G ad mrf msl mst men mnw mdn mpw mwr mrs mdr mtb mrc mnx mro mit mve mrb mch mva mic mlb mrw mnb mlk mnk mmd) H → va_D A (cM G ad mrf msl mst men mnw mdn mpw mwr mrs mdr mtb mrc mnx mro mit mve mrb mch mva mic mlb mrw mnb mlk mnk mmd) → va_S A s.heap H locs → lv_has ls 3 [(0, .ref (ad 0)), (1, .int x1)] → W p l e rm_MO_reopen s m args below meth c H locs 0 0 (MQ below (va_Qi (eqP res) (Wb G A (fun u : Int32 × Int32 × Int32 × Int32 × Int32 × Int32 × Int32 × Int32 × (Nat → Int32) × (Nat → Int32) × (Nat → Int32) => (cM G ad u.1 msl u.2.1 u.2.2.1 u.2.2.2.1 u.2.2.2.2.1 u.2.2.2.2.2.1 mwr u.2.2.2.2.2.2.1 u.2.2.2.2.2.2.2.1 mtb mrc mnx mro mit u.2.2.2.2.2.2.2.2.1 u.2.2.2.2.2.2.2.2.2.1 u.2.2.2.2.2.2.2.2.2.2 mva mic mlb mrw mnb mlk mnk mmd))) A) args s 0 0 A) (F0 m 150 ls []) := by
  obtain ⟨hx, hb, hr, hml, hown, hlocks, ht, hK, hA⟩ := id hC
  intro n
  induction n with
  | zero => intro x1 mrf mst men mnw mdn mpw mrs mdr mve mrb mch H locs ls hok; exact hok.elim
  | succ n ih =>
    intro x1 mrf mst men mnw mdn mpw mrs mdr mve mrb mch H locs ls hok hres hP hD hS hl
    rw [f_MO_reopen_150] at hres
    rw [ok_MO_reopen_150] at hok
    refine lv_iload_n hx hb d_MO_reopen_150 rfl (lv_at hl 1 rfl) ?_
    refine lv_aload_n hx hb d_MO_reopen_151 rfl (lv_at hl 0 rfl) ?_
    refine va_get (D := G.1) (ci := 6) (C := R_MO) (T := F_MO) (N := 26) hx hb ht in_MO hown hK hP 0 rfl rfl 1 (by decide) (ht _ kf_MO_54) (fun _ h9 => h9) rfl d_MO_reopen_152 ?_
    refine lv_icmp_ge (tgt := 211) hx hb d_MO_reopen_155 (by decide) (fun c_155 => ?_) (fun c_155 => ?_)
    · have hres := it_t c_155 hres
      refine lv_aload_n hx hb d_MO_reopen_211 rfl (lv_at hl 0 rfl) ?_
      refine va_get (D := G.1) (ci := 6) (C := R_MO) (T := F_MO) (N := 26) hx hb ht in_MO hown hK hP 0 rfl rfl 6 (by decide) (ht _ kf_MO_137) (fun _ h9 => h9) rfl d_MO_reopen_212 ?_
      exact en_i (w1 := (fun u : Int32 × Int32 × Int32 × Int32 × Int32 × Int32 × Int32 × Int32 × (Nat → Int32) × (Nat → Int32) × (Nat → Int32) => (cM G ad u.1 msl u.2.1 u.2.2.1 u.2.2.2.1 u.2.2.2.2.1 u.2.2.2.2.2.1 mwr u.2.2.2.2.2.2.1 u.2.2.2.2.2.2.2.1 mtb mrc mnx mro mit u.2.2.2.2.2.2.2.2.1 u.2.2.2.2.2.2.2.2.2.1 u.2.2.2.2.2.2.2.2.2.2 mva mic mlb mrw mnb mlk mnk mmd))) (mrf, mst, men, mnw, mdn, mpw, mrs, mdr, mve, mrb, mch) hx hb hr hlocks hK hP hD hS hres d_MO_reopen_215
    · have hres := it_f c_155 hres
      have hok := hok.2 c_155
      refine lv_bipush (v := (64 : Int32)) hx hb d_MO_reopen_158 (by decide) ?_
      refine lv_iload_n hx hb d_MO_reopen_160 rfl (lv_at hl 1 rfl) ?_
      refine lv_imul hx hb d_MO_reopen_161 ?_
      refine lv_istore_n (lv' := [(2, .int ((64 : Int32) * x1)), (0, .ref (ad 0)), (1, .int x1)]) hx hb d_MO_reopen_162 rfl hl (by decide) rfl (fun ls hl => ?_)
      refine lv_aload_n hx hb d_MO_reopen_163 rfl (lv_at hl 1 rfl) ?_
      refine lv_iload_n hx hb d_MO_reopen_164 rfl (lv_at hl 2 rfl) ?_
      obtain ⟨hk_165, hok⟩ := hok
      refine go_iz (run_V hx hb hml hown ht hK hP hD (c_MO_isWhole hk_165) (cw_V ht km_MO_211 ki_MO_isWhole ks_MO_isWhole ini_MO kd_MO_isWhole kh_MO_isWhole ⟨Nat.le_of_ble_eq_true rfl, Nat.le_of_ble_eq_true rfl⟩ rfl rfl) (q0 := 0) (ci := 6) (As := [.int x1]) (rest := []) rfl rfl rfl hl.1 rfl (Nat.le_of_ble_eq_true rfl) d_MO_reopen_165 ⟨Nat.zero_le _, Nat.zero_le _⟩) hD hS hA (fun z_165 H locs hz_165 hP hD hS => ?_)
      have hres := bindc_eq hz_165 hres
      have hok := bindp_eq hz_165 hok
      have hP : va_P G.1 classes (cM G ad mrf msl mst men mnw mdn mpw mwr mrs mdr mtb mrc mnx mro mit mve mrb mch mva mic mlb mrw mnb mlk mnk mmd) H := hP
      have hD : va_D A (cM G ad mrf msl mst men mnw mdn mpw mwr mrs mdr mtb mrc mnx mro mit mve mrb mch mva mic mlb mrw mnb mlk mnk mmd) := hD
      refine lv_if_eq (tgt := 205) hx hb d_MO_reopen_168 (by decide) (fun c_168 => ?_) (fun c_168 => ?_)
      · have hres := it_t c_168 hres
        have hok := hok.1 c_168
        refine lv_iinc (v := x1 + (1 : Int32)) (lv' := [(1, .int (x1 + (1 : Int32))), (2, .int ((64 : Int32) * x1)), (0, .ref (ad 0))]) hx hb d_MO_reopen_205 hl (k := 2) rfl rfl (by decide) rfl (fun ls hl => ?_)
        refine lv_goto (tgt := 150) hx hb d_MO_reopen_208 (by decide) ?_
        exact ih (x1 + (1 : Int32)) mrf mst men mnw mdn mpw mrs mdr mve mrb mch _ _ _ hok hres hP hD hS (lv_sub hl [2, 0] rfl)
      · have hres := it_f c_168 hres
        have hok := hok.2 c_168
        refine lv_aload_n hx hb d_MO_reopen_171 rfl (lv_at hl 1 rfl) ?_
        refine lv_aload_n hx hb d_MO_reopen_172 rfl (lv_at hl 1 rfl) ?_
        refine lv_iload_n hx hb d_MO_reopen_173 rfl (lv_at hl 0 rfl) ?_
        refine lv_bipush (v := (40 : Int32)) hx hb d_MO_reopen_174 (by decide) ?_
        refine lv_iadd hx hb d_MO_reopen_176 ?_
        obtain ⟨hk_177, hok⟩ := hok
        refine go_iz (run_V hx hb hml hown ht hK hP hD (c_MO_number hk_177) (cw_V ht km_MO_89 ki_MO_number ks_MO_number ini_MO kd_MO_number kh_MO_number ⟨Nat.le_of_ble_eq_true rfl, Nat.le_of_ble_eq_true rfl⟩ rfl rfl) (q0 := 0) (ci := 6) (As := [.int (((64 : Int32) * x1) + (40 : Int32))]) (rest := [.ref (ad 0)]) rfl rfl rfl hl.1 rfl (Nat.le_of_ble_eq_true rfl) d_MO_reopen_177 ⟨Nat.zero_le _, Nat.zero_le _⟩) hD hS hA (fun z_177 H locs hz_177 hP hD hS => ?_)
        have hres := bindc_eq hz_177 hres
        have hok := bindp_eq hz_177 hok
        have hP : va_P G.1 classes (cM G ad mrf msl mst men mnw mdn mpw mwr mrs mdr mtb mrc mnx mro mit mve mrb mch mva mic mlb mrw mnb mlk mnk mmd) H := hP
        have hD : va_D A (cM G ad mrf msl mst men mnw mdn mpw mwr mrs mdr mtb mrc mnx mro mit mve mrb mch mva mic mlb mrw mnb mlk mnk mmd) := hD
        refine go_iz (run_V hx hb hml hown ht hK hP hD (c_MO_isUsed) (cw_V ht km_MO_78 ki_MO_isUsed ks_MO_isUsed ini_MO kd_MO_isUsed kh_MO_isUsed ⟨Nat.le_of_ble_eq_true rfl, Nat.le_of_ble_eq_true rfl⟩ rfl rfl) (q0 := 0) (ci := 6) (As := [.int z_177.1]) (rest := []) rfl rfl rfl hl.1 rfl (Nat.le_of_ble_eq_true rfl) d_MO_reopen_180 ⟨Nat.zero_le _, Nat.zero_le _⟩) hD hS hA (fun z_180 H locs hz_180 hP hD hS => ?_)
        have hres := bindc_eq hz_180 hres
        have hok := bindp_eq hz_180 hok
        have hP : va_P G.1 classes (cM G ad mrf msl mst men mnw mdn mpw mwr mrs mdr mtb mrc mnx mro mit mve mrb mch mva mic mlb mrw mnb mlk mnk mmd) H := hP
        have hD : va_D A (cM G ad mrf msl mst men mnw mdn mpw mwr mrs mdr mtb mrc mnx mro mit mve mrb mch mva mic mlb mrw mnb mlk mnk mmd) := hD
        refine lv_if_eq (tgt := 205) hx hb d_MO_reopen_183 (by decide) (fun c_183 => ?_) (fun c_183 => ?_)
        · have hres := it_t c_183 hres
          have hok := hok.1 c_183
          refine lv_iinc (v := x1 + (1 : Int32)) (lv' := [(1, .int (x1 + (1 : Int32))), (2, .int ((64 : Int32) * x1)), (0, .ref (ad 0))]) hx hb d_MO_reopen_205 hl (k := 2) rfl rfl (by decide) rfl (fun ls hl => ?_)
          refine lv_goto (tgt := 150) hx hb d_MO_reopen_208 (by decide) ?_
          exact ih (x1 + (1 : Int32)) mrf mst men mnw mdn mpw mrs mdr mve mrb mch _ _ _ hok hres hP hD hS (lv_sub hl [2, 0] rfl)
        · have hres := it_f c_183 hres
          have hok := hok.2 c_183
          refine lv_aload_n hx hb d_MO_reopen_186 rfl (lv_at hl 1 rfl) ?_
          refine lv_aload_n hx hb d_MO_reopen_187 rfl (lv_at hl 1 rfl) ?_
          refine lv_iload_n hx hb d_MO_reopen_188 rfl (lv_at hl 0 rfl) ?_
          refine lv_iconst (v := (4 : Int32)) hx hb d_MO_reopen_189 (by decide) ?_
          refine lv_iadd hx hb d_MO_reopen_190 ?_
          obtain ⟨hk_191, hok⟩ := hok
          refine go_iz (run_V hx hb hml hown ht hK hP hD (c_MO_number hk_191) (cw_V ht km_MO_89 ki_MO_number ks_MO_number ini_MO kd_MO_number kh_MO_number ⟨Nat.le_of_ble_eq_true rfl, Nat.le_of_ble_eq_true rfl⟩ rfl rfl) (q0 := 0) (ci := 6) (As := [.int (((64 : Int32) * x1) + (4 : Int32))]) (rest := [.ref (ad 0)]) rfl rfl rfl hl.1 rfl (Nat.le_of_ble_eq_true rfl) d_MO_reopen_191 ⟨Nat.zero_le _, Nat.zero_le _⟩) hD hS hA (fun z_191 H locs hz_191 hP hD hS => ?_)
          have hres := bindc_eq hz_191 hres
          have hok := bindp_eq hz_191 hok
          have hP : va_P G.1 classes (cM G ad mrf msl mst men mnw mdn mpw mwr mrs mdr mtb mrc mnx mro mit mve mrb mch mva mic mlb mrw mnb mlk mnk mmd) H := hP
          have hD : va_D A (cM G ad mrf msl mst men mnw mdn mpw mwr mrs mdr mtb mrc mnx mro mit mve mrb mch mva mic mlb mrw mnb mlk mnk mmd) := hD
          refine lv_aload_n hx hb d_MO_reopen_194 rfl (lv_at hl 1 rfl) ?_
          refine lv_iload_n hx hb d_MO_reopen_195 rfl (lv_at hl 0 rfl) ?_
          refine lv_bipush (v := (40 : Int32)) hx hb d_MO_reopen_196 (by decide) ?_
          refine lv_iadd hx hb d_MO_reopen_198 ?_
          obtain ⟨hk_199, hok⟩ := hok
          refine go_iz (run_V hx hb hml hown ht hK hP hD (c_MO_number hk_199) (cw_V ht km_MO_89 ki_MO_number ks_MO_number ini_MO kd_MO_number kh_MO_number ⟨Nat.le_of_ble_eq_true rfl, Nat.le_of_ble_eq_true rfl⟩ rfl rfl) (q0 := 0) (ci := 6) (As := [.int (((64 : Int32) * x1) + (40 : Int32))]) (rest := [.int z_191.1, .ref (ad 0)]) rfl rfl rfl hl.1 rfl (Nat.le_of_ble_eq_true rfl) d_MO_reopen_199 ⟨Nat.zero_le _, Nat.zero_le _⟩) hD hS hA (fun z_199 H locs hz_199 hP hD hS => ?_)
          have hres := bindc_eq hz_199 hres
          have hok := bindp_eq hz_199 hok
          have hP : va_P G.1 classes (cM G ad mrf msl mst men mnw mdn mpw mwr mrs mdr mtb mrc mnx mro mit mve mrb mch mva mic mlb mrw mnb mlk mnk mmd) H := hP
          have hD : va_D A (cM G ad mrf msl mst men mnw mdn mpw mwr mrs mdr mtb mrc mnx mro mit mve mrb mch mva mic mlb mrw mnb mlk mnk mmd) := hD
          obtain ⟨hk_202, hok⟩ := hok
          refine go_vz (run_V hx hb hml hown ht hK hP hD (c_MO_keep hk_202) (cw_V ht km_MO_214 ki_MO_keep ks_MO_keep ini_MO kd_MO_keep kh_MO_keep ⟨Nat.le_of_ble_eq_true rfl, Nat.le_of_ble_eq_true rfl⟩ rfl rfl) (q0 := 0) (ci := 6) (As := [.int z_191.1, .int z_199.1]) (rest := []) rfl rfl rfl hl.1 rfl (Nat.le_of_ble_eq_true rfl) d_MO_reopen_202 ⟨Nat.zero_le _, Nat.zero_le _⟩) hD hS hA (fun z_202 H locs hz_202 hP hD hS => ?_)
          have hres := bindc_eq hz_202 hres
          have hok := bindp_eq hz_202 hok
          have hP : va_P G.1 classes (cM G ad mrf msl mst men mnw mdn mpw mwr z_202.1 mdr mtb mrc mnx mro mit z_202.2.1 z_202.2.2 mch mva mic mlb mrw mnb mlk mnk mmd) H := hP
          have hD : va_D A (cM G ad mrf msl mst men mnw mdn mpw mwr z_202.1 mdr mtb mrc mnx mro mit z_202.2.1 z_202.2.2 mch mva mic mlb mrw mnb mlk mnk mmd) := hD
          refine lv_iinc (v := x1 + (1 : Int32)) (lv' := [(1, .int (x1 + (1 : Int32))), (2, .int ((64 : Int32) * x1)), (0, .ref (ad 0))]) hx hb d_MO_reopen_205 hl (k := 2) rfl rfl (by decide) rfl (fun ls hl => ?_)
          refine lv_goto (tgt := 150) hx hb d_MO_reopen_208 (by decide) ?_
          exact ih (x1 + (1 : Int32)) mrf mst men mnw mdn mpw z_202.1 mdr z_202.2.1 z_202.2.2 mch _ _ _ hok hres hP hD hS (lv_sub hl [2, 0] rfl)
def f_MO_reopen_41 : Nat → Int32 → Int32 → Int32 → Int32 → Int32 → Int32 → Int32 → Int32 → Int32 → Int32 → (Nat → Int32) → (Nat → Int32) → (Nat → Int32) → (Nat → Int32) → (Nat → Int32) → Int32 × Int32 × Int32 × Int32 × Int32 × Int32 × Int32 × Int32 × Int32 × (Nat → Int32) × (Nat → Int32) × (Nat → Int32)
  | 0, x1, mrf, msl, mst, men, mnw, mdn, mpw, mrs, mdr, mro, mit, mve, mrb, mch => (0, (mrf, mst, men, mnw, mdn, mpw, mrs, mdr, mve, mrb, mch))
  | n + 1, x1, mrf, msl, mst, men, mnw, mdn, mpw, mrs, mdr, mro, mit, mve, mrb, mch => if msl ≤ x1 then f_MO_reopen_150 1024 (0 : Int32) mrf msl mst men mnw mdn mpw mrs mdr mro mit mve mrb mch else bindc (f_MO_isWhole x1 msl mro mit) (fun z_56 => if z_56.1 = 0 then f_MO_reopen_41 n (x1 + (1 : Int32)) mrf msl mst men mnw mdn mpw mrs mdr mro mit mve mrb mch else bindc (f_MO_number (((64 : Int32) * x1) + (4 : Int32)) mro) (fun z_66 => if mnw < z_66.1 then bindc (f_MO_number (((64 : Int32) * x1) + (4 : Int32)) mro) (fun z_110 => bindc (f_MO_number (((64 : Int32) * x1) + (40 : Int32)) mro) (fun z_122 => bindc (f_MO_number (((64 : Int32) * x1) + (16 : Int32)) mro) (fun z_136 => f_MO_reopen_41 n (x1 + (1 : Int32)) mrf msl z_136.1 (z_122.1 + (1 : Int32)) z_110.1 mdn mpw mrs mdr mro mit mve mrb mch))) else bindc (f_MO_number (((64 : Int32) * x1) + (4 : Int32)) mro) (fun z_80 => if z_80.1 = mnw then bindc (f_MO_number (((64 : Int32) * x1) + (40 : Int32)) mro) (fun z_95 => if z_95.1 < men then f_MO_reopen_41 n (x1 + (1 : Int32)) mrf msl mst men mnw mdn mpw mrs mdr mro mit mve mrb mch else bindc (f_MO_number (((64 : Int32) * x1) + (4 : Int32)) mro) (fun z_110 => bindc (f_MO_number (((64 : Int32) * x1) + (40 : Int32)) mro) (fun z_122 => bindc (f_MO_number (((64 : Int32) * x1) + (16 : Int32)) mro) (fun z_136 => f_MO_reopen_41 n (x1 + (1 : Int32)) mrf msl z_136.1 (z_122.1 + (1 : Int32)) z_110.1 mdn mpw mrs mdr mro mit mve mrb mch)))) else f_MO_reopen_41 n (x1 + (1 : Int32)) mrf msl mst men mnw mdn mpw mrs mdr mro mit mve mrb mch)))
def ok_MO_reopen_41 : Nat → Int32 → Int32 → Int32 → Int32 → Int32 → Int32 → Int32 → Int32 → Int32 → Int32 → (Nat → Int32) → (Nat → Int32) → (Nat → Int32) → (Nat → Int32) → (Nat → Int32) → Prop
  | 0, _, _, _, _, _, _, _, _, _, _, _, _, _, _, _ => False
  | n + 1, x1, mrf, msl, mst, men, mnw, mdn, mpw, mrs, mdr, mro, mit, mve, mrb, mch => (msl ≤ x1 → ok_MO_reopen_150  1024 (0 : Int32) mrf msl mst men mnw mdn mpw mrs mdr mro mit mve mrb mch) ∧ (¬ msl ≤ x1 → ok_MO_isWhole x1 msl mro mit ∧ bindp (f_MO_isWhole x1 msl mro mit) (fun z_56 => (z_56.1 = 0 → ok_MO_reopen_41  n (x1 + (1 : Int32)) mrf msl mst men mnw mdn mpw mrs mdr mro mit mve mrb mch) ∧ (¬ z_56.1 = 0 → ok_MO_number (((64 : Int32) * x1) + (4 : Int32)) mro ∧ bindp (f_MO_number (((64 : Int32) * x1) + (4 : Int32)) mro) (fun z_66 => (mnw < z_66.1 → ok_MO_number (((64 : Int32) * x1) + (4 : Int32)) mro ∧ bindp (f_MO_number (((64 : Int32) * x1) + (4 : Int32)) mro) (fun z_110 => ok_MO_number (((64 : Int32) * x1) + (40 : Int32)) mro ∧ bindp (f_MO_number (((64 : Int32) * x1) + (40 : Int32)) mro) (fun z_122 => ok_MO_number (((64 : Int32) * x1) + (16 : Int32)) mro ∧ bindp (f_MO_number (((64 : Int32) * x1) + (16 : Int32)) mro) (fun z_136 => ok_MO_reopen_41  n (x1 + (1 : Int32)) mrf msl z_136.1 (z_122.1 + (1 : Int32)) z_110.1 mdn mpw mrs mdr mro mit mve mrb mch)))) ∧ (¬ mnw < z_66.1 → ok_MO_number (((64 : Int32) * x1) + (4 : Int32)) mro ∧ bindp (f_MO_number (((64 : Int32) * x1) + (4 : Int32)) mro) (fun z_80 => (z_80.1 = mnw → ok_MO_number (((64 : Int32) * x1) + (40 : Int32)) mro ∧ bindp (f_MO_number (((64 : Int32) * x1) + (40 : Int32)) mro) (fun z_95 => (z_95.1 < men → ok_MO_reopen_41  n (x1 + (1 : Int32)) mrf msl mst men mnw mdn mpw mrs mdr mro mit mve mrb mch) ∧ (¬ z_95.1 < men → ok_MO_number (((64 : Int32) * x1) + (4 : Int32)) mro ∧ bindp (f_MO_number (((64 : Int32) * x1) + (4 : Int32)) mro) (fun z_110 => ok_MO_number (((64 : Int32) * x1) + (40 : Int32)) mro ∧ bindp (f_MO_number (((64 : Int32) * x1) + (40 : Int32)) mro) (fun z_122 => ok_MO_number (((64 : Int32) * x1) + (16 : Int32)) mro ∧ bindp (f_MO_number (((64 : Int32) * x1) + (16 : Int32)) mro) (fun z_136 => ok_MO_reopen_41  n (x1 + (1 : Int32)) mrf msl z_136.1 (z_122.1 + (1 : Int32)) z_110.1 mdn mpw mrs mdr mro mit mve mrb mch)))))) ∧ (¬ z_80.1 = mnw → ok_MO_reopen_41  n (x1 + (1 : Int32)) mrf msl mst men mnw mdn mpw mrs mdr mro mit mve mrb mch)))))))
set_option maxHeartbeats 4000000 in
set_option maxRecDepth 100000 in
theorem w_MO_reopen_41 {p : Program} {l : Launch} {e : Env} {s : State} {m : MethodId} {args : Array Value} {below : List Frame} {meth : Method} {c : Code} {A : Nat → Prop} {G : GG} {ad : Nat → Nat} {msl : Int32} {mwr : Int32} {mtb : Int32} {mrc : Int32} {mnx : Int32} {mro : (Nat → Int32)} {mit : (Nat → Int32)} {mva : (Nat → Int32)} {mic : (Nat → Int32)} {mlb : (Nat → Int32)} {mrw : (Nat → Int32)} {mnb : (Nat → Int32)} {mlk : (Nat → Int32)} {mnk : (Nat → Int32)} {mmd : (Nat → Int32)} {res : Int32 × Int32 × Int32 × Int32 × Int32 × Int32 × Int32 × Int32 × Int32 × (Nat → Int32) × (Nat → Int32) × (Nat → Int32)} (hC : Cx p l e s m args meth c y_MO_reopen b_MO_reopen 3 (some .int) "BookTreesModel" G A) : ∀ (n : Nat) (x1 : Int32) (mrf : Int32) (mst : Int32) (men : Int32) (mnw : Int32) (mdn : Int32) (mpw : Int32) (mrs : Int32) (mdr : Int32) (mve : (Nat → Int32)) (mrb : (Nat → Int32)) (mch : (Nat → Int32)) (H : Heap) (locs : List Loc) (ls : Array Slot), ok_MO_reopen_41 n x1 mrf msl mst men mnw mdn mpw mrs mdr mro mit mve mrb mch → f_MO_reopen_41 n x1 mrf msl mst men mnw mdn mpw mrs mdr mro mit mve mrb mch = res → va_P G.1 classes (cM G ad mrf msl mst men mnw mdn mpw mwr mrs mdr mtb mrc mnx mro mit mve mrb mch mva mic mlb mrw mnb mlk mnk mmd) H → va_D A (cM G ad mrf msl mst men mnw mdn mpw mwr mrs mdr mtb mrc mnx mro mit mve mrb mch mva mic mlb mrw mnb mlk mnk mmd) → va_S A s.heap H locs → lv_has ls 3 [(0, .ref (ad 0)), (1, .int x1)] → W p l e rm_MO_reopen s m args below meth c H locs 0 0 (MQ below (va_Qi (eqP res) (Wb G A (fun u : Int32 × Int32 × Int32 × Int32 × Int32 × Int32 × Int32 × Int32 × (Nat → Int32) × (Nat → Int32) × (Nat → Int32) => (cM G ad u.1 msl u.2.1 u.2.2.1 u.2.2.2.1 u.2.2.2.2.1 u.2.2.2.2.2.1 mwr u.2.2.2.2.2.2.1 u.2.2.2.2.2.2.2.1 mtb mrc mnx mro mit u.2.2.2.2.2.2.2.2.1 u.2.2.2.2.2.2.2.2.2.1 u.2.2.2.2.2.2.2.2.2.2 mva mic mlb mrw mnb mlk mnk mmd))) A) args s 0 0 A) (F0 m 41 ls []) := by
  obtain ⟨hx, hb, hr, hml, hown, hlocks, ht, hK, hA⟩ := id hC
  intro n
  induction n with
  | zero => intro x1 mrf mst men mnw mdn mpw mrs mdr mve mrb mch H locs ls hok; exact hok.elim
  | succ n ih =>
    intro x1 mrf mst men mnw mdn mpw mrs mdr mve mrb mch H locs ls hok hres hP hD hS hl
    rw [f_MO_reopen_41] at hres
    rw [ok_MO_reopen_41] at hok
    refine lv_iload_n hx hb d_MO_reopen_41 rfl (lv_at hl 1 rfl) ?_
    refine lv_aload_n hx hb d_MO_reopen_42 rfl (lv_at hl 0 rfl) ?_
    refine va_get (D := G.1) (ci := 6) (C := R_MO) (T := F_MO) (N := 26) hx hb ht in_MO hown hK hP 0 rfl rfl 1 (by decide) (ht _ kf_MO_54) (fun _ h9 => h9) rfl d_MO_reopen_43 ?_
    refine lv_icmp_ge (tgt := 148) hx hb d_MO_reopen_46 (by decide) (fun c_46 => ?_) (fun c_46 => ?_)
    · have hres := it_t c_46 hres
      have hok := hok.1 c_46
      refine lv_iconst (v := (0 : Int32)) hx hb d_MO_reopen_148 (by decide) ?_
      refine lv_istore_n (lv' := [(1, .int (0 : Int32)), (0, .ref (ad 0))]) hx hb d_MO_reopen_149 rfl hl (by decide) rfl (fun ls hl => ?_)
      exact w_MO_reopen_150 hC 1024 (0 : Int32) mrf mst men mnw mdn mpw mrs mdr mve mrb mch _ _ _ hok hres hP hD hS (lv_sub hl [1, 0] rfl)
    · have hres := it_f c_46 hres
      have hok := hok.2 c_46
      refine lv_bipush (v := (64 : Int32)) hx hb d_MO_reopen_49 (by decide) ?_
      refine lv_iload_n hx hb d_MO_reopen_51 rfl (lv_at hl 1 rfl) ?_
      refine lv_imul hx hb d_MO_reopen_52 ?_
      refine lv_istore_n (lv' := [(2, .int ((64 : Int32) * x1)), (0, .ref (ad 0)), (1, .int x1)]) hx hb d_MO_reopen_53 rfl hl (by decide) rfl (fun ls hl => ?_)
      refine lv_aload_n hx hb d_MO_reopen_54 rfl (lv_at hl 1 rfl) ?_
      refine lv_iload_n hx hb d_MO_reopen_55 rfl (lv_at hl 2 rfl) ?_
      obtain ⟨hk_56, hok⟩ := hok
      refine go_iz (run_V hx hb hml hown ht hK hP hD (c_MO_isWhole hk_56) (cw_V ht km_MO_211 ki_MO_isWhole ks_MO_isWhole ini_MO kd_MO_isWhole kh_MO_isWhole ⟨Nat.le_of_ble_eq_true rfl, Nat.le_of_ble_eq_true rfl⟩ rfl rfl) (q0 := 0) (ci := 6) (As := [.int x1]) (rest := []) rfl rfl rfl hl.1 rfl (Nat.le_of_ble_eq_true rfl) d_MO_reopen_56 ⟨Nat.zero_le _, Nat.zero_le _⟩) hD hS hA (fun z_56 H locs hz_56 hP hD hS => ?_)
      have hres := bindc_eq hz_56 hres
      have hok := bindp_eq hz_56 hok
      have hP : va_P G.1 classes (cM G ad mrf msl mst men mnw mdn mpw mwr mrs mdr mtb mrc mnx mro mit mve mrb mch mva mic mlb mrw mnb mlk mnk mmd) H := hP
      have hD : va_D A (cM G ad mrf msl mst men mnw mdn mpw mwr mrs mdr mtb mrc mnx mro mit mve mrb mch mva mic mlb mrw mnb mlk mnk mmd) := hD
      refine lv_if_eq (tgt := 142) hx hb d_MO_reopen_59 (by decide) (fun c_59 => ?_) (fun c_59 => ?_)
      · have hres := it_t c_59 hres
        have hok := hok.1 c_59
        refine lv_iinc (v := x1 + (1 : Int32)) (lv' := [(1, .int (x1 + (1 : Int32))), (2, .int ((64 : Int32) * x1)), (0, .ref (ad 0))]) hx hb d_MO_reopen_142 hl (k := 2) rfl rfl (by decide) rfl (fun ls hl => ?_)
        refine lv_goto (tgt := 41) hx hb d_MO_reopen_145 (by decide) ?_
        exact ih (x1 + (1 : Int32)) mrf mst men mnw mdn mpw mrs mdr mve mrb mch _ _ _ hok hres hP hD hS (lv_sub hl [2, 0] rfl)
      · have hres := it_f c_59 hres
        have hok := hok.2 c_59
        refine lv_aload_n hx hb d_MO_reopen_62 rfl (lv_at hl 1 rfl) ?_
        refine lv_iload_n hx hb d_MO_reopen_63 rfl (lv_at hl 0 rfl) ?_
        refine lv_iconst (v := (4 : Int32)) hx hb d_MO_reopen_64 (by decide) ?_
        refine lv_iadd hx hb d_MO_reopen_65 ?_
        obtain ⟨hk_66, hok⟩ := hok
        refine go_iz (run_V hx hb hml hown ht hK hP hD (c_MO_number hk_66) (cw_V ht km_MO_89 ki_MO_number ks_MO_number ini_MO kd_MO_number kh_MO_number ⟨Nat.le_of_ble_eq_true rfl, Nat.le_of_ble_eq_true rfl⟩ rfl rfl) (q0 := 0) (ci := 6) (As := [.int (((64 : Int32) * x1) + (4 : Int32))]) (rest := []) rfl rfl rfl hl.1 rfl (Nat.le_of_ble_eq_true rfl) d_MO_reopen_66 ⟨Nat.zero_le _, Nat.zero_le _⟩) hD hS hA (fun z_66 H locs hz_66 hP hD hS => ?_)
        have hres := bindc_eq hz_66 hres
        have hok := bindp_eq hz_66 hok
        have hP : va_P G.1 classes (cM G ad mrf msl mst men mnw mdn mpw mwr mrs mdr mtb mrc mnx mro mit mve mrb mch mva mic mlb mrw mnb mlk mnk mmd) H := hP
        have hD : va_D A (cM G ad mrf msl mst men mnw mdn mpw mwr mrs mdr mtb mrc mnx mro mit mve mrb mch mva mic mlb mrw mnb mlk mnk mmd) := hD
        refine lv_aload_n hx hb d_MO_reopen_69 rfl (lv_at hl 1 rfl) ?_
        refine va_get (D := G.1) (ci := 6) (C := R_MO) (T := F_MO) (N := 26) hx hb ht in_MO hown hK hP 0 rfl rfl 6 (by decide) (ht _ kf_MO_137) (fun _ h9 => h9) rfl d_MO_reopen_70 ?_
        refine lv_icmp_gt (tgt := 105) hx hb d_MO_reopen_73 (by decide) (fun c_73 => ?_) (fun c_73 => ?_)
        · have hres := it_t c_73 hres
          have hok := hok.1 c_73
          refine lv_aload_n hx hb d_MO_reopen_105 rfl (lv_at hl 1 rfl) ?_
          refine lv_aload_n hx hb d_MO_reopen_106 rfl (lv_at hl 1 rfl) ?_
          refine lv_iload_n hx hb d_MO_reopen_107 rfl (lv_at hl 0 rfl) ?_
          refine lv_iconst (v := (4 : Int32)) hx hb d_MO_reopen_108 (by decide) ?_
          refine lv_iadd hx hb d_MO_reopen_109 ?_
          obtain ⟨hk_110, hok⟩ := hok
          refine go_iz (run_V hx hb hml hown ht hK hP hD (c_MO_number hk_110) (cw_V ht km_MO_89 ki_MO_number ks_MO_number ini_MO kd_MO_number kh_MO_number ⟨Nat.le_of_ble_eq_true rfl, Nat.le_of_ble_eq_true rfl⟩ rfl rfl) (q0 := 0) (ci := 6) (As := [.int (((64 : Int32) * x1) + (4 : Int32))]) (rest := [.ref (ad 0)]) rfl rfl rfl hl.1 rfl (Nat.le_of_ble_eq_true rfl) d_MO_reopen_110 ⟨Nat.zero_le _, Nat.zero_le _⟩) hD hS hA (fun z_110 H locs hz_110 hP hD hS => ?_)
          have hres := bindc_eq hz_110 hres
          have hok := bindp_eq hz_110 hok
          have hP : va_P G.1 classes (cM G ad mrf msl mst men mnw mdn mpw mwr mrs mdr mtb mrc mnx mro mit mve mrb mch mva mic mlb mrw mnb mlk mnk mmd) H := hP
          have hD : va_D A (cM G ad mrf msl mst men mnw mdn mpw mwr mrs mdr mtb mrc mnx mro mit mve mrb mch mva mic mlb mrw mnb mlk mnk mmd) := hD
          refine va_put (D := G.1) (ci := 6) (v := .int z_110.1) (ty := .int) (C := R_MO) (T := F_MO) (N := 26) hx hb ht in_MO t_MO to_MO nm_MO hown hK hP hD hS 0 rfl rfl 6 (by decide) (ht _ kf_MO_137) (fun _ h9 => h9) rfl (to_MO 6 (by decide)) rfl rfl (Nat.le_of_ble_eq_true rfl) d_MO_reopen_113 (fun H locs hP hD hS => ?_)
          have hP : va_P G.1 classes (cM G ad mrf msl mst men z_110.1 mdn mpw mwr mrs mdr mtb mrc mnx mro mit mve mrb mch mva mic mlb mrw mnb mlk mnk mmd) H := hP
          have hD : va_D A (cM G ad mrf msl mst men z_110.1 mdn mpw mwr mrs mdr mtb mrc mnx mro mit mve mrb mch mva mic mlb mrw mnb mlk mnk mmd) := hD
          refine lv_aload_n hx hb d_MO_reopen_116 rfl (lv_at hl 1 rfl) ?_
          refine lv_aload_n hx hb d_MO_reopen_117 rfl (lv_at hl 1 rfl) ?_
          refine lv_iload_n hx hb d_MO_reopen_118 rfl (lv_at hl 0 rfl) ?_
          refine lv_bipush (v := (40 : Int32)) hx hb d_MO_reopen_119 (by decide) ?_
          refine lv_iadd hx hb d_MO_reopen_121 ?_
          obtain ⟨hk_122, hok⟩ := hok
          refine go_iz (run_V hx hb hml hown ht hK hP hD (c_MO_number hk_122) (cw_V ht km_MO_89 ki_MO_number ks_MO_number ini_MO kd_MO_number kh_MO_number ⟨Nat.le_of_ble_eq_true rfl, Nat.le_of_ble_eq_true rfl⟩ rfl rfl) (q0 := 0) (ci := 6) (As := [.int (((64 : Int32) * x1) + (40 : Int32))]) (rest := [.ref (ad 0)]) rfl rfl rfl hl.1 rfl (Nat.le_of_ble_eq_true rfl) d_MO_reopen_122 ⟨Nat.zero_le _, Nat.zero_le _⟩) hD hS hA (fun z_122 H locs hz_122 hP hD hS => ?_)
          have hres := bindc_eq hz_122 hres
          have hok := bindp_eq hz_122 hok
          have hP : va_P G.1 classes (cM G ad mrf msl mst men z_110.1 mdn mpw mwr mrs mdr mtb mrc mnx mro mit mve mrb mch mva mic mlb mrw mnb mlk mnk mmd) H := hP
          have hD : va_D A (cM G ad mrf msl mst men z_110.1 mdn mpw mwr mrs mdr mtb mrc mnx mro mit mve mrb mch mva mic mlb mrw mnb mlk mnk mmd) := hD
          refine lv_iconst (v := (1 : Int32)) hx hb d_MO_reopen_125 (by decide) ?_
          refine lv_iadd hx hb d_MO_reopen_126 ?_
          refine va_put (D := G.1) (ci := 6) (v := .int (z_122.1 + (1 : Int32))) (ty := .int) (C := R_MO) (T := F_MO) (N := 26) hx hb ht in_MO t_MO to_MO nm_MO hown hK hP hD hS 0 rfl rfl 5 (by decide) (ht _ kf_MO_67) (fun _ h9 => h9) rfl (to_MO 5 (by decide)) rfl rfl (Nat.le_of_ble_eq_true rfl) d_MO_reopen_127 (fun H locs hP hD hS => ?_)
          have hP : va_P G.1 classes (cM G ad mrf msl mst (z_122.1 + (1 : Int32)) z_110.1 mdn mpw mwr mrs mdr mtb mrc mnx mro mit mve mrb mch mva mic mlb mrw mnb mlk mnk mmd) H := hP
          have hD : va_D A (cM G ad mrf msl mst (z_122.1 + (1 : Int32)) z_110.1 mdn mpw mwr mrs mdr mtb mrc mnx mro mit mve mrb mch mva mic mlb mrw mnb mlk mnk mmd) := hD
          refine lv_aload_n hx hb d_MO_reopen_130 rfl (lv_at hl 1 rfl) ?_
          refine lv_aload_n hx hb d_MO_reopen_131 rfl (lv_at hl 1 rfl) ?_
          refine lv_iload_n hx hb d_MO_reopen_132 rfl (lv_at hl 0 rfl) ?_
          refine lv_bipush (v := (16 : Int32)) hx hb d_MO_reopen_133 (by decide) ?_
          refine lv_iadd hx hb d_MO_reopen_135 ?_
          obtain ⟨hk_136, hok⟩ := hok
          refine go_iz (run_V hx hb hml hown ht hK hP hD (c_MO_number hk_136) (cw_V ht km_MO_89 ki_MO_number ks_MO_number ini_MO kd_MO_number kh_MO_number ⟨Nat.le_of_ble_eq_true rfl, Nat.le_of_ble_eq_true rfl⟩ rfl rfl) (q0 := 0) (ci := 6) (As := [.int (((64 : Int32) * x1) + (16 : Int32))]) (rest := [.ref (ad 0)]) rfl rfl rfl hl.1 rfl (Nat.le_of_ble_eq_true rfl) d_MO_reopen_136 ⟨Nat.zero_le _, Nat.zero_le _⟩) hD hS hA (fun z_136 H locs hz_136 hP hD hS => ?_)
          have hres := bindc_eq hz_136 hres
          have hok := bindp_eq hz_136 hok
          have hP : va_P G.1 classes (cM G ad mrf msl mst (z_122.1 + (1 : Int32)) z_110.1 mdn mpw mwr mrs mdr mtb mrc mnx mro mit mve mrb mch mva mic mlb mrw mnb mlk mnk mmd) H := hP
          have hD : va_D A (cM G ad mrf msl mst (z_122.1 + (1 : Int32)) z_110.1 mdn mpw mwr mrs mdr mtb mrc mnx mro mit mve mrb mch mva mic mlb mrw mnb mlk mnk mmd) := hD
          refine va_put (D := G.1) (ci := 6) (v := .int z_136.1) (ty := .int) (C := R_MO) (T := F_MO) (N := 26) hx hb ht in_MO t_MO to_MO nm_MO hown hK hP hD hS 0 rfl rfl 4 (by decide) (ht _ kf_MO_64) (fun _ h9 => h9) rfl (to_MO 4 (by decide)) rfl rfl (Nat.le_of_ble_eq_true rfl) d_MO_reopen_139 (fun H locs hP hD hS => ?_)
          have hP : va_P G.1 classes (cM G ad mrf msl z_136.1 (z_122.1 + (1 : Int32)) z_110.1 mdn mpw mwr mrs mdr mtb mrc mnx mro mit mve mrb mch mva mic mlb mrw mnb mlk mnk mmd) H := hP
          have hD : va_D A (cM G ad mrf msl z_136.1 (z_122.1 + (1 : Int32)) z_110.1 mdn mpw mwr mrs mdr mtb mrc mnx mro mit mve mrb mch mva mic mlb mrw mnb mlk mnk mmd) := hD
          refine lv_iinc (v := x1 + (1 : Int32)) (lv' := [(1, .int (x1 + (1 : Int32))), (2, .int ((64 : Int32) * x1)), (0, .ref (ad 0))]) hx hb d_MO_reopen_142 hl (k := 2) rfl rfl (by decide) rfl (fun ls hl => ?_)
          refine lv_goto (tgt := 41) hx hb d_MO_reopen_145 (by decide) ?_
          exact ih (x1 + (1 : Int32)) mrf z_136.1 (z_122.1 + (1 : Int32)) z_110.1 mdn mpw mrs mdr mve mrb mch _ _ _ hok hres hP hD hS (lv_sub hl [2, 0] rfl)
        · have hres := it_f c_73 hres
          have hok := hok.2 c_73
          refine lv_aload_n hx hb d_MO_reopen_76 rfl (lv_at hl 1 rfl) ?_
          refine lv_iload_n hx hb d_MO_reopen_77 rfl (lv_at hl 0 rfl) ?_
          refine lv_iconst (v := (4 : Int32)) hx hb d_MO_reopen_78 (by decide) ?_
          refine lv_iadd hx hb d_MO_reopen_79 ?_
          obtain ⟨hk_80, hok⟩ := hok
          refine go_iz (run_V hx hb hml hown ht hK hP hD (c_MO_number hk_80) (cw_V ht km_MO_89 ki_MO_number ks_MO_number ini_MO kd_MO_number kh_MO_number ⟨Nat.le_of_ble_eq_true rfl, Nat.le_of_ble_eq_true rfl⟩ rfl rfl) (q0 := 0) (ci := 6) (As := [.int (((64 : Int32) * x1) + (4 : Int32))]) (rest := []) rfl rfl rfl hl.1 rfl (Nat.le_of_ble_eq_true rfl) d_MO_reopen_80 ⟨Nat.zero_le _, Nat.zero_le _⟩) hD hS hA (fun z_80 H locs hz_80 hP hD hS => ?_)
          have hres := bindc_eq hz_80 hres
          have hok := bindp_eq hz_80 hok
          have hP : va_P G.1 classes (cM G ad mrf msl mst men mnw mdn mpw mwr mrs mdr mtb mrc mnx mro mit mve mrb mch mva mic mlb mrw mnb mlk mnk mmd) H := hP
          have hD : va_D A (cM G ad mrf msl mst men mnw mdn mpw mwr mrs mdr mtb mrc mnx mro mit mve mrb mch mva mic mlb mrw mnb mlk mnk mmd) := hD
          refine lv_aload_n hx hb d_MO_reopen_83 rfl (lv_at hl 1 rfl) ?_
          refine va_get (D := G.1) (ci := 6) (C := R_MO) (T := F_MO) (N := 26) hx hb ht in_MO hown hK hP 0 rfl rfl 6 (by decide) (ht _ kf_MO_137) (fun _ h9 => h9) rfl d_MO_reopen_84 ?_
          refine lv_icmp_ne (tgt := 142) hx hb d_MO_reopen_87 (by decide) (fun c_87 => ?_) (fun c_87 => ?_)
          · have hres := it_f c_87 hres
            have hok := hok.2 c_87
            refine lv_iinc (v := x1 + (1 : Int32)) (lv' := [(1, .int (x1 + (1 : Int32))), (2, .int ((64 : Int32) * x1)), (0, .ref (ad 0))]) hx hb d_MO_reopen_142 hl (k := 2) rfl rfl (by decide) rfl (fun ls hl => ?_)
            refine lv_goto (tgt := 41) hx hb d_MO_reopen_145 (by decide) ?_
            exact ih (x1 + (1 : Int32)) mrf mst men mnw mdn mpw mrs mdr mve mrb mch _ _ _ hok hres hP hD hS (lv_sub hl [2, 0] rfl)
          · have hres := it_t c_87 hres
            have hok := hok.1 c_87
            refine lv_aload_n hx hb d_MO_reopen_90 rfl (lv_at hl 1 rfl) ?_
            refine lv_iload_n hx hb d_MO_reopen_91 rfl (lv_at hl 0 rfl) ?_
            refine lv_bipush (v := (40 : Int32)) hx hb d_MO_reopen_92 (by decide) ?_
            refine lv_iadd hx hb d_MO_reopen_94 ?_
            obtain ⟨hk_95, hok⟩ := hok
            refine go_iz (run_V hx hb hml hown ht hK hP hD (c_MO_number hk_95) (cw_V ht km_MO_89 ki_MO_number ks_MO_number ini_MO kd_MO_number kh_MO_number ⟨Nat.le_of_ble_eq_true rfl, Nat.le_of_ble_eq_true rfl⟩ rfl rfl) (q0 := 0) (ci := 6) (As := [.int (((64 : Int32) * x1) + (40 : Int32))]) (rest := []) rfl rfl rfl hl.1 rfl (Nat.le_of_ble_eq_true rfl) d_MO_reopen_95 ⟨Nat.zero_le _, Nat.zero_le _⟩) hD hS hA (fun z_95 H locs hz_95 hP hD hS => ?_)
            have hres := bindc_eq hz_95 hres
            have hok := bindp_eq hz_95 hok
            have hP : va_P G.1 classes (cM G ad mrf msl mst men mnw mdn mpw mwr mrs mdr mtb mrc mnx mro mit mve mrb mch mva mic mlb mrw mnb mlk mnk mmd) H := hP
            have hD : va_D A (cM G ad mrf msl mst men mnw mdn mpw mwr mrs mdr mtb mrc mnx mro mit mve mrb mch mva mic mlb mrw mnb mlk mnk mmd) := hD
            refine lv_aload_n hx hb d_MO_reopen_98 rfl (lv_at hl 1 rfl) ?_
            refine va_get (D := G.1) (ci := 6) (C := R_MO) (T := F_MO) (N := 26) hx hb ht in_MO hown hK hP 0 rfl rfl 5 (by decide) (ht _ kf_MO_67) (fun _ h9 => h9) rfl d_MO_reopen_99 ?_
            refine lv_icmp_lt (tgt := 142) hx hb d_MO_reopen_102 (by decide) (fun c_102 => ?_) (fun c_102 => ?_)
            · have hres := it_t c_102 hres
              have hok := hok.1 c_102
              refine lv_iinc (v := x1 + (1 : Int32)) (lv' := [(1, .int (x1 + (1 : Int32))), (2, .int ((64 : Int32) * x1)), (0, .ref (ad 0))]) hx hb d_MO_reopen_142 hl (k := 2) rfl rfl (by decide) rfl (fun ls hl => ?_)
              refine lv_goto (tgt := 41) hx hb d_MO_reopen_145 (by decide) ?_
              exact ih (x1 + (1 : Int32)) mrf mst men mnw mdn mpw mrs mdr mve mrb mch _ _ _ hok hres hP hD hS (lv_sub hl [2, 0] rfl)
            · have hres := it_f c_102 hres
              have hok := hok.2 c_102
              refine lv_aload_n hx hb d_MO_reopen_105 rfl (lv_at hl 1 rfl) ?_
              refine lv_aload_n hx hb d_MO_reopen_106 rfl (lv_at hl 1 rfl) ?_
              refine lv_iload_n hx hb d_MO_reopen_107 rfl (lv_at hl 0 rfl) ?_
              refine lv_iconst (v := (4 : Int32)) hx hb d_MO_reopen_108 (by decide) ?_
              refine lv_iadd hx hb d_MO_reopen_109 ?_
              obtain ⟨hk_110, hok⟩ := hok
              refine go_iz (run_V hx hb hml hown ht hK hP hD (c_MO_number hk_110) (cw_V ht km_MO_89 ki_MO_number ks_MO_number ini_MO kd_MO_number kh_MO_number ⟨Nat.le_of_ble_eq_true rfl, Nat.le_of_ble_eq_true rfl⟩ rfl rfl) (q0 := 0) (ci := 6) (As := [.int (((64 : Int32) * x1) + (4 : Int32))]) (rest := [.ref (ad 0)]) rfl rfl rfl hl.1 rfl (Nat.le_of_ble_eq_true rfl) d_MO_reopen_110 ⟨Nat.zero_le _, Nat.zero_le _⟩) hD hS hA (fun z_110 H locs hz_110 hP hD hS => ?_)
              have hres := bindc_eq hz_110 hres
              have hok := bindp_eq hz_110 hok
              have hP : va_P G.1 classes (cM G ad mrf msl mst men mnw mdn mpw mwr mrs mdr mtb mrc mnx mro mit mve mrb mch mva mic mlb mrw mnb mlk mnk mmd) H := hP
              have hD : va_D A (cM G ad mrf msl mst men mnw mdn mpw mwr mrs mdr mtb mrc mnx mro mit mve mrb mch mva mic mlb mrw mnb mlk mnk mmd) := hD
              refine va_put (D := G.1) (ci := 6) (v := .int z_110.1) (ty := .int) (C := R_MO) (T := F_MO) (N := 26) hx hb ht in_MO t_MO to_MO nm_MO hown hK hP hD hS 0 rfl rfl 6 (by decide) (ht _ kf_MO_137) (fun _ h9 => h9) rfl (to_MO 6 (by decide)) rfl rfl (Nat.le_of_ble_eq_true rfl) d_MO_reopen_113 (fun H locs hP hD hS => ?_)
              have hP : va_P G.1 classes (cM G ad mrf msl mst men z_110.1 mdn mpw mwr mrs mdr mtb mrc mnx mro mit mve mrb mch mva mic mlb mrw mnb mlk mnk mmd) H := hP
              have hD : va_D A (cM G ad mrf msl mst men z_110.1 mdn mpw mwr mrs mdr mtb mrc mnx mro mit mve mrb mch mva mic mlb mrw mnb mlk mnk mmd) := hD
              refine lv_aload_n hx hb d_MO_reopen_116 rfl (lv_at hl 1 rfl) ?_
              refine lv_aload_n hx hb d_MO_reopen_117 rfl (lv_at hl 1 rfl) ?_
              refine lv_iload_n hx hb d_MO_reopen_118 rfl (lv_at hl 0 rfl) ?_
              refine lv_bipush (v := (40 : Int32)) hx hb d_MO_reopen_119 (by decide) ?_
              refine lv_iadd hx hb d_MO_reopen_121 ?_
              obtain ⟨hk_122, hok⟩ := hok
              refine go_iz (run_V hx hb hml hown ht hK hP hD (c_MO_number hk_122) (cw_V ht km_MO_89 ki_MO_number ks_MO_number ini_MO kd_MO_number kh_MO_number ⟨Nat.le_of_ble_eq_true rfl, Nat.le_of_ble_eq_true rfl⟩ rfl rfl) (q0 := 0) (ci := 6) (As := [.int (((64 : Int32) * x1) + (40 : Int32))]) (rest := [.ref (ad 0)]) rfl rfl rfl hl.1 rfl (Nat.le_of_ble_eq_true rfl) d_MO_reopen_122 ⟨Nat.zero_le _, Nat.zero_le _⟩) hD hS hA (fun z_122 H locs hz_122 hP hD hS => ?_)
              have hres := bindc_eq hz_122 hres
              have hok := bindp_eq hz_122 hok
              have hP : va_P G.1 classes (cM G ad mrf msl mst men z_110.1 mdn mpw mwr mrs mdr mtb mrc mnx mro mit mve mrb mch mva mic mlb mrw mnb mlk mnk mmd) H := hP
              have hD : va_D A (cM G ad mrf msl mst men z_110.1 mdn mpw mwr mrs mdr mtb mrc mnx mro mit mve mrb mch mva mic mlb mrw mnb mlk mnk mmd) := hD
              refine lv_iconst (v := (1 : Int32)) hx hb d_MO_reopen_125 (by decide) ?_
              refine lv_iadd hx hb d_MO_reopen_126 ?_
              refine va_put (D := G.1) (ci := 6) (v := .int (z_122.1 + (1 : Int32))) (ty := .int) (C := R_MO) (T := F_MO) (N := 26) hx hb ht in_MO t_MO to_MO nm_MO hown hK hP hD hS 0 rfl rfl 5 (by decide) (ht _ kf_MO_67) (fun _ h9 => h9) rfl (to_MO 5 (by decide)) rfl rfl (Nat.le_of_ble_eq_true rfl) d_MO_reopen_127 (fun H locs hP hD hS => ?_)
              have hP : va_P G.1 classes (cM G ad mrf msl mst (z_122.1 + (1 : Int32)) z_110.1 mdn mpw mwr mrs mdr mtb mrc mnx mro mit mve mrb mch mva mic mlb mrw mnb mlk mnk mmd) H := hP
              have hD : va_D A (cM G ad mrf msl mst (z_122.1 + (1 : Int32)) z_110.1 mdn mpw mwr mrs mdr mtb mrc mnx mro mit mve mrb mch mva mic mlb mrw mnb mlk mnk mmd) := hD
              refine lv_aload_n hx hb d_MO_reopen_130 rfl (lv_at hl 1 rfl) ?_
              refine lv_aload_n hx hb d_MO_reopen_131 rfl (lv_at hl 1 rfl) ?_
              refine lv_iload_n hx hb d_MO_reopen_132 rfl (lv_at hl 0 rfl) ?_
              refine lv_bipush (v := (16 : Int32)) hx hb d_MO_reopen_133 (by decide) ?_
              refine lv_iadd hx hb d_MO_reopen_135 ?_
              obtain ⟨hk_136, hok⟩ := hok
              refine go_iz (run_V hx hb hml hown ht hK hP hD (c_MO_number hk_136) (cw_V ht km_MO_89 ki_MO_number ks_MO_number ini_MO kd_MO_number kh_MO_number ⟨Nat.le_of_ble_eq_true rfl, Nat.le_of_ble_eq_true rfl⟩ rfl rfl) (q0 := 0) (ci := 6) (As := [.int (((64 : Int32) * x1) + (16 : Int32))]) (rest := [.ref (ad 0)]) rfl rfl rfl hl.1 rfl (Nat.le_of_ble_eq_true rfl) d_MO_reopen_136 ⟨Nat.zero_le _, Nat.zero_le _⟩) hD hS hA (fun z_136 H locs hz_136 hP hD hS => ?_)
              have hres := bindc_eq hz_136 hres
              have hok := bindp_eq hz_136 hok
              have hP : va_P G.1 classes (cM G ad mrf msl mst (z_122.1 + (1 : Int32)) z_110.1 mdn mpw mwr mrs mdr mtb mrc mnx mro mit mve mrb mch mva mic mlb mrw mnb mlk mnk mmd) H := hP
              have hD : va_D A (cM G ad mrf msl mst (z_122.1 + (1 : Int32)) z_110.1 mdn mpw mwr mrs mdr mtb mrc mnx mro mit mve mrb mch mva mic mlb mrw mnb mlk mnk mmd) := hD
              refine va_put (D := G.1) (ci := 6) (v := .int z_136.1) (ty := .int) (C := R_MO) (T := F_MO) (N := 26) hx hb ht in_MO t_MO to_MO nm_MO hown hK hP hD hS 0 rfl rfl 4 (by decide) (ht _ kf_MO_64) (fun _ h9 => h9) rfl (to_MO 4 (by decide)) rfl rfl (Nat.le_of_ble_eq_true rfl) d_MO_reopen_139 (fun H locs hP hD hS => ?_)
              have hP : va_P G.1 classes (cM G ad mrf msl z_136.1 (z_122.1 + (1 : Int32)) z_110.1 mdn mpw mwr mrs mdr mtb mrc mnx mro mit mve mrb mch mva mic mlb mrw mnb mlk mnk mmd) H := hP
              have hD : va_D A (cM G ad mrf msl z_136.1 (z_122.1 + (1 : Int32)) z_110.1 mdn mpw mwr mrs mdr mtb mrc mnx mro mit mve mrb mch mva mic mlb mrw mnb mlk mnk mmd) := hD
              refine lv_iinc (v := x1 + (1 : Int32)) (lv' := [(1, .int (x1 + (1 : Int32))), (2, .int ((64 : Int32) * x1)), (0, .ref (ad 0))]) hx hb d_MO_reopen_142 hl (k := 2) rfl rfl (by decide) rfl (fun ls hl => ?_)
              refine lv_goto (tgt := 41) hx hb d_MO_reopen_145 (by decide) ?_
              exact ih (x1 + (1 : Int32)) mrf z_136.1 (z_122.1 + (1 : Int32)) z_110.1 mdn mpw mrs mdr mve mrb mch _ _ _ hok hres hP hD hS (lv_sub hl [2, 0] rfl)
def f_MO_reopen  (mrf : Int32) (msl : Int32) (mst : Int32) (men : Int32) (mnw : Int32) (mdn : Int32) (mpw : Int32) (mrs : Int32) (mdr : Int32) (mro : (Nat → Int32)) (mit : (Nat → Int32)) (mve : (Nat → Int32)) (mrb : (Nat → Int32)) (mch : (Nat → Int32)) : Int32 × Int32 × Int32 × Int32 × Int32 × Int32 × Int32 × Int32 × Int32 × (Nat → Int32) × (Nat → Int32) × (Nat → Int32) := bindc (f_MO_clear mdr mch) (fun z_16 => f_MO_reopen_41 1024 (0 : Int32) (0 : Int32) msl (0 : Int32) (0 : Int32) (0 : Int32) (0 : Int32) (-1 : Int32) (0 : Int32) z_16.1 mro mit mve mrb z_16.2)
def ok_MO_reopen  (mrf : Int32) (msl : Int32) (mst : Int32) (men : Int32) (mnw : Int32) (mdn : Int32) (mpw : Int32) (mrs : Int32) (mdr : Int32) (mro : (Nat → Int32)) (mit : (Nat → Int32)) (mve : (Nat → Int32)) (mrb : (Nat → Int32)) (mch : (Nat → Int32)) : Prop := ok_MO_clear mdr mch ∧ bindp (f_MO_clear mdr mch) (fun z_16 => ok_MO_reopen_41  1024 (0 : Int32) (0 : Int32) msl (0 : Int32) (0 : Int32) (0 : Int32) (0 : Int32) (-1 : Int32) (0 : Int32) z_16.1 mro mit mve mrb z_16.2)
set_option maxHeartbeats 4000000 in
set_option maxRecDepth 100000 in
theorem c_MO_reopen {l : Launch} {G : GG} {ad : Nat → Nat} {sz : Nat} {mrf : Int32} {msl : Int32} {mst : Int32} {men : Int32} {mnw : Int32} {mdn : Int32} {mpw : Int32} {mwr : Int32} {mrs : Int32} {mdr : Int32} {mtb : Int32} {mrc : Int32} {mnx : Int32} {mro : (Nat → Int32)} {mit : (Nat → Int32)} {mve : (Nat → Int32)} {mrb : (Nat → Int32)} {mch : (Nat → Int32)} {mva : (Nat → Int32)} {mic : (Nat → Int32)} {mlb : (Nat → Int32)} {mrw : (Nat → Int32)} {mnb : (Nat → Int32)} {mlk : (Nat → Int32)} {mnk : (Nat → Int32)} {mmd : (Nat → Int32)}  (hok : ok_MO_reopen mrf msl mst men mnw mdn mpw mrs mdr mro mit mve mrb mch) : CtI l y_MO_reopen b_MO_reopen 3 (some .int) rm_MO_reopen G (cM G ad mrf msl mst men mnw mdn mpw mwr mrs mdr mtb mrc mnx mro mit mve mrb mch mva mic mlb mrw mnb mlk mnk mmd) sz [.ref (ad 0)] (eqP (f_MO_reopen mrf msl mst men mnw mdn mpw mrs mdr mro mit mve mrb mch)) (fun u : Int32 × Int32 × Int32 × Int32 × Int32 × Int32 × Int32 × Int32 × (Nat → Int32) × (Nat → Int32) × (Nat → Int32) => (cM G ad u.1 msl u.2.1 u.2.2.1 u.2.2.2.1 u.2.2.2.2.1 u.2.2.2.2.2.1 mwr u.2.2.2.2.2.2.1 u.2.2.2.2.2.2.2.1 mtb mrc mnx mro mit u.2.2.2.2.2.2.2.2.1 u.2.2.2.2.2.2.2.2.2.1 u.2.2.2.2.2.2.2.2.2.2 mva mic mlb mrw mnb mlk mnk mmd)) := by
  generalize hres : f_MO_reopen mrf msl mst men mnw mdn mpw mrs mdr mro mit mve mrb mch = res
  refine Met_of (Qc := fun A => va_Qi (eqP res) (Wb G A (fun u : Int32 × Int32 × Int32 × Int32 × Int32 × Int32 × Int32 × Int32 × (Nat → Int32) × (Nat → Int32) × (Nat → Int32) => (cM G ad u.1 msl u.2.1 u.2.2.1 u.2.2.2.1 u.2.2.2.2.1 u.2.2.2.2.2.1 mwr u.2.2.2.2.2.2.1 u.2.2.2.2.2.2.2.1 mtb mrc mnx mro mit u.2.2.2.2.2.2.2.2.1 u.2.2.2.2.2.2.2.2.2.1 u.2.2.2.2.2.2.2.2.2.2 mva mic mlb mrw mnb mlk mnk mmd))) A) (by decide) (Nat.le_of_ble_eq_true rfl) ?_
  intro p e s m below meth c hadm hx hb hr hml hown hlocks ht hK A hA hP hD hS ls hl
  have hC : Cx p l e s m (([.ref (ad 0)] : List Value)).toArray meth c y_MO_reopen b_MO_reopen 3 (some .int) "BookTreesModel" G A := ⟨hx, hb, hr, hml, hown, hlocks, ht, hK, hA⟩
  have hown : s.vm.findClass "BookTreesModel" = some m.cls := hown
  have hl : lv_has ls 3 [(0, .ref (ad 0))] := hl
  rw [f_MO_reopen] at hres
  rw [ok_MO_reopen] at hok
  refine lv_aload_n hx hb d_MO_reopen_0 rfl (lv_at hl 0 rfl) ?_
  refine lv_iconst (v := (0 : Int32)) hx hb d_MO_reopen_1 (by decide) ?_
  refine va_put (D := G.1) (ci := 6) (v := .int (0 : Int32)) (ty := .int) (C := R_MO) (T := F_MO) (N := 26) hx hb ht in_MO t_MO to_MO nm_MO hown hK hP hD hS 0 rfl rfl 0 (by decide) (ht _ kf_MO_57) (fun _ h9 => h9) rfl (to_MO 0 (by decide)) rfl rfl (Nat.le_of_ble_eq_true rfl) d_MO_reopen_2 (fun H locs hP hD hS => ?_)
  have hP : va_P G.1 classes (cM G ad (0 : Int32) msl mst men mnw mdn mpw mwr mrs mdr mtb mrc mnx mro mit mve mrb mch mva mic mlb mrw mnb mlk mnk mmd) H := hP
  have hD : va_D A (cM G ad (0 : Int32) msl mst men mnw mdn mpw mwr mrs mdr mtb mrc mnx mro mit mve mrb mch mva mic mlb mrw mnb mlk mnk mmd) := hD
  refine lv_aload_n hx hb d_MO_reopen_5 rfl (lv_at hl 0 rfl) ?_
  refine lv_iconst (v := (0 : Int32)) hx hb d_MO_reopen_6 (by decide) ?_
  refine va_put (D := G.1) (ci := 6) (v := .int (0 : Int32)) (ty := .boolean) (C := R_MO) (T := F_MO) (N := 26) hx hb ht in_MO t_MO to_MO nm_MO hown hK hP hD hS 0 rfl rfl 7 (by decide) (ht _ kf_MO_60) (fun _ h9 => h9) rfl (to_MO 7 (by decide)) rfl rfl (Nat.le_of_ble_eq_true rfl) d_MO_reopen_7 (fun H locs hP hD hS => ?_)
  have hP : va_P G.1 classes (cM G ad (0 : Int32) msl mst men mnw (0 : Int32) mpw mwr mrs mdr mtb mrc mnx mro mit mve mrb mch mva mic mlb mrw mnb mlk mnk mmd) H := hP
  have hD : va_D A (cM G ad (0 : Int32) msl mst men mnw (0 : Int32) mpw mwr mrs mdr mtb mrc mnx mro mit mve mrb mch mva mic mlb mrw mnb mlk mnk mmd) := hD
  refine lv_aload_n hx hb d_MO_reopen_10 rfl (lv_at hl 0 rfl) ?_
  refine lv_iconst (v := (-1 : Int32)) hx hb d_MO_reopen_11 (by decide) ?_
  refine va_put (D := G.1) (ci := 6) (v := .int (-1 : Int32)) (ty := .int) (C := R_MO) (T := F_MO) (N := 26) hx hb ht in_MO t_MO to_MO nm_MO hown hK hP hD hS 0 rfl rfl 8 (by decide) (ht _ kf_MO_17) (fun _ h9 => h9) rfl (to_MO 8 (by decide)) rfl rfl (Nat.le_of_ble_eq_true rfl) d_MO_reopen_12 (fun H locs hP hD hS => ?_)
  have hP : va_P G.1 classes (cM G ad (0 : Int32) msl mst men mnw (0 : Int32) (-1 : Int32) mwr mrs mdr mtb mrc mnx mro mit mve mrb mch mva mic mlb mrw mnb mlk mnk mmd) H := hP
  have hD : va_D A (cM G ad (0 : Int32) msl mst men mnw (0 : Int32) (-1 : Int32) mwr mrs mdr mtb mrc mnx mro mit mve mrb mch mva mic mlb mrw mnb mlk mnk mmd) := hD
  refine lv_aload_n hx hb d_MO_reopen_15 rfl (lv_at hl 0 rfl) ?_
  obtain ⟨hk_16, hok⟩ := hok
  refine go_vz (run_V hx hb hml hown ht hK hP hD (c_MO_clear hk_16) (cw_V ht km_MO_113 ki_MO_clear ks_MO_clear ini_MO kd_MO_clear kh_MO_clear ⟨Nat.le_of_ble_eq_true rfl, Nat.le_of_ble_eq_true rfl⟩ rfl rfl) (q0 := 0) (ci := 6) (As := []) (rest := []) rfl rfl rfl hl.1 rfl (Nat.le_of_ble_eq_true rfl) d_MO_reopen_16 ⟨Nat.zero_le _, Nat.zero_le _⟩) hD hS hA (fun z_16 H locs hz_16 hP hD hS => ?_)
  have hres := bindc_eq hz_16 hres
  have hok := bindp_eq hz_16 hok
  have hP : va_P G.1 classes (cM G ad (0 : Int32) msl mst men mnw (0 : Int32) (-1 : Int32) mwr mrs z_16.1 mtb mrc mnx mro mit mve mrb z_16.2 mva mic mlb mrw mnb mlk mnk mmd) H := hP
  have hD : va_D A (cM G ad (0 : Int32) msl mst men mnw (0 : Int32) (-1 : Int32) mwr mrs z_16.1 mtb mrc mnx mro mit mve mrb z_16.2 mva mic mlb mrw mnb mlk mnk mmd) := hD
  refine lv_aload_n hx hb d_MO_reopen_19 rfl (lv_at hl 0 rfl) ?_
  refine lv_iconst (v := (0 : Int32)) hx hb d_MO_reopen_20 (by decide) ?_
  refine va_put (D := G.1) (ci := 6) (v := .int (0 : Int32)) (ty := .int) (C := R_MO) (T := F_MO) (N := 26) hx hb ht in_MO t_MO to_MO nm_MO hown hK hP hD hS 0 rfl rfl 6 (by decide) (ht _ kf_MO_137) (fun _ h9 => h9) rfl (to_MO 6 (by decide)) rfl rfl (Nat.le_of_ble_eq_true rfl) d_MO_reopen_21 (fun H locs hP hD hS => ?_)
  have hP : va_P G.1 classes (cM G ad (0 : Int32) msl mst men (0 : Int32) (0 : Int32) (-1 : Int32) mwr mrs z_16.1 mtb mrc mnx mro mit mve mrb z_16.2 mva mic mlb mrw mnb mlk mnk mmd) H := hP
  have hD : va_D A (cM G ad (0 : Int32) msl mst men (0 : Int32) (0 : Int32) (-1 : Int32) mwr mrs z_16.1 mtb mrc mnx mro mit mve mrb z_16.2 mva mic mlb mrw mnb mlk mnk mmd) := hD
  refine lv_aload_n hx hb d_MO_reopen_24 rfl (lv_at hl 0 rfl) ?_
  refine lv_iconst (v := (0 : Int32)) hx hb d_MO_reopen_25 (by decide) ?_
  refine va_put (D := G.1) (ci := 6) (v := .int (0 : Int32)) (ty := .int) (C := R_MO) (T := F_MO) (N := 26) hx hb ht in_MO t_MO to_MO nm_MO hown hK hP hD hS 0 rfl rfl 4 (by decide) (ht _ kf_MO_64) (fun _ h9 => h9) rfl (to_MO 4 (by decide)) rfl rfl (Nat.le_of_ble_eq_true rfl) d_MO_reopen_26 (fun H locs hP hD hS => ?_)
  have hP : va_P G.1 classes (cM G ad (0 : Int32) msl (0 : Int32) men (0 : Int32) (0 : Int32) (-1 : Int32) mwr mrs z_16.1 mtb mrc mnx mro mit mve mrb z_16.2 mva mic mlb mrw mnb mlk mnk mmd) H := hP
  have hD : va_D A (cM G ad (0 : Int32) msl (0 : Int32) men (0 : Int32) (0 : Int32) (-1 : Int32) mwr mrs z_16.1 mtb mrc mnx mro mit mve mrb z_16.2 mva mic mlb mrw mnb mlk mnk mmd) := hD
  refine lv_aload_n hx hb d_MO_reopen_29 rfl (lv_at hl 0 rfl) ?_
  refine lv_iconst (v := (0 : Int32)) hx hb d_MO_reopen_30 (by decide) ?_
  refine va_put (D := G.1) (ci := 6) (v := .int (0 : Int32)) (ty := .int) (C := R_MO) (T := F_MO) (N := 26) hx hb ht in_MO t_MO to_MO nm_MO hown hK hP hD hS 0 rfl rfl 5 (by decide) (ht _ kf_MO_67) (fun _ h9 => h9) rfl (to_MO 5 (by decide)) rfl rfl (Nat.le_of_ble_eq_true rfl) d_MO_reopen_31 (fun H locs hP hD hS => ?_)
  have hP : va_P G.1 classes (cM G ad (0 : Int32) msl (0 : Int32) (0 : Int32) (0 : Int32) (0 : Int32) (-1 : Int32) mwr mrs z_16.1 mtb mrc mnx mro mit mve mrb z_16.2 mva mic mlb mrw mnb mlk mnk mmd) H := hP
  have hD : va_D A (cM G ad (0 : Int32) msl (0 : Int32) (0 : Int32) (0 : Int32) (0 : Int32) (-1 : Int32) mwr mrs z_16.1 mtb mrc mnx mro mit mve mrb z_16.2 mva mic mlb mrw mnb mlk mnk mmd) := hD
  refine lv_aload_n hx hb d_MO_reopen_34 rfl (lv_at hl 0 rfl) ?_
  refine lv_iconst (v := (0 : Int32)) hx hb d_MO_reopen_35 (by decide) ?_
  refine va_put (D := G.1) (ci := 6) (v := .int (0 : Int32)) (ty := .int) (C := R_MO) (T := F_MO) (N := 26) hx hb ht in_MO t_MO to_MO nm_MO hown hK hP hD hS 0 rfl rfl 10 (by decide) (ht _ kf_MO_116) (fun _ h9 => h9) rfl (to_MO 10 (by decide)) rfl rfl (Nat.le_of_ble_eq_true rfl) d_MO_reopen_36 (fun H locs hP hD hS => ?_)
  have hP : va_P G.1 classes (cM G ad (0 : Int32) msl (0 : Int32) (0 : Int32) (0 : Int32) (0 : Int32) (-1 : Int32) mwr (0 : Int32) z_16.1 mtb mrc mnx mro mit mve mrb z_16.2 mva mic mlb mrw mnb mlk mnk mmd) H := hP
  have hD : va_D A (cM G ad (0 : Int32) msl (0 : Int32) (0 : Int32) (0 : Int32) (0 : Int32) (-1 : Int32) mwr (0 : Int32) z_16.1 mtb mrc mnx mro mit mve mrb z_16.2 mva mic mlb mrw mnb mlk mnk mmd) := hD
  refine lv_iconst (v := (0 : Int32)) hx hb d_MO_reopen_39 (by decide) ?_
  refine lv_istore_n (lv' := [(1, .int (0 : Int32)), (0, .ref (ad 0))]) hx hb d_MO_reopen_40 rfl hl (by decide) rfl (fun ls hl => ?_)
  exact w_MO_reopen_41 hC 1024 (0 : Int32) (0 : Int32) (0 : Int32) (0 : Int32) (0 : Int32) (0 : Int32) (-1 : Int32) (0 : Int32) z_16.1 mve mrb z_16.2 _ _ _ hok hres hP hD hS (lv_sub hl [1, 0] rfl)
/-! ===== BookTreesModel.isDown()Z ===== -/
abbrev rm_MO_isDown : Room := { frames := 0, cells := 0, slots := 0, locals := 0 }
def f_MO_isDown  (mrf : Int32) (mdn : Int32) : Int32 × Int32 := (mdn, (0 : Int32))
def ok_MO_isDown  (mrf : Int32) (mdn : Int32) : Prop := isB mdn
set_option maxHeartbeats 4000000 in
set_option maxRecDepth 100000 in
theorem c_MO_isDown {l : Launch} {G : GG} {ad : Nat → Nat} {sz : Nat} {mrf : Int32} {msl : Int32} {mst : Int32} {men : Int32} {mnw : Int32} {mdn : Int32} {mpw : Int32} {mwr : Int32} {mrs : Int32} {mdr : Int32} {mtb : Int32} {mrc : Int32} {mnx : Int32} {mro : (Nat → Int32)} {mit : (Nat → Int32)} {mve : (Nat → Int32)} {mrb : (Nat → Int32)} {mch : (Nat → Int32)} {mva : (Nat → Int32)} {mic : (Nat → Int32)} {mlb : (Nat → Int32)} {mrw : (Nat → Int32)} {mnb : (Nat → Int32)} {mlk : (Nat → Int32)} {mnk : (Nat → Int32)} {mmd : (Nat → Int32)}  (hok : ok_MO_isDown mrf mdn) : CtI l y_MO_isDown b_MO_isDown 1 (some .boolean) rm_MO_isDown G (cM G ad mrf msl mst men mnw mdn mpw mwr mrs mdr mtb mrc mnx mro mit mve mrb mch mva mic mlb mrw mnb mlk mnk mmd) sz [.ref (ad 0)] (eqP (f_MO_isDown mrf mdn)) (fun u : Int32 => (cM G ad u msl mst men mnw mdn mpw mwr mrs mdr mtb mrc mnx mro mit mve mrb mch mva mic mlb mrw mnb mlk mnk mmd)) := by
  generalize hres : f_MO_isDown mrf mdn = res
  refine Met_of (Qc := fun A => va_Qi (eqP res) (Wb G A (fun u : Int32 => (cM G ad u msl mst men mnw mdn mpw mwr mrs mdr mtb mrc mnx mro mit mve mrb mch mva mic mlb mrw mnb mlk mnk mmd))) A) (by decide) (Nat.le_of_ble_eq_true rfl) ?_
  intro p e s m below meth c hadm hx hb hr hml hown hlocks ht hK A hA hP hD hS ls hl
  have hC : Cx p l e s m (([.ref (ad 0)] : List Value)).toArray meth c y_MO_isDown b_MO_isDown 1 (some .boolean) "BookTreesModel" G A := ⟨hx, hb, hr, hml, hown, hlocks, ht, hK, hA⟩
  have hown : s.vm.findClass "BookTreesModel" = some m.cls := hown
  have hl : lv_has ls 1 [(0, .ref (ad 0))] := hl
  rw [f_MO_isDown] at hres
  rw [ok_MO_isDown] at hok
  refine lv_aload_n hx hb d_MO_isDown_0 rfl (lv_at hl 0 rfl) ?_
  refine lv_iconst (v := (0 : Int32)) hx hb d_MO_isDown_1 (by decide) ?_
  refine va_put (D := G.1) (ci := 6) (v := .int (0 : Int32)) (ty := .int) (C := R_MO) (T := F_MO) (N := 26) hx hb ht in_MO t_MO to_MO nm_MO hown hK hP hD hS 0 rfl rfl 0 (by decide) (ht _ kf_MO_57) (fun _ h9 => h9) rfl (to_MO 0 (by decide)) rfl rfl (Nat.le_of_ble_eq_true rfl) d_MO_isDown_2 (fun H locs hP hD hS => ?_)
  have hP : va_P G.1 classes (cM G ad (0 : Int32) msl mst men mnw mdn mpw mwr mrs mdr mtb mrc mnx mro mit mve mrb mch mva mic mlb mrw mnb mlk mnk mmd) H := hP
  have hD : va_D A (cM G ad (0 : Int32) msl mst men mnw mdn mpw mwr mrs mdr mtb mrc mnx mro mit mve mrb mch mva mic mlb mrw mnb mlk mnk mmd) := hD
  refine lv_aload_n hx hb d_MO_isDown_5 rfl (lv_at hl 0 rfl) ?_
  refine va_get (D := G.1) (ci := 6) (C := R_MO) (T := F_MO) (N := 26) hx hb ht in_MO hown hK hP 0 rfl rfl 7 (by decide) (ht _ kf_MO_60) (fun _ h9 => h9) rfl d_MO_isDown_6 ?_
  exact en_z (w1 := (fun u : Int32 => (cM G ad u msl mst men mnw mdn mpw mwr mrs mdr mtb mrc mnx mro mit mve mrb mch mva mic mlb mrw mnb mlk mnk mmd))) (0 : Int32) hx hb hr hlocks hK hP hD hS hres hok d_MO_isDown_9
/-! ===== BookTreesModel.byteAt(II)I ===== -/
abbrev rm_MO_byteAt : Room := { frames := 1, cells := 0, slots := 0, locals := 21 }
def f_MO_byteAt (p0 : Int32) (p1 : Int32) (mrf : Int32) (msl : Int32) (mst : Int32) (men : Int32) (mdn : Int32) (mro : (Nat → Int32)) : Int32 × Int32 := bindc (f_MO_isUsed p0 mst men) (fun z_3 => if z_3.1 = 0 then bindc (f_MO_goes (0 : Int32) mrf mdn) (fun z_24 => if z_24.1 = 0 then ((0 : Int32), z_24.2) else bindc (f_MO_placeOf p0 msl) (fun z_36 => (mro (z_36.1 + p1).toNatClampNeg, z_24.2))) else if p1 < 0 then bindc (f_MO_goes (0 : Int32) mrf mdn) (fun z_24 => if z_24.1 = 0 then ((0 : Int32), z_24.2) else bindc (f_MO_placeOf p0 msl) (fun z_36 => (mro (z_36.1 + p1).toNatClampNeg, z_24.2))) else if (64 : Int32) ≤ p1 then bindc (f_MO_goes (0 : Int32) mrf mdn) (fun z_24 => if z_24.1 = 0 then ((0 : Int32), z_24.2) else bindc (f_MO_placeOf p0 msl) (fun z_36 => (mro (z_36.1 + p1).toNatClampNeg, z_24.2))) else bindc (f_MO_goes (1 : Int32) mrf mdn) (fun z_24 => if z_24.1 = 0 then ((0 : Int32), z_24.2) else bindc (f_MO_placeOf p0 msl) (fun z_36 => (mro (z_36.1 + p1).toNatClampNeg, z_24.2))))
def ok_MO_byteAt (p0 : Int32) (p1 : Int32) (mrf : Int32) (msl : Int32) (mst : Int32) (men : Int32) (mdn : Int32) (mro : (Nat → Int32)) : Prop := bindp (f_MO_isUsed p0 mst men) (fun z_3 => (z_3.1 = 0 → bindp (f_MO_goes (0 : Int32) mrf mdn) (fun z_24 => (z_24.1 = 0 → True) ∧ (¬ z_24.1 = 0 → ok_MO_placeOf p0 msl ∧ bindp (f_MO_placeOf p0 msl) (fun z_36 => vp_in (z_36.1 + p1) 12800)))) ∧ (¬ z_3.1 = 0 → (p1 < 0 → bindp (f_MO_goes (0 : Int32) mrf mdn) (fun z_24 => (z_24.1 = 0 → True) ∧ (¬ z_24.1 = 0 → ok_MO_placeOf p0 msl ∧ bindp (f_MO_placeOf p0 msl) (fun z_36 => vp_in (z_36.1 + p1) 12800)))) ∧ (¬ p1 < 0 → ((64 : Int32) ≤ p1 → bindp (f_MO_goes (0 : Int32) mrf mdn) (fun z_24 => (z_24.1 = 0 → True) ∧ (¬ z_24.1 = 0 → ok_MO_placeOf p0 msl ∧ bindp (f_MO_placeOf p0 msl) (fun z_36 => vp_in (z_36.1 + p1) 12800)))) ∧ (¬ (64 : Int32) ≤ p1 → bindp (f_MO_goes (1 : Int32) mrf mdn) (fun z_24 => (z_24.1 = 0 → True) ∧ (¬ z_24.1 = 0 → ok_MO_placeOf p0 msl ∧ bindp (f_MO_placeOf p0 msl) (fun z_36 => vp_in (z_36.1 + p1) 12800)))))))
set_option maxHeartbeats 4000000 in
set_option maxRecDepth 100000 in
theorem c_MO_byteAt {l : Launch} {G : GG} {ad : Nat → Nat} {sz : Nat} {mrf : Int32} {msl : Int32} {mst : Int32} {men : Int32} {mnw : Int32} {mdn : Int32} {mpw : Int32} {mwr : Int32} {mrs : Int32} {mdr : Int32} {mtb : Int32} {mrc : Int32} {mnx : Int32} {mro : (Nat → Int32)} {mit : (Nat → Int32)} {mve : (Nat → Int32)} {mrb : (Nat → Int32)} {mch : (Nat → Int32)} {mva : (Nat → Int32)} {mic : (Nat → Int32)} {mlb : (Nat → Int32)} {mrw : (Nat → Int32)} {mnb : (Nat → Int32)} {mlk : (Nat → Int32)} {mnk : (Nat → Int32)} {mmd : (Nat → Int32)} {p0 : Int32} {p1 : Int32} (hok : ok_MO_byteAt p0 p1 mrf msl mst men mdn mro) : CtI l y_MO_byteAt b_MO_byteAt 3 (some .int) rm_MO_byteAt G (cM G ad mrf msl mst men mnw mdn mpw mwr mrs mdr mtb mrc mnx mro mit mve mrb mch mva mic mlb mrw mnb mlk mnk mmd) sz [.ref (ad 0), .int p0, .int p1] (eqP (f_MO_byteAt p0 p1 mrf msl mst men mdn mro)) (fun u : Int32 => (cM G ad u msl mst men mnw mdn mpw mwr mrs mdr mtb mrc mnx mro mit mve mrb mch mva mic mlb mrw mnb mlk mnk mmd)) := by
  generalize hres : f_MO_byteAt p0 p1 mrf msl mst men mdn mro = res
  refine Met_of (Qc := fun A => va_Qi (eqP res) (Wb G A (fun u : Int32 => (cM G ad u msl mst men mnw mdn mpw mwr mrs mdr mtb mrc mnx mro mit mve mrb mch mva mic mlb mrw mnb mlk mnk mmd))) A) (by decide) (Nat.le_of_ble_eq_true rfl) ?_
  intro p e s m below meth c hadm hx hb hr hml hown hlocks ht hK A hA hP hD hS ls hl
  have hC : Cx p l e s m (([.ref (ad 0), .int p0, .int p1] : List Value)).toArray meth c y_MO_byteAt b_MO_byteAt 3 (some .int) "BookTreesModel" G A := ⟨hx, hb, hr, hml, hown, hlocks, ht, hK, hA⟩
  have hown : s.vm.findClass "BookTreesModel" = some m.cls := hown
  have hl : lv_has ls 3 [(0, .ref (ad 0)), (1, .int p0), (2, .int p1)] := hl
  rw [f_MO_byteAt] at hres
  rw [ok_MO_byteAt] at hok
  refine lv_aload_n hx hb d_MO_byteAt_0 rfl (lv_at hl 0 rfl) ?_
  refine lv_aload_n hx hb d_MO_byteAt_1 rfl (lv_at hl 0 rfl) ?_
  refine lv_iload_n hx hb d_MO_byteAt_2 rfl (lv_at hl 1 rfl) ?_
  refine go_iz (run_V hx hb hml hown ht hK hP hD (c_MO_isUsed) (cw_V ht km_MO_78 ki_MO_isUsed ks_MO_isUsed ini_MO kd_MO_isUsed kh_MO_isUsed ⟨Nat.le_of_ble_eq_true rfl, Nat.le_of_ble_eq_true rfl⟩ rfl rfl) (q0 := 0) (ci := 6) (As := [.int p0]) (rest := [.ref (ad 0)]) rfl rfl rfl hl.1 rfl (Nat.le_of_ble_eq_true rfl) d_MO_byteAt_3 ⟨Nat.zero_le _, Nat.zero_le _⟩) hD hS hA (fun z_3 H locs hz_3 hP hD hS => ?_)
  have hres := bindc_eq hz_3 hres
  have hok := bindp_eq hz_3 hok
  have hP : va_P G.1 classes (cM G ad mrf msl mst men mnw mdn mpw mwr mrs mdr mtb mrc mnx mro mit mve mrb mch mva mic mlb mrw mnb mlk mnk mmd) H := hP
  have hD : va_D A (cM G ad mrf msl mst men mnw mdn mpw mwr mrs mdr mtb mrc mnx mro mit mve mrb mch mva mic mlb mrw mnb mlk mnk mmd) := hD
  refine lv_if_eq (tgt := 23) hx hb d_MO_byteAt_6 (by decide) (fun c_6 => ?_) (fun c_6 => ?_)
  · have hres := it_t c_6 hres
    have hok := hok.1 c_6
    refine lv_iconst (v := (0 : Int32)) hx hb d_MO_byteAt_23 (by decide) ?_
    refine go_iz (run_V hx hb hml hown ht hK hP hD (c_MO_goes) (cw_V ht km_MO_101 ki_MO_goes ks_MO_goes ini_MO kd_MO_goes kh_MO_goes ⟨Nat.le_of_ble_eq_true rfl, Nat.le_of_ble_eq_true rfl⟩ rfl rfl) (q0 := 0) (ci := 6) (As := [.int (0 : Int32)]) (rest := []) rfl rfl rfl hl.1 rfl (Nat.le_of_ble_eq_true rfl) d_MO_byteAt_24 ⟨Nat.zero_le _, Nat.zero_le _⟩) hD hS hA (fun z_24 H locs hz_24 hP hD hS => ?_)
    have hres := bindc_eq hz_24 hres
    have hok := bindp_eq hz_24 hok
    have hP : va_P G.1 classes (cM G ad z_24.2 msl mst men mnw mdn mpw mwr mrs mdr mtb mrc mnx mro mit mve mrb mch mva mic mlb mrw mnb mlk mnk mmd) H := hP
    have hD : va_D A (cM G ad z_24.2 msl mst men mnw mdn mpw mwr mrs mdr mtb mrc mnx mro mit mve mrb mch mva mic mlb mrw mnb mlk mnk mmd) := hD
    refine lv_if_eq (tgt := 45) hx hb d_MO_byteAt_27 (by decide) (fun c_27 => ?_) (fun c_27 => ?_)
    · have hres := it_t c_27 hres
      refine lv_iconst (v := (0 : Int32)) hx hb d_MO_byteAt_45 (by decide) ?_
      exact en_i (w1 := (fun u : Int32 => (cM G ad u msl mst men mnw mdn mpw mwr mrs mdr mtb mrc mnx mro mit mve mrb mch mva mic mlb mrw mnb mlk mnk mmd))) z_24.2 hx hb hr hlocks hK hP hD hS hres d_MO_byteAt_46
    · have hres := it_f c_27 hres
      have hok := hok.2 c_27
      refine lv_aload_n hx hb d_MO_byteAt_30 rfl (lv_at hl 0 rfl) ?_
      refine va_get (D := G.1) (ci := 6) (C := R_MO) (T := F_MO) (N := 26) hx hb ht in_MO hown hK hP 0 rfl rfl 2 (by decide) (ht _ kf_MO_7) (fun _ h9 => h9) rfl d_MO_byteAt_31 ?_
      refine lv_aload_n hx hb d_MO_byteAt_34 rfl (lv_at hl 0 rfl) ?_
      refine lv_iload_n hx hb d_MO_byteAt_35 rfl (lv_at hl 1 rfl) ?_
      obtain ⟨hk_36, hok⟩ := hok
      refine go_iz (run_V hx hb hml hown ht hK hP hD (c_MO_placeOf hk_36) (cw_V ht km_MO_82 ki_MO_placeOf ks_MO_placeOf ini_MO kd_MO_placeOf kh_MO_placeOf ⟨Nat.le_of_ble_eq_true rfl, Nat.le_of_ble_eq_true rfl⟩ rfl rfl) (q0 := 0) (ci := 6) (As := [.int p0]) (rest := [.ref (ad 1)]) rfl rfl rfl hl.1 rfl (Nat.le_of_ble_eq_true rfl) d_MO_byteAt_36 ⟨Nat.zero_le _, Nat.zero_le _⟩) hD hS hA (fun z_36 H locs hz_36 hP hD hS => ?_)
      have hres := bindc_eq hz_36 hres
      have hok := bindp_eq hz_36 hok
      have hP : va_P G.1 classes (cM G ad z_24.2 msl mst men mnw mdn mpw mwr mrs mdr mtb mrc mnx mro mit mve mrb mch mva mic mlb mrw mnb mlk mnk mmd) H := hP
      have hD : va_D A (cM G ad z_24.2 msl mst men mnw mdn mpw mwr mrs mdr mtb mrc mnx mro mit mve mrb mch mva mic mlb mrw mnb mlk mnk mmd) := hD
      refine lv_iload_n hx hb d_MO_byteAt_39 rfl (lv_at hl 2 rfl) ?_
      refine lv_iadd hx hb d_MO_byteAt_40 ?_
      have hi_41 := hok
      refine va_iald hx hb hK hP 1 0 rfl rfl hi_41 d_MO_byteAt_41 ?_
      refine lv_goto (tgt := 46) hx hb d_MO_byteAt_42 (by decide) ?_
      exact en_i (w1 := (fun u : Int32 => (cM G ad u msl mst men mnw mdn mpw mwr mrs mdr mtb mrc mnx mro mit mve mrb mch mva mic mlb mrw mnb mlk mnk mmd))) z_24.2 hx hb hr hlocks hK hP hD hS hres d_MO_byteAt_46
  · have hres := it_f c_6 hres
    have hok := hok.2 c_6
    refine lv_iload_n hx hb d_MO_byteAt_9 rfl (lv_at hl 2 rfl) ?_
    refine lv_if_lt (tgt := 23) hx hb d_MO_byteAt_10 (by decide) (fun c_10 => ?_) (fun c_10 => ?_)
    · have hres := it_t c_10 hres
      have hok := hok.1 c_10
      refine lv_iconst (v := (0 : Int32)) hx hb d_MO_byteAt_23 (by decide) ?_
      refine go_iz (run_V hx hb hml hown ht hK hP hD (c_MO_goes) (cw_V ht km_MO_101 ki_MO_goes ks_MO_goes ini_MO kd_MO_goes kh_MO_goes ⟨Nat.le_of_ble_eq_true rfl, Nat.le_of_ble_eq_true rfl⟩ rfl rfl) (q0 := 0) (ci := 6) (As := [.int (0 : Int32)]) (rest := []) rfl rfl rfl hl.1 rfl (Nat.le_of_ble_eq_true rfl) d_MO_byteAt_24 ⟨Nat.zero_le _, Nat.zero_le _⟩) hD hS hA (fun z_24 H locs hz_24 hP hD hS => ?_)
      have hres := bindc_eq hz_24 hres
      have hok := bindp_eq hz_24 hok
      have hP : va_P G.1 classes (cM G ad z_24.2 msl mst men mnw mdn mpw mwr mrs mdr mtb mrc mnx mro mit mve mrb mch mva mic mlb mrw mnb mlk mnk mmd) H := hP
      have hD : va_D A (cM G ad z_24.2 msl mst men mnw mdn mpw mwr mrs mdr mtb mrc mnx mro mit mve mrb mch mva mic mlb mrw mnb mlk mnk mmd) := hD
      refine lv_if_eq (tgt := 45) hx hb d_MO_byteAt_27 (by decide) (fun c_27 => ?_) (fun c_27 => ?_)
      · have hres := it_t c_27 hres
        refine lv_iconst (v := (0 : Int32)) hx hb d_MO_byteAt_45 (by decide) ?_
        exact en_i (w1 := (fun u : Int32 => (cM G ad u msl mst men mnw mdn mpw mwr mrs mdr mtb mrc mnx mro mit mve mrb mch mva mic mlb mrw mnb mlk mnk mmd))) z_24.2 hx hb hr hlocks hK hP hD hS hres d_MO_byteAt_46
      · have hres := it_f c_27 hres
        have hok := hok.2 c_27
        refine lv_aload_n hx hb d_MO_byteAt_30 rfl (lv_at hl 0 rfl) ?_
        refine va_get (D := G.1) (ci := 6) (C := R_MO) (T := F_MO) (N := 26) hx hb ht in_MO hown hK hP 0 rfl rfl 2 (by decide) (ht _ kf_MO_7) (fun _ h9 => h9) rfl d_MO_byteAt_31 ?_
        refine lv_aload_n hx hb d_MO_byteAt_34 rfl (lv_at hl 0 rfl) ?_
        refine lv_iload_n hx hb d_MO_byteAt_35 rfl (lv_at hl 1 rfl) ?_
        obtain ⟨hk_36, hok⟩ := hok
        refine go_iz (run_V hx hb hml hown ht hK hP hD (c_MO_placeOf hk_36) (cw_V ht km_MO_82 ki_MO_placeOf ks_MO_placeOf ini_MO kd_MO_placeOf kh_MO_placeOf ⟨Nat.le_of_ble_eq_true rfl, Nat.le_of_ble_eq_true rfl⟩ rfl rfl) (q0 := 0) (ci := 6) (As := [.int p0]) (rest := [.ref (ad 1)]) rfl rfl rfl hl.1 rfl (Nat.le_of_ble_eq_true rfl) d_MO_byteAt_36 ⟨Nat.zero_le _, Nat.zero_le _⟩) hD hS hA (fun z_36 H locs hz_36 hP hD hS => ?_)
        have hres := bindc_eq hz_36 hres
        have hok := bindp_eq hz_36 hok
        have hP : va_P G.1 classes (cM G ad z_24.2 msl mst men mnw mdn mpw mwr mrs mdr mtb mrc mnx mro mit mve mrb mch mva mic mlb mrw mnb mlk mnk mmd) H := hP
        have hD : va_D A (cM G ad z_24.2 msl mst men mnw mdn mpw mwr mrs mdr mtb mrc mnx mro mit mve mrb mch mva mic mlb mrw mnb mlk mnk mmd) := hD
        refine lv_iload_n hx hb d_MO_byteAt_39 rfl (lv_at hl 2 rfl) ?_
        refine lv_iadd hx hb d_MO_byteAt_40 ?_
        have hi_41 := hok
        refine va_iald hx hb hK hP 1 0 rfl rfl hi_41 d_MO_byteAt_41 ?_
        refine lv_goto (tgt := 46) hx hb d_MO_byteAt_42 (by decide) ?_
        exact en_i (w1 := (fun u : Int32 => (cM G ad u msl mst men mnw mdn mpw mwr mrs mdr mtb mrc mnx mro mit mve mrb mch mva mic mlb mrw mnb mlk mnk mmd))) z_24.2 hx hb hr hlocks hK hP hD hS hres d_MO_byteAt_46
    · have hres := it_f c_10 hres
      have hok := hok.2 c_10
      refine lv_iload_n hx hb d_MO_byteAt_13 rfl (lv_at hl 2 rfl) ?_
      refine lv_bipush (v := (64 : Int32)) hx hb d_MO_byteAt_14 (by decide) ?_
      refine lv_icmp_ge (tgt := 23) hx hb d_MO_byteAt_16 (by decide) (fun c_16 => ?_) (fun c_16 => ?_)
      · have hres := it_t c_16 hres
        have hok := hok.1 c_16
        refine lv_iconst (v := (0 : Int32)) hx hb d_MO_byteAt_23 (by decide) ?_
        refine go_iz (run_V hx hb hml hown ht hK hP hD (c_MO_goes) (cw_V ht km_MO_101 ki_MO_goes ks_MO_goes ini_MO kd_MO_goes kh_MO_goes ⟨Nat.le_of_ble_eq_true rfl, Nat.le_of_ble_eq_true rfl⟩ rfl rfl) (q0 := 0) (ci := 6) (As := [.int (0 : Int32)]) (rest := []) rfl rfl rfl hl.1 rfl (Nat.le_of_ble_eq_true rfl) d_MO_byteAt_24 ⟨Nat.zero_le _, Nat.zero_le _⟩) hD hS hA (fun z_24 H locs hz_24 hP hD hS => ?_)
        have hres := bindc_eq hz_24 hres
        have hok := bindp_eq hz_24 hok
        have hP : va_P G.1 classes (cM G ad z_24.2 msl mst men mnw mdn mpw mwr mrs mdr mtb mrc mnx mro mit mve mrb mch mva mic mlb mrw mnb mlk mnk mmd) H := hP
        have hD : va_D A (cM G ad z_24.2 msl mst men mnw mdn mpw mwr mrs mdr mtb mrc mnx mro mit mve mrb mch mva mic mlb mrw mnb mlk mnk mmd) := hD
        refine lv_if_eq (tgt := 45) hx hb d_MO_byteAt_27 (by decide) (fun c_27 => ?_) (fun c_27 => ?_)
        · have hres := it_t c_27 hres
          refine lv_iconst (v := (0 : Int32)) hx hb d_MO_byteAt_45 (by decide) ?_
          exact en_i (w1 := (fun u : Int32 => (cM G ad u msl mst men mnw mdn mpw mwr mrs mdr mtb mrc mnx mro mit mve mrb mch mva mic mlb mrw mnb mlk mnk mmd))) z_24.2 hx hb hr hlocks hK hP hD hS hres d_MO_byteAt_46
        · have hres := it_f c_27 hres
          have hok := hok.2 c_27
          refine lv_aload_n hx hb d_MO_byteAt_30 rfl (lv_at hl 0 rfl) ?_
          refine va_get (D := G.1) (ci := 6) (C := R_MO) (T := F_MO) (N := 26) hx hb ht in_MO hown hK hP 0 rfl rfl 2 (by decide) (ht _ kf_MO_7) (fun _ h9 => h9) rfl d_MO_byteAt_31 ?_
          refine lv_aload_n hx hb d_MO_byteAt_34 rfl (lv_at hl 0 rfl) ?_
          refine lv_iload_n hx hb d_MO_byteAt_35 rfl (lv_at hl 1 rfl) ?_
          obtain ⟨hk_36, hok⟩ := hok
          refine go_iz (run_V hx hb hml hown ht hK hP hD (c_MO_placeOf hk_36) (cw_V ht km_MO_82 ki_MO_placeOf ks_MO_placeOf ini_MO kd_MO_placeOf kh_MO_placeOf ⟨Nat.le_of_ble_eq_true rfl, Nat.le_of_ble_eq_true rfl⟩ rfl rfl) (q0 := 0) (ci := 6) (As := [.int p0]) (rest := [.ref (ad 1)]) rfl rfl rfl hl.1 rfl (Nat.le_of_ble_eq_true rfl) d_MO_byteAt_36 ⟨Nat.zero_le _, Nat.zero_le _⟩) hD hS hA (fun z_36 H locs hz_36 hP hD hS => ?_)
          have hres := bindc_eq hz_36 hres
          have hok := bindp_eq hz_36 hok
          have hP : va_P G.1 classes (cM G ad z_24.2 msl mst men mnw mdn mpw mwr mrs mdr mtb mrc mnx mro mit mve mrb mch mva mic mlb mrw mnb mlk mnk mmd) H := hP
          have hD : va_D A (cM G ad z_24.2 msl mst men mnw mdn mpw mwr mrs mdr mtb mrc mnx mro mit mve mrb mch mva mic mlb mrw mnb mlk mnk mmd) := hD
          refine lv_iload_n hx hb d_MO_byteAt_39 rfl (lv_at hl 2 rfl) ?_
          refine lv_iadd hx hb d_MO_byteAt_40 ?_
          have hi_41 := hok
          refine va_iald hx hb hK hP 1 0 rfl rfl hi_41 d_MO_byteAt_41 ?_
          refine lv_goto (tgt := 46) hx hb d_MO_byteAt_42 (by decide) ?_
          exact en_i (w1 := (fun u : Int32 => (cM G ad u msl mst men mnw mdn mpw mwr mrs mdr mtb mrc mnx mro mit mve mrb mch mva mic mlb mrw mnb mlk mnk mmd))) z_24.2 hx hb hr hlocks hK hP hD hS hres d_MO_byteAt_46
      · have hres := it_f c_16 hres
        have hok := hok.2 c_16
        refine lv_iconst (v := (1 : Int32)) hx hb d_MO_byteAt_19 (by decide) ?_
        refine lv_goto (tgt := 24) hx hb d_MO_byteAt_20 (by decide) ?_
        refine go_iz (run_V hx hb hml hown ht hK hP hD (c_MO_goes) (cw_V ht km_MO_101 ki_MO_goes ks_MO_goes ini_MO kd_MO_goes kh_MO_goes ⟨Nat.le_of_ble_eq_true rfl, Nat.le_of_ble_eq_true rfl⟩ rfl rfl) (q0 := 0) (ci := 6) (As := [.int (1 : Int32)]) (rest := []) rfl rfl rfl hl.1 rfl (Nat.le_of_ble_eq_true rfl) d_MO_byteAt_24 ⟨Nat.zero_le _, Nat.zero_le _⟩) hD hS hA (fun z_24 H locs hz_24 hP hD hS => ?_)
        have hres := bindc_eq hz_24 hres
        have hok := bindp_eq hz_24 hok
        have hP : va_P G.1 classes (cM G ad z_24.2 msl mst men mnw mdn mpw mwr mrs mdr mtb mrc mnx mro mit mve mrb mch mva mic mlb mrw mnb mlk mnk mmd) H := hP
        have hD : va_D A (cM G ad z_24.2 msl mst men mnw mdn mpw mwr mrs mdr mtb mrc mnx mro mit mve mrb mch mva mic mlb mrw mnb mlk mnk mmd) := hD
        refine lv_if_eq (tgt := 45) hx hb d_MO_byteAt_27 (by decide) (fun c_27 => ?_) (fun c_27 => ?_)
        · have hres := it_t c_27 hres
          refine lv_iconst (v := (0 : Int32)) hx hb d_MO_byteAt_45 (by decide) ?_
          exact en_i (w1 := (fun u : Int32 => (cM G ad u msl mst men mnw mdn mpw mwr mrs mdr mtb mrc mnx mro mit mve mrb mch mva mic mlb mrw mnb mlk mnk mmd))) z_24.2 hx hb hr hlocks hK hP hD hS hres d_MO_byteAt_46
        · have hres := it_f c_27 hres
          have hok := hok.2 c_27
          refine lv_aload_n hx hb d_MO_byteAt_30 rfl (lv_at hl 0 rfl) ?_
          refine va_get (D := G.1) (ci := 6) (C := R_MO) (T := F_MO) (N := 26) hx hb ht in_MO hown hK hP 0 rfl rfl 2 (by decide) (ht _ kf_MO_7) (fun _ h9 => h9) rfl d_MO_byteAt_31 ?_
          refine lv_aload_n hx hb d_MO_byteAt_34 rfl (lv_at hl 0 rfl) ?_
          refine lv_iload_n hx hb d_MO_byteAt_35 rfl (lv_at hl 1 rfl) ?_
          obtain ⟨hk_36, hok⟩ := hok
          refine go_iz (run_V hx hb hml hown ht hK hP hD (c_MO_placeOf hk_36) (cw_V ht km_MO_82 ki_MO_placeOf ks_MO_placeOf ini_MO kd_MO_placeOf kh_MO_placeOf ⟨Nat.le_of_ble_eq_true rfl, Nat.le_of_ble_eq_true rfl⟩ rfl rfl) (q0 := 0) (ci := 6) (As := [.int p0]) (rest := [.ref (ad 1)]) rfl rfl rfl hl.1 rfl (Nat.le_of_ble_eq_true rfl) d_MO_byteAt_36 ⟨Nat.zero_le _, Nat.zero_le _⟩) hD hS hA (fun z_36 H locs hz_36 hP hD hS => ?_)
          have hres := bindc_eq hz_36 hres
          have hok := bindp_eq hz_36 hok
          have hP : va_P G.1 classes (cM G ad z_24.2 msl mst men mnw mdn mpw mwr mrs mdr mtb mrc mnx mro mit mve mrb mch mva mic mlb mrw mnb mlk mnk mmd) H := hP
          have hD : va_D A (cM G ad z_24.2 msl mst men mnw mdn mpw mwr mrs mdr mtb mrc mnx mro mit mve mrb mch mva mic mlb mrw mnb mlk mnk mmd) := hD
          refine lv_iload_n hx hb d_MO_byteAt_39 rfl (lv_at hl 2 rfl) ?_
          refine lv_iadd hx hb d_MO_byteAt_40 ?_
          have hi_41 := hok
          refine va_iald hx hb hK hP 1 0 rfl rfl hi_41 d_MO_byteAt_41 ?_
          refine lv_goto (tgt := 46) hx hb d_MO_byteAt_42 (by decide) ?_
          exact en_i (w1 := (fun u : Int32 => (cM G ad u msl mst men mnw mdn mpw mwr mrs mdr mtb mrc mnx mro mit mve mrb mch mva mic mlb mrw mnb mlk mnk mmd))) z_24.2 hx hb hr hlocks hK hP hD hS hres d_MO_byteAt_46
