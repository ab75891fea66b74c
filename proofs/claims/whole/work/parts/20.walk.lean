/-! ===== BookTreesModel.thrown()I ===== -/
abbrev rm_MO_thrown : Room := { frames := 0, cells := 0, slots := 0, locals := 0 }
def f_MO_thrown  (mrf : Int32) : Int32 × Unit := (mrf, ())
set_option maxHeartbeats 4000000 in
set_option maxRecDepth 100000 in
theorem c_MO_thrown {l : Launch} {G : GG} {ad : Nat → Nat} {sz : Nat} {mrf : Int32} {msl : Int32} {mst : Int32} {men : Int32} {mnw : Int32} {mdn : Int32} {mpw : Int32} {mwr : Int32} {mrs : Int32} {mdr : Int32} {mtb : Int32} {mrc : Int32} {mnx : Int32} {mro : (Nat → Int32)} {mit : (Nat → Int32)} {mve : (Nat → Int32)} {mrb : (Nat → Int32)} {mch : (Nat → Int32)} {mva : (Nat → Int32)} {mic : (Nat → Int32)} {mlb : (Nat → Int32)} {mrw : (Nat → Int32)} {mnb : (Nat → Int32)} {mlk : (Nat → Int32)} {mnk : (Nat → Int32)} {mmd : (Nat → Int32)}  : CtI l y_MO_thrown b_MO_thrown 1 (some .int) rm_MO_thrown G (cM G ad mrf msl mst men mnw mdn mpw mwr mrs mdr mtb mrc mnx mro mit mve mrb mch mva mic mlb mrw mnb mlk mnk mmd) sz [.ref (ad 0)] (eqP (f_MO_thrown mrf)) (fun _ : Unit => (cM G ad mrf msl mst men mnw mdn mpw mwr mrs mdr mtb mrc mnx mro mit mve mrb mch mva mic mlb mrw mnb mlk mnk mmd)) := by
  generalize hres : f_MO_thrown mrf = res
  refine Met_of (Qc := fun A => va_Qi (eqP res) (Wb G A (fun _ : Unit => (cM G ad mrf msl mst men mnw mdn mpw mwr mrs mdr mtb mrc mnx mro mit mve mrb mch mva mic mlb mrw mnb mlk mnk mmd))) A) (by decide) (Nat.le_of_ble_eq_true rfl) ?_
  intro p e s m below meth c hadm hx hb hr hml hown hlocks ht hK A hA hP hD hS ls hl
  have hC : Cx p l e s m (([.ref (ad 0)] : List Value)).toArray meth c y_MO_thrown b_MO_thrown 1 (some .int) "BookTreesModel" G A := ⟨hx, hb, hr, hml, hown, hlocks, ht, hK, hA⟩
  have hown : s.vm.findClass "BookTreesModel" = some m.cls := hown
  have hl : lv_has ls 1 [(0, .ref (ad 0))] := hl
  rw [f_MO_thrown] at hres
  refine lv_aload_n hx hb d_MO_thrown_0 rfl (lv_at hl 0 rfl) ?_
  refine va_get (D := G.1) (ci := 6) (C := R_MO) (T := F_MO) (N := 26) hx hb ht in_MO hown hK hP 0 rfl rfl 0 (by decide) (ht _ kf_MO_57) (fun _ h9 => h9) rfl d_MO_thrown_1 ?_
  exact en_i (w1 := (fun _ : Unit => (cM G ad mrf msl mst men mnw mdn mpw mwr mrs mdr mtb mrc mnx mro mit mve mrb mch mva mic mlb mrw mnb mlk mnk mmd))) () hx hb hr hlocks hK hP hD hS hres d_MO_thrown_4
/-! ===== BookTreesModel.isKey(I)Z ===== -/
abbrev rm_MO_isKey : Room := { frames := 0, cells := 0, slots := 0, locals := 0 }
def f_MO_isKey (p0 : Int32)  : Int32 × Unit := if p0 < 0 then ((0 : Int32), ()) else if (512 : Int32) ≤ p0 then ((0 : Int32), ()) else ((1 : Int32), ())
set_option maxHeartbeats 4000000 in
set_option maxRecDepth 100000 in
theorem c_MO_isKey {l : Launch} {G : GG} {ad : Nat → Nat} {sz : Nat} {mrf : Int32} {msl : Int32} {mst : Int32} {men : Int32} {mnw : Int32} {mdn : Int32} {mpw : Int32} {mwr : Int32} {mrs : Int32} {mdr : Int32} {mtb : Int32} {mrc : Int32} {mnx : Int32} {mro : (Nat → Int32)} {mit : (Nat → Int32)} {mve : (Nat → Int32)} {mrb : (Nat → Int32)} {mch : (Nat → Int32)} {mva : (Nat → Int32)} {mic : (Nat → Int32)} {mlb : (Nat → Int32)} {mrw : (Nat → Int32)} {mnb : (Nat → Int32)} {mlk : (Nat → Int32)} {mnk : (Nat → Int32)} {mmd : (Nat → Int32)} {p0 : Int32} : CtI l y_MO_isKey b_MO_isKey 1 (some .boolean) rm_MO_isKey G (cM G ad mrf msl mst men mnw mdn mpw mwr mrs mdr mtb mrc mnx mro mit mve mrb mch mva mic mlb mrw mnb mlk mnk mmd) sz [.int p0] (eqP (f_MO_isKey p0)) (fun _ : Unit => (cM G ad mrf msl mst men mnw mdn mpw mwr mrs mdr mtb mrc mnx mro mit mve mrb mch mva mic mlb mrw mnb mlk mnk mmd)) := by
  generalize hres : f_MO_isKey p0 = res
  refine Met_of (Qc := fun A => va_Qi (eqP res) (Wb G A (fun _ : Unit => (cM G ad mrf msl mst men mnw mdn mpw mwr mrs mdr mtb mrc mnx mro mit mve mrb mch mva mic mlb mrw mnb mlk mnk mmd))) A) (by decide) (Nat.le_of_ble_eq_true rfl) ?_
  intro p e s m below meth c hadm hx hb hr hml hown hlocks ht hK A hA hP hD hS ls hl
  have hC : Cx p l e s m (([.int p0] : List Value)).toArray meth c y_MO_isKey b_MO_isKey 1 (some .boolean) "BookTreesModel" G A := ⟨hx, hb, hr, hml, hown, hlocks, ht, hK, hA⟩
  have hown : s.vm.findClass "BookTreesModel" = some m.cls := hown
  have hl : lv_has ls 1 [(0, .int p0)] := hl
  rw [f_MO_isKey] at hres
  refine lv_iload_n hx hb d_MO_isKey_0 rfl (lv_at hl 0 rfl) ?_
  refine lv_if_lt (tgt := 15) hx hb d_MO_isKey_1 (by decide) (fun c_1 => ?_) (fun c_1 => ?_)
  · have hres := it_t c_1 hres
    refine lv_iconst (v := (0 : Int32)) hx hb d_MO_isKey_15 (by decide) ?_
    exact en_z (w1 := (fun _ : Unit => (cM G ad mrf msl mst men mnw mdn mpw mwr mrs mdr mtb mrc mnx mro mit mve mrb mch mva mic mlb mrw mnb mlk mnk mmd))) () hx hb hr hlocks hK hP hD hS hres isB_0 d_MO_isKey_16
  · have hres := it_f c_1 hres
    refine lv_iload_n hx hb d_MO_isKey_4 rfl (lv_at hl 0 rfl) ?_
    refine lv_sipush (v := (512 : Int32)) hx hb d_MO_isKey_5 (by decide) ?_
    refine lv_icmp_ge (tgt := 15) hx hb d_MO_isKey_8 (by decide) (fun c_8 => ?_) (fun c_8 => ?_)
    · have hres := it_t c_8 hres
      refine lv_iconst (v := (0 : Int32)) hx hb d_MO_isKey_15 (by decide) ?_
      exact en_z (w1 := (fun _ : Unit => (cM G ad mrf msl mst men mnw mdn mpw mwr mrs mdr mtb mrc mnx mro mit mve mrb mch mva mic mlb mrw mnb mlk mnk mmd))) () hx hb hr hlocks hK hP hD hS hres isB_0 d_MO_isKey_16
    · have hres := it_f c_8 hres
      refine lv_iconst (v := (1 : Int32)) hx hb d_MO_isKey_11 (by decide) ?_
      refine lv_goto (tgt := 16) hx hb d_MO_isKey_12 (by decide) ?_
      exact en_z (w1 := (fun _ : Unit => (cM G ad mrf msl mst men mnw mdn mpw mwr mrs mdr mtb mrc mnx mro mit mve mrb mch mva mic mlb mrw mnb mlk mnk mmd))) () hx hb hr hlocks hK hP hD hS hres isB_1 d_MO_isKey_16
/-! ===== BookTreesModel.goes(Z)Z ===== -/
abbrev rm_MO_goes : Room := { frames := 0, cells := 0, slots := 0, locals := 0 }
def f_MO_goes (p0 : Int32) (mrf : Int32) (mdn : Int32) : Int32 × Int32 := if p0 = 0 then (if (1 : Int32) = 0 then ((1 : Int32), (1 : Int32)) else ((0 : Int32), (1 : Int32))) else if mdn = 0 then (if (0 : Int32) = 0 then ((1 : Int32), (0 : Int32)) else ((0 : Int32), (0 : Int32))) else if (2 : Int32) = 0 then ((1 : Int32), (2 : Int32)) else ((0 : Int32), (2 : Int32))
set_option maxHeartbeats 4000000 in
set_option maxRecDepth 100000 in
theorem c_MO_goes {l : Launch} {G : GG} {ad : Nat → Nat} {sz : Nat} {mrf : Int32} {msl : Int32} {mst : Int32} {men : Int32} {mnw : Int32} {mdn : Int32} {mpw : Int32} {mwr : Int32} {mrs : Int32} {mdr : Int32} {mtb : Int32} {mrc : Int32} {mnx : Int32} {mro : (Nat → Int32)} {mit : (Nat → Int32)} {mve : (Nat → Int32)} {mrb : (Nat → Int32)} {mch : (Nat → Int32)} {mva : (Nat → Int32)} {mic : (Nat → Int32)} {mlb : (Nat → Int32)} {mrw : (Nat → Int32)} {mnb : (Nat → Int32)} {mlk : (Nat → Int32)} {mnk : (Nat → Int32)} {mmd : (Nat → Int32)} {p0 : Int32} : CtI l y_MO_goes b_MO_goes 2 (some .boolean) rm_MO_goes G (cM G ad mrf msl mst men mnw mdn mpw mwr mrs mdr mtb mrc mnx mro mit mve mrb mch mva mic mlb mrw mnb mlk mnk mmd) sz [.ref (ad 0), .int p0] (eqP (f_MO_goes p0 mrf mdn)) (fun u : Int32 => (cM G ad u msl mst men mnw mdn mpw mwr mrs mdr mtb mrc mnx mro mit mve mrb mch mva mic mlb mrw mnb mlk mnk mmd)) := by
  generalize hres : f_MO_goes p0 mrf mdn = res
  refine Met_of (Qc := fun A => va_Qi (eqP res) (Wb G A (fun u : Int32 => (cM G ad u msl mst men mnw mdn mpw mwr mrs mdr mtb mrc mnx mro mit mve mrb mch mva mic mlb mrw mnb mlk mnk mmd))) A) (by decide) (Nat.le_of_ble_eq_true rfl) ?_
  intro p e s m below meth c hadm hx hb hr hml hown hlocks ht hK A hA hP hD hS ls hl
  have hC : Cx p l e s m (([.ref (ad 0), .int p0] : List Value)).toArray meth c y_MO_goes b_MO_goes 2 (some .boolean) "BookTreesModel" G A := ⟨hx, hb, hr, hml, hown, hlocks, ht, hK, hA⟩
  have hown : s.vm.findClass "BookTreesModel" = some m.cls := hown
  have hl : lv_has ls 2 [(0, .ref (ad 0)), (1, .int p0)] := hl
  rw [f_MO_goes] at hres
  refine lv_aload_n hx hb d_MO_goes_0 rfl (lv_at hl 0 rfl) ?_
  refine lv_iload_n hx hb d_MO_goes_1 rfl (lv_at hl 1 rfl) ?_
  refine lv_if_ne (tgt := 9) hx hb d_MO_goes_2 (by decide) (fun c_2 => ?_) (fun c_2 => ?_)
  · have hres := it_f c_2 hres
    refine lv_aload_n hx hb d_MO_goes_9 rfl (lv_at hl 0 rfl) ?_
    refine va_get (D := G.1) (ci := 6) (C := R_MO) (T := F_MO) (N := 26) hx hb ht in_MO hown hK hP 0 rfl rfl 7 (by decide) (ht _ kf_MO_60) (fun _ h9 => h9) rfl d_MO_goes_10 ?_
    refine lv_if_eq (tgt := 20) hx hb d_MO_goes_13 (by decide) (fun c_13 => ?_) (fun c_13 => ?_)
    · have hres := it_t c_13 hres
      refine lv_iconst (v := (0 : Int32)) hx hb d_MO_goes_20 (by decide) ?_
      refine va_put (D := G.1) (ci := 6) (v := .int (0 : Int32)) (ty := .int) (C := R_MO) (T := F_MO) (N := 26) hx hb ht in_MO t_MO to_MO nm_MO hown hK hP hD hS 0 rfl rfl 0 (by decide) (ht _ kf_MO_57) (fun _ h9 => h9) rfl (to_MO 0 (by decide)) rfl rfl (Nat.le_of_ble_eq_true rfl) d_MO_goes_21 (fun H locs hP hD hS => ?_)
      have hP : va_P G.1 classes (cM G ad (0 : Int32) msl mst men mnw mdn mpw mwr mrs mdr mtb mrc mnx mro mit mve mrb mch mva mic mlb mrw mnb mlk mnk mmd) H := hP
      have hD : va_D A (cM G ad (0 : Int32) msl mst men mnw mdn mpw mwr mrs mdr mtb mrc mnx mro mit mve mrb mch mva mic mlb mrw mnb mlk mnk mmd) := hD
      refine lv_aload_n hx hb d_MO_goes_24 rfl (lv_at hl 0 rfl) ?_
      refine va_get (D := G.1) (ci := 6) (C := R_MO) (T := F_MO) (N := 26) hx hb ht in_MO hown hK hP 0 rfl rfl 0 (by decide) (ht _ kf_MO_57) (fun _ h9 => h9) rfl d_MO_goes_25 ?_
      refine lv_if_ne (tgt := 35) hx hb d_MO_goes_28 (by decide) (fun c_28 => ?_) (fun c_28 => ?_)
      · have hres := it_f c_28 hres
        refine lv_iconst (v := (0 : Int32)) hx hb d_MO_goes_35 (by decide) ?_
        exact en_z (w1 := (fun u : Int32 => (cM G ad u msl mst men mnw mdn mpw mwr mrs mdr mtb mrc mnx mro mit mve mrb mch mva mic mlb mrw mnb mlk mnk mmd))) (0 : Int32) hx hb hr hlocks hK hP hD hS hres isB_0 d_MO_goes_36
      · have hres := it_t c_28 hres
        refine lv_iconst (v := (1 : Int32)) hx hb d_MO_goes_31 (by decide) ?_
        refine lv_goto (tgt := 36) hx hb d_MO_goes_32 (by decide) ?_
        exact en_z (w1 := (fun u : Int32 => (cM G ad u msl mst men mnw mdn mpw mwr mrs mdr mtb mrc mnx mro mit mve mrb mch mva mic mlb mrw mnb mlk mnk mmd))) (0 : Int32) hx hb hr hlocks hK hP hD hS hres isB_1 d_MO_goes_36
    · have hres := it_f c_13 hres
      refine lv_iconst (v := (2 : Int32)) hx hb d_MO_goes_16 (by decide) ?_
      refine lv_goto (tgt := 21) hx hb d_MO_goes_17 (by decide) ?_
      refine va_put (D := G.1) (ci := 6) (v := .int (2 : Int32)) (ty := .int) (C := R_MO) (T := F_MO) (N := 26) hx hb ht in_MO t_MO to_MO nm_MO hown hK hP hD hS 0 rfl rfl 0 (by decide) (ht _ kf_MO_57) (fun _ h9 => h9) rfl (to_MO 0 (by decide)) rfl rfl (Nat.le_of_ble_eq_true rfl) d_MO_goes_21 (fun H locs hP hD hS => ?_)
      have hP : va_P G.1 classes (cM G ad (2 : Int32) msl mst men mnw mdn mpw mwr mrs mdr mtb mrc mnx mro mit mve mrb mch mva mic mlb mrw mnb mlk mnk mmd) H := hP
      have hD : va_D A (cM G ad (2 : Int32) msl mst men mnw mdn mpw mwr mrs mdr mtb mrc mnx mro mit mve mrb mch mva mic mlb mrw mnb mlk mnk mmd) := hD
      refine lv_aload_n hx hb d_MO_goes_24 rfl (lv_at hl 0 rfl) ?_
      refine va_get (D := G.1) (ci := 6) (C := R_MO) (T := F_MO) (N := 26) hx hb ht in_MO hown hK hP 0 rfl rfl 0 (by decide) (ht _ kf_MO_57) (fun _ h9 => h9) rfl d_MO_goes_25 ?_
      refine lv_if_ne (tgt := 35) hx hb d_MO_goes_28 (by decide) (fun c_28 => ?_) (fun c_28 => ?_)
      · have hres := it_f c_28 hres
        refine lv_iconst (v := (0 : Int32)) hx hb d_MO_goes_35 (by decide) ?_
        exact en_z (w1 := (fun u : Int32 => (cM G ad u msl mst men mnw mdn mpw mwr mrs mdr mtb mrc mnx mro mit mve mrb mch mva mic mlb mrw mnb mlk mnk mmd))) (2 : Int32) hx hb hr hlocks hK hP hD hS hres isB_0 d_MO_goes_36
      · have hres := it_t c_28 hres
        refine lv_iconst (v := (1 : Int32)) hx hb d_MO_goes_31 (by decide) ?_
        refine lv_goto (tgt := 36) hx hb d_MO_goes_32 (by decide) ?_
        exact en_z (w1 := (fun u : Int32 => (cM G ad u msl mst men mnw mdn mpw mwr mrs mdr mtb mrc mnx mro mit mve mrb mch mva mic mlb mrw mnb mlk mnk mmd))) (2 : Int32) hx hb hr hlocks hK hP hD hS hres isB_1 d_MO_goes_36
  · have hres := it_t c_2 hres
    refine lv_iconst (v := (1 : Int32)) hx hb d_MO_goes_5 (by decide) ?_
    refine lv_goto (tgt := 21) hx hb d_MO_goes_6 (by decide) ?_
    refine va_put (D := G.1) (ci := 6) (v := .int (1 : Int32)) (ty := .int) (C := R_MO) (T := F_MO) (N := 26) hx hb ht in_MO t_MO to_MO nm_MO hown hK hP hD hS 0 rfl rfl 0 (by decide) (ht _ kf_MO_57) (fun _ h9 => h9) rfl (to_MO 0 (by decide)) rfl rfl (Nat.le_of_ble_eq_true rfl) d_MO_goes_21 (fun H locs hP hD hS => ?_)
    have hP : va_P G.1 classes (cM G ad (1 : Int32) msl mst men mnw mdn mpw mwr mrs mdr mtb mrc mnx mro mit mve mrb mch mva mic mlb mrw mnb mlk mnk mmd) H := hP
    have hD : va_D A (cM G ad (1 : Int32) msl mst men mnw mdn mpw mwr mrs mdr mtb mrc mnx mro mit mve mrb mch mva mic mlb mrw mnb mlk mnk mmd) := hD
    refine lv_aload_n hx hb d_MO_goes_24 rfl (lv_at hl 0 rfl) ?_
    refine va_get (D := G.1) (ci := 6) (C := R_MO) (T := F_MO) (N := 26) hx hb ht in_MO hown hK hP 0 rfl rfl 0 (by decide) (ht _ kf_MO_57) (fun _ h9 => h9) rfl d_MO_goes_25 ?_
    refine lv_if_ne (tgt := 35) hx hb d_MO_goes_28 (by decide) (fun c_28 => ?_) (fun c_28 => ?_)
    · have hres := it_f c_28 hres
      refine lv_iconst (v := (0 : Int32)) hx hb d_MO_goes_35 (by decide) ?_
      exact en_z (w1 := (fun u : Int32 => (cM G ad u msl mst men mnw mdn mpw mwr mrs mdr mtb mrc mnx mro mit mve mrb mch mva mic mlb mrw mnb mlk mnk mmd))) (1 : Int32) hx hb hr hlocks hK hP hD hS hres isB_0 d_MO_goes_36
    · have hres := it_t c_28 hres
      refine lv_iconst (v := (1 : Int32)) hx hb d_MO_goes_31 (by decide) ?_
      refine lv_goto (tgt := 36) hx hb d_MO_goes_32 (by decide) ?_
      exact en_z (w1 := (fun u : Int32 => (cM G ad u msl mst men mnw mdn mpw mwr mrs mdr mtb mrc mnx mro mit mve mrb mch mva mic mlb mrw mnb mlk mnk mmd))) (1 : Int32) hx hb hr hlocks hK hP hD hS hres isB_1 d_MO_goes_36
/-! ===== BookTreesModel.change(III)V ===== -/
abbrev rm_MO_change : Room := { frames := 0, cells := 0, slots := 0, locals := 0 }
def f_MO_change (p0 : Int32) (p1 : Int32) (p2 : Int32) (mdr : Int32) (mch : (Nat → Int32)) (mva : (Nat → Int32)) : Int32 × (Nat → Int32) × (Nat → Int32) := if (mch p0.toNatClampNeg) = 0 then (mdr + (1 : Int32), upd mch p0.toNatClampNeg p1, upd mva p0.toNatClampNeg p2) else (mdr, upd mch p0.toNatClampNeg p1, upd mva p0.toNatClampNeg p2)
def ok_MO_change (p0 : Int32) (p1 : Int32) (p2 : Int32) (mdr : Int32) (mch : (Nat → Int32)) (mva : (Nat → Int32)) : Prop := vp_in p0 512 ∧ (((mch p0.toNatClampNeg) = 0 → vp_in p0 512 ∧ (vp_in p0 512)) ∧ (¬ (mch p0.toNatClampNeg) = 0 → vp_in p0 512 ∧ (vp_in p0 512)))
set_option maxHeartbeats 4000000 in
set_option maxRecDepth 100000 in
theorem c_MO_change {l : Launch} {G : GG} {ad : Nat → Nat} {sz : Nat} {mrf : Int32} {msl : Int32} {mst : Int32} {men : Int32} {mnw : Int32} {mdn : Int32} {mpw : Int32} {mwr : Int32} {mrs : Int32} {mdr : Int32} {mtb : Int32} {mrc : Int32} {mnx : Int32} {mro : (Nat → Int32)} {mit : (Nat → Int32)} {mve : (Nat → Int32)} {mrb : (Nat → Int32)} {mch : (Nat → Int32)} {mva : (Nat → Int32)} {mic : (Nat → Int32)} {mlb : (Nat → Int32)} {mrw : (Nat → Int32)} {mnb : (Nat → Int32)} {mlk : (Nat → Int32)} {mnk : (Nat → Int32)} {mmd : (Nat → Int32)} {p0 : Int32} {p1 : Int32} {p2 : Int32} (hok : ok_MO_change p0 p1 p2 mdr mch mva) : CtV l y_MO_change b_MO_change 4 none rm_MO_change G (cM G ad mrf msl mst men mnw mdn mpw mwr mrs mdr mtb mrc mnx mro mit mve mrb mch mva mic mlb mrw mnb mlk mnk mmd) sz [.ref (ad 0), .int p0, .int p1, .int p2] (eqV (f_MO_change p0 p1 p2 mdr mch mva)) (fun u : Int32 × (Nat → Int32) × (Nat → Int32) => (cM G ad mrf msl mst men mnw mdn mpw mwr mrs u.1 mtb mrc mnx mro mit mve mrb u.2.1 u.2.2 mic mlb mrw mnb mlk mnk mmd)) := by
  generalize hres : f_MO_change p0 p1 p2 mdr mch mva = res
  refine Met_of (Qc := fun A => va_Qv (eqV res) (Wb G A (fun u : Int32 × (Nat → Int32) × (Nat → Int32) => (cM G ad mrf msl mst men mnw mdn mpw mwr mrs u.1 mtb mrc mnx mro mit mve mrb u.2.1 u.2.2 mic mlb mrw mnb mlk mnk mmd))) A) (by decide) (Nat.le_of_ble_eq_true rfl) ?_
  intro p e s m below meth c hadm hx hb hr hml hown hlocks ht hK A hA hP hD hS ls hl
  have hC : Cx p l e s m (([.ref (ad 0), .int p0, .int p1, .int p2] : List Value)).toArray meth c y_MO_change b_MO_change 4 none "BookTreesModel" G A := ⟨hx, hb, hr, hml, hown, hlocks, ht, hK, hA⟩
  have hown : s.vm.findClass "BookTreesModel" = some m.cls := hown
  have hl : lv_has ls 4 [(0, .ref (ad 0)), (1, .int p0), (2, .int p1), (3, .int p2)] := hl
  rw [f_MO_change] at hres
  rw [ok_MO_change] at hok
  refine lv_aload_n hx hb d_MO_change_0 rfl (lv_at hl 0 rfl) ?_
  refine lv_aload_n hx hb d_MO_change_1 rfl (lv_at hl 0 rfl) ?_
  refine va_get (D := G.1) (ci := 6) (C := R_MO) (T := F_MO) (N := 26) hx hb ht in_MO hown hK hP 0 rfl rfl 14 (by decide) (ht _ kf_MO_27) (fun _ h9 => h9) rfl d_MO_change_2 ?_
  refine lv_iload_n hx hb d_MO_change_5 rfl (lv_at hl 1 rfl) ?_
  obtain ⟨hi_6, hok⟩ := hok
  refine va_iald hx hb hK hP 5 0 rfl rfl hi_6 d_MO_change_6 ?_
  refine lv_if_ne (tgt := 19) hx hb d_MO_change_7 (by decide) (fun c_7 => ?_) (fun c_7 => ?_)
  · have hres := it_f c_7 hres
    have hok := hok.2 c_7
    refine lv_aload_n hx hb d_MO_change_19 rfl (lv_at hl 0 rfl) ?_
    refine va_get (D := G.1) (ci := 6) (C := R_MO) (T := F_MO) (N := 26) hx hb ht in_MO hown hK hP 0 rfl rfl 13 (by decide) (ht _ kf_MO_95) (fun _ h9 => h9) rfl d_MO_change_20 ?_
    refine va_put (D := G.1) (ci := 6) (v := .int mdr) (ty := .int) (C := R_MO) (T := F_MO) (N := 26) hx hb ht in_MO t_MO to_MO nm_MO hown hK hP hD hS 0 rfl rfl 13 (by decide) (ht _ kf_MO_95) (fun _ h9 => h9) rfl (to_MO 13 (by decide)) rfl rfl (Nat.le_of_ble_eq_true rfl) d_MO_change_23 (fun H locs hP hD hS => ?_)
    have hP : va_P G.1 classes (cM G ad mrf msl mst men mnw mdn mpw mwr mrs mdr mtb mrc mnx mro mit mve mrb mch mva mic mlb mrw mnb mlk mnk mmd) H := hP
    have hD : va_D A (cM G ad mrf msl mst men mnw mdn mpw mwr mrs mdr mtb mrc mnx mro mit mve mrb mch mva mic mlb mrw mnb mlk mnk mmd) := hD
    refine lv_aload_n hx hb d_MO_change_26 rfl (lv_at hl 0 rfl) ?_
    refine va_get (D := G.1) (ci := 6) (C := R_MO) (T := F_MO) (N := 26) hx hb ht in_MO hown hK hP 0 rfl rfl 14 (by decide) (ht _ kf_MO_27) (fun _ h9 => h9) rfl d_MO_change_27 ?_
    refine lv_iload_n hx hb d_MO_change_30 rfl (lv_at hl 1 rfl) ?_
    refine lv_iload_n hx hb d_MO_change_31 rfl (lv_at hl 2 rfl) ?_
    obtain ⟨hi_32, hok⟩ := hok
    refine va_iast hx hb hK hP hD hS 5 0 rfl rfl hi_32 d_MO_change_32 (fun H locs hP hD hS => ?_)
    have hP : va_P G.1 classes (cM G ad mrf msl mst men mnw mdn mpw mwr mrs mdr mtb mrc mnx mro mit mve mrb (upd mch p0.toNatClampNeg p1) mva mic mlb mrw mnb mlk mnk mmd) H := hP
    have hD : va_D A (cM G ad mrf msl mst men mnw mdn mpw mwr mrs mdr mtb mrc mnx mro mit mve mrb (upd mch p0.toNatClampNeg p1) mva mic mlb mrw mnb mlk mnk mmd) := hD
    refine lv_aload_n hx hb d_MO_change_33 rfl (lv_at hl 0 rfl) ?_
    refine va_get (D := G.1) (ci := 6) (C := R_MO) (T := F_MO) (N := 26) hx hb ht in_MO hown hK hP 0 rfl rfl 15 (by decide) (ht _ kf_MO_30) (fun _ h9 => h9) rfl d_MO_change_34 ?_
    refine lv_iload_n hx hb d_MO_change_37 rfl (lv_at hl 1 rfl) ?_
    refine lv_iload_n hx hb d_MO_change_38 rfl (lv_at hl 3 rfl) ?_
    have hi_39 := hok
    refine va_iast hx hb hK hP hD hS 6 0 rfl rfl hi_39 d_MO_change_39 (fun H locs hP hD hS => ?_)
    have hP : va_P G.1 classes (cM G ad mrf msl mst men mnw mdn mpw mwr mrs mdr mtb mrc mnx mro mit mve mrb (upd mch p0.toNatClampNeg p1) (upd mva p0.toNatClampNeg p2) mic mlb mrw mnb mlk mnk mmd) H := hP
    have hD : va_D A (cM G ad mrf msl mst men mnw mdn mpw mwr mrs mdr mtb mrc mnx mro mit mve mrb (upd mch p0.toNatClampNeg p1) (upd mva p0.toNatClampNeg p2) mic mlb mrw mnb mlk mnk mmd) := hD
    exact en_v (w1 := (fun u : Int32 × (Nat → Int32) × (Nat → Int32) => (cM G ad mrf msl mst men mnw mdn mpw mwr mrs u.1 mtb mrc mnx mro mit mve mrb u.2.1 u.2.2 mic mlb mrw mnb mlk mnk mmd))) (mdr, upd mch p0.toNatClampNeg p1, upd mva p0.toNatClampNeg p2) hx hb hr hlocks hK hP hD hS hres d_MO_change_40
  · have hres := it_t c_7 hres
    have hok := hok.1 c_7
    refine lv_aload_n hx hb d_MO_change_10 rfl (lv_at hl 0 rfl) ?_
    refine va_get (D := G.1) (ci := 6) (C := R_MO) (T := F_MO) (N := 26) hx hb ht in_MO hown hK hP 0 rfl rfl 13 (by decide) (ht _ kf_MO_95) (fun _ h9 => h9) rfl d_MO_change_11 ?_
    refine lv_iconst (v := (1 : Int32)) hx hb d_MO_change_14 (by decide) ?_
    refine lv_iadd hx hb d_MO_change_15 ?_
    refine lv_goto (tgt := 23) hx hb d_MO_change_16 (by decide) ?_
    refine va_put (D := G.1) (ci := 6) (v := .int (mdr + (1 : Int32))) (ty := .int) (C := R_MO) (T := F_MO) (N := 26) hx hb ht in_MO t_MO to_MO nm_MO hown hK hP hD hS 0 rfl rfl 13 (by decide) (ht _ kf_MO_95) (fun _ h9 => h9) rfl (to_MO 13 (by decide)) rfl rfl (Nat.le_of_ble_eq_true rfl) d_MO_change_23 (fun H locs hP hD hS => ?_)
    have hP : va_P G.1 classes (cM G ad mrf msl mst men mnw mdn mpw mwr mrs (mdr + (1 : Int32)) mtb mrc mnx mro mit mve mrb mch mva mic mlb mrw mnb mlk mnk mmd) H := hP
    have hD : va_D A (cM G ad mrf msl mst men mnw mdn mpw mwr mrs (mdr + (1 : Int32)) mtb mrc mnx mro mit mve mrb mch mva mic mlb mrw mnb mlk mnk mmd) := hD
    refine lv_aload_n hx hb d_MO_change_26 rfl (lv_at hl 0 rfl) ?_
    refine va_get (D := G.1) (ci := 6) (C := R_MO) (T := F_MO) (N := 26) hx hb ht in_MO hown hK hP 0 rfl rfl 14 (by decide) (ht _ kf_MO_27) (fun _ h9 => h9) rfl d_MO_change_27 ?_
    refine lv_iload_n hx hb d_MO_change_30 rfl (lv_at hl 1 rfl) ?_
    refine lv_iload_n hx hb d_MO_change_31 rfl (lv_at hl 2 rfl) ?_
    obtain ⟨hi_32, hok⟩ := hok
    refine va_iast hx hb hK hP hD hS 5 0 rfl rfl hi_32 d_MO_change_32 (fun H locs hP hD hS => ?_)
    have hP : va_P G.1 classes (cM G ad mrf msl mst men mnw mdn mpw mwr mrs (mdr + (1 : Int32)) mtb mrc mnx mro mit mve mrb (upd mch p0.toNatClampNeg p1) mva mic mlb mrw mnb mlk mnk mmd) H := hP
    have hD : va_D A (cM G ad mrf msl mst men mnw mdn mpw mwr mrs (mdr + (1 : Int32)) mtb mrc mnx mro mit mve mrb (upd mch p0.toNatClampNeg p1) mva mic mlb mrw mnb mlk mnk mmd) := hD
    refine lv_aload_n hx hb d_MO_change_33 rfl (lv_at hl 0 rfl) ?_
    refine va_get (D := G.1) (ci := 6) (C := R_MO) (T := F_MO) (N := 26) hx hb ht in_MO hown hK hP 0 rfl rfl 15 (by decide) (ht _ kf_MO_30) (fun _ h9 => h9) rfl d_MO_change_34 ?_
    refine lv_iload_n hx hb d_MO_change_37 rfl (lv_at hl 1 rfl) ?_
    refine lv_iload_n hx hb d_MO_change_38 rfl (lv_at hl 3 rfl) ?_
    have hi_39 := hok
    refine va_iast hx hb hK hP hD hS 6 0 rfl rfl hi_39 d_MO_change_39 (fun H locs hP hD hS => ?_)
    have hP : va_P G.1 classes (cM G ad mrf msl mst men mnw mdn mpw mwr mrs (mdr + (1 : Int32)) mtb mrc mnx mro mit mve mrb (upd mch p0.toNatClampNeg p1) (upd mva p0.toNatClampNeg p2) mic mlb mrw mnb mlk mnk mmd) H := hP
    have hD : va_D A (cM G ad mrf msl mst men mnw mdn mpw mwr mrs (mdr + (1 : Int32)) mtb mrc mnx mro mit mve mrb (upd mch p0.toNatClampNeg p1) (upd mva p0.toNatClampNeg p2) mic mlb mrw mnb mlk mnk mmd) := hD
    exact en_v (w1 := (fun u : Int32 × (Nat → Int32) × (Nat → Int32) => (cM G ad mrf msl mst men mnw mdn mpw mwr mrs u.1 mtb mrc mnx mro mit mve mrb u.2.1 u.2.2 mic mlb mrw mnb mlk mnk mmd))) (mdr + (1 : Int32), upd mch p0.toNatClampNeg p1, upd mva p0.toNatClampNeg p2) hx hb hr hlocks hK hP hD hS hres d_MO_change_40
/-! ===== BookTreesModel.put(II)I ===== -/
abbrev rm_MO_put : Room := { frames := 1, cells := 0, slots := 0, locals := 23 }
def f_MO_put (p0 : Int32) (p1 : Int32) (mrf : Int32) (mdn : Int32) (mdr : Int32) (mch : (Nat → Int32)) (mva : (Nat → Int32)) : Int32 × Int32 × Int32 × (Nat → Int32) × (Nat → Int32) := bindc (f_MO_isKey p0) (fun z_2 => bindc (f_MO_goes z_2.1 mrf mdn) (fun z_5 => if z_5.1 = 0 then ((0 : Int32), (z_5.2, mdr, mch, mva)) else bindc (f_MO_change p0 (1 : Int32) p1 mdr mch mva) (fun z_17 => (z_17.1, (z_5.2, z_17.1, z_17.2.1, z_17.2.2)))))
def ok_MO_put (p0 : Int32) (p1 : Int32) (mrf : Int32) (mdn : Int32) (mdr : Int32) (mch : (Nat → Int32)) (mva : (Nat → Int32)) : Prop := bindp (f_MO_isKey p0) (fun z_2 => bindp (f_MO_goes z_2.1 mrf mdn) (fun z_5 => (z_5.1 = 0 → True) ∧ (¬ z_5.1 = 0 → ok_MO_change p0 (1 : Int32) p1 mdr mch mva)))
set_option maxHeartbeats 4000000 in
set_option maxRecDepth 100000 in
theorem c_MO_put {l : Launch} {G : GG} {ad : Nat → Nat} {sz : Nat} {mrf : Int32} {msl : Int32} {mst : Int32} {men : Int32} {mnw : Int32} {mdn : Int32} {mpw : Int32} {mwr : Int32} {mrs : Int32} {mdr : Int32} {mtb : Int32} {mrc : Int32} {mnx : Int32} {mro : (Nat → Int32)} {mit : (Nat → Int32)} {mve : (Nat → Int32)} {mrb : (Nat → Int32)} {mch : (Nat → Int32)} {mva : (Nat → Int32)} {mic : (Nat → Int32)} {mlb : (Nat → Int32)} {mrw : (Nat → Int32)} {mnb : (Nat → Int32)} {mlk : (Nat → Int32)} {mnk : (Nat → Int32)} {mmd : (Nat → Int32)} {p0 : Int32} {p1 : Int32} (hok : ok_MO_put p0 p1 mrf mdn mdr mch mva) : CtI l y_MO_put b_MO_put 3 (some .int) rm_MO_put G (cM G ad mrf msl mst men mnw mdn mpw mwr mrs mdr mtb mrc mnx mro mit mve mrb mch mva mic mlb mrw mnb mlk mnk mmd) sz [.ref (ad 0), .int p0, .int p1] (eqP (f_MO_put p0 p1 mrf mdn mdr mch mva)) (fun u : Int32 × Int32 × (Nat → Int32) × (Nat → Int32) => (cM G ad u.1 msl mst men mnw mdn mpw mwr mrs u.2.1 mtb mrc mnx mro mit mve mrb u.2.2.1 u.2.2.2 mic mlb mrw mnb mlk mnk mmd)) := by
  generalize hres : f_MO_put p0 p1 mrf mdn mdr mch mva = res
  refine Met_of (Qc := fun A => va_Qi (eqP res) (Wb G A (fun u : Int32 × Int32 × (Nat → Int32) × (Nat → Int32) => (cM G ad u.1 msl mst men mnw mdn mpw mwr mrs u.2.1 mtb mrc mnx mro mit mve mrb u.2.2.1 u.2.2.2 mic mlb mrw mnb mlk mnk mmd))) A) (by decide) (Nat.le_of_ble_eq_true rfl) ?_
  intro p e s m below meth c hadm hx hb hr hml hown hlocks ht hK A hA hP hD hS ls hl
  have hC : Cx p l e s m (([.ref (ad 0), .int p0, .int p1] : List Value)).toArray meth c y_MO_put b_MO_put 3 (some .int) "BookTreesModel" G A := ⟨hx, hb, hr, hml, hown, hlocks, ht, hK, hA⟩
  have hown : s.vm.findClass "BookTreesModel" = some m.cls := hown
  have hl : lv_has ls 3 [(0, .ref (ad 0)), (1, .int p0), (2, .int p1)] := hl
  rw [f_MO_put] at hres
  rw [ok_MO_put] at hok
  refine lv_aload_n hx hb d_MO_put_0 rfl (lv_at hl 0 rfl) ?_
  refine lv_iload_n hx hb d_MO_put_1 rfl (lv_at hl 1 rfl) ?_
  refine go_iz (run_S hx hb hml hown ht hK hP hD (c_MO_isKey) (cw_S ht km_MO_98 kt_MO_isKey ini_MO kd_MO_isKey kh_MO_isKey ⟨Nat.le_of_ble_eq_true rfl, Nat.le_of_ble_eq_true rfl⟩ rfl rfl) (As := [.int p0]) (rest := [.ref (ad 0)]) rfl hl.1 rfl (Nat.le_of_ble_eq_true rfl) d_MO_put_2 ⟨Nat.zero_le _, Nat.zero_le _⟩) hD hS hA (fun z_2 H locs hz_2 hP hD hS => ?_)
  have hres := bindc_eq hz_2 hres
  have hok := bindp_eq hz_2 hok
  have hP : va_P G.1 classes (cM G ad mrf msl mst men mnw mdn mpw mwr mrs mdr mtb mrc mnx mro mit mve mrb mch mva mic mlb mrw mnb mlk mnk mmd) H := hP
  have hD : va_D A (cM G ad mrf msl mst men mnw mdn mpw mwr mrs mdr mtb mrc mnx mro mit mve mrb mch mva mic mlb mrw mnb mlk mnk mmd) := hD
  refine go_iz (run_V hx hb hml hown ht hK hP hD (c_MO_goes) (cw_V ht km_MO_101 ki_MO_goes ks_MO_goes ini_MO kd_MO_goes kh_MO_goes ⟨Nat.le_of_ble_eq_true rfl, Nat.le_of_ble_eq_true rfl⟩ rfl rfl) (q0 := 0) (ci := 6) (As := [.int z_2.1]) (rest := []) rfl rfl rfl hl.1 rfl (Nat.le_of_ble_eq_true rfl) d_MO_put_5 ⟨Nat.zero_le _, Nat.zero_le _⟩) hD hS hA (fun z_5 H locs hz_5 hP hD hS => ?_)
  have hres := bindc_eq hz_5 hres
  have hok := bindp_eq hz_5 hok
  have hP : va_P G.1 classes (cM G ad z_5.2 msl mst men mnw mdn mpw mwr mrs mdr mtb mrc mnx mro mit mve mrb mch mva mic mlb mrw mnb mlk mnk mmd) H := hP
  have hD : va_D A (cM G ad z_5.2 msl mst men mnw mdn mpw mwr mrs mdr mtb mrc mnx mro mit mve mrb mch mva mic mlb mrw mnb mlk mnk mmd) := hD
  refine lv_if_ne (tgt := 13) hx hb d_MO_put_8 (by decide) (fun c_8 => ?_) (fun c_8 => ?_)
  · have hres := it_f c_8 hres
    have hok := hok.2 c_8
    refine lv_aload_n hx hb d_MO_put_13 rfl (lv_at hl 0 rfl) ?_
    refine lv_iload_n hx hb d_MO_put_14 rfl (lv_at hl 1 rfl) ?_
    refine lv_iconst (v := (1 : Int32)) hx hb d_MO_put_15 (by decide) ?_
    refine lv_iload_n hx hb d_MO_put_16 rfl (lv_at hl 2 rfl) ?_
    have hk_17 := hok
    refine go_vz (run_V hx hb hml hown ht hK hP hD (c_MO_change hk_17) (cw_V ht km_MO_105 ki_MO_change ks_MO_change ini_MO kd_MO_change kh_MO_change ⟨Nat.le_of_ble_eq_true rfl, Nat.le_of_ble_eq_true rfl⟩ rfl rfl) (q0 := 0) (ci := 6) (As := [.int p0, .int (1 : Int32), .int p1]) (rest := []) rfl rfl rfl hl.1 rfl (Nat.le_of_ble_eq_true rfl) d_MO_put_17 ⟨Nat.zero_le _, Nat.zero_le _⟩) hD hS hA (fun z_17 H locs hz_17 hP hD hS => ?_)
    have hres := bindc_eq hz_17 hres
    have hP : va_P G.1 classes (cM G ad z_5.2 msl mst men mnw mdn mpw mwr mrs z_17.1 mtb mrc mnx mro mit mve mrb z_17.2.1 z_17.2.2 mic mlb mrw mnb mlk mnk mmd) H := hP
    have hD : va_D A (cM G ad z_5.2 msl mst men mnw mdn mpw mwr mrs z_17.1 mtb mrc mnx mro mit mve mrb z_17.2.1 z_17.2.2 mic mlb mrw mnb mlk mnk mmd) := hD
    refine lv_aload_n hx hb d_MO_put_20 rfl (lv_at hl 0 rfl) ?_
    refine va_get (D := G.1) (ci := 6) (C := R_MO) (T := F_MO) (N := 26) hx hb ht in_MO hown hK hP 0 rfl rfl 13 (by decide) (ht _ kf_MO_95) (fun _ h9 => h9) rfl d_MO_put_21 ?_
    exact en_i (w1 := (fun u : Int32 × Int32 × (Nat → Int32) × (Nat → Int32) => (cM G ad u.1 msl mst men mnw mdn mpw mwr mrs u.2.1 mtb mrc mnx mro mit mve mrb u.2.2.1 u.2.2.2 mic mlb mrw mnb mlk mnk mmd))) (z_5.2, z_17.1, z_17.2.1, z_17.2.2) hx hb hr hlocks hK hP hD hS hres d_MO_put_24
  · have hres := it_t c_8 hres
    refine lv_iconst (v := (0 : Int32)) hx hb d_MO_put_11 (by decide) ?_
    exact en_i (w1 := (fun u : Int32 × Int32 × (Nat → Int32) × (Nat → Int32) => (cM G ad u.1 msl mst men mnw mdn mpw mwr mrs u.2.1 mtb mrc mnx mro mit mve mrb u.2.2.1 u.2.2.2 mic mlb mrw mnb mlk mnk mmd))) (z_5.2, mdr, mch, mva) hx hb hr hlocks hK hP hD hS hres d_MO_put_12
/-! ===== BookTreesModel.drop(I)I ===== -/
abbrev rm_MO_drop : Room := { frames := 1, cells := 0, slots := 0, locals := 23 }
def f_MO_drop (p0 : Int32) (mrf : Int32) (mdn : Int32) (mdr : Int32) (mch : (Nat → Int32)) (mva : (Nat → Int32)) : Int32 × Int32 × Int32 × (Nat → Int32) × (Nat → Int32) := bindc (f_MO_isKey p0) (fun z_2 => bindc (f_MO_goes z_2.1 mrf mdn) (fun z_5 => if z_5.1 = 0 then ((0 : Int32), (z_5.2, mdr, mch, mva)) else bindc (f_MO_change p0 (2 : Int32) (0 : Int32) mdr mch mva) (fun z_17 => (z_17.1, (z_5.2, z_17.1, z_17.2.1, z_17.2.2)))))
def ok_MO_drop (p0 : Int32) (mrf : Int32) (mdn : Int32) (mdr : Int32) (mch : (Nat → Int32)) (mva : (Nat → Int32)) : Prop := bindp (f_MO_isKey p0) (fun z_2 => bindp (f_MO_goes z_2.1 mrf mdn) (fun z_5 => (z_5.1 = 0 → True) ∧ (¬ z_5.1 = 0 → ok_MO_change p0 (2 : Int32) (0 : Int32) mdr mch mva)))
set_option maxHeartbeats 4000000 in
set_option maxRecDepth 100000 in
theorem c_MO_drop {l : Launch} {G : GG} {ad : Nat → Nat} {sz : Nat} {mrf : Int32} {msl : Int32} {mst : Int32} {men : Int32} {mnw : Int32} {mdn : Int32} {mpw : Int32} {mwr : Int32} {mrs : Int32} {mdr : Int32} {mtb : Int32} {mrc : Int32} {mnx : Int32} {mro : (Nat → Int32)} {mit : (Nat → Int32)} {mve : (Nat → Int32)} {mrb : (Nat → Int32)} {mch : (Nat → Int32)} {mva : (Nat → Int32)} {mic : (Nat → Int32)} {mlb : (Nat → Int32)} {mrw : (Nat → Int32)} {mnb : (Nat → Int32)} {mlk : (Nat → Int32)} {mnk : (Nat → Int32)} {mmd : (Nat → Int32)} {p0 : Int32} (hok : ok_MO_drop p0 mrf mdn mdr mch mva) : CtI l y_MO_drop b_MO_drop 2 (some .int) rm_MO_drop G (cM G ad mrf msl mst men mnw mdn mpw mwr mrs mdr mtb mrc mnx mro mit mve mrb mch mva mic mlb mrw mnb mlk mnk mmd) sz [.ref (ad 0), .int p0] (eqP (f_MO_drop p0 mrf mdn mdr mch mva)) (fun u : Int32 × Int32 × (Nat → Int32) × (Nat → Int32) => (cM G ad u.1 msl mst men mnw mdn mpw mwr mrs u.2.1 mtb mrc mnx mro mit mve mrb u.2.2.1 u.2.2.2 mic mlb mrw mnb mlk mnk mmd)) := by
  generalize hres : f_MO_drop p0 mrf mdn mdr mch mva = res
  refine Met_of (Qc := fun A => va_Qi (eqP res) (Wb G A (fun u : Int32 × Int32 × (Nat → Int32) × (Nat → Int32) => (cM G ad u.1 msl mst men mnw mdn mpw mwr mrs u.2.1 mtb mrc mnx mro mit mve mrb u.2.2.1 u.2.2.2 mic mlb mrw mnb mlk mnk mmd))) A) (by decide) (Nat.le_of_ble_eq_true rfl) ?_
  intro p e s m below meth c hadm hx hb hr hml hown hlocks ht hK A hA hP hD hS ls hl
  have hC : Cx p l e s m (([.ref (ad 0), .int p0] : List Value)).toArray meth c y_MO_drop b_MO_drop 2 (some .int) "BookTreesModel" G A := ⟨hx, hb, hr, hml, hown, hlocks, ht, hK, hA⟩
  have hown : s.vm.findClass "BookTreesModel" = some m.cls := hown
  have hl : lv_has ls 2 [(0, .ref (ad 0)), (1, .int p0)] := hl
  rw [f_MO_drop] at hres
  rw [ok_MO_drop] at hok
  refine lv_aload_n hx hb d_MO_drop_0 rfl (lv_at hl 0 rfl) ?_
  refine lv_iload_n hx hb d_MO_drop_1 rfl (lv_at hl 1 rfl) ?_
  refine go_iz (run_S hx hb hml hown ht hK hP hD (c_MO_isKey) (cw_S ht km_MO_98 kt_MO_isKey ini_MO kd_MO_isKey kh_MO_isKey ⟨Nat.le_of_ble_eq_true rfl, Nat.le_of_ble_eq_true rfl⟩ rfl rfl) (As := [.int p0]) (rest := [.ref (ad 0)]) rfl hl.1 rfl (Nat.le_of_ble_eq_true rfl) d_MO_drop_2 ⟨Nat.zero_le _, Nat.zero_le _⟩) hD hS hA (fun z_2 H locs hz_2 hP hD hS => ?_)
  have hres := bindc_eq hz_2 hres
  have hok := bindp_eq hz_2 hok
  have hP : va_P G.1 classes (cM G ad mrf msl mst men mnw mdn mpw mwr mrs mdr mtb mrc mnx mro mit mve mrb mch mva mic mlb mrw mnb mlk mnk mmd) H := hP
  have hD : va_D A (cM G ad mrf msl mst men mnw mdn mpw mwr mrs mdr mtb mrc mnx mro mit mve mrb mch mva mic mlb mrw mnb mlk mnk mmd) := hD
  refine go_iz (run_V hx hb hml hown ht hK hP hD (c_MO_goes) (cw_V ht km_MO_101 ki_MO_goes ks_MO_goes ini_MO kd_MO_goes kh_MO_goes ⟨Nat.le_of_ble_eq_true rfl, Nat.le_of_ble_eq_true rfl⟩ rfl rfl) (q0 := 0) (ci := 6) (As := [.int z_2.1]) (rest := []) rfl rfl rfl hl.1 rfl (Nat.le_of_ble_eq_true rfl) d_MO_drop_5 ⟨Nat.zero_le _, Nat.zero_le _⟩) hD hS hA (fun z_5 H locs hz_5 hP hD hS => ?_)
  have hres := bindc_eq hz_5 hres
  have hok := bindp_eq hz_5 hok
  have hP : va_P G.1 classes (cM G ad z_5.2 msl mst men mnw mdn mpw mwr mrs mdr mtb mrc mnx mro mit mve mrb mch mva mic mlb mrw mnb mlk mnk mmd) H := hP
  have hD : va_D A (cM G ad z_5.2 msl mst men mnw mdn mpw mwr mrs mdr mtb mrc mnx mro mit mve mrb mch mva mic mlb mrw mnb mlk mnk mmd) := hD
  refine lv_if_ne (tgt := 13) hx hb d_MO_drop_8 (by decide) (fun c_8 => ?_) (fun c_8 => ?_)
  · have hres := it_f c_8 hres
    have hok := hok.2 c_8
    refine lv_aload_n hx hb d_MO_drop_13 rfl (lv_at hl 0 rfl) ?_
    refine lv_iload_n hx hb d_MO_drop_14 rfl (lv_at hl 1 rfl) ?_
    refine lv_iconst (v := (2 : Int32)) hx hb d_MO_drop_15 (by decide) ?_
    refine lv_iconst (v := (0 : Int32)) hx hb d_MO_drop_16 (by decide) ?_
    have hk_17 := hok
    refine go_vz (run_V hx hb hml hown ht hK hP hD (c_MO_change hk_17) (cw_V ht km_MO_105 ki_MO_change ks_MO_change ini_MO kd_MO_change kh_MO_change ⟨Nat.le_of_ble_eq_true rfl, Nat.le_of_ble_eq_true rfl⟩ rfl rfl) (q0 := 0) (ci := 6) (As := [.int p0, .int (2 : Int32), .int (0 : Int32)]) (rest := []) rfl rfl rfl hl.1 rfl (Nat.le_of_ble_eq_true rfl) d_MO_drop_17 ⟨Nat.zero_le _, Nat.zero_le _⟩) hD hS hA (fun z_17 H locs hz_17 hP hD hS => ?_)
    have hres := bindc_eq hz_17 hres
    have hP : va_P G.1 classes (cM G ad z_5.2 msl mst men mnw mdn mpw mwr mrs z_17.1 mtb mrc mnx mro mit mve mrb z_17.2.1 z_17.2.2 mic mlb mrw mnb mlk mnk mmd) H := hP
    have hD : va_D A (cM G ad z_5.2 msl mst men mnw mdn mpw mwr mrs z_17.1 mtb mrc mnx mro mit mve mrb z_17.2.1 z_17.2.2 mic mlb mrw mnb mlk mnk mmd) := hD
    refine lv_aload_n hx hb d_MO_drop_20 rfl (lv_at hl 0 rfl) ?_
    refine va_get (D := G.1) (ci := 6) (C := R_MO) (T := F_MO) (N := 26) hx hb ht in_MO hown hK hP 0 rfl rfl 13 (by decide) (ht _ kf_MO_95) (fun _ h9 => h9) rfl d_MO_drop_21 ?_
    exact en_i (w1 := (fun u : Int32 × Int32 × (Nat → Int32) × (Nat → Int32) => (cM G ad u.1 msl mst men mnw mdn mpw mwr mrs u.2.1 mtb mrc mnx mro mit mve mrb u.2.2.1 u.2.2.2 mic mlb mrw mnb mlk mnk mmd))) (z_5.2, z_17.1, z_17.2.1, z_17.2.2) hx hb hr hlocks hK hP hD hS hres d_MO_drop_24
  · have hres := it_t c_8 hres
    refine lv_iconst (v := (0 : Int32)) hx hb d_MO_drop_11 (by decide) ?_
    exact en_i (w1 := (fun u : Int32 × Int32 × (Nat → Int32) × (Nat → Int32) => (cM G ad u.1 msl mst men mnw mdn mpw mwr mrs u.2.1 mtb mrc mnx mro mit mve mrb u.2.2.1 u.2.2.2 mic mlb mrw mnb mlk mnk mmd))) (z_5.2, mdr, mch, mva) hx hb hr hlocks hK hP hD hS hres d_MO_drop_12
/-! ===== BookTreesModel.isUp()Z ===== -/
abbrev rm_MO_isUp : Room := { frames := 0, cells := 0, slots := 0, locals := 0 }
def f_MO_isUp  (mrf : Int32) (mdn : Int32) : Int32 × Int32 := if mdn = 0 then (if mdn = 0 then ((1 : Int32), (0 : Int32)) else ((0 : Int32), (0 : Int32))) else if mdn = 0 then ((1 : Int32), (1 : Int32)) else ((0 : Int32), (1 : Int32))
set_option maxHeartbeats 4000000 in
set_option maxRecDepth 100000 in
theorem c_MO_isUp {l : Launch} {G : GG} {ad : Nat → Nat} {sz : Nat} {mrf : Int32} {msl : Int32} {mst : Int32} {men : Int32} {mnw : Int32} {mdn : Int32} {mpw : Int32} {mwr : Int32} {mrs : Int32} {mdr : Int32} {mtb : Int32} {mrc : Int32} {mnx : Int32} {mro : (Nat → Int32)} {mit : (Nat → Int32)} {mve : (Nat → Int32)} {mrb : (Nat → Int32)} {mch : (Nat → Int32)} {mva : (Nat → Int32)} {mic : (Nat → Int32)} {mlb : (Nat → Int32)} {mrw : (Nat → Int32)} {mnb : (Nat → Int32)} {mlk : (Nat → Int32)} {mnk : (Nat → Int32)} {mmd : (Nat → Int32)}  : CtI l y_MO_isUp b_MO_isUp 1 (some .boolean) rm_MO_isUp G (cM G ad mrf msl mst men mnw mdn mpw mwr mrs mdr mtb mrc mnx mro mit mve mrb mch mva mic mlb mrw mnb mlk mnk mmd) sz [.ref (ad 0)] (eqP (f_MO_isUp mrf mdn)) (fun u : Int32 => (cM G ad u msl mst men mnw mdn mpw mwr mrs mdr mtb mrc mnx mro mit mve mrb mch mva mic mlb mrw mnb mlk mnk mmd)) := by
  generalize hres : f_MO_isUp mrf mdn = res
  refine Met_of (Qc := fun A => va_Qi (eqP res) (Wb G A (fun u : Int32 => (cM G ad u msl mst men mnw mdn mpw mwr mrs mdr mtb mrc mnx mro mit mve mrb mch mva mic mlb mrw mnb mlk mnk mmd))) A) (by decide) (Nat.le_of_ble_eq_true rfl) ?_
  intro p e s m below meth c hadm hx hb hr hml hown hlocks ht hK A hA hP hD hS ls hl
  have hC : Cx p l e s m (([.ref (ad 0)] : List Value)).toArray meth c y_MO_isUp b_MO_isUp 1 (some .boolean) "BookTreesModel" G A := ⟨hx, hb, hr, hml, hown, hlocks, ht, hK, hA⟩
  have hown : s.vm.findClass "BookTreesModel" = some m.cls := hown
  have hl : lv_has ls 1 [(0, .ref (ad 0))] := hl
  rw [f_MO_isUp] at hres
  refine lv_aload_n hx hb d_MO_isUp_0 rfl (lv_at hl 0 rfl) ?_
  refine lv_aload_n hx hb d_MO_isUp_1 rfl (lv_at hl 0 rfl) ?_
  refine va_get (D := G.1) (ci := 6) (C := R_MO) (T := F_MO) (N := 26) hx hb ht in_MO hown hK hP 0 rfl rfl 7 (by decide) (ht _ kf_MO_60) (fun _ h9 => h9) rfl d_MO_isUp_2 ?_
  refine lv_if_eq (tgt := 12) hx hb d_MO_isUp_5 (by decide) (fun c_5 => ?_) (fun c_5 => ?_)
  · have hres := it_t c_5 hres
    refine lv_iconst (v := (0 : Int32)) hx hb d_MO_isUp_12 (by decide) ?_
    refine va_put (D := G.1) (ci := 6) (v := .int (0 : Int32)) (ty := .int) (C := R_MO) (T := F_MO) (N := 26) hx hb ht in_MO t_MO to_MO nm_MO hown hK hP hD hS 0 rfl rfl 0 (by decide) (ht _ kf_MO_57) (fun _ h9 => h9) rfl (to_MO 0 (by decide)) rfl rfl (Nat.le_of_ble_eq_true rfl) d_MO_isUp_13 (fun H locs hP hD hS => ?_)
    have hP : va_P G.1 classes (cM G ad (0 : Int32) msl mst men mnw mdn mpw mwr mrs mdr mtb mrc mnx mro mit mve mrb mch mva mic mlb mrw mnb mlk mnk mmd) H := hP
    have hD : va_D A (cM G ad (0 : Int32) msl mst men mnw mdn mpw mwr mrs mdr mtb mrc mnx mro mit mve mrb mch mva mic mlb mrw mnb mlk mnk mmd) := hD
    refine lv_aload_n hx hb d_MO_isUp_16 rfl (lv_at hl 0 rfl) ?_
    refine va_get (D := G.1) (ci := 6) (C := R_MO) (T := F_MO) (N := 26) hx hb ht in_MO hown hK hP 0 rfl rfl 7 (by decide) (ht _ kf_MO_60) (fun _ h9 => h9) rfl d_MO_isUp_17 ?_
    refine lv_if_ne (tgt := 27) hx hb d_MO_isUp_20 (by decide) (fun c_20 => ?_) (fun c_20 => ?_)
    · have hres := it_f c_20 hres
      refine lv_iconst (v := (0 : Int32)) hx hb d_MO_isUp_27 (by decide) ?_
      exact en_z (w1 := (fun u : Int32 => (cM G ad u msl mst men mnw mdn mpw mwr mrs mdr mtb mrc mnx mro mit mve mrb mch mva mic mlb mrw mnb mlk mnk mmd))) (0 : Int32) hx hb hr hlocks hK hP hD hS hres isB_0 d_MO_isUp_28
    · have hres := it_t c_20 hres
      refine lv_iconst (v := (1 : Int32)) hx hb d_MO_isUp_23 (by decide) ?_
      refine lv_goto (tgt := 28) hx hb d_MO_isUp_24 (by decide) ?_
      exact en_z (w1 := (fun u : Int32 => (cM G ad u msl mst men mnw mdn mpw mwr mrs mdr mtb mrc mnx mro mit mve mrb mch mva mic mlb mrw mnb mlk mnk mmd))) (0 : Int32) hx hb hr hlocks hK hP hD hS hres isB_1 d_MO_isUp_28
  · have hres := it_f c_5 hres
    refine lv_iconst (v := (1 : Int32)) hx hb d_MO_isUp_8 (by decide) ?_
    refine lv_goto (tgt := 13) hx hb d_MO_isUp_9 (by decide) ?_
    refine va_put (D := G.1) (ci := 6) (v := .int (1 : Int32)) (ty := .int) (C := R_MO) (T := F_MO) (N := 26) hx hb ht in_MO t_MO to_MO nm_MO hown hK hP hD hS 0 rfl rfl 0 (by decide) (ht _ kf_MO_57) (fun _ h9 => h9) rfl (to_MO 0 (by decide)) rfl rfl (Nat.le_of_ble_eq_true rfl) d_MO_isUp_13 (fun H locs hP hD hS => ?_)
    have hP : va_P G.1 classes (cM G ad (1 : Int32) msl mst men mnw mdn mpw mwr mrs mdr mtb mrc mnx mro mit mve mrb mch mva mic mlb mrw mnb mlk mnk mmd) H := hP
    have hD : va_D A (cM G ad (1 : Int32) msl mst men mnw mdn mpw mwr mrs mdr mtb mrc mnx mro mit mve mrb mch mva mic mlb mrw mnb mlk mnk mmd) := hD
    refine lv_aload_n hx hb d_MO_isUp_16 rfl (lv_at hl 0 rfl) ?_
    refine va_get (D := G.1) (ci := 6) (C := R_MO) (T := F_MO) (N := 26) hx hb ht in_MO hown hK hP 0 rfl rfl 7 (by decide) (ht _ kf_MO_60) (fun _ h9 => h9) rfl d_MO_isUp_17 ?_
    refine lv_if_ne (tgt := 27) hx hb d_MO_isUp_20 (by decide) (fun c_20 => ?_) (fun c_20 => ?_)
    · have hres := it_f c_20 hres
      refine lv_iconst (v := (0 : Int32)) hx hb d_MO_isUp_27 (by decide) ?_
      exact en_z (w1 := (fun u : Int32 => (cM G ad u msl mst men mnw mdn mpw mwr mrs mdr mtb mrc mnx mro mit mve mrb mch mva mic mlb mrw mnb mlk mnk mmd))) (1 : Int32) hx hb hr hlocks hK hP hD hS hres isB_0 d_MO_isUp_28
    · have hres := it_t c_20 hres
      refine lv_iconst (v := (1 : Int32)) hx hb d_MO_isUp_23 (by decide) ?_
      refine lv_goto (tgt := 28) hx hb d_MO_isUp_24 (by decide) ?_
      exact en_z (w1 := (fun u : Int32 => (cM G ad u msl mst men mnw mdn mpw mwr mrs mdr mtb mrc mnx mro mit mve mrb mch mva mic mlb mrw mnb mlk mnk mmd))) (1 : Int32) hx hb hr hlocks hK hP hD hS hres isB_1 d_MO_isUp_28
/-! ===== BookTreesModel.clear()V ===== -/
abbrev rm_MO_clear : Room := { frames := 0, cells := 0, slots := 0, locals := 0 }
def f_MO_clear_7 : Nat → Int32 → Int32 → (Nat → Int32) → Int32 × (Nat → Int32)
  | 0, x1, mdr, mch => (mdr, mch)
  | n + 1, x1, mdr, mch => if (512 : Int32) ≤ x1 then (mdr, mch) else f_MO_clear_7 n (x1 + (1 : Int32)) mdr (upd mch x1.toNatClampNeg (0 : Int32))
def ok_MO_clear_7 : Nat → Int32 → Int32 → (Nat → Int32) → Prop
  | 0, _, _, _ => False
  | n + 1, x1, mdr, mch => ((512 : Int32) ≤ x1 → True) ∧ (¬ (512 : Int32) ≤ x1 → vp_in x1 512 ∧ (ok_MO_clear_7  n (x1 + (1 : Int32)) mdr (upd mch x1.toNatClampNeg (0 : Int32))))
set_option maxHeartbeats 4000000 in
set_option maxRecDepth 100000 in
theorem w_MO_clear_7 {p : Program} {l : Launch} {e : Env} {s : State} {m : MethodId} {args : Array Value} {below : List Frame} {meth : Method} {c : Code} {A : Nat → Prop} {G : GG} {ad : Nat → Nat} {mrf : Int32} {msl : Int32} {mst : Int32} {men : Int32} {mnw : Int32} {mdn : Int32} {mpw : Int32} {mwr : Int32} {mrs : Int32} {mtb : Int32} {mrc : Int32} {mnx : Int32} {mro : (Nat → Int32)} {mit : (Nat → Int32)} {mve : (Nat → Int32)} {mrb : (Nat → Int32)} {mva : (Nat → Int32)} {mic : (Nat → Int32)} {mlb : (Nat → Int32)} {mrw : (Nat → Int32)} {mnb : (Nat → Int32)} {mlk : (Nat → Int32)} {mnk : (Nat → Int32)} {mmd : (Nat → Int32)} {res : Int32 × (Nat → Int32)} (hC : Cx p l e s m args meth c y_MO_clear b_MO_clear 2 none "BookTreesModel" G A) : ∀ (n : Nat) (x1 : Int32) (mdr : Int32) (mch : (Nat → Int32)) (H : Heap) (locs : List Loc) (ls : Array Slot), ok_MO_clear_7 n x1 mdr mch → f_MO_clear_7 n x1 mdr mch = res → va_P G.1 classes (cM G ad mrf msl mst men mnw mdn mpw mwr mrs mdr mtb mrc mnx mro mit mve mrb mch mva mic mlb mrw mnb mlk mnk mmd) H → va_D A (cM G ad mrf msl mst men mnw mdn mpw mwr mrs mdr mtb mrc mnx mro mit mve mrb mch mva mic mlb mrw mnb mlk mnk mmd) → va_S A s.heap H locs → lv_has ls 2 [(0, .ref (ad 0)), (1, .int x1)] → W p l e rm_MO_clear s m args below meth c H locs 0 0 (MQ below (va_Qv (eqV res) (Wb G A (fun u : Int32 × (Nat → Int32) => (cM G ad mrf msl mst men mnw mdn mpw mwr mrs u.1 mtb mrc mnx mro mit mve mrb u.2 mva mic mlb mrw mnb mlk mnk mmd))) A) args s 0 0 A) (F0 m 7 ls []) := by
  obtain ⟨hx, hb, hr, hml, hown, hlocks, ht, hK, hA⟩ := id hC
  intro n
  induction n with
  | zero => intro x1 mdr mch H locs ls hok; exact hok.elim
  | succ n ih =>
    intro x1 mdr mch H locs ls hok hres hP hD hS hl
    rw [f_MO_clear_7] at hres
    rw [ok_MO_clear_7] at hok
    refine lv_iload_n hx hb d_MO_clear_7 rfl (lv_at hl 1 rfl) ?_
    refine lv_sipush (v := (512 : Int32)) hx hb d_MO_clear_8 (by decide) ?_
    refine lv_icmp_ge (tgt := 27) hx hb d_MO_clear_11 (by decide) (fun c_11 => ?_) (fun c_11 => ?_)
    · have hres := it_t c_11 hres
      exact en_v (w1 := (fun u : Int32 × (Nat → Int32) => (cM G ad mrf msl mst men mnw mdn mpw mwr mrs u.1 mtb mrc mnx mro mit mve mrb u.2 mva mic mlb mrw mnb mlk mnk mmd))) (mdr, mch) hx hb hr hlocks hK hP hD hS hres d_MO_clear_27
    · have hres := it_f c_11 hres
      have hok := hok.2 c_11
      refine lv_aload_n hx hb d_MO_clear_14 rfl (lv_at hl 0 rfl) ?_
      refine va_get (D := G.1) (ci := 6) (C := R_MO) (T := F_MO) (N := 26) hx hb ht in_MO hown hK hP 0 rfl rfl 14 (by decide) (ht _ kf_MO_27) (fun _ h9 => h9) rfl d_MO_clear_15 ?_
      refine lv_iload_n hx hb d_MO_clear_18 rfl (lv_at hl 1 rfl) ?_
      refine lv_iconst (v := (0 : Int32)) hx hb d_MO_clear_19 (by decide) ?_
      obtain ⟨hi_20, hok⟩ := hok
      refine va_iast hx hb hK hP hD hS 5 0 rfl rfl hi_20 d_MO_clear_20 (fun H locs hP hD hS => ?_)
      have hP : va_P G.1 classes (cM G ad mrf msl mst men mnw mdn mpw mwr mrs mdr mtb mrc mnx mro mit mve mrb (upd mch x1.toNatClampNeg (0 : Int32)) mva mic mlb mrw mnb mlk mnk mmd) H := hP
      have hD : va_D A (cM G ad mrf msl mst men mnw mdn mpw mwr mrs mdr mtb mrc mnx mro mit mve mrb (upd mch x1.toNatClampNeg (0 : Int32)) mva mic mlb mrw mnb mlk mnk mmd) := hD
      refine lv_iinc (v := x1 + (1 : Int32)) (lv' := [(1, .int (x1 + (1 : Int32))), (0, .ref (ad 0))]) hx hb d_MO_clear_21 hl (k := 1) rfl rfl (by decide) rfl (fun ls hl => ?_)
      refine lv_goto (tgt := 7) hx hb d_MO_clear_24 (by decide) ?_
      exact ih (x1 + (1 : Int32)) mdr (upd mch x1.toNatClampNeg (0 : Int32)) _ _ _ hok hres hP hD hS (lv_sub hl [1, 0] rfl)
def f_MO_clear  (mdr : Int32) (mch : (Nat → Int32)) : Int32 × (Nat → Int32) := f_MO_clear_7 1024 (0 : Int32) (0 : Int32) mch
def ok_MO_clear  (mdr : Int32) (mch : (Nat → Int32)) : Prop := ok_MO_clear_7  1024 (0 : Int32) (0 : Int32) mch
set_option maxHeartbeats 4000000 in
set_option maxRecDepth 100000 in
theorem c_MO_clear {l : Launch} {G : GG} {ad : Nat → Nat} {sz : Nat} {mrf : Int32} {msl : Int32} {mst : Int32} {men : Int32} {mnw : Int32} {mdn : Int32} {mpw : Int32} {mwr : Int32} {mrs : Int32} {mdr : Int32} {mtb : Int32} {mrc : Int32} {mnx : Int32} {mro : (Nat → Int32)} {mit : (Nat → Int32)} {mve : (Nat → Int32)} {mrb : (Nat → Int32)} {mch : (Nat → Int32)} {mva : (Nat → Int32)} {mic : (Nat → Int32)} {mlb : (Nat → Int32)} {mrw : (Nat → Int32)} {mnb : (Nat → Int32)} {mlk : (Nat → Int32)} {mnk : (Nat → Int32)} {mmd : (Nat → Int32)}  (hok : ok_MO_clear mdr mch) : CtV l y_MO_clear b_MO_clear 2 none rm_MO_clear G (cM G ad mrf msl mst men mnw mdn mpw mwr mrs mdr mtb mrc mnx mro mit mve mrb mch mva mic mlb mrw mnb mlk mnk mmd) sz [.ref (ad 0)] (eqV (f_MO_clear mdr mch)) (fun u : Int32 × (Nat → Int32) => (cM G ad mrf msl mst men mnw mdn mpw mwr mrs u.1 mtb mrc mnx mro mit mve mrb u.2 mva mic mlb mrw mnb mlk mnk mmd)) := by
  generalize hres : f_MO_clear mdr mch = res
  refine Met_of (Qc := fun A => va_Qv (eqV res) (Wb G A (fun u : Int32 × (Nat → Int32) => (cM G ad mrf msl mst men mnw mdn mpw mwr mrs u.1 mtb mrc mnx mro mit mve mrb u.2 mva mic mlb mrw mnb mlk mnk mmd))) A) (by decide) (Nat.le_of_ble_eq_true rfl) ?_
  intro p e s m below meth c hadm hx hb hr hml hown hlocks ht hK A hA hP hD hS ls hl
  have hC : Cx p l e s m (([.ref (ad 0)] : List Value)).toArray meth c y_MO_clear b_MO_clear 2 none "BookTreesModel" G A := ⟨hx, hb, hr, hml, hown, hlocks, ht, hK, hA⟩
  have hown : s.vm.findClass "BookTreesModel" = some m.cls := hown
  have hl : lv_has ls 2 [(0, .ref (ad 0))] := hl
  rw [f_MO_clear] at hres
  rw [ok_MO_clear] at hok
  refine lv_aload_n hx hb d_MO_clear_0 rfl (lv_at hl 0 rfl) ?_
  refine lv_iconst (v := (0 : Int32)) hx hb d_MO_clear_1 (by decide) ?_
  refine va_put (D := G.1) (ci := 6) (v := .int (0 : Int32)) (ty := .int) (C := R_MO) (T := F_MO) (N := 26) hx hb ht in_MO t_MO to_MO nm_MO hown hK hP hD hS 0 rfl rfl 13 (by decide) (ht _ kf_MO_95) (fun _ h9 => h9) rfl (to_MO 13 (by decide)) rfl rfl (Nat.le_of_ble_eq_true rfl) d_MO_clear_2 (fun H locs hP hD hS => ?_)
  have hP : va_P G.1 classes (cM G ad mrf msl mst men mnw mdn mpw mwr mrs (0 : Int32) mtb mrc mnx mro mit mve mrb mch mva mic mlb mrw mnb mlk mnk mmd) H := hP
  have hD : va_D A (cM G ad mrf msl mst men mnw mdn mpw mwr mrs (0 : Int32) mtb mrc mnx mro mit mve mrb mch mva mic mlb mrw mnb mlk mnk mmd) := hD
  refine lv_iconst (v := (0 : Int32)) hx hb d_MO_clear_5 (by decide) ?_
  refine lv_istore_n (lv' := [(1, .int (0 : Int32)), (0, .ref (ad 0))]) hx hb d_MO_clear_6 rfl hl (by decide) rfl (fun ls hl => ?_)
  exact w_MO_clear_7 hC 1024 (0 : Int32) (0 : Int32) mch _ _ _ hok hres hP hD hS (lv_sub hl [1, 0] rfl)
/-! ===== BookTreesModel.undo()I ===== -/
abbrev rm_MO_undo : Room := { frames := 1, cells := 0, slots := 0, locals := 21 }
def f_MO_undo  (mrf : Int32) (mdn : Int32) (mdr : Int32) (mch : (Nat → Int32)) : Int32 × Int32 × Int32 × (Nat → Int32) := bindc (f_MO_isUp mrf mdn) (fun z_1 => if z_1.1 = 0 then ((0 : Int32), (z_1.2, mdr, mch)) else bindc (f_MO_clear mdr mch) (fun z_15 => (mdr, (z_1.2, z_15.1, z_15.2))))
def ok_MO_undo  (mrf : Int32) (mdn : Int32) (mdr : Int32) (mch : (Nat → Int32)) : Prop := bindp (f_MO_isUp mrf mdn) (fun z_1 => (z_1.1 = 0 → True) ∧ (¬ z_1.1 = 0 → ok_MO_clear mdr mch))
set_option maxHeartbeats 4000000 in
set_option maxRecDepth 100000 in
theorem c_MO_undo {l : Launch} {G : GG} {ad : Nat → Nat} {sz : Nat} {mrf : Int32} {msl : Int32} {mst : Int32} {men : Int32} {mnw : Int32} {mdn : Int32} {mpw : Int32} {mwr : Int32} {mrs : Int32} {mdr : Int32} {mtb : Int32} {mrc : Int32} {mnx : Int32} {mro : (Nat → Int32)} {mit : (Nat → Int32)} {mve : (Nat → Int32)} {mrb : (Nat → Int32)} {mch : (Nat → Int32)} {mva : (Nat → Int32)} {mic : (Nat → Int32)} {mlb : (Nat → Int32)} {mrw : (Nat → Int32)} {mnb : (Nat → Int32)} {mlk : (Nat → Int32)} {mnk : (Nat → Int32)} {mmd : (Nat → Int32)}  (hok : ok_MO_undo mrf mdn mdr mch) : CtI l y_MO_undo b_MO_undo 2 (some .int) rm_MO_undo G (cM G ad mrf msl mst men mnw mdn mpw mwr mrs mdr mtb mrc mnx mro mit mve mrb mch mva mic mlb mrw mnb mlk mnk mmd) sz [.ref (ad 0)] (eqP (f_MO_undo mrf mdn mdr mch)) (fun u : Int32 × Int32 × (Nat → Int32) => (cM G ad u.1 msl mst men mnw mdn mpw mwr mrs u.2.1 mtb mrc mnx mro mit mve mrb u.2.2 mva mic mlb mrw mnb mlk mnk mmd)) := by
  generalize hres : f_MO_undo mrf mdn mdr mch = res
  refine Met_of (Qc := fun A => va_Qi (eqP res) (Wb G A (fun u : Int32 × Int32 × (Nat → Int32) => (cM G ad u.1 msl mst men mnw mdn mpw mwr mrs u.2.1 mtb mrc mnx mro mit mve mrb u.2.2 mva mic mlb mrw mnb mlk mnk mmd))) A) (by decide) (Nat.le_of_ble_eq_true rfl) ?_
  intro p e s m below meth c hadm hx hb hr hml hown hlocks ht hK A hA hP hD hS ls hl
  have hC : Cx p l e s m (([.ref (ad 0)] : List Value)).toArray meth c y_MO_undo b_MO_undo 2 (some .int) "BookTreesModel" G A := ⟨hx, hb, hr, hml, hown, hlocks, ht, hK, hA⟩
  have hown : s.vm.findClass "BookTreesModel" = some m.cls := hown
  have hl : lv_has ls 2 [(0, .ref (ad 0))] := hl
  rw [f_MO_undo] at hres
  rw [ok_MO_undo] at hok
  refine lv_aload_n hx hb d_MO_undo_0 rfl (lv_at hl 0 rfl) ?_
  refine go_iz (run_V hx hb hml hown ht hK hP hD (c_MO_isUp) (cw_V ht km_MO_109 ki_MO_isUp ks_MO_isUp ini_MO kd_MO_isUp kh_MO_isUp ⟨Nat.le_of_ble_eq_true rfl, Nat.le_of_ble_eq_true rfl⟩ rfl rfl) (q0 := 0) (ci := 6) (As := []) (rest := []) rfl rfl rfl hl.1 rfl (Nat.le_of_ble_eq_true rfl) d_MO_undo_1 ⟨Nat.zero_le _, Nat.zero_le _⟩) hD hS hA (fun z_1 H locs hz_1 hP hD hS => ?_)
  have hres := bindc_eq hz_1 hres
  have hok := bindp_eq hz_1 hok
  have hP : va_P G.1 classes (cM G ad z_1.2 msl mst men mnw mdn mpw mwr mrs mdr mtb mrc mnx mro mit mve mrb mch mva mic mlb mrw mnb mlk mnk mmd) H := hP
  have hD : va_D A (cM G ad z_1.2 msl mst men mnw mdn mpw mwr mrs mdr mtb mrc mnx mro mit mve mrb mch mva mic mlb mrw mnb mlk mnk mmd) := hD
  refine lv_if_ne (tgt := 9) hx hb d_MO_undo_4 (by decide) (fun c_4 => ?_) (fun c_4 => ?_)
  · have hres := it_f c_4 hres
    have hok := hok.2 c_4
    refine lv_aload_n hx hb d_MO_undo_9 rfl (lv_at hl 0 rfl) ?_
    refine va_get (D := G.1) (ci := 6) (C := R_MO) (T := F_MO) (N := 26) hx hb ht in_MO hown hK hP 0 rfl rfl 13 (by decide) (ht _ kf_MO_95) (fun _ h9 => h9) rfl d_MO_undo_10 ?_
    refine lv_istore_n (lv' := [(1, .int mdr), (0, .ref (ad 0))]) hx hb d_MO_undo_13 rfl hl (by decide) rfl (fun ls hl => ?_)
    refine lv_aload_n hx hb d_MO_undo_14 rfl (lv_at hl 1 rfl) ?_
    have hk_15 := hok
    refine go_vz (run_V hx hb hml hown ht hK hP hD (c_MO_clear hk_15) (cw_V ht km_MO_113 ki_MO_clear ks_MO_clear ini_MO kd_MO_clear kh_MO_clear ⟨Nat.le_of_ble_eq_true rfl, Nat.le_of_ble_eq_true rfl⟩ rfl rfl) (q0 := 0) (ci := 6) (As := []) (rest := []) rfl rfl rfl hl.1 rfl (Nat.le_of_ble_eq_true rfl) d_MO_undo_15 ⟨Nat.zero_le _, Nat.zero_le _⟩) hD hS hA (fun z_15 H locs hz_15 hP hD hS => ?_)
    have hres := bindc_eq hz_15 hres
    have hP : va_P G.1 classes (cM G ad z_1.2 msl mst men mnw mdn mpw mwr mrs z_15.1 mtb mrc mnx mro mit mve mrb z_15.2 mva mic mlb mrw mnb mlk mnk mmd) H := hP
    have hD : va_D A (cM G ad z_1.2 msl mst men mnw mdn mpw mwr mrs z_15.1 mtb mrc mnx mro mit mve mrb z_15.2 mva mic mlb mrw mnb mlk mnk mmd) := hD
    refine lv_iload_n hx hb d_MO_undo_18 rfl (lv_at hl 0 rfl) ?_
    exact en_i (w1 := (fun u : Int32 × Int32 × (Nat → Int32) => (cM G ad u.1 msl mst men mnw mdn mpw mwr mrs u.2.1 mtb mrc mnx mro mit mve mrb u.2.2 mva mic mlb mrw mnb mlk mnk mmd))) (z_1.2, z_15.1, z_15.2) hx hb hr hlocks hK hP hD hS hres d_MO_undo_19
  · have hres := it_t c_4 hres
    refine lv_iconst (v := (0 : Int32)) hx hb d_MO_undo_7 (by decide) ?_
    exact en_i (w1 := (fun u : Int32 × Int32 × (Nat → Int32) => (cM G ad u.1 msl mst men mnw mdn mpw mwr mrs u.2.1 mtb mrc mnx mro mit mve mrb u.2.2 mva mic mlb mrw mnb mlk mnk mmd))) (z_1.2, mdr, mch) hx hb hr hlocks hK hP hD hS hres d_MO_undo_8
/-! ===== BookTreesModel.rootOf(I)I ===== -/
abbrev rm_MO_rootOf : Room := { frames := 0, cells := 0, slots := 0, locals := 0 }
def f_MO_rootOf_4 : Nat → Int32 → Int32 → Int32 → Int32 → (Nat → Int32) → (Nat → Int32) → Int32 × Unit
  | 0, x1, x2, x3, mrs, mve, mrb => (0, ())
  | n + 1, x1, x2, x3, mrs, mve, mrb => if mrs ≤ x3 then (x2, ()) else if (mve x3.toNatClampNeg) = x1 then f_MO_rootOf_4 n x1 (mrb x3.toNatClampNeg) (x3 + (1 : Int32)) mrs mve mrb else f_MO_rootOf_4 n x1 x2 (x3 + (1 : Int32)) mrs mve mrb
def ok_MO_rootOf_4 : Nat → Int32 → Int32 → Int32 → Int32 → (Nat → Int32) → (Nat → Int32) → Prop
  | 0, _, _, _, _, _, _ => False
  | n + 1, x1, x2, x3, mrs, mve, mrb => (mrs ≤ x3 → True) ∧ (¬ mrs ≤ x3 → vp_in x3 4000 ∧ (((mve x3.toNatClampNeg) = x1 → vp_in x3 4000 ∧ (ok_MO_rootOf_4  n x1 (mrb x3.toNatClampNeg) (x3 + (1 : Int32)) mrs mve mrb)) ∧ (¬ (mve x3.toNatClampNeg) = x1 → ok_MO_rootOf_4  n x1 x2 (x3 + (1 : Int32)) mrs mve mrb)))
set_option maxHeartbeats 4000000 in
set_option maxRecDepth 100000 in
theorem w_MO_rootOf_4 {p : Program} {l : Launch} {e : Env} {s : State} {m : MethodId} {args : Array Value} {below : List Frame} {meth : Method} {c : Code} {A : Nat → Prop} {G : GG} {ad : Nat → Nat} {mrf : Int32} {msl : Int32} {mst : Int32} {men : Int32} {mnw : Int32} {mdn : Int32} {mpw : Int32} {mwr : Int32} {mrs : Int32} {mdr : Int32} {mtb : Int32} {mrc : Int32} {mnx : Int32} {mro : (Nat → Int32)} {mit : (Nat → Int32)} {mve : (Nat → Int32)} {mrb : (Nat → Int32)} {mch : (Nat → Int32)} {mva : (Nat → Int32)} {mic : (Nat → Int32)} {mlb : (Nat → Int32)} {mrw : (Nat → Int32)} {mnb : (Nat → Int32)} {mlk : (Nat → Int32)} {mnk : (Nat → Int32)} {mmd : (Nat → Int32)} {res : Int32 × Unit} (hC : Cx p l e s m args meth c y_MO_rootOf b_MO_rootOf 4 (some .int) "BookTreesModel" G A) : ∀ (n : Nat) (x1 : Int32) (x2 : Int32) (x3 : Int32)  (H : Heap) (locs : List Loc) (ls : Array Slot), ok_MO_rootOf_4 n x1 x2 x3 mrs mve mrb → f_MO_rootOf_4 n x1 x2 x3 mrs mve mrb = res → va_P G.1 classes (cM G ad mrf msl mst men mnw mdn mpw mwr mrs mdr mtb mrc mnx mro mit mve mrb mch mva mic mlb mrw mnb mlk mnk mmd) H → va_D A (cM G ad mrf msl mst men mnw mdn mpw mwr mrs mdr mtb mrc mnx mro mit mve mrb mch mva mic mlb mrw mnb mlk mnk mmd) → va_S A s.heap H locs → lv_has ls 4 [(0, .ref (ad 0)), (1, .int x1), (2, .int x2), (3, .int x3)] → W p l e rm_MO_rootOf s m args below meth c H locs 0 0 (MQ below (va_Qi (eqP res) (Wb G A (fun _ : Unit => (cM G ad mrf msl mst men mnw mdn mpw mwr mrs mdr mtb mrc mnx mro mit mve mrb mch mva mic mlb mrw mnb mlk mnk mmd))) A) args s 0 0 A) (F0 m 4 ls []) := by
  obtain ⟨hx, hb, hr, hml, hown, hlocks, ht, hK, hA⟩ := id hC
  intro n
  induction n with
  | zero => intro x1 x2 x3 H locs ls hok; exact hok.elim
  | succ n ih =>
    intro x1 x2 x3 H locs ls hok hres hP hD hS hl
    rw [f_MO_rootOf_4] at hres
    rw [ok_MO_rootOf_4] at hok
    refine lv_iload_n hx hb d_MO_rootOf_4 rfl (lv_at hl 3 rfl) ?_
    refine lv_aload_n hx hb d_MO_rootOf_5 rfl (lv_at hl 0 rfl) ?_
    refine va_get (D := G.1) (ci := 6) (C := R_MO) (T := F_MO) (N := 26) hx hb ht in_MO hown hK hP 0 rfl rfl 10 (by decide) (ht _ kf_MO_116) (fun _ h9 => h9) rfl d_MO_rootOf_6 ?_
    refine lv_icmp_ge (tgt := 39) hx hb d_MO_rootOf_9 (by decide) (fun c_9 => ?_) (fun c_9 => ?_)
    · have hres := it_t c_9 hres
      refine lv_iload_n hx hb d_MO_rootOf_39 rfl (lv_at hl 2 rfl) ?_
      exact en_i (w1 := (fun _ : Unit => (cM G ad mrf msl mst men mnw mdn mpw mwr mrs mdr mtb mrc mnx mro mit mve mrb mch mva mic mlb mrw mnb mlk mnk mmd))) () hx hb hr hlocks hK hP hD hS hres d_MO_rootOf_40
    · have hres := it_f c_9 hres
      have hok := hok.2 c_9
      refine lv_aload_n hx hb d_MO_rootOf_12 rfl (lv_at hl 0 rfl) ?_
      refine va_get (D := G.1) (ci := 6) (C := R_MO) (T := F_MO) (N := 26) hx hb ht in_MO hown hK hP 0 rfl rfl 11 (by decide) (ht _ kf_MO_21) (fun _ h9 => h9) rfl d_MO_rootOf_13 ?_
      refine lv_iload_n hx hb d_MO_rootOf_16 rfl (lv_at hl 3 rfl) ?_
      obtain ⟨hi_17, hok⟩ := hok
      refine va_iald hx hb hK hP 3 0 rfl rfl hi_17 d_MO_rootOf_17 ?_
      refine lv_iload_n hx hb d_MO_rootOf_18 rfl (lv_at hl 1 rfl) ?_
      refine lv_icmp_ne (tgt := 31) hx hb d_MO_rootOf_19 (by decide) (fun c_19 => ?_) (fun c_19 => ?_)
      · have hres := it_f c_19 hres
        have hok := hok.2 c_19
        refine lv_iload_n hx hb d_MO_rootOf_31 rfl (lv_at hl 2 rfl) ?_
        refine lv_istore_n (lv' := [(2, .int x2), (0, .ref (ad 0)), (1, .int x1), (3, .int x3)]) hx hb d_MO_rootOf_32 rfl hl (by decide) rfl (fun ls hl => ?_)
        refine lv_iinc (v := x3 + (1 : Int32)) (lv' := [(3, .int (x3 + (1 : Int32))), (2, .int x2), (0, .ref (ad 0)), (1, .int x1)]) hx hb d_MO_rootOf_33 hl (k := 3) rfl rfl (by decide) rfl (fun ls hl => ?_)
        refine lv_goto (tgt := 4) hx hb d_MO_rootOf_36 (by decide) ?_
        exact ih x1 x2 (x3 + (1 : Int32)) _ _ _ hok hres hP hD hS (lv_sub hl [2, 3, 1, 0] rfl)
      · have hres := it_t c_19 hres
        have hok := hok.1 c_19
        refine lv_aload_n hx hb d_MO_rootOf_22 rfl (lv_at hl 0 rfl) ?_
        refine va_get (D := G.1) (ci := 6) (C := R_MO) (T := F_MO) (N := 26) hx hb ht in_MO hown hK hP 0 rfl rfl 12 (by decide) (ht _ kf_MO_24) (fun _ h9 => h9) rfl d_MO_rootOf_23 ?_
        refine lv_iload_n hx hb d_MO_rootOf_26 rfl (lv_at hl 3 rfl) ?_
        obtain ⟨hi_27, hok⟩ := hok
        refine va_iald hx hb hK hP 4 0 rfl rfl hi_27 d_MO_rootOf_27 ?_
        refine lv_goto (tgt := 32) hx hb d_MO_rootOf_28 (by decide) ?_
        refine lv_istore_n (lv' := [(2, .int (mrb x3.toNatClampNeg)), (0, .ref (ad 0)), (1, .int x1), (3, .int x3)]) hx hb d_MO_rootOf_32 rfl hl (by decide) rfl (fun ls hl => ?_)
        refine lv_iinc (v := x3 + (1 : Int32)) (lv' := [(3, .int (x3 + (1 : Int32))), (2, .int (mrb x3.toNatClampNeg)), (0, .ref (ad 0)), (1, .int x1)]) hx hb d_MO_rootOf_33 hl (k := 3) rfl rfl (by decide) rfl (fun ls hl => ?_)
        refine lv_goto (tgt := 4) hx hb d_MO_rootOf_36 (by decide) ?_
        exact ih x1 (mrb x3.toNatClampNeg) (x3 + (1 : Int32)) _ _ _ hok hres hP hD hS (lv_sub hl [2, 3, 1, 0] rfl)
def f_MO_rootOf (p0 : Int32) (mrs : Int32) (mve : (Nat → Int32)) (mrb : (Nat → Int32)) : Int32 × Unit := f_MO_rootOf_4 1024 p0 (-1 : Int32) (0 : Int32) mrs mve mrb
def ok_MO_rootOf (p0 : Int32) (mrs : Int32) (mve : (Nat → Int32)) (mrb : (Nat → Int32)) : Prop := ok_MO_rootOf_4  1024 p0 (-1 : Int32) (0 : Int32) mrs mve mrb
set_option maxHeartbeats 4000000 in
set_option maxRecDepth 100000 in
theorem c_MO_rootOf {l : Launch} {G : GG} {ad : Nat → Nat} {sz : Nat} {mrf : Int32} {msl : Int32} {mst : Int32} {men : Int32} {mnw : Int32} {mdn : Int32} {mpw : Int32} {mwr : Int32} {mrs : Int32} {mdr : Int32} {mtb : Int32} {mrc : Int32} {mnx : Int32} {mro : (Nat → Int32)} {mit : (Nat → Int32)} {mve : (Nat → Int32)} {mrb : (Nat → Int32)} {mch : (Nat → Int32)} {mva : (Nat → Int32)} {mic : (Nat → Int32)} {mlb : (Nat → Int32)} {mrw : (Nat → Int32)} {mnb : (Nat → Int32)} {mlk : (Nat → Int32)} {mnk : (Nat → Int32)} {mmd : (Nat → Int32)} {p0 : Int32} (hok : ok_MO_rootOf p0 mrs mve mrb) : CtI l y_MO_rootOf b_MO_rootOf 4 (some .int) rm_MO_rootOf G (cM G ad mrf msl mst men mnw mdn mpw mwr mrs mdr mtb mrc mnx mro mit mve mrb mch mva mic mlb mrw mnb mlk mnk mmd) sz [.ref (ad 0), .int p0] (eqP (f_MO_rootOf p0 mrs mve mrb)) (fun _ : Unit => (cM G ad mrf msl mst men mnw mdn mpw mwr mrs mdr mtb mrc mnx mro mit mve mrb mch mva mic mlb mrw mnb mlk mnk mmd)) := by
  generalize hres : f_MO_rootOf p0 mrs mve mrb = res
  refine Met_of (Qc := fun A => va_Qi (eqP res) (Wb G A (fun _ : Unit => (cM G ad mrf msl mst men mnw mdn mpw mwr mrs mdr mtb mrc mnx mro mit mve mrb mch mva mic mlb mrw mnb mlk mnk mmd))) A) (by decide) (Nat.le_of_ble_eq_true rfl) ?_
  intro p e s m below meth c hadm hx hb hr hml hown hlocks ht hK A hA hP hD hS ls hl
  have hC : Cx p l e s m (([.ref (ad 0), .int p0] : List Value)).toArray meth c y_MO_rootOf b_MO_rootOf 4 (some .int) "BookTreesModel" G A := ⟨hx, hb, hr, hml, hown, hlocks, ht, hK, hA⟩
  have hown : s.vm.findClass "BookTreesModel" = some m.cls := hown
  have hl : lv_has ls 4 [(0, .ref (ad 0)), (1, .int p0)] := hl
  rw [f_MO_rootOf] at hres
  rw [ok_MO_rootOf] at hok
  refine lv_iconst (v := (-1 : Int32)) hx hb d_MO_rootOf_0 (by decide) ?_
  refine lv_istore_n (lv' := [(2, .int (-1 : Int32)), (0, .ref (ad 0)), (1, .int p0)]) hx hb d_MO_rootOf_1 rfl hl (by decide) rfl (fun ls hl => ?_)
  refine lv_iconst (v := (0 : Int32)) hx hb d_MO_rootOf_2 (by decide) ?_
  refine lv_istore_n (lv' := [(3, .int (0 : Int32)), (2, .int (-1 : Int32)), (0, .ref (ad 0)), (1, .int p0)]) hx hb d_MO_rootOf_3 rfl hl (by decide) rfl (fun ls hl => ?_)
  exact w_MO_rootOf_4 hC 1024 p0 (-1 : Int32) (0 : Int32) _ _ _ hok hres hP hD hS (lv_sub hl [2, 3, 1, 0] rfl)
/-! ===== BookTreesModel.isUsed(I)Z ===== -/
abbrev rm_MO_isUsed : Room := { frames := 0, cells := 0, slots := 0, locals := 0 }
def f_MO_isUsed (p0 : Int32) (mst : Int32) (men : Int32) : Int32 × Unit := if p0 < mst then ((0 : Int32), ()) else if men ≤ p0 then ((0 : Int32), ()) else ((1 : Int32), ())
set_option maxHeartbeats 4000000 in
set_option maxRecDepth 100000 in
theorem c_MO_isUsed {l : Launch} {G : GG} {ad : Nat → Nat} {sz : Nat} {mrf : Int32} {msl : Int32} {mst : Int32} {men : Int32} {mnw : Int32} {mdn : Int32} {mpw : Int32} {mwr : Int32} {mrs : Int32} {mdr : Int32} {mtb : Int32} {mrc : Int32} {mnx : Int32} {mro : (Nat → Int32)} {mit : (Nat → Int32)} {mve : (Nat → Int32)} {mrb : (Nat → Int32)} {mch : (Nat → Int32)} {mva : (Nat → Int32)} {mic : (Nat → Int32)} {mlb : (Nat → Int32)} {mrw : (Nat → Int32)} {mnb : (Nat → Int32)} {mlk : (Nat → Int32)} {mnk : (Nat → Int32)} {mmd : (Nat → Int32)} {p0 : Int32} : CtI l y_MO_isUsed b_MO_isUsed 2 (some .boolean) rm_MO_isUsed G (cM G ad mrf msl mst men mnw mdn mpw mwr mrs mdr mtb mrc mnx mro mit mve mrb mch mva mic mlb mrw mnb mlk mnk mmd) sz [.ref (ad 0), .int p0] (eqP (f_MO_isUsed p0 mst men)) (fun _ : Unit => (cM G ad mrf msl mst men mnw mdn mpw mwr mrs mdr mtb mrc mnx mro mit mve mrb mch mva mic mlb mrw mnb mlk mnk mmd)) := by
  generalize hres : f_MO_isUsed p0 mst men = res
  refine Met_of (Qc := fun A => va_Qi (eqP res) (Wb G A (fun _ : Unit => (cM G ad mrf msl mst men mnw mdn mpw mwr mrs mdr mtb mrc mnx mro mit mve mrb mch mva mic mlb mrw mnb mlk mnk mmd))) A) (by decide) (Nat.le_of_ble_eq_true rfl) ?_
  intro p e s m below meth c hadm hx hb hr hml hown hlocks ht hK A hA hP hD hS ls hl
  have hC : Cx p l e s m (([.ref (ad 0), .int p0] : List Value)).toArray meth c y_MO_isUsed b_MO_isUsed 2 (some .boolean) "BookTreesModel" G A := ⟨hx, hb, hr, hml, hown, hlocks, ht, hK, hA⟩
  have hown : s.vm.findClass "BookTreesModel" = some m.cls := hown
  have hl : lv_has ls 2 [(0, .ref (ad 0)), (1, .int p0)] := hl
  rw [f_MO_isUsed] at hres
  refine lv_iload_n hx hb d_MO_isUsed_0 rfl (lv_at hl 1 rfl) ?_
  refine lv_aload_n hx hb d_MO_isUsed_1 rfl (lv_at hl 0 rfl) ?_
  refine va_get (D := G.1) (ci := 6) (C := R_MO) (T := F_MO) (N := 26) hx hb ht in_MO hown hK hP 0 rfl rfl 4 (by decide) (ht _ kf_MO_64) (fun _ h9 => h9) rfl d_MO_isUsed_2 ?_
  refine lv_icmp_lt (tgt := 20) hx hb d_MO_isUsed_5 (by decide) (fun c_5 => ?_) (fun c_5 => ?_)
  · have hres := it_t c_5 hres
    refine lv_iconst (v := (0 : Int32)) hx hb d_MO_isUsed_20 (by decide) ?_
    exact en_z (w1 := (fun _ : Unit => (cM G ad mrf msl mst men mnw mdn mpw mwr mrs mdr mtb mrc mnx mro mit mve mrb mch mva mic mlb mrw mnb mlk mnk mmd))) () hx hb hr hlocks hK hP hD hS hres isB_0 d_MO_isUsed_21
  · have hres := it_f c_5 hres
    refine lv_iload_n hx hb d_MO_isUsed_8 rfl (lv_at hl 1 rfl) ?_
    refine lv_aload_n hx hb d_MO_isUsed_9 rfl (lv_at hl 0 rfl) ?_
    refine va_get (D := G.1) (ci := 6) (C := R_MO) (T := F_MO) (N := 26) hx hb ht in_MO hown hK hP 0 rfl rfl 5 (by decide) (ht _ kf_MO_67) (fun _ h9 => h9) rfl d_MO_isUsed_10 ?_
    refine lv_icmp_ge (tgt := 20) hx hb d_MO_isUsed_13 (by decide) (fun c_13 => ?_) (fun c_13 => ?_)
    · have hres := it_t c_13 hres
      refine lv_iconst (v := (0 : Int32)) hx hb d_MO_isUsed_20 (by decide) ?_
      exact en_z (w1 := (fun _ : Unit => (cM G ad mrf msl mst men mnw mdn mpw mwr mrs mdr mtb mrc mnx mro mit mve mrb mch mva mic mlb mrw mnb mlk mnk mmd))) () hx hb hr hlocks hK hP hD hS hres isB_0 d_MO_isUsed_21
    · have hres := it_f c_13 hres
      refine lv_iconst (v := (1 : Int32)) hx hb d_MO_isUsed_16 (by decide) ?_
      refine lv_goto (tgt := 21) hx hb d_MO_isUsed_17 (by decide) ?_
      exact en_z (w1 := (fun _ : Unit => (cM G ad mrf msl mst men mnw mdn mpw mwr mrs mdr mtb mrc mnx mro mit mve mrb mch mva mic mlb mrw mnb mlk mnk mmd))) () hx hb hr hlocks hK hP hD hS hres isB_1 d_MO_isUsed_21
/-! ===== BookTreesModel.placeOf(I)I ===== -/
abbrev rm_MO_placeOf : Room := { frames := 0, cells := 0, slots := 0, locals := 0 }
def f_MO_placeOf (p0 : Int32) (msl : Int32) : Int32 × Unit := ((64 : Int32) * (p0 - p0 / msl * msl), ())
def ok_MO_placeOf (p0 : Int32) (msl : Int32) : Prop := ¬ msl = 0
set_option maxHeartbeats 4000000 in
set_option maxRecDepth 100000 in
theorem c_MO_placeOf {l : Launch} {G : GG} {ad : Nat → Nat} {sz : Nat} {mrf : Int32} {msl : Int32} {mst : Int32} {men : Int32} {mnw : Int32} {mdn : Int32} {mpw : Int32} {mwr : Int32} {mrs : Int32} {mdr : Int32} {mtb : Int32} {mrc : Int32} {mnx : Int32} {mro : (Nat → Int32)} {mit : (Nat → Int32)} {mve : (Nat → Int32)} {mrb : (Nat → Int32)} {mch : (Nat → Int32)} {mva : (Nat → Int32)} {mic : (Nat → Int32)} {mlb : (Nat → Int32)} {mrw : (Nat → Int32)} {mnb : (Nat → Int32)} {mlk : (Nat → Int32)} {mnk : (Nat → Int32)} {mmd : (Nat → Int32)} {p0 : Int32} (hok : ok_MO_placeOf p0 msl) : CtI l y_MO_placeOf b_MO_placeOf 2 (some .int) rm_MO_placeOf G (cM G ad mrf msl mst men mnw mdn mpw mwr mrs mdr mtb mrc mnx mro mit mve mrb mch mva mic mlb mrw mnb mlk mnk mmd) sz [.ref (ad 0), .int p0] (eqP (f_MO_placeOf p0 msl)) (fun _ : Unit => (cM G ad mrf msl mst men mnw mdn mpw mwr mrs mdr mtb mrc mnx mro mit mve mrb mch mva mic mlb mrw mnb mlk mnk mmd)) := by
  generalize hres : f_MO_placeOf p0 msl = res
  refine Met_of (Qc := fun A => va_Qi (eqP res) (Wb G A (fun _ : Unit => (cM G ad mrf msl mst men mnw mdn mpw mwr mrs mdr mtb mrc mnx mro mit mve mrb mch mva mic mlb mrw mnb mlk mnk mmd))) A) (by decide) (Nat.le_of_ble_eq_true rfl) ?_
  intro p e s m below meth c hadm hx hb hr hml hown hlocks ht hK A hA hP hD hS ls hl
  have hC : Cx p l e s m (([.ref (ad 0), .int p0] : List Value)).toArray meth c y_MO_placeOf b_MO_placeOf 2 (some .int) "BookTreesModel" G A := ⟨hx, hb, hr, hml, hown, hlocks, ht, hK, hA⟩
  have hown : s.vm.findClass "BookTreesModel" = some m.cls := hown
  have hl : lv_has ls 2 [(0, .ref (ad 0)), (1, .int p0)] := hl
  rw [f_MO_placeOf] at hres
  rw [ok_MO_placeOf] at hok
  refine lv_bipush (v := (64 : Int32)) hx hb d_MO_placeOf_0 (by decide) ?_
  refine lv_iload_n hx hb d_MO_placeOf_2 rfl (lv_at hl 1 rfl) ?_
  refine lv_aload_n hx hb d_MO_placeOf_3 rfl (lv_at hl 0 rfl) ?_
  refine va_get (D := G.1) (ci := 6) (C := R_MO) (T := F_MO) (N := 26) hx hb ht in_MO hown hK hP 0 rfl rfl 1 (by decide) (ht _ kf_MO_54) (fun _ h9 => h9) rfl d_MO_placeOf_4 ?_
  have hn_7 := hok
  refine lv_irem hx hb d_MO_placeOf_7 hn_7 ?_
  refine lv_imul hx hb d_MO_placeOf_8 ?_
  exact en_i (w1 := (fun _ : Unit => (cM G ad mrf msl mst men mnw mdn mpw mwr mrs mdr mtb mrc mnx mro mit mve mrb mch mva mic mlb mrw mnb mlk mnk mmd))) () hx hb hr hlocks hK hP hD hS hres d_MO_placeOf_9
/-! ===== BookTreesModel.mixed(JI)J ===== -/
abbrev rm_MO_mixed : Room := { frames := 0, cells := 0, slots := 0, locals := 0 }
def f_MO_mixed (p0 : Int64) (p1 : Int32)  : Int64 × Unit := ((((p0 ^^^ p1.toInt64) <<< ((47 : Int32).toInt64 &&& 63)) ||| (((p0 ^^^ p1.toInt64).toUInt64 >>> ((17 : Int32).toInt64.toUInt64 &&& Int64.toUInt64 63)).toInt64)) * (-4417276706812531889 : Int64), ())
set_option maxHeartbeats 4000000 in
set_option maxRecDepth 100000 in
theorem c_MO_mixed {l : Launch} {G : GG} {ad : Nat → Nat} {sz : Nat} {mrf : Int32} {msl : Int32} {mst : Int32} {men : Int32} {mnw : Int32} {mdn : Int32} {mpw : Int32} {mwr : Int32} {mrs : Int32} {mdr : Int32} {mtb : Int32} {mrc : Int32} {mnx : Int32} {mro : (Nat → Int32)} {mit : (Nat → Int32)} {mve : (Nat → Int32)} {mrb : (Nat → Int32)} {mch : (Nat → Int32)} {mva : (Nat → Int32)} {mic : (Nat → Int32)} {mlb : (Nat → Int32)} {mrw : (Nat → Int32)} {mnb : (Nat → Int32)} {mlk : (Nat → Int32)} {mnk : (Nat → Int32)} {mmd : (Nat → Int32)} {p0 : Int64} {p1 : Int32} : CtL l y_MO_mixed b_MO_mixed 5 (some .long) rm_MO_mixed G (cM G ad mrf msl mst men mnw mdn mpw mwr mrs mdr mtb mrc mnx mro mit mve mrb mch mva mic mlb mrw mnb mlk mnk mmd) sz [.long p0, .int p1] (eqP (f_MO_mixed p0 p1)) (fun _ : Unit => (cM G ad mrf msl mst men mnw mdn mpw mwr mrs mdr mtb mrc mnx mro mit mve mrb mch mva mic mlb mrw mnb mlk mnk mmd)) := by
  generalize hres : f_MO_mixed p0 p1 = res
  refine Met_of (Qc := fun A => va_Ql (eqP res) (Wb G A (fun _ : Unit => (cM G ad mrf msl mst men mnw mdn mpw mwr mrs mdr mtb mrc mnx mro mit mve mrb mch mva mic mlb mrw mnb mlk mnk mmd))) A) (by decide) (Nat.le_of_ble_eq_true rfl) ?_
  intro p e s m below meth c hadm hx hb hr hml hown hlocks ht hK A hA hP hD hS ls hl
  have hC : Cx p l e s m (([.long p0, .int p1] : List Value)).toArray meth c y_MO_mixed b_MO_mixed 5 (some .long) "BookTreesModel" G A := ⟨hx, hb, hr, hml, hown, hlocks, ht, hK, hA⟩
  have hown : s.vm.findClass "BookTreesModel" = some m.cls := hown
  have hl : lv_has ls 5 [(0, .long p0), (2, .int p1)] := hl
  rw [f_MO_mixed] at hres
  refine lv_lload_n hx hb d_MO_mixed_0 rfl (lv_at hl 0 rfl) ?_
  refine lv_iload_n hx hb d_MO_mixed_1 rfl (lv_at hl 1 rfl) ?_
  refine lv_i2l hx hb d_MO_mixed_2 rfl ?_
  refine lv_lxor hx hb d_MO_mixed_3 ?_
  refine lv_lstore_n (lv' := [(3, .long (p0 ^^^ p1.toInt64)), (0, .long p0), (2, .int p1)]) hx hb d_MO_mixed_4 rfl hl (by decide) rfl (fun ls hl => ?_)
  refine lv_lload_n hx hb d_MO_mixed_5 rfl (lv_at hl 0 rfl) ?_
  refine lv_bipush (v := (47 : Int32)) hx hb d_MO_mixed_6 (by decide) ?_
  refine lv_lshl hx hb d_MO_mixed_8 rfl ?_
  refine lv_lload_n hx hb d_MO_mixed_9 rfl (lv_at hl 0 rfl) ?_
  refine lv_bipush (v := (17 : Int32)) hx hb d_MO_mixed_10 (by decide) ?_
  refine lv_lushr hx hb d_MO_mixed_12 rfl ?_
  refine lv_lor hx hb d_MO_mixed_13 ?_
  refine lv_ldc2 hx hb hown (ht _ kl_MO_70) d_MO_mixed_14 ?_
  refine lv_lmul hx hb d_MO_mixed_17 ?_
  exact en_l (w1 := (fun _ : Unit => (cM G ad mrf msl mst men mnw mdn mpw mwr mrs mdr mtb mrc mnx mro mit mve mrb mch mva mic mlb mrw mnb mlk mnk mmd))) () hx hb hr hlocks hK hP hD hS hres d_MO_mixed_18
/-! ===== BookTreesModel.hasSum(I)Z ===== -/
abbrev rm_MO_hasSum : Room := { frames := 1, cells := 0, slots := 0, locals := 24 }
def f_MO_hasSum_38 : Nat → Int32 → Int64 → Int32 → Int32 → (Nat → Int32) → (Nat → Int32) → Int32 × Unit
  | 0, x1, x2, x4, x5, mro, mit => (0, ())
  | n + 1, x1, x2, x4, x5, mro, mit => if (8 : Int32) ≤ x5 then (if x4 = 0 then ((0 : Int32), ()) else if (mit (x1 / (64 : Int32)).toNatClampNeg) = 0 then ((1 : Int32), ()) else ((0 : Int32), ())) else if x4 = 0 then f_MO_hasSum_38 n x1 x2 (0 : Int32) (x5 + (1 : Int32)) mro mit else if (mro ((x1 + (56 : Int32)) + x5).toNatClampNeg) = ((((x2.toUInt64 >>> (((56 : Int32) - ((8 : Int32) * x5)).toInt64.toUInt64 &&& Int64.toUInt64 63)).toInt64) &&& (255 : Int64)).toInt32) then f_MO_hasSum_38 n x1 x2 (1 : Int32) (x5 + (1 : Int32)) mro mit else f_MO_hasSum_38 n x1 x2 (0 : Int32) (x5 + (1 : Int32)) mro mit
def ok_MO_hasSum_38 : Nat → Int32 → Int64 → Int32 → Int32 → (Nat → Int32) → (Nat → Int32) → Prop
  | 0, _, _, _, _, _, _ => False
  | n + 1, x1, x2, x4, x5, mro, mit => ((8 : Int32) ≤ x5 → (x4 = 0 → True) ∧ (¬ x4 = 0 → vp_in (x1 / (64 : Int32)) 200)) ∧ (¬ (8 : Int32) ≤ x5 → (x4 = 0 → ok_MO_hasSum_38  n x1 x2 (0 : Int32) (x5 + (1 : Int32)) mro mit) ∧ (¬ x4 = 0 → vp_in ((x1 + (56 : Int32)) + x5) 12800 ∧ (((mro ((x1 + (56 : Int32)) + x5).toNatClampNeg) = ((((x2.toUInt64 >>> (((56 : Int32) - ((8 : Int32) * x5)).toInt64.toUInt64 &&& Int64.toUInt64 63)).toInt64) &&& (255 : Int64)).toInt32) → ok_MO_hasSum_38  n x1 x2 (1 : Int32) (x5 + (1 : Int32)) mro mit) ∧ (¬ (mro ((x1 + (56 : Int32)) + x5).toNatClampNeg) = ((((x2.toUInt64 >>> (((56 : Int32) - ((8 : Int32) * x5)).toInt64.toUInt64 &&& Int64.toUInt64 63)).toInt64) &&& (255 : Int64)).toInt32) → ok_MO_hasSum_38  n x1 x2 (0 : Int32) (x5 + (1 : Int32)) mro mit))))
set_option maxHeartbeats 4000000 in
set_option maxRecDepth 100000 in
theorem w_MO_hasSum_38 {p : Program} {l : Launch} {e : Env} {s : State} {m : MethodId} {args : Array Value} {below : List Frame} {meth : Method} {c : Code} {A : Nat → Prop} {G : GG} {ad : Nat → Nat} {mrf : Int32} {msl : Int32} {mst : Int32} {men : Int32} {mnw : Int32} {mdn : Int32} {mpw : Int32} {mwr : Int32} {mrs : Int32} {mdr : Int32} {mtb : Int32} {mrc : Int32} {mnx : Int32} {mro : (Nat → Int32)} {mit : (Nat → Int32)} {mve : (Nat → Int32)} {mrb : (Nat → Int32)} {mch : (Nat → Int32)} {mva : (Nat → Int32)} {mic : (Nat → Int32)} {mlb : (Nat → Int32)} {mrw : (Nat → Int32)} {mnb : (Nat → Int32)} {mlk : (Nat → Int32)} {mnk : (Nat → Int32)} {mmd : (Nat → Int32)} {res : Int32 × Unit} (hC : Cx p l e s m args meth c y_MO_hasSum b_MO_hasSum 6 (some .boolean) "BookTreesModel" G A) : ∀ (n : Nat) (x1 : Int32) (x2 : Int64) (x4 : Int32) (x5 : Int32)  (H : Heap) (locs : List Loc) (ls : Array Slot), ok_MO_hasSum_38 n x1 x2 x4 x5 mro mit → f_MO_hasSum_38 n x1 x2 x4 x5 mro mit = res → va_P G.1 classes (cM G ad mrf msl mst men mnw mdn mpw mwr mrs mdr mtb mrc mnx mro mit mve mrb mch mva mic mlb mrw mnb mlk mnk mmd) H → va_D A (cM G ad mrf msl mst men mnw mdn mpw mwr mrs mdr mtb mrc mnx mro mit mve mrb mch mva mic mlb mrw mnb mlk mnk mmd) → va_S A s.heap H locs → lv_has ls 6 [(0, .ref (ad 0)), (1, .int x1), (2, .long x2), (4, .int x4), (5, .int x5)] → W p l e rm_MO_hasSum s m args below meth c H locs 0 0 (MQ below (va_Qi (eqP res) (Wb G A (fun _ : Unit => (cM G ad mrf msl mst men mnw mdn mpw mwr mrs mdr mtb mrc mnx mro mit mve mrb mch mva mic mlb mrw mnb mlk mnk mmd))) A) args s 0 0 A) (F0 m 38 ls []) := by
  obtain ⟨hx, hb, hr, hml, hown, hlocks, ht, hK, hA⟩ := id hC
  intro n
  induction n with
  | zero => intro x1 x2 x4 x5 H locs ls hok; exact hok.elim
  | succ n ih =>
    intro x1 x2 x4 x5 H locs ls hok hres hP hD hS hl
    rw [f_MO_hasSum_38] at hres
    rw [ok_MO_hasSum_38] at hok
    refine lv_iload hx hb d_MO_hasSum_38 (lv_at hl 4 rfl) ?_
    refine lv_bipush (v := (8 : Int32)) hx hb d_MO_hasSum_40 (by decide) ?_
    refine lv_icmp_ge (tgt := 93) hx hb d_MO_hasSum_42 (by decide) (fun c_42 => ?_) (fun c_42 => ?_)
    · have hres := it_t c_42 hres
      have hok := hok.1 c_42
      refine lv_iload hx hb d_MO_hasSum_93 (lv_at hl 3 rfl) ?_
      refine lv_if_eq (tgt := 114) hx hb d_MO_hasSum_95 (by decide) (fun c_95 => ?_) (fun c_95 => ?_)
      · have hres := it_t c_95 hres
        refine lv_iconst (v := (0 : Int32)) hx hb d_MO_hasSum_114 (by decide) ?_
        exact en_z (w1 := (fun _ : Unit => (cM G ad mrf msl mst men mnw mdn mpw mwr mrs mdr mtb mrc mnx mro mit mve mrb mch mva mic mlb mrw mnb mlk mnk mmd))) () hx hb hr hlocks hK hP hD hS hres isB_0 d_MO_hasSum_115
      · have hres := it_f c_95 hres
        have hok := hok.2 c_95
        refine lv_aload_n hx hb d_MO_hasSum_98 rfl (lv_at hl 0 rfl) ?_
        refine va_get (D := G.1) (ci := 6) (C := R_MO) (T := F_MO) (N := 26) hx hb ht in_MO hown hK hP 0 rfl rfl 3 (by decide) (ht _ kf_MO_13) (fun _ h9 => h9) rfl d_MO_hasSum_99 ?_
        refine lv_iload_n hx hb d_MO_hasSum_102 rfl (lv_at hl 1 rfl) ?_
        refine lv_bipush (v := (64 : Int32)) hx hb d_MO_hasSum_103 (by decide) ?_
        refine lv_idiv hx hb d_MO_hasSum_105 (by decide) ?_
        have hi_106 := hok
        refine va_zald hx hb hK hP 2 1 rfl rfl hi_106 d_MO_hasSum_106 ?_
        refine lv_if_ne (tgt := 114) hx hb d_MO_hasSum_107 (by decide) (fun c_107 => ?_) (fun c_107 => ?_)
        · have hres := it_f c_107 hres
          refine lv_iconst (v := (0 : Int32)) hx hb d_MO_hasSum_114 (by decide) ?_
          exact en_z (w1 := (fun _ : Unit => (cM G ad mrf msl mst men mnw mdn mpw mwr mrs mdr mtb mrc mnx mro mit mve mrb mch mva mic mlb mrw mnb mlk mnk mmd))) () hx hb hr hlocks hK hP hD hS hres isB_0 d_MO_hasSum_115
        · have hres := it_t c_107 hres
          refine lv_iconst (v := (1 : Int32)) hx hb d_MO_hasSum_110 (by decide) ?_
          refine lv_goto (tgt := 115) hx hb d_MO_hasSum_111 (by decide) ?_
          exact en_z (w1 := (fun _ : Unit => (cM G ad mrf msl mst men mnw mdn mpw mwr mrs mdr mtb mrc mnx mro mit mve mrb mch mva mic mlb mrw mnb mlk mnk mmd))) () hx hb hr hlocks hK hP hD hS hres isB_1 d_MO_hasSum_115
    · have hres := it_f c_42 hres
      have hok := hok.2 c_42
      refine lv_iload hx hb d_MO_hasSum_45 (lv_at hl 3 rfl) ?_
      refine lv_if_eq (tgt := 84) hx hb d_MO_hasSum_47 (by decide) (fun c_47 => ?_) (fun c_47 => ?_)
      · have hres := it_t c_47 hres
        have hok := hok.1 c_47
        refine lv_iconst (v := (0 : Int32)) hx hb d_MO_hasSum_84 (by decide) ?_
        refine lv_istore (lv' := [(4, .int (0 : Int32)), (0, .ref (ad 0)), (1, .int x1), (2, .long x2), (5, .int x5)]) hx hb d_MO_hasSum_85 hl (by decide) rfl (fun ls hl => ?_)
        refine lv_iinc (v := x5 + (1 : Int32)) (lv' := [(5, .int (x5 + (1 : Int32))), (4, .int (0 : Int32)), (0, .ref (ad 0)), (1, .int x1), (2, .long x2)]) hx hb d_MO_hasSum_87 hl (k := 4) rfl rfl (by decide) rfl (fun ls hl => ?_)
        refine lv_goto (tgt := 38) hx hb d_MO_hasSum_90 (by decide) ?_
        exact ih x1 x2 (0 : Int32) (x5 + (1 : Int32)) _ _ _ hok hres hP hD hS (lv_sub hl [2, 3, 4, 1, 0] rfl)
      · have hres := it_f c_47 hres
        have hok := hok.2 c_47
        refine lv_aload_n hx hb d_MO_hasSum_50 rfl (lv_at hl 0 rfl) ?_
        refine va_get (D := G.1) (ci := 6) (C := R_MO) (T := F_MO) (N := 26) hx hb ht in_MO hown hK hP 0 rfl rfl 2 (by decide) (ht _ kf_MO_7) (fun _ h9 => h9) rfl d_MO_hasSum_51 ?_
        refine lv_iload_n hx hb d_MO_hasSum_54 rfl (lv_at hl 1 rfl) ?_
        refine lv_bipush (v := (56 : Int32)) hx hb d_MO_hasSum_55 (by decide) ?_
        refine lv_iadd hx hb d_MO_hasSum_57 ?_
        refine lv_iload hx hb d_MO_hasSum_58 (lv_at hl 4 rfl) ?_
        refine lv_iadd hx hb d_MO_hasSum_60 ?_
        obtain ⟨hi_61, hok⟩ := hok
        refine va_iald hx hb hK hP 1 0 rfl rfl hi_61 d_MO_hasSum_61 ?_
        refine lv_lload_n hx hb d_MO_hasSum_62 rfl (lv_at hl 2 rfl) ?_
        refine lv_bipush (v := (56 : Int32)) hx hb d_MO_hasSum_63 (by decide) ?_
        refine lv_bipush (v := (8 : Int32)) hx hb d_MO_hasSum_65 (by decide) ?_
        refine lv_iload hx hb d_MO_hasSum_67 (lv_at hl 4 rfl) ?_
        refine lv_imul hx hb d_MO_hasSum_69 ?_
        refine lv_isub hx hb d_MO_hasSum_70 ?_
        refine lv_lushr hx hb d_MO_hasSum_71 rfl ?_
        refine lv_ldc2 hx hb hown (ht _ kl_MO_76) d_MO_hasSum_72 ?_
        refine lv_land hx hb d_MO_hasSum_75 ?_
        refine lv_l2i hx hb d_MO_hasSum_76 rfl ?_
        refine lv_icmp_ne (tgt := 84) hx hb d_MO_hasSum_77 (by decide) (fun c_77 => ?_) (fun c_77 => ?_)
        · have hres := it_f c_77 hres
          have hok := hok.2 c_77
          refine lv_iconst (v := (0 : Int32)) hx hb d_MO_hasSum_84 (by decide) ?_
          refine lv_istore (lv' := [(4, .int (0 : Int32)), (0, .ref (ad 0)), (1, .int x1), (2, .long x2), (5, .int x5)]) hx hb d_MO_hasSum_85 hl (by decide) rfl (fun ls hl => ?_)
          refine lv_iinc (v := x5 + (1 : Int32)) (lv' := [(5, .int (x5 + (1 : Int32))), (4, .int (0 : Int32)), (0, .ref (ad 0)), (1, .int x1), (2, .long x2)]) hx hb d_MO_hasSum_87 hl (k := 4) rfl rfl (by decide) rfl (fun ls hl => ?_)
          refine lv_goto (tgt := 38) hx hb d_MO_hasSum_90 (by decide) ?_
          exact ih x1 x2 (0 : Int32) (x5 + (1 : Int32)) _ _ _ hok hres hP hD hS (lv_sub hl [2, 3, 4, 1, 0] rfl)
        · have hres := it_t c_77 hres
          have hok := hok.1 c_77
          refine lv_iconst (v := (1 : Int32)) hx hb d_MO_hasSum_80 (by decide) ?_
          refine lv_goto (tgt := 85) hx hb d_MO_hasSum_81 (by decide) ?_
          refine lv_istore (lv' := [(4, .int (1 : Int32)), (0, .ref (ad 0)), (1, .int x1), (2, .long x2), (5, .int x5)]) hx hb d_MO_hasSum_85 hl (by decide) rfl (fun ls hl => ?_)
          refine lv_iinc (v := x5 + (1 : Int32)) (lv' := [(5, .int (x5 + (1 : Int32))), (4, .int (1 : Int32)), (0, .ref (ad 0)), (1, .int x1), (2, .long x2)]) hx hb d_MO_hasSum_87 hl (k := 4) rfl rfl (by decide) rfl (fun ls hl => ?_)
          refine lv_goto (tgt := 38) hx hb d_MO_hasSum_90 (by decide) ?_
          exact ih x1 x2 (1 : Int32) (x5 + (1 : Int32)) _ _ _ hok hres hP hD hS (lv_sub hl [2, 3, 4, 1, 0] rfl)
def f_MO_hasSum_5 : Nat → Int32 → Int64 → Int32 → (Nat → Int32) → (Nat → Int32) → Int32 × Unit
  | 0, x1, x2, x4, mro, mit => (0, ())
  | n + 1, x1, x2, x4, mro, mit => if (56 : Int32) ≤ x4 then f_MO_hasSum_38 1024 x1 x2 (1 : Int32) (0 : Int32) mro mit else bindc (f_MO_mixed x2 (mro (x1 + x4).toNatClampNeg)) (fun z_22 => f_MO_hasSum_5 n x1 z_22.1 (x4 + (1 : Int32)) mro mit)
def ok_MO_hasSum_5 : Nat → Int32 → Int64 → Int32 → (Nat → Int32) → (Nat → Int32) → Prop
  | 0, _, _, _, _, _ => False
  | n + 1, x1, x2, x4, mro, mit => ((56 : Int32) ≤ x4 → ok_MO_hasSum_38  1024 x1 x2 (1 : Int32) (0 : Int32) mro mit) ∧ (¬ (56 : Int32) ≤ x4 → vp_in (x1 + x4) 12800 ∧ (bindp (f_MO_mixed x2 (mro (x1 + x4).toNatClampNeg)) (fun z_22 => ok_MO_hasSum_5  n x1 z_22.1 (x4 + (1 : Int32)) mro mit)))
set_option maxHeartbeats 4000000 in
set_option maxRecDepth 100000 in
theorem w_MO_hasSum_5 {p : Program} {l : Launch} {e : Env} {s : State} {m : MethodId} {args : Array Value} {below : List Frame} {meth : Method} {c : Code} {A : Nat → Prop} {G : GG} {ad : Nat → Nat} {mrf : Int32} {msl : Int32} {mst : Int32} {men : Int32} {mnw : Int32} {mdn : Int32} {mpw : Int32} {mwr : Int32} {mrs : Int32} {mdr : Int32} {mtb : Int32} {mrc : Int32} {mnx : Int32} {mro : (Nat → Int32)} {mit : (Nat → Int32)} {mve : (Nat → Int32)} {mrb : (Nat → Int32)} {mch : (Nat → Int32)} {mva : (Nat → Int32)} {mic : (Nat → Int32)} {mlb : (Nat → Int32)} {mrw : (Nat → Int32)} {mnb : (Nat → Int32)} {mlk : (Nat → Int32)} {mnk : (Nat → Int32)} {mmd : (Nat → Int32)} {res : Int32 × Unit} (hC : Cx p l e s m args meth c y_MO_hasSum b_MO_hasSum 6 (some .boolean) "BookTreesModel" G A) : ∀ (n : Nat) (x1 : Int32) (x2 : Int64) (x4 : Int32)  (H : Heap) (locs : List Loc) (ls : Array Slot), ok_MO_hasSum_5 n x1 x2 x4 mro mit → f_MO_hasSum_5 n x1 x2 x4 mro mit = res → va_P G.1 classes (cM G ad mrf msl mst men mnw mdn mpw mwr mrs mdr mtb mrc mnx mro mit mve mrb mch mva mic mlb mrw mnb mlk mnk mmd) H → va_D A (cM G ad mrf msl mst men mnw mdn mpw mwr mrs mdr mtb mrc mnx mro mit mve mrb mch mva mic mlb mrw mnb mlk mnk mmd) → va_S A s.heap H locs → lv_has ls 6 [(0, .ref (ad 0)), (1, .int x1), (2, .long x2), (4, .int x4)] → W p l e rm_MO_hasSum s m args below meth c H locs 0 0 (MQ below (va_Qi (eqP res) (Wb G A (fun _ : Unit => (cM G ad mrf msl mst men mnw mdn mpw mwr mrs mdr mtb mrc mnx mro mit mve mrb mch mva mic mlb mrw mnb mlk mnk mmd))) A) args s 0 0 A) (F0 m 5 ls []) := by
  obtain ⟨hx, hb, hr, hml, hown, hlocks, ht, hK, hA⟩ := id hC
  intro n
  induction n with
  | zero => intro x1 x2 x4 H locs ls hok; exact hok.elim
  | succ n ih =>
    intro x1 x2 x4 H locs ls hok hres hP hD hS hl
    rw [f_MO_hasSum_5] at hres
    rw [ok_MO_hasSum_5] at hok
    refine lv_iload hx hb d_MO_hasSum_5 (lv_at hl 3 rfl) ?_
    refine lv_bipush (v := (56 : Int32)) hx hb d_MO_hasSum_7 (by decide) ?_
    refine lv_icmp_ge (tgt := 32) hx hb d_MO_hasSum_9 (by decide) (fun c_9 => ?_) (fun c_9 => ?_)
    · have hres := it_t c_9 hres
      have hok := hok.1 c_9
      refine lv_iconst (v := (1 : Int32)) hx hb d_MO_hasSum_32 (by decide) ?_
      refine lv_istore (lv' := [(4, .int (1 : Int32)), (0, .ref (ad 0)), (1, .int x1), (2, .long x2)]) hx hb d_MO_hasSum_33 hl (by decide) rfl (fun ls hl => ?_)
      refine lv_iconst (v := (0 : Int32)) hx hb d_MO_hasSum_35 (by decide) ?_
      refine lv_istore (lv' := [(5, .int (0 : Int32)), (4, .int (1 : Int32)), (0, .ref (ad 0)), (1, .int x1), (2, .long x2)]) hx hb d_MO_hasSum_36 hl (by decide) rfl (fun ls hl => ?_)
      exact w_MO_hasSum_38 hC 1024 x1 x2 (1 : Int32) (0 : Int32) _ _ _ hok hres hP hD hS (lv_sub hl [2, 3, 4, 1, 0] rfl)
    · have hres := it_f c_9 hres
      have hok := hok.2 c_9
      refine lv_lload_n hx hb d_MO_hasSum_12 rfl (lv_at hl 2 rfl) ?_
      refine lv_aload_n hx hb d_MO_hasSum_13 rfl (lv_at hl 0 rfl) ?_
      refine va_get (D := G.1) (ci := 6) (C := R_MO) (T := F_MO) (N := 26) hx hb ht in_MO hown hK hP 0 rfl rfl 2 (by decide) (ht _ kf_MO_7) (fun _ h9 => h9) rfl d_MO_hasSum_14 ?_
      refine lv_iload_n hx hb d_MO_hasSum_17 rfl (lv_at hl 1 rfl) ?_
      refine lv_iload hx hb d_MO_hasSum_18 (lv_at hl 3 rfl) ?_
      refine lv_iadd hx hb d_MO_hasSum_20 ?_
      obtain ⟨hi_21, hok⟩ := hok
      refine va_iald hx hb hK hP 1 0 rfl rfl hi_21 d_MO_hasSum_21 ?_
      refine go_lz (run_S hx hb hml hown ht hK hP hD (c_MO_mixed) (cw_S ht km_MO_72 kt_MO_mixed ini_MO kd_MO_mixed kh_MO_mixed ⟨Nat.le_of_ble_eq_true rfl, Nat.le_of_ble_eq_true rfl⟩ rfl rfl) (As := [.long x2, .int (mro (x1 + x4).toNatClampNeg)]) (rest := []) rfl hl.1 rfl (Nat.le_of_ble_eq_true rfl) d_MO_hasSum_22 ⟨Nat.zero_le _, Nat.zero_le _⟩) hD hS hA (fun z_22 H locs hz_22 hP hD hS => ?_)
      have hres := bindc_eq hz_22 hres
      have hok := bindp_eq hz_22 hok
      have hP : va_P G.1 classes (cM G ad mrf msl mst men mnw mdn mpw mwr mrs mdr mtb mrc mnx mro mit mve mrb mch mva mic mlb mrw mnb mlk mnk mmd) H := hP
      have hD : va_D A (cM G ad mrf msl mst men mnw mdn mpw mwr mrs mdr mtb mrc mnx mro mit mve mrb mch mva mic mlb mrw mnb mlk mnk mmd) := hD
      refine lv_lstore_n (lv' := [(2, .long z_22.1), (0, .ref (ad 0)), (1, .int x1), (4, .int x4)]) hx hb d_MO_hasSum_25 rfl hl (by decide) rfl (fun ls hl => ?_)
      refine lv_iinc (v := x4 + (1 : Int32)) (lv' := [(4, .int (x4 + (1 : Int32))), (2, .long z_22.1), (0, .ref (ad 0)), (1, .int x1)]) hx hb d_MO_hasSum_26 hl (k := 3) rfl rfl (by decide) rfl (fun ls hl => ?_)
      refine lv_goto (tgt := 5) hx hb d_MO_hasSum_29 (by decide) ?_
      exact ih x1 z_22.1 (x4 + (1 : Int32)) _ _ _ hok hres hP hD hS (lv_sub hl [2, 3, 1, 0] rfl)
def f_MO_hasSum (p0 : Int32) (mro : (Nat → Int32)) (mit : (Nat → Int32)) : Int32 × Unit := f_MO_hasSum_5 1024 p0 (0 : Int64) (0 : Int32) mro mit
def ok_MO_hasSum (p0 : Int32) (mro : (Nat → Int32)) (mit : (Nat → Int32)) : Prop := ok_MO_hasSum_5  1024 p0 (0 : Int64) (0 : Int32) mro mit
set_option maxHeartbeats 4000000 in
set_option maxRecDepth 100000 in
theorem c_MO_hasSum {l : Launch} {G : GG} {ad : Nat → Nat} {sz : Nat} {mrf : Int32} {msl : Int32} {mst : Int32} {men : Int32} {mnw : Int32} {mdn : Int32} {mpw : Int32} {mwr : Int32} {mrs : Int32} {mdr : Int32} {mtb : Int32} {mrc : Int32} {mnx : Int32} {mro : (Nat → Int32)} {mit : (Nat → Int32)} {mve : (Nat → Int32)} {mrb : (Nat → Int32)} {mch : (Nat → Int32)} {mva : (Nat → Int32)} {mic : (Nat → Int32)} {mlb : (Nat → Int32)} {mrw : (Nat → Int32)} {mnb : (Nat → Int32)} {mlk : (Nat → Int32)} {mnk : (Nat → Int32)} {mmd : (Nat → Int32)} {p0 : Int32} (hok : ok_MO_hasSum p0 mro mit) : CtI l y_MO_hasSum b_MO_hasSum 6 (some .boolean) rm_MO_hasSum G (cM G ad mrf msl mst men mnw mdn mpw mwr mrs mdr mtb mrc mnx mro mit mve mrb mch mva mic mlb mrw mnb mlk mnk mmd) sz [.ref (ad 0), .int p0] (eqP (f_MO_hasSum p0 mro mit)) (fun _ : Unit => (cM G ad mrf msl mst men mnw mdn mpw mwr mrs mdr mtb mrc mnx mro mit mve mrb mch mva mic mlb mrw mnb mlk mnk mmd)) := by
  generalize hres : f_MO_hasSum p0 mro mit = res
  refine Met_of (Qc := fun A => va_Qi (eqP res) (Wb G A (fun _ : Unit => (cM G ad mrf msl mst men mnw mdn mpw mwr mrs mdr mtb mrc mnx mro mit mve mrb mch mva mic mlb mrw mnb mlk mnk mmd))) A) (by decide) (Nat.le_of_ble_eq_true rfl) ?_
  intro p e s m below meth c hadm hx hb hr hml hown hlocks ht hK A hA hP hD hS ls hl
  have hC : Cx p l e s m (([.ref (ad 0), .int p0] : List Value)).toArray meth c y_MO_hasSum b_MO_hasSum 6 (some .boolean) "BookTreesModel" G A := ⟨hx, hb, hr, hml, hown, hlocks, ht, hK, hA⟩
  have hown : s.vm.findClass "BookTreesModel" = some m.cls := hown
  have hl : lv_has ls 6 [(0, .ref (ad 0)), (1, .int p0)] := hl
  rw [f_MO_hasSum] at hres
  rw [ok_MO_hasSum] at hok
  refine lv_lconst (v := (0 : Int64)) hx hb d_MO_hasSum_0 (by decide) ?_
  refine lv_lstore_n (lv' := [(2, .long (0 : Int64)), (0, .ref (ad 0)), (1, .int p0)]) hx hb d_MO_hasSum_1 rfl hl (by decide) rfl (fun ls hl => ?_)
  refine lv_iconst (v := (0 : Int32)) hx hb d_MO_hasSum_2 (by decide) ?_
  refine lv_istore (lv' := [(4, .int (0 : Int32)), (2, .long (0 : Int64)), (0, .ref (ad 0)), (1, .int p0)]) hx hb d_MO_hasSum_3 hl (by decide) rfl (fun ls hl => ?_)
  exact w_MO_hasSum_5 hC 1024 p0 (0 : Int64) (0 : Int32) _ _ _ hok hres hP hD hS (lv_sub hl [2, 3, 1, 0] rfl)
/-! ===== BookTreesModel.number(I)I ===== -/
abbrev rm_MO_number : Room := { frames := 0, cells := 0, slots := 0, locals := 0 }
def f_MO_number (p0 : Int32) (mro : (Nat → Int32)) : Int32 × Unit := (((((mro p0.toNatClampNeg) <<< ((24 : Int32) &&& 31)) ||| ((mro (p0 + (1 : Int32)).toNatClampNeg) <<< ((16 : Int32) &&& 31))) ||| ((mro (p0 + (2 : Int32)).toNatClampNeg) <<< ((8 : Int32) &&& 31))) ||| (mro (p0 + (3 : Int32)).toNatClampNeg), ())
def ok_MO_number (p0 : Int32) (mro : (Nat → Int32)) : Prop := vp_in p0 12800 ∧ (vp_in (p0 + (1 : Int32)) 12800 ∧ (vp_in (p0 + (2 : Int32)) 12800 ∧ (vp_in (p0 + (3 : Int32)) 12800)))
set_option maxHeartbeats 4000000 in
set_option maxRecDepth 100000 in
theorem c_MO_number {l : Launch} {G : GG} {ad : Nat → Nat} {sz : Nat} {mrf : Int32} {msl : Int32} {mst : Int32} {men : Int32} {mnw : Int32} {mdn : Int32} {mpw : Int32} {mwr : Int32} {mrs : Int32} {mdr : Int32} {mtb : Int32} {mrc : Int32} {mnx : Int32} {mro : (Nat → Int32)} {mit : (Nat → Int32)} {mve : (Nat → Int32)} {mrb : (Nat → Int32)} {mch : (Nat → Int32)} {mva : (Nat → Int32)} {mic : (Nat → Int32)} {mlb : (Nat → Int32)} {mrw : (Nat → Int32)} {mnb : (Nat → Int32)} {mlk : (Nat → Int32)} {mnk : (Nat → Int32)} {mmd : (Nat → Int32)} {p0 : Int32} (hok : ok_MO_number p0 mro) : CtI l y_MO_number b_MO_number 2 (some .int) rm_MO_number G (cM G ad mrf msl mst men mnw mdn mpw mwr mrs mdr mtb mrc mnx mro mit mve mrb mch mva mic mlb mrw mnb mlk mnk mmd) sz [.ref (ad 0), .int p0] (eqP (f_MO_number p0 mro)) (fun _ : Unit => (cM G ad mrf msl mst men mnw mdn mpw mwr mrs mdr mtb mrc mnx mro mit mve mrb mch mva mic mlb mrw mnb mlk mnk mmd)) := by
  generalize hres : f_MO_number p0 mro = res
  refine Met_of (Qc := fun A => va_Qi (eqP res) (Wb G A (fun _ : Unit => (cM G ad mrf msl mst men mnw mdn mpw mwr mrs mdr mtb mrc mnx mro mit mve mrb mch mva mic mlb mrw mnb mlk mnk mmd))) A) (by decide) (Nat.le_of_ble_eq_true rfl) ?_
  intro p e s m below meth c hadm hx hb hr hml hown hlocks ht hK A hA hP hD hS ls hl
  have hC : Cx p l e s m (([.ref (ad 0), .int p0] : List Value)).toArray meth c y_MO_number b_MO_number 2 (some .int) "BookTreesModel" G A := ⟨hx, hb, hr, hml, hown, hlocks, ht, hK, hA⟩
  have hown : s.vm.findClass "BookTreesModel" = some m.cls := hown
  have hl : lv_has ls 2 [(0, .ref (ad 0)), (1, .int p0)] := hl
  rw [f_MO_number] at hres
  rw [ok_MO_number] at hok
  refine lv_aload_n hx hb d_MO_number_0 rfl (lv_at hl 0 rfl) ?_
  refine va_get (D := G.1) (ci := 6) (C := R_MO) (T := F_MO) (N := 26) hx hb ht in_MO hown hK hP 0 rfl rfl 2 (by decide) (ht _ kf_MO_7) (fun _ h9 => h9) rfl d_MO_number_1 ?_
  refine lv_iload_n hx hb d_MO_number_4 rfl (lv_at hl 1 rfl) ?_
  obtain ⟨hi_5, hok⟩ := hok
  refine va_iald hx hb hK hP 1 0 rfl rfl hi_5 d_MO_number_5 ?_
  refine lv_bipush (v := (24 : Int32)) hx hb d_MO_number_6 (by decide) ?_
  refine lv_ishl hx hb d_MO_number_8 ?_
  refine lv_aload_n hx hb d_MO_number_9 rfl (lv_at hl 0 rfl) ?_
  refine va_get (D := G.1) (ci := 6) (C := R_MO) (T := F_MO) (N := 26) hx hb ht in_MO hown hK hP 0 rfl rfl 2 (by decide) (ht _ kf_MO_7) (fun _ h9 => h9) rfl d_MO_number_10 ?_
  refine lv_iload_n hx hb d_MO_number_13 rfl (lv_at hl 1 rfl) ?_
  refine lv_iconst (v := (1 : Int32)) hx hb d_MO_number_14 (by decide) ?_
  refine lv_iadd hx hb d_MO_number_15 ?_
  obtain ⟨hi_16, hok⟩ := hok
  refine va_iald hx hb hK hP 1 0 rfl rfl hi_16 d_MO_number_16 ?_
  refine lv_bipush (v := (16 : Int32)) hx hb d_MO_number_17 (by decide) ?_
  refine lv_ishl hx hb d_MO_number_19 ?_
  refine lv_ior hx hb d_MO_number_20 ?_
  refine lv_aload_n hx hb d_MO_number_21 rfl (lv_at hl 0 rfl) ?_
  refine va_get (D := G.1) (ci := 6) (C := R_MO) (T := F_MO) (N := 26) hx hb ht in_MO hown hK hP 0 rfl rfl 2 (by decide) (ht _ kf_MO_7) (fun _ h9 => h9) rfl d_MO_number_22 ?_
  refine lv_iload_n hx hb d_MO_number_25 rfl (lv_at hl 1 rfl) ?_
  refine lv_iconst (v := (2 : Int32)) hx hb d_MO_number_26 (by decide) ?_
  refine lv_iadd hx hb d_MO_number_27 ?_
  obtain ⟨hi_28, hok⟩ := hok
  refine va_iald hx hb hK hP 1 0 rfl rfl hi_28 d_MO_number_28 ?_
  refine lv_bipush (v := (8 : Int32)) hx hb d_MO_number_29 (by decide) ?_
  refine lv_ishl hx hb d_MO_number_31 ?_
  refine lv_ior hx hb d_MO_number_32 ?_
  refine lv_aload_n hx hb d_MO_number_33 rfl (lv_at hl 0 rfl) ?_
  refine va_get (D := G.1) (ci := 6) (C := R_MO) (T := F_MO) (N := 26) hx hb ht in_MO hown hK hP 0 rfl rfl 2 (by decide) (ht _ kf_MO_7) (fun _ h9 => h9) rfl d_MO_number_34 ?_
  refine lv_iload_n hx hb d_MO_number_37 rfl (lv_at hl 1 rfl) ?_
  refine lv_iconst (v := (3 : Int32)) hx hb d_MO_number_38 (by decide) ?_
  refine lv_iadd hx hb d_MO_number_39 ?_
  have hi_40 := hok
  refine va_iald hx hb hK hP 1 0 rfl rfl hi_40 d_MO_number_40 ?_
  refine lv_ior hx hb d_MO_number_41 ?_
  exact en_i (w1 := (fun _ : Unit => (cM G ad mrf msl mst men mnw mdn mpw mwr mrs mdr mtb mrc mnx mro mit mve mrb mch mva mic mlb mrw mnb mlk mnk mmd))) () hx hb hr hlocks hK hP hD hS hres d_MO_number_42
/-! ===== BookTreesModel.isBad(II)Z ===== -/
abbrev rm_MO_isBad : Room := { frames := 2, cells := 0, slots := 0, locals := 49 }
def f_MO_isBad (p0 : Int32) (p1 : Int32) (msl : Int32) (mst : Int32) (men : Int32) (mro : (Nat → Int32)) (mit : (Nat → Int32)) : Int32 × Unit := bindc (f_MO_isUsed p0 mst men) (fun z_2 => if z_2.1 = 0 then ((1 : Int32), ()) else bindc (f_MO_placeOf p0 msl) (fun z_12 => bindc (f_MO_hasSum z_12.1 mro mit) (fun z_18 => if z_18.1 = 0 then ((1 : Int32), ()) else bindc (f_MO_number (z_12.1 + (40 : Int32)) mro) (fun z_29 => if z_29.1 = p0 then (if (mro z_12.1.toNatClampNeg) = p1 then ((0 : Int32), ()) else ((1 : Int32), ())) else ((1 : Int32), ())))))
def ok_MO_isBad (p0 : Int32) (p1 : Int32) (msl : Int32) (mst : Int32) (men : Int32) (mro : (Nat → Int32)) (mit : (Nat → Int32)) : Prop := bindp (f_MO_isUsed p0 mst men) (fun z_2 => (z_2.1 = 0 → True) ∧ (¬ z_2.1 = 0 → ok_MO_placeOf p0 msl ∧ bindp (f_MO_placeOf p0 msl) (fun z_12 => ok_MO_hasSum z_12.1 mro mit ∧ bindp (f_MO_hasSum z_12.1 mro mit) (fun z_18 => (z_18.1 = 0 → True) ∧ (¬ z_18.1 = 0 → ok_MO_number (z_12.1 + (40 : Int32)) mro ∧ bindp (f_MO_number (z_12.1 + (40 : Int32)) mro) (fun z_29 => (z_29.1 = p0 → vp_in z_12.1 12800) ∧ (¬ z_29.1 = p0 → True)))))))
set_option maxHeartbeats 4000000 in
set_option maxRecDepth 100000 in
theorem c_MO_isBad {l : Launch} {G : GG} {ad : Nat → Nat} {sz : Nat} {mrf : Int32} {msl : Int32} {mst : Int32} {men : Int32} {mnw : Int32} {mdn : Int32} {mpw : Int32} {mwr : Int32} {mrs : Int32} {mdr : Int32} {mtb : Int32} {mrc : Int32} {mnx : Int32} {mro : (Nat → Int32)} {mit : (Nat → Int32)} {mve : (Nat → Int32)} {mrb : (Nat → Int32)} {mch : (Nat → Int32)} {mva : (Nat → Int32)} {mic : (Nat → Int32)} {mlb : (Nat → Int32)} {mrw : (Nat → Int32)} {mnb : (Nat → Int32)} {mlk : (Nat → Int32)} {mnk : (Nat → Int32)} {mmd : (Nat → Int32)} {p0 : Int32} {p1 : Int32} (hok : ok_MO_isBad p0 p1 msl mst men mro mit) : CtI l y_MO_isBad b_MO_isBad 4 (some .boolean) rm_MO_isBad G (cM G ad mrf msl mst men mnw mdn mpw mwr mrs mdr mtb mrc mnx mro mit mve mrb mch mva mic mlb mrw mnb mlk mnk mmd) sz [.ref (ad 0), .int p0, .int p1] (eqP (f_MO_isBad p0 p1 msl mst men mro mit)) (fun _ : Unit => (cM G ad mrf msl mst men mnw mdn mpw mwr mrs mdr mtb mrc mnx mro mit mve mrb mch mva mic mlb mrw mnb mlk mnk mmd)) := by
  generalize hres : f_MO_isBad p0 p1 msl mst men mro mit = res
  refine Met_of (Qc := fun A => va_Qi (eqP res) (Wb G A (fun _ : Unit => (cM G ad mrf msl mst men mnw mdn mpw mwr mrs mdr mtb mrc mnx mro mit mve mrb mch mva mic mlb mrw mnb mlk mnk mmd))) A) (by decide) (Nat.le_of_ble_eq_true rfl) ?_
  intro p e s m below meth c hadm hx hb hr hml hown hlocks ht hK A hA hP hD hS ls hl
  have hC : Cx p l e s m (([.ref (ad 0), .int p0, .int p1] : List Value)).toArray meth c y_MO_isBad b_MO_isBad 4 (some .boolean) "BookTreesModel" G A := ⟨hx, hb, hr, hml, hown, hlocks, ht, hK, hA⟩
  have hown : s.vm.findClass "BookTreesModel" = some m.cls := hown
  have hl : lv_has ls 4 [(0, .ref (ad 0)), (1, .int p0), (2, .int p1)] := hl
  rw [f_MO_isBad] at hres
  rw [ok_MO_isBad] at hok
  refine lv_aload_n hx hb d_MO_isBad_0 rfl (lv_at hl 0 rfl) ?_
  refine lv_iload_n hx hb d_MO_isBad_1 rfl (lv_at hl 1 rfl) ?_
  refine go_iz (run_V hx hb hml hown ht hK hP hD (c_MO_isUsed) (cw_V ht km_MO_78 ki_MO_isUsed ks_MO_isUsed ini_MO kd_MO_isUsed kh_MO_isUsed ⟨Nat.le_of_ble_eq_true rfl, Nat.le_of_ble_eq_true rfl⟩ rfl rfl) (q0 := 0) (ci := 6) (As := [.int p0]) (rest := []) rfl rfl rfl hl.1 rfl (Nat.le_of_ble_eq_true rfl) d_MO_isBad_2 ⟨Nat.zero_le _, Nat.zero_le _⟩) hD hS hA (fun z_2 H locs hz_2 hP hD hS => ?_)
  have hres := bindc_eq hz_2 hres
  have hok := bindp_eq hz_2 hok
  have hP : va_P G.1 classes (cM G ad mrf msl mst men mnw mdn mpw mwr mrs mdr mtb mrc mnx mro mit mve mrb mch mva mic mlb mrw mnb mlk mnk mmd) H := hP
  have hD : va_D A (cM G ad mrf msl mst men mnw mdn mpw mwr mrs mdr mtb mrc mnx mro mit mve mrb mch mva mic mlb mrw mnb mlk mnk mmd) := hD
  refine lv_if_ne (tgt := 10) hx hb d_MO_isBad_5 (by decide) (fun c_5 => ?_) (fun c_5 => ?_)
  · have hres := it_f c_5 hres
    have hok := hok.2 c_5
    refine lv_aload_n hx hb d_MO_isBad_10 rfl (lv_at hl 0 rfl) ?_
    refine lv_iload_n hx hb d_MO_isBad_11 rfl (lv_at hl 1 rfl) ?_
    obtain ⟨hk_12, hok⟩ := hok
    refine go_iz (run_V hx hb hml hown ht hK hP hD (c_MO_placeOf hk_12) (cw_V ht km_MO_82 ki_MO_placeOf ks_MO_placeOf ini_MO kd_MO_placeOf kh_MO_placeOf ⟨Nat.le_of_ble_eq_true rfl, Nat.le_of_ble_eq_true rfl⟩ rfl rfl) (q0 := 0) (ci := 6) (As := [.int p0]) (rest := []) rfl rfl rfl hl.1 rfl (Nat.le_of_ble_eq_true rfl) d_MO_isBad_12 ⟨Nat.zero_le _, Nat.zero_le _⟩) hD hS hA (fun z_12 H locs hz_12 hP hD hS => ?_)
    have hres := bindc_eq hz_12 hres
    have hok := bindp_eq hz_12 hok
    have hP : va_P G.1 classes (cM G ad mrf msl mst men mnw mdn mpw mwr mrs mdr mtb mrc mnx mro mit mve mrb mch mva mic mlb mrw mnb mlk mnk mmd) H := hP
    have hD : va_D A (cM G ad mrf msl mst men mnw mdn mpw mwr mrs mdr mtb mrc mnx mro mit mve mrb mch mva mic mlb mrw mnb mlk mnk mmd) := hD
    refine lv_istore_n (lv' := [(3, .int z_12.1), (0, .ref (ad 0)), (1, .int p0), (2, .int p1)]) hx hb d_MO_isBad_15 rfl hl (by decide) rfl (fun ls hl => ?_)
    refine lv_aload_n hx hb d_MO_isBad_16 rfl (lv_at hl 1 rfl) ?_
    refine lv_iload_n hx hb d_MO_isBad_17 rfl (lv_at hl 0 rfl) ?_
    obtain ⟨hk_18, hok⟩ := hok
    refine go_iz (run_V hx hb hml hown ht hK hP hD (c_MO_hasSum hk_18) (cw_V ht km_MO_86 ki_MO_hasSum ks_MO_hasSum ini_MO kd_MO_hasSum kh_MO_hasSum ⟨Nat.le_of_ble_eq_true rfl, Nat.le_of_ble_eq_true rfl⟩ rfl rfl) (q0 := 0) (ci := 6) (As := [.int z_12.1]) (rest := []) rfl rfl rfl hl.1 rfl (Nat.le_of_ble_eq_true rfl) d_MO_isBad_18 ⟨Nat.zero_le _, Nat.zero_le _⟩) hD hS hA (fun z_18 H locs hz_18 hP hD hS => ?_)
    have hres := bindc_eq hz_18 hres
    have hok := bindp_eq hz_18 hok
    have hP : va_P G.1 classes (cM G ad mrf msl mst men mnw mdn mpw mwr mrs mdr mtb mrc mnx mro mit mve mrb mch mva mic mlb mrw mnb mlk mnk mmd) H := hP
    have hD : va_D A (cM G ad mrf msl mst men mnw mdn mpw mwr mrs mdr mtb mrc mnx mro mit mve mrb mch mva mic mlb mrw mnb mlk mnk mmd) := hD
    refine lv_if_eq (tgt := 46) hx hb d_MO_isBad_21 (by decide) (fun c_21 => ?_) (fun c_21 => ?_)
    · have hres := it_t c_21 hres
      refine lv_iconst (v := (1 : Int32)) hx hb d_MO_isBad_46 (by decide) ?_
      refine lv_goto (tgt := 51) hx hb d_MO_isBad_47 (by decide) ?_
      exact en_z (w1 := (fun _ : Unit => (cM G ad mrf msl mst men mnw mdn mpw mwr mrs mdr mtb mrc mnx mro mit mve mrb mch mva mic mlb mrw mnb mlk mnk mmd))) () hx hb hr hlocks hK hP hD hS hres isB_1 d_MO_isBad_51
    · have hres := it_f c_21 hres
      have hok := hok.2 c_21
      refine lv_aload_n hx hb d_MO_isBad_24 rfl (lv_at hl 1 rfl) ?_
      refine lv_iload_n hx hb d_MO_isBad_25 rfl (lv_at hl 0 rfl) ?_
      refine lv_bipush (v := (40 : Int32)) hx hb d_MO_isBad_26 (by decide) ?_
      refine lv_iadd hx hb d_MO_isBad_28 ?_
      obtain ⟨hk_29, hok⟩ := hok
      refine go_iz (run_V hx hb hml hown ht hK hP hD (c_MO_number hk_29) (cw_V ht km_MO_89 ki_MO_number ks_MO_number ini_MO kd_MO_number kh_MO_number ⟨Nat.le_of_ble_eq_true rfl, Nat.le_of_ble_eq_true rfl⟩ rfl rfl) (q0 := 0) (ci := 6) (As := [.int (z_12.1 + (40 : Int32))]) (rest := []) rfl rfl rfl hl.1 rfl (Nat.le_of_ble_eq_true rfl) d_MO_isBad_29 ⟨Nat.zero_le _, Nat.zero_le _⟩) hD hS hA (fun z_29 H locs hz_29 hP hD hS => ?_)
      have hres := bindc_eq hz_29 hres
      have hok := bindp_eq hz_29 hok
      have hP : va_P G.1 classes (cM G ad mrf msl mst men mnw mdn mpw mwr mrs mdr mtb mrc mnx mro mit mve mrb mch mva mic mlb mrw mnb mlk mnk mmd) H := hP
      have hD : va_D A (cM G ad mrf msl mst men mnw mdn mpw mwr mrs mdr mtb mrc mnx mro mit mve mrb mch mva mic mlb mrw mnb mlk mnk mmd) := hD
      refine lv_iload_n hx hb d_MO_isBad_32 rfl (lv_at hl 2 rfl) ?_
      refine lv_icmp_ne (tgt := 46) hx hb d_MO_isBad_33 (by decide) (fun c_33 => ?_) (fun c_33 => ?_)
      · have hres := it_f c_33 hres
        refine lv_iconst (v := (1 : Int32)) hx hb d_MO_isBad_46 (by decide) ?_
        refine lv_goto (tgt := 51) hx hb d_MO_isBad_47 (by decide) ?_
        exact en_z (w1 := (fun _ : Unit => (cM G ad mrf msl mst men mnw mdn mpw mwr mrs mdr mtb mrc mnx mro mit mve mrb mch mva mic mlb mrw mnb mlk mnk mmd))) () hx hb hr hlocks hK hP hD hS hres isB_1 d_MO_isBad_51
      · have hres := it_t c_33 hres
        have hok := hok.1 c_33
        refine lv_aload_n hx hb d_MO_isBad_36 rfl (lv_at hl 1 rfl) ?_
        refine va_get (D := G.1) (ci := 6) (C := R_MO) (T := F_MO) (N := 26) hx hb ht in_MO hown hK hP 0 rfl rfl 2 (by decide) (ht _ kf_MO_7) (fun _ h9 => h9) rfl d_MO_isBad_37 ?_
        refine lv_iload_n hx hb d_MO_isBad_40 rfl (lv_at hl 0 rfl) ?_
        have hi_41 := hok
        refine va_iald hx hb hK hP 1 0 rfl rfl hi_41 d_MO_isBad_41 ?_
        refine lv_iload_n hx hb d_MO_isBad_42 rfl (lv_at hl 3 rfl) ?_
        refine lv_icmp_eq (tgt := 50) hx hb d_MO_isBad_43 (by decide) (fun c_43 => ?_) (fun c_43 => ?_)
        · have hres := it_t c_43 hres
          refine lv_iconst (v := (0 : Int32)) hx hb d_MO_isBad_50 (by decide) ?_
          exact en_z (w1 := (fun _ : Unit => (cM G ad mrf msl mst men mnw mdn mpw mwr mrs mdr mtb mrc mnx mro mit mve mrb mch mva mic mlb mrw mnb mlk mnk mmd))) () hx hb hr hlocks hK hP hD hS hres isB_0 d_MO_isBad_51
        · have hres := it_f c_43 hres
          refine lv_iconst (v := (1 : Int32)) hx hb d_MO_isBad_46 (by decide) ?_
          refine lv_goto (tgt := 51) hx hb d_MO_isBad_47 (by decide) ?_
          exact en_z (w1 := (fun _ : Unit => (cM G ad mrf msl mst men mnw mdn mpw mwr mrs mdr mtb mrc mnx mro mit mve mrb mch mva mic mlb mrw mnb mlk mnk mmd))) () hx hb hr hlocks hK hP hD hS hres isB_1 d_MO_isBad_51
  · have hres := it_t c_5 hres
    refine lv_iconst (v := (1 : Int32)) hx hb d_MO_isBad_8 (by decide) ?_
    exact en_z (w1 := (fun _ : Unit => (cM G ad mrf msl mst men mnw mdn mpw mwr mrs mdr mtb mrc mnx mro mit mve mrb mch mva mic mlb mrw mnb mlk mnk mmd))) () hx hb hr hlocks hK hP hD hS hres isB_1 d_MO_isBad_9
/-! ===== BookTreesModel.bitsOf(I)I ===== -/
abbrev rm_MO_bitsOf : Room := { frames := 1, cells := 0, slots := 0, locals := 21 }
def f_MO_bitsOf (p0 : Int32) (msl : Int32) (mro : (Nat → Int32)) : Int32 × Unit := bindc (f_MO_placeOf p0 msl) (fun z_6 => (mro (z_6.1 + (1 : Int32)).toNatClampNeg, ()))
def ok_MO_bitsOf (p0 : Int32) (msl : Int32) (mro : (Nat → Int32)) : Prop := ok_MO_placeOf p0 msl ∧ bindp (f_MO_placeOf p0 msl) (fun z_6 => vp_in (z_6.1 + (1 : Int32)) 12800)
set_option maxHeartbeats 4000000 in
set_option maxRecDepth 100000 in
theorem c_MO_bitsOf {l : Launch} {G : GG} {ad : Nat → Nat} {sz : Nat} {mrf : Int32} {msl : Int32} {mst : Int32} {men : Int32} {mnw : Int32} {mdn : Int32} {mpw : Int32} {mwr : Int32} {mrs : Int32} {mdr : Int32} {mtb : Int32} {mrc : Int32} {mnx : Int32} {mro : (Nat → Int32)} {mit : (Nat → Int32)} {mve : (Nat → Int32)} {mrb : (Nat → Int32)} {mch : (Nat → Int32)} {mva : (Nat → Int32)} {mic : (Nat → Int32)} {mlb : (Nat → Int32)} {mrw : (Nat → Int32)} {mnb : (Nat → Int32)} {mlk : (Nat → Int32)} {mnk : (Nat → Int32)} {mmd : (Nat → Int32)} {p0 : Int32} (hok : ok_MO_bitsOf p0 msl mro) : CtI l y_MO_bitsOf b_MO_bitsOf 2 (some .int) rm_MO_bitsOf G (cM G ad mrf msl mst men mnw mdn mpw mwr mrs mdr mtb mrc mnx mro mit mve mrb mch mva mic mlb mrw mnb mlk mnk mmd) sz [.ref (ad 0), .int p0] (eqP (f_MO_bitsOf p0 msl mro)) (fun _ : Unit => (cM G ad mrf msl mst men mnw mdn mpw mwr mrs mdr mtb mrc mnx mro mit mve mrb mch mva mic mlb mrw mnb mlk mnk mmd)) := by
  generalize hres : f_MO_bitsOf p0 msl mro = res
  refine Met_of (Qc := fun A => va_Qi (eqP res) (Wb G A (fun _ : Unit => (cM G ad mrf msl mst men mnw mdn mpw mwr mrs mdr mtb mrc mnx mro mit mve mrb mch mva mic mlb mrw mnb mlk mnk mmd))) A) (by decide) (Nat.le_of_ble_eq_true rfl) ?_
  intro p e s m below meth c hadm hx hb hr hml hown hlocks ht hK A hA hP hD hS ls hl
  have hC : Cx p l e s m (([.ref (ad 0), .int p0] : List Value)).toArray meth c y_MO_bitsOf b_MO_bitsOf 2 (some .int) "BookTreesModel" G A := ⟨hx, hb, hr, hml, hown, hlocks, ht, hK, hA⟩
  have hown : s.vm.findClass "BookTreesModel" = some m.cls := hown
  have hl : lv_has ls 2 [(0, .ref (ad 0)), (1, .int p0)] := hl
  rw [f_MO_bitsOf] at hres
  rw [ok_MO_bitsOf] at hok
  refine lv_aload_n hx hb d_MO_bitsOf_0 rfl (lv_at hl 0 rfl) ?_
  refine va_get (D := G.1) (ci := 6) (C := R_MO) (T := F_MO) (N := 26) hx hb ht in_MO hown hK hP 0 rfl rfl 2 (by decide) (ht _ kf_MO_7) (fun _ h9 => h9) rfl d_MO_bitsOf_1 ?_
  refine lv_aload_n hx hb d_MO_bitsOf_4 rfl (lv_at hl 0 rfl) ?_
  refine lv_iload_n hx hb d_MO_bitsOf_5 rfl (lv_at hl 1 rfl) ?_
  obtain ⟨hk_6, hok⟩ := hok
  refine go_iz (run_V hx hb hml hown ht hK hP hD (c_MO_placeOf hk_6) (cw_V ht km_MO_82 ki_MO_placeOf ks_MO_placeOf ini_MO kd_MO_placeOf kh_MO_placeOf ⟨Nat.le_of_ble_eq_true rfl, Nat.le_of_ble_eq_true rfl⟩ rfl rfl) (q0 := 0) (ci := 6) (As := [.int p0]) (rest := [.ref (ad 1)]) rfl rfl rfl hl.1 rfl (Nat.le_of_ble_eq_true rfl) d_MO_bitsOf_6 ⟨Nat.zero_le _, Nat.zero_le _⟩) hD hS hA (fun z_6 H locs hz_6 hP hD hS => ?_)
  have hres := bindc_eq hz_6 hres
  have hok := bindp_eq hz_6 hok
  have hP : va_P G.1 classes (cM G ad mrf msl mst men mnw mdn mpw mwr mrs mdr mtb mrc mnx mro mit mve mrb mch mva mic mlb mrw mnb mlk mnk mmd) H := hP
  have hD : va_D A (cM G ad mrf msl mst men mnw mdn mpw mwr mrs mdr mtb mrc mnx mro mit mve mrb mch mva mic mlb mrw mnb mlk mnk mmd) := hD
  refine lv_iconst (v := (1 : Int32)) hx hb d_MO_bitsOf_9 (by decide) ?_
  refine lv_iadd hx hb d_MO_bitsOf_10 ?_
  have hi_11 := hok
  refine va_iald hx hb hK hP 1 0 rfl rfl hi_11 d_MO_bitsOf_11 ?_
  exact en_i (w1 := (fun _ : Unit => (cM G ad mrf msl mst men mnw mdn mpw mwr mrs mdr mtb mrc mnx mro mit mve mrb mch mva mic mlb mrw mnb mlk mnk mmd))) () hx hb hr hlocks hK hP hD hS hres d_MO_bitsOf_12
/-! ===== BookTreesModel.entryOf(II)I ===== -/
abbrev rm_MO_entryOf : Room := { frames := 1, cells := 0, slots := 0, locals := 21 }
def f_MO_entryOf (p0 : Int32) (p1 : Int32) (msl : Int32) (mro : (Nat → Int32)) : Int32 × Unit := bindc (f_MO_placeOf p0 msl) (fun z_3 => bindc (f_MO_number ((z_3.1 + (8 : Int32)) + ((4 : Int32) * p1)) mro) (fun z_13 => (z_13.1, ())))
def ok_MO_entryOf (p0 : Int32) (p1 : Int32) (msl : Int32) (mro : (Nat → Int32)) : Prop := ok_MO_placeOf p0 msl ∧ bindp (f_MO_placeOf p0 msl) (fun z_3 => ok_MO_number ((z_3.1 + (8 : Int32)) + ((4 : Int32) * p1)) mro)
set_option maxHeartbeats 4000000 in
set_option maxRecDepth 100000 in
theorem c_MO_entryOf {l : Launch} {G : GG} {ad : Nat → Nat} {sz : Nat} {mrf : Int32} {msl : Int32} {mst : Int32} {men : Int32} {mnw : Int32} {mdn : Int32} {mpw : Int32} {mwr : Int32} {mrs : Int32} {mdr : Int32} {mtb : Int32} {mrc : Int32} {mnx : Int32} {mro : (Nat → Int32)} {mit : (Nat → Int32)} {mve : (Nat → Int32)} {mrb : (Nat → Int32)} {mch : (Nat → Int32)} {mva : (Nat → Int32)} {mic : (Nat → Int32)} {mlb : (Nat → Int32)} {mrw : (Nat → Int32)} {mnb : (Nat → Int32)} {mlk : (Nat → Int32)} {mnk : (Nat → Int32)} {mmd : (Nat → Int32)} {p0 : Int32} {p1 : Int32} (hok : ok_MO_entryOf p0 p1 msl mro) : CtI l y_MO_entryOf b_MO_entryOf 3 (some .int) rm_MO_entryOf G (cM G ad mrf msl mst men mnw mdn mpw mwr mrs mdr mtb mrc mnx mro mit mve mrb mch mva mic mlb mrw mnb mlk mnk mmd) sz [.ref (ad 0), .int p0, .int p1] (eqP (f_MO_entryOf p0 p1 msl mro)) (fun _ : Unit => (cM G ad mrf msl mst men mnw mdn mpw mwr mrs mdr mtb mrc mnx mro mit mve mrb mch mva mic mlb mrw mnb mlk mnk mmd)) := by
  generalize hres : f_MO_entryOf p0 p1 msl mro = res
  refine Met_of (Qc := fun A => va_Qi (eqP res) (Wb G A (fun _ : Unit => (cM G ad mrf msl mst men mnw mdn mpw mwr mrs mdr mtb mrc mnx mro mit mve mrb mch mva mic mlb mrw mnb mlk mnk mmd))) A) (by decide) (Nat.le_of_ble_eq_true rfl) ?_
  intro p e s m below meth c hadm hx hb hr hml hown hlocks ht hK A hA hP hD hS ls hl
  have hC : Cx p l e s m (([.ref (ad 0), .int p0, .int p1] : List Value)).toArray meth c y_MO_entryOf b_MO_entryOf 3 (some .int) "BookTreesModel" G A := ⟨hx, hb, hr, hml, hown, hlocks, ht, hK, hA⟩
  have hown : s.vm.findClass "BookTreesModel" = some m.cls := hown
  have hl : lv_has ls 3 [(0, .ref (ad 0)), (1, .int p0), (2, .int p1)] := hl
  rw [f_MO_entryOf] at hres
  rw [ok_MO_entryOf] at hok
  refine lv_aload_n hx hb d_MO_entryOf_0 rfl (lv_at hl 0 rfl) ?_
  refine lv_aload_n hx hb d_MO_entryOf_1 rfl (lv_at hl 0 rfl) ?_
  refine lv_iload_n hx hb d_MO_entryOf_2 rfl (lv_at hl 1 rfl) ?_
  obtain ⟨hk_3, hok⟩ := hok
  refine go_iz (run_V hx hb hml hown ht hK hP hD (c_MO_placeOf hk_3) (cw_V ht km_MO_82 ki_MO_placeOf ks_MO_placeOf ini_MO kd_MO_placeOf kh_MO_placeOf ⟨Nat.le_of_ble_eq_true rfl, Nat.le_of_ble_eq_true rfl⟩ rfl rfl) (q0 := 0) (ci := 6) (As := [.int p0]) (rest := [.ref (ad 0)]) rfl rfl rfl hl.1 rfl (Nat.le_of_ble_eq_true rfl) d_MO_entryOf_3 ⟨Nat.zero_le _, Nat.zero_le _⟩) hD hS hA (fun z_3 H locs hz_3 hP hD hS => ?_)
  have hres := bindc_eq hz_3 hres
  have hok := bindp_eq hz_3 hok
  have hP : va_P G.1 classes (cM G ad mrf msl mst men mnw mdn mpw mwr mrs mdr mtb mrc mnx mro mit mve mrb mch mva mic mlb mrw mnb mlk mnk mmd) H := hP
  have hD : va_D A (cM G ad mrf msl mst men mnw mdn mpw mwr mrs mdr mtb mrc mnx mro mit mve mrb mch mva mic mlb mrw mnb mlk mnk mmd) := hD
  refine lv_bipush (v := (8 : Int32)) hx hb d_MO_entryOf_6 (by decide) ?_
  refine lv_iadd hx hb d_MO_entryOf_8 ?_
  refine lv_iconst (v := (4 : Int32)) hx hb d_MO_entryOf_9 (by decide) ?_
  refine lv_iload_n hx hb d_MO_entryOf_10 rfl (lv_at hl 2 rfl) ?_
  refine lv_imul hx hb d_MO_entryOf_11 ?_
  refine lv_iadd hx hb d_MO_entryOf_12 ?_
  have hk_13 := hok
  refine go_iz (run_V hx hb hml hown ht hK hP hD (c_MO_number hk_13) (cw_V ht km_MO_89 ki_MO_number ks_MO_number ini_MO kd_MO_number kh_MO_number ⟨Nat.le_of_ble_eq_true rfl, Nat.le_of_ble_eq_true rfl⟩ rfl rfl) (q0 := 0) (ci := 6) (As := [.int ((z_3.1 + (8 : Int32)) + ((4 : Int32) * p1))]) (rest := []) rfl rfl rfl hl.1 rfl (Nat.le_of_ble_eq_true rfl) d_MO_entryOf_13 ⟨Nat.zero_le _, Nat.zero_le _⟩) hD hS hA (fun z_13 H locs hz_13 hP hD hS => ?_)
  have hres := bindc_eq hz_13 hres
  have hP : va_P G.1 classes (cM G ad mrf msl mst men mnw mdn mpw mwr mrs mdr mtb mrc mnx mro mit mve mrb mch mva mic mlb mrw mnb mlk mnk mmd) H := hP
  have hD : va_D A (cM G ad mrf msl mst men mnw mdn mpw mwr mrs mdr mtb mrc mnx mro mit mve mrb mch mva mic mlb mrw mnb mlk mnk mmd) := hD
  exact en_i (w1 := (fun _ : Unit => (cM G ad mrf msl mst men mnw mdn mpw mwr mrs mdr mtb mrc mnx mro mit mve mrb mch mva mic mlb mrw mnb mlk mnk mmd))) () hx hb hr hlocks hK hP hD hS hres d_MO_entryOf_16
