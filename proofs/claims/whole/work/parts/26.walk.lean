/-! ===== BookTreesModel.poke(III)I ===== -/
abbrev rm_MO_poke : Room := { frames := 1, cells := 0, slots := 0, locals := 21 }
def f_MO_poke_36 (x1 : Int32) (x2 : Int32) (x3 : Int32) (y1 : Int32) (mrf : Int32) (msl : Int32) (mst : Int32) (men : Int32) (mdn : Int32) (mro : (Nat → Int32)) : Int32 × Int32 × (Nat → Int32) := bindc (f_MO_goes y1 mrf mdn) (fun z_36 => if z_36.1 = 0 then ((0 : Int32), (z_36.2, mro)) else bindc (f_MO_placeOf x1 msl) (fun z_46 => ((upd mro (z_46.1 + x2).toNatClampNeg ((mro (z_46.1 + x2).toNatClampNeg) ^^^ x3)) (z_46.1 + x2).toNatClampNeg, (z_36.2, upd mro (z_46.1 + x2).toNatClampNeg ((mro (z_46.1 + x2).toNatClampNeg) ^^^ x3)))))
def ok_MO_poke_36 (x1 : Int32) (x2 : Int32) (x3 : Int32) (y1 : Int32) (mrf : Int32) (msl : Int32) (mst : Int32) (men : Int32) (mdn : Int32) (mro : (Nat → Int32)) : Prop := bindp (f_MO_goes y1 mrf mdn) (fun z_36 => (z_36.1 = 0 → True) ∧ (¬ z_36.1 = 0 → ok_MO_placeOf x1 msl ∧ bindp (f_MO_placeOf x1 msl) (fun z_46 => vp_in (z_46.1 + x2) 12800 ∧ (vp_in (z_46.1 + x2) 12800 ∧ (vp_in (z_46.1 + x2) 12800)))))
set_option maxHeartbeats 4000000 in
set_option maxRecDepth 100000 in
theorem w_MO_poke_36 {p : Program} {l : Launch} {e : Env} {s : State} {m : MethodId} {args : Array Value} {below : List Frame} {meth : Method} {c : Code} {A : Nat → Prop} {G : GG} {ad : Nat → Nat} {msl : Int32} {mst : Int32} {men : Int32} {mnw : Int32} {mdn : Int32} {mpw : Int32} {mwr : Int32} {mrs : Int32} {mdr : Int32} {mtb : Int32} {mrc : Int32} {mnx : Int32} {mit : (Nat → Int32)} {mve : (Nat → Int32)} {mrb : (Nat → Int32)} {mch : (Nat → Int32)} {mva : (Nat → Int32)} {mic : (Nat → Int32)} {mlb : (Nat → Int32)} {mrw : (Nat → Int32)} {mnb : (Nat → Int32)} {mlk : (Nat → Int32)} {mnk : (Nat → Int32)} {mmd : (Nat → Int32)} {res : Int32 × Int32 × (Nat → Int32)} (hC : Cx p l e s m args meth c y_MO_poke b_MO_poke 5 (some .int) "BookTreesModel" G A) : ∀ (x1 : Int32) (x2 : Int32) (x3 : Int32) (y1 : Int32) (mrf : Int32) (mro : (Nat → Int32)) (H : Heap) (locs : List Loc) (ls : Array Slot), ok_MO_poke_36 x1 x2 x3 y1 mrf msl mst men mdn mro → f_MO_poke_36 x1 x2 x3 y1 mrf msl mst men mdn mro = res → va_P G.1 classes (cM G ad mrf msl mst men mnw mdn mpw mwr mrs mdr mtb mrc mnx mro mit mve mrb mch mva mic mlb mrw mnb mlk mnk mmd) H → va_D A (cM G ad mrf msl mst men mnw mdn mpw mwr mrs mdr mtb mrc mnx mro mit mve mrb mch mva mic mlb mrw mnb mlk mnk mmd) → va_S A s.heap H locs → lv_has ls 5 [(0, .ref (ad 0)), (1, .int x1), (2, .int x2), (3, .int x3)] → W p l e rm_MO_poke s m args below meth c H locs 0 0 (MQ below (va_Qi (eqP res) (Wb G A (fun u : Int32 × (Nat → Int32) => (cM G ad u.1 msl mst men mnw mdn mpw mwr mrs mdr mtb mrc mnx u.2 mit mve mrb mch mva mic mlb mrw mnb mlk mnk mmd))) A) args s 0 0 A) (F0 m 36 ls [.int y1, .ref (ad 0)]) := by
  obtain ⟨hx, hb, hr, hml, hown, hlocks, ht, hK, hA⟩ := id hC
  intro x1 x2 x3 y1 mrf mro H locs ls hok hres hP hD hS hl
  rw [f_MO_poke_36] at hres
  rw [ok_MO_poke_36] at hok
  refine go_iz (run_V hx hb hml hown ht hK hP hD (c_MO_goes) (cw_V ht km_MO_101 ki_MO_goes ks_MO_goes ini_MO kd_MO_goes kh_MO_goes ⟨Nat.le_of_ble_eq_true rfl, Nat.le_of_ble_eq_true rfl⟩ rfl rfl) (q0 := 0) (ci := 6) (As := [.int y1]) (rest := []) rfl rfl rfl hl.1 rfl (Nat.le_of_ble_eq_true rfl) d_MO_poke_36 ⟨Nat.zero_le _, Nat.zero_le _⟩) hD hS hA (fun z_36 H locs hz_36 hP hD hS => ?_)
  have hres := bindc_eq hz_36 hres
  have hok := bindp_eq hz_36 hok
  have hP : va_P G.1 classes (cM G ad z_36.2 msl mst men mnw mdn mpw mwr mrs mdr mtb mrc mnx mro mit mve mrb mch mva mic mlb mrw mnb mlk mnk mmd) H := hP
  have hD : va_D A (cM G ad z_36.2 msl mst men mnw mdn mpw mwr mrs mdr mtb mrc mnx mro mit mve mrb mch mva mic mlb mrw mnb mlk mnk mmd) := hD
  refine lv_if_ne (tgt := 44) hx hb d_MO_poke_39 (by decide) (fun c_39 => ?_) (fun c_39 => ?_)
  · have hres := it_f c_39 hres
    have hok := hok.2 c_39
    refine lv_aload_n hx hb d_MO_poke_44 rfl (lv_at hl 0 rfl) ?_
    refine lv_iload_n hx hb d_MO_poke_45 rfl (lv_at hl 1 rfl) ?_
    obtain ⟨hk_46, hok⟩ := hok
    refine go_iz (run_V hx hb hml hown ht hK hP hD (c_MO_placeOf hk_46) (cw_V ht km_MO_82 ki_MO_placeOf ks_MO_placeOf ini_MO kd_MO_placeOf kh_MO_placeOf ⟨Nat.le_of_ble_eq_true rfl, Nat.le_of_ble_eq_true rfl⟩ rfl rfl) (q0 := 0) (ci := 6) (As := [.int x1]) (rest := []) rfl rfl rfl hl.1 rfl (Nat.le_of_ble_eq_true rfl) d_MO_poke_46 ⟨Nat.zero_le _, Nat.zero_le _⟩) hD hS hA (fun z_46 H locs hz_46 hP hD hS => ?_)
    have hres := bindc_eq hz_46 hres
    have hok := bindp_eq hz_46 hok
    have hP : va_P G.1 classes (cM G ad z_36.2 msl mst men mnw mdn mpw mwr mrs mdr mtb mrc mnx mro mit mve mrb mch mva mic mlb mrw mnb mlk mnk mmd) H := hP
    have hD : va_D A (cM G ad z_36.2 msl mst men mnw mdn mpw mwr mrs mdr mtb mrc mnx mro mit mve mrb mch mva mic mlb mrw mnb mlk mnk mmd) := hD
    refine lv_iload_n hx hb d_MO_poke_49 rfl (lv_at hl 2 rfl) ?_
    refine lv_iadd hx hb d_MO_poke_50 ?_
    refine lv_istore (lv' := [(4, .int (z_46.1 + x2)), (0, .ref (ad 0)), (1, .int x1), (2, .int x2), (3, .int x3)]) hx hb d_MO_poke_51 hl (by decide) rfl (fun ls hl => ?_)
    refine lv_aload_n hx hb d_MO_poke_53 rfl (lv_at hl 1 rfl) ?_
    refine va_get (D := G.1) (ci := 6) (C := R_MO) (T := F_MO) (N := 26) hx hb ht in_MO hown hK hP 0 rfl rfl 2 (by decide) (ht _ kf_MO_7) (fun _ h9 => h9) rfl d_MO_poke_54 ?_
    refine lv_iload hx hb d_MO_poke_57 (lv_at hl 0 rfl) ?_
    refine lv_aload_n hx hb d_MO_poke_59 rfl (lv_at hl 1 rfl) ?_
    refine va_get (D := G.1) (ci := 6) (C := R_MO) (T := F_MO) (N := 26) hx hb ht in_MO hown hK hP 0 rfl rfl 2 (by decide) (ht _ kf_MO_7) (fun _ h9 => h9) rfl d_MO_poke_60 ?_
    refine lv_iload hx hb d_MO_poke_63 (lv_at hl 0 rfl) ?_
    obtain ⟨hi_65, hok⟩ := hok
    refine va_iald hx hb hK hP 1 0 rfl rfl hi_65 d_MO_poke_65 ?_
    refine lv_iload_n hx hb d_MO_poke_66 rfl (lv_at hl 4 rfl) ?_
    refine lv_ixor hx hb d_MO_poke_67 ?_
    obtain ⟨hi_68, hok⟩ := hok
    refine va_iast hx hb hK hP hD hS 1 0 rfl rfl hi_68 d_MO_poke_68 (fun H locs hP hD hS => ?_)
    have hP : va_P G.1 classes (cM G ad z_36.2 msl mst men mnw mdn mpw mwr mrs mdr mtb mrc mnx (upd mro (z_46.1 + x2).toNatClampNeg ((mro (z_46.1 + x2).toNatClampNeg) ^^^ x3)) mit mve mrb mch mva mic mlb mrw mnb mlk mnk mmd) H := hP
    have hD : va_D A (cM G ad z_36.2 msl mst men mnw mdn mpw mwr mrs mdr mtb mrc mnx (upd mro (z_46.1 + x2).toNatClampNeg ((mro (z_46.1 + x2).toNatClampNeg) ^^^ x3)) mit mve mrb mch mva mic mlb mrw mnb mlk mnk mmd) := hD
    refine lv_aload_n hx hb d_MO_poke_69 rfl (lv_at hl 1 rfl) ?_
    refine va_get (D := G.1) (ci := 6) (C := R_MO) (T := F_MO) (N := 26) hx hb ht in_MO hown hK hP 0 rfl rfl 2 (by decide) (ht _ kf_MO_7) (fun _ h9 => h9) rfl d_MO_poke_70 ?_
    refine lv_iload hx hb d_MO_poke_73 (lv_at hl 0 rfl) ?_
    have hi_75 := hok
    refine va_iald hx hb hK hP 1 0 rfl rfl hi_75 d_MO_poke_75 ?_
    exact en_i (w1 := (fun u : Int32 × (Nat → Int32) => (cM G ad u.1 msl mst men mnw mdn mpw mwr mrs mdr mtb mrc mnx u.2 mit mve mrb mch mva mic mlb mrw mnb mlk mnk mmd))) (z_36.2, upd mro (z_46.1 + x2).toNatClampNeg ((mro (z_46.1 + x2).toNatClampNeg) ^^^ x3)) hx hb hr hlocks hK hP hD hS hres d_MO_poke_76
  · have hres := it_t c_39 hres
    refine lv_iconst (v := (0 : Int32)) hx hb d_MO_poke_42 (by decide) ?_
    exact en_i (w1 := (fun u : Int32 × (Nat → Int32) => (cM G ad u.1 msl mst men mnw mdn mpw mwr mrs mdr mtb mrc mnx u.2 mit mve mrb mch mva mic mlb mrw mnb mlk mnk mmd))) (z_36.2, mro) hx hb hr hlocks hK hP hD hS hres d_MO_poke_43
def f_MO_poke_35 (x1 : Int32) (x2 : Int32) (x3 : Int32) (mrf : Int32) (msl : Int32) (mst : Int32) (men : Int32) (mdn : Int32) (mro : (Nat → Int32)) : Int32 × Int32 × (Nat → Int32) := f_MO_poke_36 x1 x2 x3 (0 : Int32) mrf msl mst men mdn mro
def ok_MO_poke_35 (x1 : Int32) (x2 : Int32) (x3 : Int32) (mrf : Int32) (msl : Int32) (mst : Int32) (men : Int32) (mdn : Int32) (mro : (Nat → Int32)) : Prop := ok_MO_poke_36  x1 x2 x3 (0 : Int32) mrf msl mst men mdn mro
set_option maxHeartbeats 4000000 in
set_option maxRecDepth 100000 in
theorem w_MO_poke_35 {p : Program} {l : Launch} {e : Env} {s : State} {m : MethodId} {args : Array Value} {below : List Frame} {meth : Method} {c : Code} {A : Nat → Prop} {G : GG} {ad : Nat → Nat} {msl : Int32} {mst : Int32} {men : Int32} {mnw : Int32} {mdn : Int32} {mpw : Int32} {mwr : Int32} {mrs : Int32} {mdr : Int32} {mtb : Int32} {mrc : Int32} {mnx : Int32} {mit : (Nat → Int32)} {mve : (Nat → Int32)} {mrb : (Nat → Int32)} {mch : (Nat → Int32)} {mva : (Nat → Int32)} {mic : (Nat → Int32)} {mlb : (Nat → Int32)} {mrw : (Nat → Int32)} {mnb : (Nat → Int32)} {mlk : (Nat → Int32)} {mnk : (Nat → Int32)} {mmd : (Nat → Int32)} {res : Int32 × Int32 × (Nat → Int32)} (hC : Cx p l e s m args meth c y_MO_poke b_MO_poke 5 (some .int) "BookTreesModel" G A) : ∀ (x1 : Int32) (x2 : Int32) (x3 : Int32) (mrf : Int32) (mro : (Nat → Int32)) (H : Heap) (locs : List Loc) (ls : Array Slot), ok_MO_poke_35 x1 x2 x3 mrf msl mst men mdn mro → f_MO_poke_35 x1 x2 x3 mrf msl mst men mdn mro = res → va_P G.1 classes (cM G ad mrf msl mst men mnw mdn mpw mwr mrs mdr mtb mrc mnx mro mit mve mrb mch mva mic mlb mrw mnb mlk mnk mmd) H → va_D A (cM G ad mrf msl mst men mnw mdn mpw mwr mrs mdr mtb mrc mnx mro mit mve mrb mch mva mic mlb mrw mnb mlk mnk mmd) → va_S A s.heap H locs → lv_has ls 5 [(0, .ref (ad 0)), (1, .int x1), (2, .int x2), (3, .int x3)] → W p l e rm_MO_poke s m args below meth c H locs 0 0 (MQ below (va_Qi (eqP res) (Wb G A (fun u : Int32 × (Nat → Int32) => (cM G ad u.1 msl mst men mnw mdn mpw mwr mrs mdr mtb mrc mnx u.2 mit mve mrb mch mva mic mlb mrw mnb mlk mnk mmd))) A) args s 0 0 A) (F0 m 35 ls [.ref (ad 0)]) := by
  obtain ⟨hx, hb, hr, hml, hown, hlocks, ht, hK, hA⟩ := id hC
  intro x1 x2 x3 mrf mro H locs ls hok hres hP hD hS hl
  rw [f_MO_poke_35] at hres
  rw [ok_MO_poke_35] at hok
  refine lv_iconst (v := (0 : Int32)) hx hb d_MO_poke_35 (by decide) ?_
  exact w_MO_poke_36 hC x1 x2 x3 (0 : Int32) mrf mro _ _ _ hok hres hP hD hS (lv_sub hl [0, 1, 2, 3] rfl)
def f_MO_poke (p0 : Int32) (p1 : Int32) (p2 : Int32) (mrf : Int32) (msl : Int32) (mst : Int32) (men : Int32) (mdn : Int32) (mro : (Nat → Int32)) : Int32 × Int32 × (Nat → Int32) := bindc (f_MO_isUsed p0 mst men) (fun z_3 => if z_3.1 = 0 then f_MO_poke_35 p0 p1 p2 mrf msl mst men mdn mro else if p1 < 0 then f_MO_poke_35 p0 p1 p2 mrf msl mst men mdn mro else if (64 : Int32) ≤ p1 then f_MO_poke_35 p0 p1 p2 mrf msl mst men mdn mro else if p2 < (1 : Int32) then f_MO_poke_35 p0 p1 p2 mrf msl mst men mdn mro else if (255 : Int32) < p2 then f_MO_poke_35 p0 p1 p2 mrf msl mst men mdn mro else f_MO_poke_36 p0 p1 p2 (1 : Int32) mrf msl mst men mdn mro)
def ok_MO_poke (p0 : Int32) (p1 : Int32) (p2 : Int32) (mrf : Int32) (msl : Int32) (mst : Int32) (men : Int32) (mdn : Int32) (mro : (Nat → Int32)) : Prop := bindp (f_MO_isUsed p0 mst men) (fun z_3 => (z_3.1 = 0 → ok_MO_poke_35  p0 p1 p2 mrf msl mst men mdn mro) ∧ (¬ z_3.1 = 0 → (p1 < 0 → ok_MO_poke_35  p0 p1 p2 mrf msl mst men mdn mro) ∧ (¬ p1 < 0 → ((64 : Int32) ≤ p1 → ok_MO_poke_35  p0 p1 p2 mrf msl mst men mdn mro) ∧ (¬ (64 : Int32) ≤ p1 → (p2 < (1 : Int32) → ok_MO_poke_35  p0 p1 p2 mrf msl mst men mdn mro) ∧ (¬ p2 < (1 : Int32) → ((255 : Int32) < p2 → ok_MO_poke_35  p0 p1 p2 mrf msl mst men mdn mro) ∧ (¬ (255 : Int32) < p2 → ok_MO_poke_36  p0 p1 p2 (1 : Int32) mrf msl mst men mdn mro))))))
set_option maxHeartbeats 4000000 in
set_option maxRecDepth 100000 in
theorem c_MO_poke {l : Launch} {G : GG} {ad : Nat → Nat} {sz : Nat} {mrf : Int32} {msl : Int32} {mst : Int32} {men : Int32} {mnw : Int32} {mdn : Int32} {mpw : Int32} {mwr : Int32} {mrs : Int32} {mdr : Int32} {mtb : Int32} {mrc : Int32} {mnx : Int32} {mro : (Nat → Int32)} {mit : (Nat → Int32)} {mve : (Nat → Int32)} {mrb : (Nat → Int32)} {mch : (Nat → Int32)} {mva : (Nat → Int32)} {mic : (Nat → Int32)} {mlb : (Nat → Int32)} {mrw : (Nat → Int32)} {mnb : (Nat → Int32)} {mlk : (Nat → Int32)} {mnk : (Nat → Int32)} {mmd : (Nat → Int32)} {p0 : Int32} {p1 : Int32} {p2 : Int32} (hok : ok_MO_poke p0 p1 p2 mrf msl mst men mdn mro) : CtI l y_MO_poke b_MO_poke 5 (some .int) rm_MO_poke G (cM G ad mrf msl mst men mnw mdn mpw mwr mrs mdr mtb mrc mnx mro mit mve mrb mch mva mic mlb mrw mnb mlk mnk mmd) sz [.ref (ad 0), .int p0, .int p1, .int p2] (eqP (f_MO_poke p0 p1 p2 mrf msl mst men mdn mro)) (fun u : Int32 × (Nat → Int32) => (cM G ad u.1 msl mst men mnw mdn mpw mwr mrs mdr mtb mrc mnx u.2 mit mve mrb mch mva mic mlb mrw mnb mlk mnk mmd)) := by
  generalize hres : f_MO_poke p0 p1 p2 mrf msl mst men mdn mro = res
  refine Met_of (Qc := fun A => va_Qi (eqP res) (Wb G A (fun u : Int32 × (Nat → Int32) => (cM G ad u.1 msl mst men mnw mdn mpw mwr mrs mdr mtb mrc mnx u.2 mit mve mrb mch mva mic mlb mrw mnb mlk mnk mmd))) A) (by decide) (Nat.le_of_ble_eq_true rfl) ?_
  intro p e s m below meth c hadm hx hb hr hml hown hlocks ht hK A hA hP hD hS ls hl
  have hC : Cx p l e s m (([.ref (ad 0), .int p0, .int p1, .int p2] : List Value)).toArray meth c y_MO_poke b_MO_poke 5 (some .int) "BookTreesModel" G A := ⟨hx, hb, hr, hml, hown, hlocks, ht, hK, hA⟩
  have hown : s.vm.findClass "BookTreesModel" = some m.cls := hown
  have hl : lv_has ls 5 [(0, .ref (ad 0)), (1, .int p0), (2, .int p1), (3, .int p2)] := hl
  rw [f_MO_poke] at hres
  rw [ok_MO_poke] at hok
  refine lv_aload_n hx hb d_MO_poke_0 rfl (lv_at hl 0 rfl) ?_
  refine lv_aload_n hx hb d_MO_poke_1 rfl (lv_at hl 0 rfl) ?_
  refine lv_iload_n hx hb d_MO_poke_2 rfl (lv_at hl 1 rfl) ?_
  refine go_iz (run_V hx hb hml hown ht hK hP hD (c_MO_isUsed) (cw_V ht km_MO_78 ki_MO_isUsed ks_MO_isUsed ini_MO kd_MO_isUsed kh_MO_isUsed ⟨Nat.le_of_ble_eq_true rfl, Nat.le_of_ble_eq_true rfl⟩ rfl rfl) (q0 := 0) (ci := 6) (As := [.int p0]) (rest := [.ref (ad 0)]) rfl rfl rfl hl.1 rfl (Nat.le_of_ble_eq_true rfl) d_MO_poke_3 ⟨Nat.zero_le _, Nat.zero_le _⟩) hD hS hA (fun z_3 H locs hz_3 hP hD hS => ?_)
  have hres := bindc_eq hz_3 hres
  have hok := bindp_eq hz_3 hok
  have hP : va_P G.1 classes (cM G ad mrf msl mst men mnw mdn mpw mwr mrs mdr mtb mrc mnx mro mit mve mrb mch mva mic mlb mrw mnb mlk mnk mmd) H := hP
  have hD : va_D A (cM G ad mrf msl mst men mnw mdn mpw mwr mrs mdr mtb mrc mnx mro mit mve mrb mch mva mic mlb mrw mnb mlk mnk mmd) := hD
  refine lv_if_eq (tgt := 35) hx hb d_MO_poke_6 (by decide) (fun c_6 => ?_) (fun c_6 => ?_)
  · have hres := it_t c_6 hres
    have hok := hok.1 c_6
    exact w_MO_poke_35 hC p0 p1 p2 mrf mro _ _ _ hok hres hP hD hS (lv_sub hl [0, 1, 2, 3] rfl)
  · have hres := it_f c_6 hres
    have hok := hok.2 c_6
    refine lv_iload_n hx hb d_MO_poke_9 rfl (lv_at hl 2 rfl) ?_
    refine lv_if_lt (tgt := 35) hx hb d_MO_poke_10 (by decide) (fun c_10 => ?_) (fun c_10 => ?_)
    · have hres := it_t c_10 hres
      have hok := hok.1 c_10
      exact w_MO_poke_35 hC p0 p1 p2 mrf mro _ _ _ hok hres hP hD hS (lv_sub hl [0, 1, 2, 3] rfl)
    · have hres := it_f c_10 hres
      have hok := hok.2 c_10
      refine lv_iload_n hx hb d_MO_poke_13 rfl (lv_at hl 2 rfl) ?_
      refine lv_bipush (v := (64 : Int32)) hx hb d_MO_poke_14 (by decide) ?_
      refine lv_icmp_ge (tgt := 35) hx hb d_MO_poke_16 (by decide) (fun c_16 => ?_) (fun c_16 => ?_)
      · have hres := it_t c_16 hres
        have hok := hok.1 c_16
        exact w_MO_poke_35 hC p0 p1 p2 mrf mro _ _ _ hok hres hP hD hS (lv_sub hl [0, 1, 2, 3] rfl)
      · have hres := it_f c_16 hres
        have hok := hok.2 c_16
        refine lv_iload_n hx hb d_MO_poke_19 rfl (lv_at hl 3 rfl) ?_
        refine lv_iconst (v := (1 : Int32)) hx hb d_MO_poke_20 (by decide) ?_
        refine lv_icmp_lt (tgt := 35) hx hb d_MO_poke_21 (by decide) (fun c_21 => ?_) (fun c_21 => ?_)
        · have hres := it_t c_21 hres
          have hok := hok.1 c_21
          exact w_MO_poke_35 hC p0 p1 p2 mrf mro _ _ _ hok hres hP hD hS (lv_sub hl [0, 1, 2, 3] rfl)
        · have hres := it_f c_21 hres
          have hok := hok.2 c_21
          refine lv_iload_n hx hb d_MO_poke_24 rfl (lv_at hl 3 rfl) ?_
          refine lv_sipush (v := (255 : Int32)) hx hb d_MO_poke_25 (by decide) ?_
          refine lv_icmp_gt (tgt := 35) hx hb d_MO_poke_28 (by decide) (fun c_28 => ?_) (fun c_28 => ?_)
          · have hres := it_t c_28 hres
            have hok := hok.1 c_28
            exact w_MO_poke_35 hC p0 p1 p2 mrf mro _ _ _ hok hres hP hD hS (lv_sub hl [0, 1, 2, 3] rfl)
          · have hres := it_f c_28 hres
            have hok := hok.2 c_28
            refine lv_iconst (v := (1 : Int32)) hx hb d_MO_poke_31 (by decide) ?_
            refine lv_goto (tgt := 36) hx hb d_MO_poke_32 (by decide) ?_
            exact w_MO_poke_36 hC p0 p1 p2 (1 : Int32) mrf mro _ _ _ hok hres hP hD hS (lv_sub hl [0, 1, 2, 3] rfl)
/-! ===== BookTreesModel.badAt(I)I ===== -/
abbrev rm_MO_badAt : Room := { frames := 2, cells := 0, slots := 0, locals := 49 }
def f_MO_badAt_25 : Nat → Int32 → Int32 → Int32 → Int32 → Int32 → Int32 → Int32 → Int32 → (Nat → Int32) → (Nat → Int32) → Int32 × Int32
  | 0, x1, x2, x3, mrf, msl, mst, men, mdn, mro, mit => (0, mrf)
  | n + 1, x1, x2, x3, mrf, msl, mst, men, mdn, mro, mit => if men ≤ x3 then ((-1 : Int32), mrf) else bindc (f_MO_placeOf x3 msl) (fun z_35 => bindc (f_MO_hasSum z_35.1 mro mit) (fun z_43 => if z_43.1 = 0 then (if x2 = x1 then (x3, mrf) else f_MO_badAt_25 n x1 (x2 + (1 : Int32)) (x3 + (1 : Int32)) mrf msl mst men mdn mro mit) else bindc (f_MO_number (z_35.1 + (40 : Int32)) mro) (fun z_55 => if z_55.1 = x3 then f_MO_badAt_25 n x1 x2 (x3 + (1 : Int32)) mrf msl mst men mdn mro mit else if x2 = x1 then (x3, mrf) else f_MO_badAt_25 n x1 (x2 + (1 : Int32)) (x3 + (1 : Int32)) mrf msl mst men mdn mro mit)))
def ok_MO_badAt_25 : Nat → Int32 → Int32 → Int32 → Int32 → Int32 → Int32 → Int32 → Int32 → (Nat → Int32) → (Nat → Int32) → Prop
  | 0, _, _, _, _, _, _, _, _, _, _ => False
  | n + 1, x1, x2, x3, mrf, msl, mst, men, mdn, mro, mit => (men ≤ x3 → True) ∧ (¬ men ≤ x3 → ok_MO_placeOf x3 msl ∧ bindp (f_MO_placeOf x3 msl) (fun z_35 => ok_MO_hasSum z_35.1 mro mit ∧ bindp (f_MO_hasSum z_35.1 mro mit) (fun z_43 => (z_43.1 = 0 → (x2 = x1 → True) ∧ (¬ x2 = x1 → ok_MO_badAt_25  n x1 (x2 + (1 : Int32)) (x3 + (1 : Int32)) mrf msl mst men mdn mro mit)) ∧ (¬ z_43.1 = 0 → ok_MO_number (z_35.1 + (40 : Int32)) mro ∧ bindp (f_MO_number (z_35.1 + (40 : Int32)) mro) (fun z_55 => (z_55.1 = x3 → ok_MO_badAt_25  n x1 x2 (x3 + (1 : Int32)) mrf msl mst men mdn mro mit) ∧ (¬ z_55.1 = x3 → (x2 = x1 → True) ∧ (¬ x2 = x1 → ok_MO_badAt_25  n x1 (x2 + (1 : Int32)) (x3 + (1 : Int32)) mrf msl mst men mdn mro mit)))))))
set_option maxHeartbeats 4000000 in
set_option maxRecDepth 100000 in
theorem w_MO_badAt_25 {p : Program} {l : Launch} {e : Env} {s : State} {m : MethodId} {args : Array Value} {below : List Frame} {meth : Method} {c : Code} {A : Nat → Prop} {G : GG} {ad : Nat → Nat} {msl : Int32} {mst : Int32} {men : Int32} {mnw : Int32} {mdn : Int32} {mpw : Int32} {mwr : Int32} {mrs : Int32} {mdr : Int32} {mtb : Int32} {mrc : Int32} {mnx : Int32} {mro : (Nat → Int32)} {mit : (Nat → Int32)} {mve : (Nat → Int32)} {mrb : (Nat → Int32)} {mch : (Nat → Int32)} {mva : (Nat → Int32)} {mic : (Nat → Int32)} {mlb : (Nat → Int32)} {mrw : (Nat → Int32)} {mnb : (Nat → Int32)} {mlk : (Nat → Int32)} {mnk : (Nat → Int32)} {mmd : (Nat → Int32)} {res : Int32 × Int32} (hC : Cx p l e s m args meth c y_MO_badAt b_MO_badAt 5 (some .int) "BookTreesModel" G A) : ∀ (n : Nat) (x1 : Int32) (x2 : Int32) (x3 : Int32) (mrf : Int32) (H : Heap) (locs : List Loc) (ls : Array Slot), ok_MO_badAt_25 n x1 x2 x3 mrf msl mst men mdn mro mit → f_MO_badAt_25 n x1 x2 x3 mrf msl mst men mdn mro mit = res → va_P G.1 classes (cM G ad mrf msl mst men mnw mdn mpw mwr mrs mdr mtb mrc mnx mro mit mve mrb mch mva mic mlb mrw mnb mlk mnk mmd) H → va_D A (cM G ad mrf msl mst men mnw mdn mpw mwr mrs mdr mtb mrc mnx mro mit mve mrb mch mva mic mlb mrw mnb mlk mnk mmd) → va_S A s.heap H locs → lv_has ls 5 [(0, .ref (ad 0)), (1, .int x1), (2, .int x2), (3, .int x3)] → W p l e rm_MO_badAt s m args below meth c H locs 0 0 (MQ below (va_Qi (eqP res) (Wb G A (fun u : Int32 => (cM G ad u msl mst men mnw mdn mpw mwr mrs mdr mtb mrc mnx mro mit mve mrb mch mva mic mlb mrw mnb mlk mnk mmd))) A) args s 0 0 A) (F0 m 25 ls []) := by
  obtain ⟨hx, hb, hr, hml, hown, hlocks, ht, hK, hA⟩ := id hC
  intro n
  induction n with
  | zero => intro x1 x2 x3 mrf H locs ls hok; exact hok.elim
  | succ n ih =>
    intro x1 x2 x3 mrf H locs ls hok hres hP hD hS hl
    rw [f_MO_badAt_25] at hres
    rw [ok_MO_badAt_25] at hok
    refine lv_iload_n hx hb d_MO_badAt_25 rfl (lv_at hl 3 rfl) ?_
    refine lv_aload_n hx hb d_MO_badAt_26 rfl (lv_at hl 0 rfl) ?_
    refine va_get (D := G.1) (ci := 6) (C := R_MO) (T := F_MO) (N := 26) hx hb ht in_MO hown hK hP 0 rfl rfl 5 (by decide) (ht _ kf_MO_67) (fun _ h9 => h9) rfl d_MO_badAt_27 ?_
    refine lv_icmp_ge (tgt := 78) hx hb d_MO_badAt_30 (by decide) (fun c_30 => ?_) (fun c_30 => ?_)
    · have hres := it_t c_30 hres
      refine lv_iconst (v := (-1 : Int32)) hx hb d_MO_badAt_78 (by decide) ?_
      exact en_i (w1 := (fun u : Int32 => (cM G ad u msl mst men mnw mdn mpw mwr mrs mdr mtb mrc mnx mro mit mve mrb mch mva mic mlb mrw mnb mlk mnk mmd))) mrf hx hb hr hlocks hK hP hD hS hres d_MO_badAt_79
    · have hres := it_f c_30 hres
      have hok := hok.2 c_30
      refine lv_aload_n hx hb d_MO_badAt_33 rfl (lv_at hl 0 rfl) ?_
      refine lv_iload_n hx hb d_MO_badAt_34 rfl (lv_at hl 3 rfl) ?_
      obtain ⟨hk_35, hok⟩ := hok
      refine go_iz (run_V hx hb hml hown ht hK hP hD (c_MO_placeOf hk_35) (cw_V ht km_MO_82 ki_MO_placeOf ks_MO_placeOf ini_MO kd_MO_placeOf kh_MO_placeOf ⟨Nat.le_of_ble_eq_true rfl, Nat.le_of_ble_eq_true rfl⟩ rfl rfl) (q0 := 0) (ci := 6) (As := [.int x3]) (rest := []) rfl rfl rfl hl.1 rfl (Nat.le_of_ble_eq_true rfl) d_MO_badAt_35 ⟨Nat.zero_le _, Nat.zero_le _⟩) hD hS hA (fun z_35 H locs hz_35 hP hD hS => ?_)
      have hres := bindc_eq hz_35 hres
      have hok := bindp_eq hz_35 hok
      have hP : va_P G.1 classes (cM G ad mrf msl mst men mnw mdn mpw mwr mrs mdr mtb mrc mnx mro mit mve mrb mch mva mic mlb mrw mnb mlk mnk mmd) H := hP
      have hD : va_D A (cM G ad mrf msl mst men mnw mdn mpw mwr mrs mdr mtb mrc mnx mro mit mve mrb mch mva mic mlb mrw mnb mlk mnk mmd) := hD
      refine lv_istore (lv' := [(4, .int z_35.1), (0, .ref (ad 0)), (1, .int x1), (2, .int x2), (3, .int x3)]) hx hb d_MO_badAt_38 hl (by decide) rfl (fun ls hl => ?_)
      refine lv_aload_n hx hb d_MO_badAt_40 rfl (lv_at hl 1 rfl) ?_
      refine lv_iload hx hb d_MO_badAt_41 (lv_at hl 0 rfl) ?_
      obtain ⟨hk_43, hok⟩ := hok
      refine go_iz (run_V hx hb hml hown ht hK hP hD (c_MO_hasSum hk_43) (cw_V ht km_MO_86 ki_MO_hasSum ks_MO_hasSum ini_MO kd_MO_hasSum kh_MO_hasSum ⟨Nat.le_of_ble_eq_true rfl, Nat.le_of_ble_eq_true rfl⟩ rfl rfl) (q0 := 0) (ci := 6) (As := [.int z_35.1]) (rest := []) rfl rfl rfl hl.1 rfl (Nat.le_of_ble_eq_true rfl) d_MO_badAt_43 ⟨Nat.zero_le _, Nat.zero_le _⟩) hD hS hA (fun z_43 H locs hz_43 hP hD hS => ?_)
      have hres := bindc_eq hz_43 hres
      have hok := bindp_eq hz_43 hok
      have hP : va_P G.1 classes (cM G ad mrf msl mst men mnw mdn mpw mwr mrs mdr mtb mrc mnx mro mit mve mrb mch mva mic mlb mrw mnb mlk mnk mmd) H := hP
      have hD : va_D A (cM G ad mrf msl mst men mnw mdn mpw mwr mrs mdr mtb mrc mnx mro mit mve mrb mch mva mic mlb mrw mnb mlk mnk mmd) := hD
      refine lv_if_eq (tgt := 62) hx hb d_MO_badAt_46 (by decide) (fun c_46 => ?_) (fun c_46 => ?_)
      · have hres := it_t c_46 hres
        have hok := hok.1 c_46
        refine lv_iload_n hx hb d_MO_badAt_62 rfl (lv_at hl 3 rfl) ?_
        refine lv_iload_n hx hb d_MO_badAt_63 rfl (lv_at hl 2 rfl) ?_
        refine lv_icmp_ne (tgt := 69) hx hb d_MO_badAt_64 (by decide) (fun c_64 => ?_) (fun c_64 => ?_)
        · have hres := it_f c_64 hres
          have hok := hok.2 c_64
          refine lv_iinc (v := x2 + (1 : Int32)) (lv' := [(2, .int (x2 + (1 : Int32))), (4, .int z_35.1), (0, .ref (ad 0)), (1, .int x1), (3, .int x3)]) hx hb d_MO_badAt_69 hl (k := 3) rfl rfl (by decide) rfl (fun ls hl => ?_)
          refine lv_iinc (v := x3 + (1 : Int32)) (lv' := [(3, .int (x3 + (1 : Int32))), (2, .int (x2 + (1 : Int32))), (4, .int z_35.1), (0, .ref (ad 0)), (1, .int x1)]) hx hb d_MO_badAt_72 hl (k := 4) rfl rfl (by decide) rfl (fun ls hl => ?_)
          refine lv_goto (tgt := 25) hx hb d_MO_badAt_75 (by decide) ?_
          exact ih x1 (x2 + (1 : Int32)) (x3 + (1 : Int32)) mrf _ _ _ hok hres hP hD hS (lv_sub hl [3, 4, 1, 0] rfl)
        · have hres := it_t c_64 hres
          refine lv_iload_n hx hb d_MO_badAt_67 rfl (lv_at hl 4 rfl) ?_
          exact en_i (w1 := (fun u : Int32 => (cM G ad u msl mst men mnw mdn mpw mwr mrs mdr mtb mrc mnx mro mit mve mrb mch mva mic mlb mrw mnb mlk mnk mmd))) mrf hx hb hr hlocks hK hP hD hS hres d_MO_badAt_68
      · have hres := it_f c_46 hres
        have hok := hok.2 c_46
        refine lv_aload_n hx hb d_MO_badAt_49 rfl (lv_at hl 1 rfl) ?_
        refine lv_iload hx hb d_MO_badAt_50 (lv_at hl 0 rfl) ?_
        refine lv_bipush (v := (40 : Int32)) hx hb d_MO_badAt_52 (by decide) ?_
        refine lv_iadd hx hb d_MO_badAt_54 ?_
        obtain ⟨hk_55, hok⟩ := hok
        refine go_iz (run_V hx hb hml hown ht hK hP hD (c_MO_number hk_55) (cw_V ht km_MO_89 ki_MO_number ks_MO_number ini_MO kd_MO_number kh_MO_number ⟨Nat.le_of_ble_eq_true rfl, Nat.le_of_ble_eq_true rfl⟩ rfl rfl) (q0 := 0) (ci := 6) (As := [.int (z_35.1 + (40 : Int32))]) (rest := []) rfl rfl rfl hl.1 rfl (Nat.le_of_ble_eq_true rfl) d_MO_badAt_55 ⟨Nat.zero_le _, Nat.zero_le _⟩) hD hS hA (fun z_55 H locs hz_55 hP hD hS => ?_)
        have hres := bindc_eq hz_55 hres
        have hok := bindp_eq hz_55 hok
        have hP : va_P G.1 classes (cM G ad mrf msl mst men mnw mdn mpw mwr mrs mdr mtb mrc mnx mro mit mve mrb mch mva mic mlb mrw mnb mlk mnk mmd) H := hP
        have hD : va_D A (cM G ad mrf msl mst men mnw mdn mpw mwr mrs mdr mtb mrc mnx mro mit mve mrb mch mva mic mlb mrw mnb mlk mnk mmd) := hD
        refine lv_iload_n hx hb d_MO_badAt_58 rfl (lv_at hl 4 rfl) ?_
        refine lv_icmp_eq (tgt := 72) hx hb d_MO_badAt_59 (by decide) (fun c_59 => ?_) (fun c_59 => ?_)
        · have hres := it_t c_59 hres
          have hok := hok.1 c_59
          refine lv_iinc (v := x3 + (1 : Int32)) (lv' := [(3, .int (x3 + (1 : Int32))), (4, .int z_35.1), (0, .ref (ad 0)), (1, .int x1), (2, .int x2)]) hx hb d_MO_badAt_72 hl (k := 4) rfl rfl (by decide) rfl (fun ls hl => ?_)
          refine lv_goto (tgt := 25) hx hb d_MO_badAt_75 (by decide) ?_
          exact ih x1 x2 (x3 + (1 : Int32)) mrf _ _ _ hok hres hP hD hS (lv_sub hl [2, 3, 4, 0] rfl)
        · have hres := it_f c_59 hres
          have hok := hok.2 c_59
          refine lv_iload_n hx hb d_MO_badAt_62 rfl (lv_at hl 3 rfl) ?_
          refine lv_iload_n hx hb d_MO_badAt_63 rfl (lv_at hl 2 rfl) ?_
          refine lv_icmp_ne (tgt := 69) hx hb d_MO_badAt_64 (by decide) (fun c_64 => ?_) (fun c_64 => ?_)
          · have hres := it_f c_64 hres
            have hok := hok.2 c_64
            refine lv_iinc (v := x2 + (1 : Int32)) (lv' := [(2, .int (x2 + (1 : Int32))), (4, .int z_35.1), (0, .ref (ad 0)), (1, .int x1), (3, .int x3)]) hx hb d_MO_badAt_69 hl (k := 3) rfl rfl (by decide) rfl (fun ls hl => ?_)
            refine lv_iinc (v := x3 + (1 : Int32)) (lv' := [(3, .int (x3 + (1 : Int32))), (2, .int (x2 + (1 : Int32))), (4, .int z_35.1), (0, .ref (ad 0)), (1, .int x1)]) hx hb d_MO_badAt_72 hl (k := 4) rfl rfl (by decide) rfl (fun ls hl => ?_)
            refine lv_goto (tgt := 25) hx hb d_MO_badAt_75 (by decide) ?_
            exact ih x1 (x2 + (1 : Int32)) (x3 + (1 : Int32)) mrf _ _ _ hok hres hP hD hS (lv_sub hl [3, 4, 1, 0] rfl)
          · have hres := it_t c_64 hres
            refine lv_iload_n hx hb d_MO_badAt_67 rfl (lv_at hl 4 rfl) ?_
            exact en_i (w1 := (fun u : Int32 => (cM G ad u msl mst men mnw mdn mpw mwr mrs mdr mtb mrc mnx mro mit mve mrb mch mva mic mlb mrw mnb mlk mnk mmd))) mrf hx hb hr hlocks hK hP hD hS hres d_MO_badAt_68
def f_MO_badAt_10 (x1 : Int32) (y1 : Int32) (mrf : Int32) (msl : Int32) (mst : Int32) (men : Int32) (mdn : Int32) (mro : (Nat → Int32)) (mit : (Nat → Int32)) : Int32 × Int32 := bindc (f_MO_goes y1 mrf mdn) (fun z_10 => if z_10.1 = 0 then ((0 : Int32), z_10.2) else f_MO_badAt_25 1024 x1 (0 : Int32) mst z_10.2 msl mst men mdn mro mit)
def ok_MO_badAt_10 (x1 : Int32) (y1 : Int32) (mrf : Int32) (msl : Int32) (mst : Int32) (men : Int32) (mdn : Int32) (mro : (Nat → Int32)) (mit : (Nat → Int32)) : Prop := bindp (f_MO_goes y1 mrf mdn) (fun z_10 => (z_10.1 = 0 → True) ∧ (¬ z_10.1 = 0 → ok_MO_badAt_25  1024 x1 (0 : Int32) mst z_10.2 msl mst men mdn mro mit))
set_option maxHeartbeats 4000000 in
set_option maxRecDepth 100000 in
theorem w_MO_badAt_10 {p : Program} {l : Launch} {e : Env} {s : State} {m : MethodId} {args : Array Value} {below : List Frame} {meth : Method} {c : Code} {A : Nat → Prop} {G : GG} {ad : Nat → Nat} {msl : Int32} {mst : Int32} {men : Int32} {mnw : Int32} {mdn : Int32} {mpw : Int32} {mwr : Int32} {mrs : Int32} {mdr : Int32} {mtb : Int32} {mrc : Int32} {mnx : Int32} {mro : (Nat → Int32)} {mit : (Nat → Int32)} {mve : (Nat → Int32)} {mrb : (Nat → Int32)} {mch : (Nat → Int32)} {mva : (Nat → Int32)} {mic : (Nat → Int32)} {mlb : (Nat → Int32)} {mrw : (Nat → Int32)} {mnb : (Nat → Int32)} {mlk : (Nat → Int32)} {mnk : (Nat → Int32)} {mmd : (Nat → Int32)} {res : Int32 × Int32} (hC : Cx p l e s m args meth c y_MO_badAt b_MO_badAt 5 (some .int) "BookTreesModel" G A) : ∀ (x1 : Int32) (y1 : Int32) (mrf : Int32) (H : Heap) (locs : List Loc) (ls : Array Slot), ok_MO_badAt_10 x1 y1 mrf msl mst men mdn mro mit → f_MO_badAt_10 x1 y1 mrf msl mst men mdn mro mit = res → va_P G.1 classes (cM G ad mrf msl mst men mnw mdn mpw mwr mrs mdr mtb mrc mnx mro mit mve mrb mch mva mic mlb mrw mnb mlk mnk mmd) H → va_D A (cM G ad mrf msl mst men mnw mdn mpw mwr mrs mdr mtb mrc mnx mro mit mve mrb mch mva mic mlb mrw mnb mlk mnk mmd) → va_S A s.heap H locs → lv_has ls 5 [(0, .ref (ad 0)), (1, .int x1)] → W p l e rm_MO_badAt s m args below meth c H locs 0 0 (MQ below (va_Qi (eqP res) (Wb G A (fun u : Int32 => (cM G ad u msl mst men mnw mdn mpw mwr mrs mdr mtb mrc mnx mro mit mve mrb mch mva mic mlb mrw mnb mlk mnk mmd))) A) args s 0 0 A) (F0 m 10 ls [.int y1, .ref (ad 0)]) := by
  obtain ⟨hx, hb, hr, hml, hown, hlocks, ht, hK, hA⟩ := id hC
  intro x1 y1 mrf H locs ls hok hres hP hD hS hl
  rw [f_MO_badAt_10] at hres
  rw [ok_MO_badAt_10] at hok
  refine go_iz (run_V hx hb hml hown ht hK hP hD (c_MO_goes) (cw_V ht km_MO_101 ki_MO_goes ks_MO_goes ini_MO kd_MO_goes kh_MO_goes ⟨Nat.le_of_ble_eq_true rfl, Nat.le_of_ble_eq_true rfl⟩ rfl rfl) (q0 := 0) (ci := 6) (As := [.int y1]) (rest := []) rfl rfl rfl hl.1 rfl (Nat.le_of_ble_eq_true rfl) d_MO_badAt_10 ⟨Nat.zero_le _, Nat.zero_le _⟩) hD hS hA (fun z_10 H locs hz_10 hP hD hS => ?_)
  have hres := bindc_eq hz_10 hres
  have hok := bindp_eq hz_10 hok
  have hP : va_P G.1 classes (cM G ad z_10.2 msl mst men mnw mdn mpw mwr mrs mdr mtb mrc mnx mro mit mve mrb mch mva mic mlb mrw mnb mlk mnk mmd) H := hP
  have hD : va_D A (cM G ad z_10.2 msl mst men mnw mdn mpw mwr mrs mdr mtb mrc mnx mro mit mve mrb mch mva mic mlb mrw mnb mlk mnk mmd) := hD
  refine lv_if_ne (tgt := 18) hx hb d_MO_badAt_13 (by decide) (fun c_13 => ?_) (fun c_13 => ?_)
  · have hres := it_f c_13 hres
    have hok := hok.2 c_13
    refine lv_iconst (v := (0 : Int32)) hx hb d_MO_badAt_18 (by decide) ?_
    refine lv_istore_n (lv' := [(2, .int (0 : Int32)), (0, .ref (ad 0)), (1, .int x1)]) hx hb d_MO_badAt_19 rfl hl (by decide) rfl (fun ls hl => ?_)
    refine lv_aload_n hx hb d_MO_badAt_20 rfl (lv_at hl 1 rfl) ?_
    refine va_get (D := G.1) (ci := 6) (C := R_MO) (T := F_MO) (N := 26) hx hb ht in_MO hown hK hP 0 rfl rfl 4 (by decide) (ht _ kf_MO_64) (fun _ h9 => h9) rfl d_MO_badAt_21 ?_
    refine lv_istore_n (lv' := [(3, .int mst), (2, .int (0 : Int32)), (0, .ref (ad 0)), (1, .int x1)]) hx hb d_MO_badAt_24 rfl hl (by decide) rfl (fun ls hl => ?_)
    exact w_MO_badAt_25 hC 1024 x1 (0 : Int32) mst z_10.2 _ _ _ hok hres hP hD hS (lv_sub hl [2, 3, 1, 0] rfl)
  · have hres := it_t c_13 hres
    refine lv_iconst (v := (0 : Int32)) hx hb d_MO_badAt_16 (by decide) ?_
    exact en_i (w1 := (fun u : Int32 => (cM G ad u msl mst men mnw mdn mpw mwr mrs mdr mtb mrc mnx mro mit mve mrb mch mva mic mlb mrw mnb mlk mnk mmd))) z_10.2 hx hb hr hlocks hK hP hD hS hres d_MO_badAt_17
def f_MO_badAt (p0 : Int32) (mrf : Int32) (msl : Int32) (mst : Int32) (men : Int32) (mdn : Int32) (mro : (Nat → Int32)) (mit : (Nat → Int32)) : Int32 × Int32 := if p0 < 0 then f_MO_badAt_10 p0 (0 : Int32) mrf msl mst men mdn mro mit else f_MO_badAt_10 p0 (1 : Int32) mrf msl mst men mdn mro mit
def ok_MO_badAt (p0 : Int32) (mrf : Int32) (msl : Int32) (mst : Int32) (men : Int32) (mdn : Int32) (mro : (Nat → Int32)) (mit : (Nat → Int32)) : Prop := (p0 < 0 → ok_MO_badAt_10  p0 (0 : Int32) mrf msl mst men mdn mro mit) ∧ (¬ p0 < 0 → ok_MO_badAt_10  p0 (1 : Int32) mrf msl mst men mdn mro mit)
set_option maxHeartbeats 4000000 in
set_option maxRecDepth 100000 in
theorem c_MO_badAt {l : Launch} {G : GG} {ad : Nat → Nat} {sz : Nat} {mrf : Int32} {msl : Int32} {mst : Int32} {men : Int32} {mnw : Int32} {mdn : Int32} {mpw : Int32} {mwr : Int32} {mrs : Int32} {mdr : Int32} {mtb : Int32} {mrc : Int32} {mnx : Int32} {mro : (Nat → Int32)} {mit : (Nat → Int32)} {mve : (Nat → Int32)} {mrb : (Nat → Int32)} {mch : (Nat → Int32)} {mva : (Nat → Int32)} {mic : (Nat → Int32)} {mlb : (Nat → Int32)} {mrw : (Nat → Int32)} {mnb : (Nat → Int32)} {mlk : (Nat → Int32)} {mnk : (Nat → Int32)} {mmd : (Nat → Int32)} {p0 : Int32} (hok : ok_MO_badAt p0 mrf msl mst men mdn mro mit) : CtI l y_MO_badAt b_MO_badAt 5 (some .int) rm_MO_badAt G (cM G ad mrf msl mst men mnw mdn mpw mwr mrs mdr mtb mrc mnx mro mit mve mrb mch mva mic mlb mrw mnb mlk mnk mmd) sz [.ref (ad 0), .int p0] (eqP (f_MO_badAt p0 mrf msl mst men mdn mro mit)) (fun u : Int32 => (cM G ad u msl mst men mnw mdn mpw mwr mrs mdr mtb mrc mnx mro mit mve mrb mch mva mic mlb mrw mnb mlk mnk mmd)) := by
  generalize hres : f_MO_badAt p0 mrf msl mst men mdn mro mit = res
  refine Met_of (Qc := fun A => va_Qi (eqP res) (Wb G A (fun u : Int32 => (cM G ad u msl mst men mnw mdn mpw mwr mrs mdr mtb mrc mnx mro mit mve mrb mch mva mic mlb mrw mnb mlk mnk mmd))) A) (by decide) (Nat.le_of_ble_eq_true rfl) ?_
  intro p e s m below meth c hadm hx hb hr hml hown hlocks ht hK A hA hP hD hS ls hl
  have hC : Cx p l e s m (([.ref (ad 0), .int p0] : List Value)).toArray meth c y_MO_badAt b_MO_badAt 5 (some .int) "BookTreesModel" G A := ⟨hx, hb, hr, hml, hown, hlocks, ht, hK, hA⟩
  have hown : s.vm.findClass "BookTreesModel" = some m.cls := hown
  have hl : lv_has ls 5 [(0, .ref (ad 0)), (1, .int p0)] := hl
  rw [f_MO_badAt] at hres
  rw [ok_MO_badAt] at hok
  refine lv_aload_n hx hb d_MO_badAt_0 rfl (lv_at hl 0 rfl) ?_
  refine lv_iload_n hx hb d_MO_badAt_1 rfl (lv_at hl 1 rfl) ?_
  refine lv_if_lt (tgt := 9) hx hb d_MO_badAt_2 (by decide) (fun c_2 => ?_) (fun c_2 => ?_)
  · have hres := it_t c_2 hres
    have hok := hok.1 c_2
    refine lv_iconst (v := (0 : Int32)) hx hb d_MO_badAt_9 (by decide) ?_
    exact w_MO_badAt_10 hC p0 (0 : Int32) mrf _ _ _ hok hres hP hD hS (lv_sub hl [0, 1] rfl)
  · have hres := it_f c_2 hres
    have hok := hok.2 c_2
    refine lv_iconst (v := (1 : Int32)) hx hb d_MO_badAt_5 (by decide) ?_
    refine lv_goto (tgt := 10) hx hb d_MO_badAt_6 (by decide) ?_
    exact w_MO_badAt_10 hC p0 (1 : Int32) mrf _ _ _ hok hres hP hD hS (lv_sub hl [0, 1] rfl)
/-! ===== BookTreesModel.told(I)I ===== -/
abbrev rm_MO_told : Room := { frames := 1, cells := 0, slots := 0, locals := 21 }
def f_MO_told_15 (x1 : Int32) (y1 : Int32) (mrf : Int32) (mst : Int32) (men : Int32) (mnw : Int32) (mdn : Int32) (mwr : Int32) (mdr : Int32) : Int32 × Int32 := bindc (f_MO_goes y1 mrf mdn) (fun z_15 => if z_15.1 = 0 then ((0 : Int32), z_15.2) else if x1 = 0 then (mst, z_15.2) else if x1 = (1 : Int32) then (men, z_15.2) else if x1 = (2 : Int32) then (mnw, z_15.2) else if x1 = (3 : Int32) then (mwr, z_15.2) else (mdr, z_15.2))
def ok_MO_told_15 (x1 : Int32) (y1 : Int32) (mrf : Int32) (mst : Int32) (men : Int32) (mnw : Int32) (mdn : Int32) (mwr : Int32) (mdr : Int32) : Prop := True
set_option maxHeartbeats 4000000 in
set_option maxRecDepth 100000 in
theorem w_MO_told_15 {p : Program} {l : Launch} {e : Env} {s : State} {m : MethodId} {args : Array Value} {below : List Frame} {meth : Method} {c : Code} {A : Nat → Prop} {G : GG} {ad : Nat → Nat} {msl : Int32} {mst : Int32} {men : Int32} {mnw : Int32} {mdn : Int32} {mpw : Int32} {mwr : Int32} {mrs : Int32} {mdr : Int32} {mtb : Int32} {mrc : Int32} {mnx : Int32} {mro : (Nat → Int32)} {mit : (Nat → Int32)} {mve : (Nat → Int32)} {mrb : (Nat → Int32)} {mch : (Nat → Int32)} {mva : (Nat → Int32)} {mic : (Nat → Int32)} {mlb : (Nat → Int32)} {mrw : (Nat → Int32)} {mnb : (Nat → Int32)} {mlk : (Nat → Int32)} {mnk : (Nat → Int32)} {mmd : (Nat → Int32)} {res : Int32 × Int32} (hC : Cx p l e s m args meth c y_MO_told b_MO_told 2 (some .int) "BookTreesModel" G A) : ∀ (x1 : Int32) (y1 : Int32) (mrf : Int32) (H : Heap) (locs : List Loc) (ls : Array Slot), ok_MO_told_15 x1 y1 mrf mst men mnw mdn mwr mdr → f_MO_told_15 x1 y1 mrf mst men mnw mdn mwr mdr = res → va_P G.1 classes (cM G ad mrf msl mst men mnw mdn mpw mwr mrs mdr mtb mrc mnx mro mit mve mrb mch mva mic mlb mrw mnb mlk mnk mmd) H → va_D A (cM G ad mrf msl mst men mnw mdn mpw mwr mrs mdr mtb mrc mnx mro mit mve mrb mch mva mic mlb mrw mnb mlk mnk mmd) → va_S A s.heap H locs → lv_has ls 2 [(0, .ref (ad 0)), (1, .int x1)] → W p l e rm_MO_told s m args below meth c H locs 0 0 (MQ below (va_Qi (eqP res) (Wb G A (fun u : Int32 => (cM G ad u msl mst men mnw mdn mpw mwr mrs mdr mtb mrc mnx mro mit mve mrb mch mva mic mlb mrw mnb mlk mnk mmd))) A) args s 0 0 A) (F0 m 15 ls [.int y1, .ref (ad 0)]) := by
  obtain ⟨hx, hb, hr, hml, hown, hlocks, ht, hK, hA⟩ := id hC
  intro x1 y1 mrf H locs ls hok hres hP hD hS hl
  rw [f_MO_told_15] at hres
  rw [ok_MO_told_15] at hok
  refine go_iz (run_V hx hb hml hown ht hK hP hD (c_MO_goes) (cw_V ht km_MO_101 ki_MO_goes ks_MO_goes ini_MO kd_MO_goes kh_MO_goes ⟨Nat.le_of_ble_eq_true rfl, Nat.le_of_ble_eq_true rfl⟩ rfl rfl) (q0 := 0) (ci := 6) (As := [.int y1]) (rest := []) rfl rfl rfl hl.1 rfl (Nat.le_of_ble_eq_true rfl) d_MO_told_15 ⟨Nat.zero_le _, Nat.zero_le _⟩) hD hS hA (fun z_15 H locs hz_15 hP hD hS => ?_)
  have hres := bindc_eq hz_15 hres
  have hP : va_P G.1 classes (cM G ad z_15.2 msl mst men mnw mdn mpw mwr mrs mdr mtb mrc mnx mro mit mve mrb mch mva mic mlb mrw mnb mlk mnk mmd) H := hP
  have hD : va_D A (cM G ad z_15.2 msl mst men mnw mdn mpw mwr mrs mdr mtb mrc mnx mro mit mve mrb mch mva mic mlb mrw mnb mlk mnk mmd) := hD
  refine lv_if_ne (tgt := 23) hx hb d_MO_told_18 (by decide) (fun c_18 => ?_) (fun c_18 => ?_)
  · have hres := it_f c_18 hres
    refine lv_iload_n hx hb d_MO_told_23 rfl (lv_at hl 1 rfl) ?_
    refine lv_if_ne (tgt := 34) hx hb d_MO_told_24 (by decide) (fun c_24 => ?_) (fun c_24 => ?_)
    · have hres := it_f c_24 hres
      refine lv_iload_n hx hb d_MO_told_34 rfl (lv_at hl 1 rfl) ?_
      refine lv_iconst (v := (1 : Int32)) hx hb d_MO_told_35 (by decide) ?_
      refine lv_icmp_ne (tgt := 46) hx hb d_MO_told_36 (by decide) (fun c_36 => ?_) (fun c_36 => ?_)
      · have hres := it_f c_36 hres
        refine lv_iload_n hx hb d_MO_told_46 rfl (lv_at hl 1 rfl) ?_
        refine lv_iconst (v := (2 : Int32)) hx hb d_MO_told_47 (by decide) ?_
        refine lv_icmp_ne (tgt := 58) hx hb d_MO_told_48 (by decide) (fun c_48 => ?_) (fun c_48 => ?_)
        · have hres := it_f c_48 hres
          refine lv_iload_n hx hb d_MO_told_58 rfl (lv_at hl 1 rfl) ?_
          refine lv_iconst (v := (3 : Int32)) hx hb d_MO_told_59 (by decide) ?_
          refine lv_icmp_ne (tgt := 70) hx hb d_MO_told_60 (by decide) (fun c_60 => ?_) (fun c_60 => ?_)
          · have hres := it_f c_60 hres
            refine lv_aload_n hx hb d_MO_told_70 rfl (lv_at hl 0 rfl) ?_
            refine va_get (D := G.1) (ci := 6) (C := R_MO) (T := F_MO) (N := 26) hx hb ht in_MO hown hK hP 0 rfl rfl 13 (by decide) (ht _ kf_MO_95) (fun _ h9 => h9) rfl d_MO_told_71 ?_
            exact en_i (w1 := (fun u : Int32 => (cM G ad u msl mst men mnw mdn mpw mwr mrs mdr mtb mrc mnx mro mit mve mrb mch mva mic mlb mrw mnb mlk mnk mmd))) z_15.2 hx hb hr hlocks hK hP hD hS hres d_MO_told_74
          · have hres := it_t c_60 hres
            refine lv_aload_n hx hb d_MO_told_63 rfl (lv_at hl 0 rfl) ?_
            refine va_get (D := G.1) (ci := 6) (C := R_MO) (T := F_MO) (N := 26) hx hb ht in_MO hown hK hP 0 rfl rfl 9 (by decide) (ht _ kf_MO_147) (fun _ h9 => h9) rfl d_MO_told_64 ?_
            refine lv_goto (tgt := 74) hx hb d_MO_told_67 (by decide) ?_
            exact en_i (w1 := (fun u : Int32 => (cM G ad u msl mst men mnw mdn mpw mwr mrs mdr mtb mrc mnx mro mit mve mrb mch mva mic mlb mrw mnb mlk mnk mmd))) z_15.2 hx hb hr hlocks hK hP hD hS hres d_MO_told_74
        · have hres := it_t c_48 hres
          refine lv_aload_n hx hb d_MO_told_51 rfl (lv_at hl 0 rfl) ?_
          refine va_get (D := G.1) (ci := 6) (C := R_MO) (T := F_MO) (N := 26) hx hb ht in_MO hown hK hP 0 rfl rfl 6 (by decide) (ht _ kf_MO_137) (fun _ h9 => h9) rfl d_MO_told_52 ?_
          refine lv_goto (tgt := 74) hx hb d_MO_told_55 (by decide) ?_
          exact en_i (w1 := (fun u : Int32 => (cM G ad u msl mst men mnw mdn mpw mwr mrs mdr mtb mrc mnx mro mit mve mrb mch mva mic mlb mrw mnb mlk mnk mmd))) z_15.2 hx hb hr hlocks hK hP hD hS hres d_MO_told_74
      · have hres := it_t c_36 hres
        refine lv_aload_n hx hb d_MO_told_39 rfl (lv_at hl 0 rfl) ?_
        refine va_get (D := G.1) (ci := 6) (C := R_MO) (T := F_MO) (N := 26) hx hb ht in_MO hown hK hP 0 rfl rfl 5 (by decide) (ht _ kf_MO_67) (fun _ h9 => h9) rfl d_MO_told_40 ?_
        refine lv_goto (tgt := 74) hx hb d_MO_told_43 (by decide) ?_
        exact en_i (w1 := (fun u : Int32 => (cM G ad u msl mst men mnw mdn mpw mwr mrs mdr mtb mrc mnx mro mit mve mrb mch mva mic mlb mrw mnb mlk mnk mmd))) z_15.2 hx hb hr hlocks hK hP hD hS hres d_MO_told_74
    · have hres := it_t c_24 hres
      refine lv_aload_n hx hb d_MO_told_27 rfl (lv_at hl 0 rfl) ?_
      refine va_get (D := G.1) (ci := 6) (C := R_MO) (T := F_MO) (N := 26) hx hb ht in_MO hown hK hP 0 rfl rfl 4 (by decide) (ht _ kf_MO_64) (fun _ h9 => h9) rfl d_MO_told_28 ?_
      refine lv_goto (tgt := 74) hx hb d_MO_told_31 (by decide) ?_
      exact en_i (w1 := (fun u : Int32 => (cM G ad u msl mst men mnw mdn mpw mwr mrs mdr mtb mrc mnx mro mit mve mrb mch mva mic mlb mrw mnb mlk mnk mmd))) z_15.2 hx hb hr hlocks hK hP hD hS hres d_MO_told_74
  · have hres := it_t c_18 hres
    refine lv_iconst (v := (0 : Int32)) hx hb d_MO_told_21 (by decide) ?_
    exact en_i (w1 := (fun u : Int32 => (cM G ad u msl mst men mnw mdn mpw mwr mrs mdr mtb mrc mnx mro mit mve mrb mch mva mic mlb mrw mnb mlk mnk mmd))) z_15.2 hx hb hr hlocks hK hP hD hS hres d_MO_told_22
def f_MO_told_14 (x1 : Int32) (mrf : Int32) (mst : Int32) (men : Int32) (mnw : Int32) (mdn : Int32) (mwr : Int32) (mdr : Int32) : Int32 × Int32 := f_MO_told_15 x1 (0 : Int32) mrf mst men mnw mdn mwr mdr
def ok_MO_told_14 (x1 : Int32) (mrf : Int32) (mst : Int32) (men : Int32) (mnw : Int32) (mdn : Int32) (mwr : Int32) (mdr : Int32) : Prop := ok_MO_told_15  x1 (0 : Int32) mrf mst men mnw mdn mwr mdr
set_option maxHeartbeats 4000000 in
set_option maxRecDepth 100000 in
theorem w_MO_told_14 {p : Program} {l : Launch} {e : Env} {s : State} {m : MethodId} {args : Array Value} {below : List Frame} {meth : Method} {c : Code} {A : Nat → Prop} {G : GG} {ad : Nat → Nat} {msl : Int32} {mst : Int32} {men : Int32} {mnw : Int32} {mdn : Int32} {mpw : Int32} {mwr : Int32} {mrs : Int32} {mdr : Int32} {mtb : Int32} {mrc : Int32} {mnx : Int32} {mro : (Nat → Int32)} {mit : (Nat → Int32)} {mve : (Nat → Int32)} {mrb : (Nat → Int32)} {mch : (Nat → Int32)} {mva : (Nat → Int32)} {mic : (Nat → Int32)} {mlb : (Nat → Int32)} {mrw : (Nat → Int32)} {mnb : (Nat → Int32)} {mlk : (Nat → Int32)} {mnk : (Nat → Int32)} {mmd : (Nat → Int32)} {res : Int32 × Int32} (hC : Cx p l e s m args meth c y_MO_told b_MO_told 2 (some .int) "BookTreesModel" G A) : ∀ (x1 : Int32) (mrf : Int32) (H : Heap) (locs : List Loc) (ls : Array Slot), ok_MO_told_14 x1 mrf mst men mnw mdn mwr mdr → f_MO_told_14 x1 mrf mst men mnw mdn mwr mdr = res → va_P G.1 classes (cM G ad mrf msl mst men mnw mdn mpw mwr mrs mdr mtb mrc mnx mro mit mve mrb mch mva mic mlb mrw mnb mlk mnk mmd) H → va_D A (cM G ad mrf msl mst men mnw mdn mpw mwr mrs mdr mtb mrc mnx mro mit mve mrb mch mva mic mlb mrw mnb mlk mnk mmd) → va_S A s.heap H locs → lv_has ls 2 [(0, .ref (ad 0)), (1, .int x1)] → W p l e rm_MO_told s m args below meth c H locs 0 0 (MQ below (va_Qi (eqP res) (Wb G A (fun u : Int32 => (cM G ad u msl mst men mnw mdn mpw mwr mrs mdr mtb mrc mnx mro mit mve mrb mch mva mic mlb mrw mnb mlk mnk mmd))) A) args s 0 0 A) (F0 m 14 ls [.ref (ad 0)]) := by
  obtain ⟨hx, hb, hr, hml, hown, hlocks, ht, hK, hA⟩ := id hC
  intro x1 mrf H locs ls hok hres hP hD hS hl
  rw [f_MO_told_14] at hres
  rw [ok_MO_told_14] at hok
  refine lv_iconst (v := (0 : Int32)) hx hb d_MO_told_14 (by decide) ?_
  exact w_MO_told_15 hC x1 (0 : Int32) mrf _ _ _ hok hres hP hD hS (lv_sub hl [0, 1] rfl)
def f_MO_told (p0 : Int32) (mrf : Int32) (mst : Int32) (men : Int32) (mnw : Int32) (mdn : Int32) (mwr : Int32) (mdr : Int32) : Int32 × Int32 := if p0 < 0 then f_MO_told_14 p0 mrf mst men mnw mdn mwr mdr else if (4 : Int32) < p0 then f_MO_told_14 p0 mrf mst men mnw mdn mwr mdr else f_MO_told_15 p0 (1 : Int32) mrf mst men mnw mdn mwr mdr
def ok_MO_told (p0 : Int32) (mrf : Int32) (mst : Int32) (men : Int32) (mnw : Int32) (mdn : Int32) (mwr : Int32) (mdr : Int32) : Prop := (p0 < 0 → ok_MO_told_14  p0 mrf mst men mnw mdn mwr mdr) ∧ (¬ p0 < 0 → ((4 : Int32) < p0 → ok_MO_told_14  p0 mrf mst men mnw mdn mwr mdr) ∧ (¬ (4 : Int32) < p0 → ok_MO_told_15  p0 (1 : Int32) mrf mst men mnw mdn mwr mdr))
set_option maxHeartbeats 4000000 in
set_option maxRecDepth 100000 in
theorem c_MO_told {l : Launch} {G : GG} {ad : Nat → Nat} {sz : Nat} {mrf : Int32} {msl : Int32} {mst : Int32} {men : Int32} {mnw : Int32} {mdn : Int32} {mpw : Int32} {mwr : Int32} {mrs : Int32} {mdr : Int32} {mtb : Int32} {mrc : Int32} {mnx : Int32} {mro : (Nat → Int32)} {mit : (Nat → Int32)} {mve : (Nat → Int32)} {mrb : (Nat → Int32)} {mch : (Nat → Int32)} {mva : (Nat → Int32)} {mic : (Nat → Int32)} {mlb : (Nat → Int32)} {mrw : (Nat → Int32)} {mnb : (Nat → Int32)} {mlk : (Nat → Int32)} {mnk : (Nat → Int32)} {mmd : (Nat → Int32)} {p0 : Int32} (hok : ok_MO_told p0 mrf mst men mnw mdn mwr mdr) : CtI l y_MO_told b_MO_told 2 (some .int) rm_MO_told G (cM G ad mrf msl mst men mnw mdn mpw mwr mrs mdr mtb mrc mnx mro mit mve mrb mch mva mic mlb mrw mnb mlk mnk mmd) sz [.ref (ad 0), .int p0] (eqP (f_MO_told p0 mrf mst men mnw mdn mwr mdr)) (fun u : Int32 => (cM G ad u msl mst men mnw mdn mpw mwr mrs mdr mtb mrc mnx mro mit mve mrb mch mva mic mlb mrw mnb mlk mnk mmd)) := by
  generalize hres : f_MO_told p0 mrf mst men mnw mdn mwr mdr = res
  refine Met_of (Qc := fun A => va_Qi (eqP res) (Wb G A (fun u : Int32 => (cM G ad u msl mst men mnw mdn mpw mwr mrs mdr mtb mrc mnx mro mit mve mrb mch mva mic mlb mrw mnb mlk mnk mmd))) A) (by decide) (Nat.le_of_ble_eq_true rfl) ?_
  intro p e s m below meth c hadm hx hb hr hml hown hlocks ht hK A hA hP hD hS ls hl
  have hC : Cx p l e s m (([.ref (ad 0), .int p0] : List Value)).toArray meth c y_MO_told b_MO_told 2 (some .int) "BookTreesModel" G A := ⟨hx, hb, hr, hml, hown, hlocks, ht, hK, hA⟩
  have hown : s.vm.findClass "BookTreesModel" = some m.cls := hown
  have hl : lv_has ls 2 [(0, .ref (ad 0)), (1, .int p0)] := hl
  rw [f_MO_told] at hres
  rw [ok_MO_told] at hok
  refine lv_aload_n hx hb d_MO_told_0 rfl (lv_at hl 0 rfl) ?_
  refine lv_iload_n hx hb d_MO_told_1 rfl (lv_at hl 1 rfl) ?_
  refine lv_if_lt (tgt := 14) hx hb d_MO_told_2 (by decide) (fun c_2 => ?_) (fun c_2 => ?_)
  · have hres := it_t c_2 hres
    have hok := hok.1 c_2
    exact w_MO_told_14 hC p0 mrf _ _ _ hok hres hP hD hS (lv_sub hl [0, 1] rfl)
  · have hres := it_f c_2 hres
    have hok := hok.2 c_2
    refine lv_iload_n hx hb d_MO_told_5 rfl (lv_at hl 1 rfl) ?_
    refine lv_iconst (v := (4 : Int32)) hx hb d_MO_told_6 (by decide) ?_
    refine lv_icmp_gt (tgt := 14) hx hb d_MO_told_7 (by decide) (fun c_7 => ?_) (fun c_7 => ?_)
    · have hres := it_t c_7 hres
      have hok := hok.1 c_7
      exact w_MO_told_14 hC p0 mrf _ _ _ hok hres hP hD hS (lv_sub hl [0, 1] rfl)
    · have hres := it_f c_7 hres
      have hok := hok.2 c_7
      refine lv_iconst (v := (1 : Int32)) hx hb d_MO_told_10 (by decide) ?_
      refine lv_goto (tgt := 15) hx hb d_MO_told_11 (by decide) ?_
      exact w_MO_told_15 hC p0 (1 : Int32) mrf _ _ _ hok hres hP hD hS (lv_sub hl [0, 1] rfl)
