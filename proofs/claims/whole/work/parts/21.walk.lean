/-! ===== BookTreesModel.hasEntry(II)Z ===== -/
abbrev rm_MO_hasEntry : Room := { frames := 2, cells := 0, slots := 0, locals := 42 }
def f_MO_hasEntry (p0 : Int32) (p1 : Int32) (msl : Int32) (mro : (Nat → Int32)) : Int32 × Unit := bindc (f_MO_bitsOf p0 msl mro) (fun z_2 => if ((z_2.1 >>> (p1 &&& 31)) &&& (1 : Int32)) = (1 : Int32) then ((1 : Int32), ()) else ((0 : Int32), ()))
def ok_MO_hasEntry (p0 : Int32) (p1 : Int32) (msl : Int32) (mro : (Nat → Int32)) : Prop := ok_MO_bitsOf p0 msl mro
set_option maxHeartbeats 4000000 in
set_option maxRecDepth 100000 in
theorem c_MO_hasEntry {l : Launch} {G : GG} {ad : Nat → Nat} {sz : Nat} {mrf : Int32} {msl : Int32} {mst : Int32} {men : Int32} {mnw : Int32} {mdn : Int32} {mpw : Int32} {mwr : Int32} {mrs : Int32} {mdr : Int32} {mtb : Int32} {mrc : Int32} {mnx : Int32} {mro : (Nat → Int32)} {mit : (Nat → Int32)} {mve : (Nat → Int32)} {mrb : (Nat → Int32)} {mch : (Nat → Int32)} {mva : (Nat → Int32)} {mic : (Nat → Int32)} {mlb : (Nat → Int32)} {mrw : (Nat → Int32)} {mnb : (Nat → Int32)} {mlk : (Nat → Int32)} {mnk : (Nat → Int32)} {mmd : (Nat → Int32)} {p0 : Int32} {p1 : Int32} (hok : ok_MO_hasEntry p0 p1 msl mro) : CtI l y_MO_hasEntry b_MO_hasEntry 3 (some .boolean) rm_MO_hasEntry G (cM G ad mrf msl mst men mnw mdn mpw mwr mrs mdr mtb mrc mnx mro mit mve mrb mch mva mic mlb mrw mnb mlk mnk mmd) sz [.ref (ad 0), .int p0, .int p1] (eqP (f_MO_hasEntry p0 p1 msl mro)) (fun _ : Unit => (cM G ad mrf msl mst men mnw mdn mpw mwr mrs mdr mtb mrc mnx mro mit mve mrb mch mva mic mlb mrw mnb mlk mnk mmd)) := by
  generalize hres : f_MO_hasEntry p0 p1 msl mro = res
  refine Met_of (Qc := fun A => va_Qi (eqP res) (Wb G A (fun _ : Unit => (cM G ad mrf msl mst men mnw mdn mpw mwr mrs mdr mtb mrc mnx mro mit mve mrb mch mva mic mlb mrw mnb mlk mnk mmd))) A) (by decide) (Nat.le_of_ble_eq_true rfl) ?_
  intro p e s m below meth c hadm hx hb hr hml hown hlocks ht hK A hA hP hD hS ls hl
  have hC : Cx p l e s m (([.ref (ad 0), .int p0, .int p1] : List Value)).toArray meth c y_MO_hasEntry b_MO_hasEntry 3 (some .boolean) "BookTreesModel" G A := ⟨hx, hb, hr, hml, hown, hlocks, ht, hK, hA⟩
  have hown : s.vm.findClass "BookTreesModel" = some m.cls := hown
  have hl : lv_has ls 3 [(0, .ref (ad 0)), (1, .int p0), (2, .int p1)] := hl
  rw [f_MO_hasEntry] at hres
  rw [ok_MO_hasEntry] at hok
  refine lv_aload_n hx hb d_MO_hasEntry_0 rfl (lv_at hl 0 rfl) ?_
  refine lv_iload_n hx hb d_MO_hasEntry_1 rfl (lv_at hl 1 rfl) ?_
  have hk_2 := hok
  refine go_iz (run_V hx hb hml hown ht hK hP hD (c_MO_bitsOf hk_2) (cw_V ht km_MO_92 ki_MO_bitsOf ks_MO_bitsOf ini_MO kd_MO_bitsOf kh_MO_bitsOf ⟨Nat.le_of_ble_eq_true rfl, Nat.le_of_ble_eq_true rfl⟩ rfl rfl) (q0 := 0) (ci := 6) (As := [.int p0]) (rest := []) rfl rfl rfl hl.1 rfl (Nat.le_of_ble_eq_true rfl) d_MO_hasEntry_2 ⟨Nat.zero_le _, Nat.zero_le _⟩) hD hS hA (fun z_2 H locs hz_2 hP hD hS => ?_)
  have hres := bindc_eq hz_2 hres
  have hP : va_P G.1 classes (cM G ad mrf msl mst men mnw mdn mpw mwr mrs mdr mtb mrc mnx mro mit mve mrb mch mva mic mlb mrw mnb mlk mnk mmd) H := hP
  have hD : va_D A (cM G ad mrf msl mst men mnw mdn mpw mwr mrs mdr mtb mrc mnx mro mit mve mrb mch mva mic mlb mrw mnb mlk mnk mmd) := hD
  refine lv_iload_n hx hb d_MO_hasEntry_5 rfl (lv_at hl 2 rfl) ?_
  refine lv_ishr hx hb d_MO_hasEntry_6 ?_
  refine lv_iconst (v := (1 : Int32)) hx hb d_MO_hasEntry_7 (by decide) ?_
  refine lv_iand hx hb d_MO_hasEntry_8 ?_
  refine lv_iconst (v := (1 : Int32)) hx hb d_MO_hasEntry_9 (by decide) ?_
  refine lv_icmp_ne (tgt := 17) hx hb d_MO_hasEntry_10 (by decide) (fun c_10 => ?_) (fun c_10 => ?_)
  · have hres := it_f c_10 hres
    refine lv_iconst (v := (0 : Int32)) hx hb d_MO_hasEntry_17 (by decide) ?_
    exact en_z (w1 := (fun _ : Unit => (cM G ad mrf msl mst men mnw mdn mpw mwr mrs mdr mtb mrc mnx mro mit mve mrb mch mva mic mlb mrw mnb mlk mnk mmd))) () hx hb hr hlocks hK hP hD hS hres isB_0 d_MO_hasEntry_18
  · have hres := it_t c_10 hres
    refine lv_iconst (v := (1 : Int32)) hx hb d_MO_hasEntry_13 (by decide) ?_
    refine lv_goto (tgt := 18) hx hb d_MO_hasEntry_14 (by decide) ?_
    exact en_z (w1 := (fun _ : Unit => (cM G ad mrf msl mst men mnw mdn mpw mwr mrs mdr mtb mrc mnx mro mit mve mrb mch mva mic mlb mrw mnb mlk mnk mmd))) () hx hb hr hlocks hK hP hD hS hres isB_1 d_MO_hasEntry_18
/-! ===== BookTreesModel.look(II)J ===== -/
abbrev rm_MO_look : Room := { frames := 3, cells := 0, slots := 0, locals := 72 }
def f_MO_look_51 : Nat → Int32 → Int32 → Int32 → Int32 → Int32 → Int32 → Int32 → (Nat → Int32) → (Nat → Int32) → (Nat → Int32) → (Nat → Int32) → Int64 × Unit
  | 0, x2, x3, x4, msl, mst, men, mrs, mro, mit, mve, mrb => (0, ())
  | n + 1, x2, x3, x4, msl, mst, men, mrs, mro, mit, mve, mrb => if x4 < (1 : Int32) then (x3.toInt64, ()) else bindc (f_MO_isBad x3 x4 msl mst men mro mit) (fun z_61 => if z_61.1 = 0 then bindc (f_MO_hasEntry x3 ((x2 >>> ((((3 : Int32) * x4) - (3 : Int32)) &&& 31)) &&& (7 : Int32)) msl mro) (fun z_88 => if z_88.1 = 0 then ((1000000000000 : Int64), ()) else bindc (f_MO_entryOf x3 ((x2 >>> ((((3 : Int32) * x4) - (3 : Int32)) &&& 31)) &&& (7 : Int32)) msl mro) (fun z_102 => f_MO_look_51 n x2 z_102.1 (x4 + (-1 : Int32)) msl mst men mrs mro mit mve mrb)) else ((1000000000001 : Int64), ()))
def ok_MO_look_51 : Nat → Int32 → Int32 → Int32 → Int32 → Int32 → Int32 → Int32 → (Nat → Int32) → (Nat → Int32) → (Nat → Int32) → (Nat → Int32) → Prop
  | 0, _, _, _, _, _, _, _, _, _, _, _ => False
  | n + 1, x2, x3, x4, msl, mst, men, mrs, mro, mit, mve, mrb => (x4 < (1 : Int32) → True) ∧ (¬ x4 < (1 : Int32) → ok_MO_isBad x3 x4 msl mst men mro mit ∧ bindp (f_MO_isBad x3 x4 msl mst men mro mit) (fun z_61 => (z_61.1 = 0 → ok_MO_hasEntry x3 ((x2 >>> ((((3 : Int32) * x4) - (3 : Int32)) &&& 31)) &&& (7 : Int32)) msl mro ∧ bindp (f_MO_hasEntry x3 ((x2 >>> ((((3 : Int32) * x4) - (3 : Int32)) &&& 31)) &&& (7 : Int32)) msl mro) (fun z_88 => (z_88.1 = 0 → True) ∧ (¬ z_88.1 = 0 → ok_MO_entryOf x3 ((x2 >>> ((((3 : Int32) * x4) - (3 : Int32)) &&& 31)) &&& (7 : Int32)) msl mro ∧ bindp (f_MO_entryOf x3 ((x2 >>> ((((3 : Int32) * x4) - (3 : Int32)) &&& 31)) &&& (7 : Int32)) msl mro) (fun z_102 => ok_MO_look_51  n x2 z_102.1 (x4 + (-1 : Int32)) msl mst men mrs mro mit mve mrb)))) ∧ (¬ z_61.1 = 0 → True)))
set_option maxHeartbeats 4000000 in
set_option maxRecDepth 100000 in
theorem w_MO_look_51 {p : Program} {l : Launch} {e : Env} {s : State} {m : MethodId} {args : Array Value} {below : List Frame} {meth : Method} {c : Code} {A : Nat → Prop} {G : GG} {ad : Nat → Nat} {mrf : Int32} {msl : Int32} {mst : Int32} {men : Int32} {mnw : Int32} {mdn : Int32} {mpw : Int32} {mwr : Int32} {mrs : Int32} {mdr : Int32} {mtb : Int32} {mrc : Int32} {mnx : Int32} {mro : (Nat → Int32)} {mit : (Nat → Int32)} {mve : (Nat → Int32)} {mrb : (Nat → Int32)} {mch : (Nat → Int32)} {mva : (Nat → Int32)} {mic : (Nat → Int32)} {mlb : (Nat → Int32)} {mrw : (Nat → Int32)} {mnb : (Nat → Int32)} {mlk : (Nat → Int32)} {mnk : (Nat → Int32)} {mmd : (Nat → Int32)} {res : Int64 × Unit} (hC : Cx p l e s m args meth c y_MO_look b_MO_look 6 (some .long) "BookTreesModel" G A) : ∀ (n : Nat) (x2 : Int32) (x3 : Int32) (x4 : Int32)  (H : Heap) (locs : List Loc) (ls : Array Slot), ok_MO_look_51 n x2 x3 x4 msl mst men mrs mro mit mve mrb → f_MO_look_51 n x2 x3 x4 msl mst men mrs mro mit mve mrb = res → va_P G.1 classes (cM G ad mrf msl mst men mnw mdn mpw mwr mrs mdr mtb mrc mnx mro mit mve mrb mch mva mic mlb mrw mnb mlk mnk mmd) H → va_D A (cM G ad mrf msl mst men mnw mdn mpw mwr mrs mdr mtb mrc mnx mro mit mve mrb mch mva mic mlb mrw mnb mlk mnk mmd) → va_S A s.heap H locs → lv_has ls 6 [(0, .ref (ad 0)), (2, .int x2), (3, .int x3), (4, .int x4)] → W p l e rm_MO_look s m args below meth c H locs 0 0 (MQ below (va_Ql (eqP res) (Wb G A (fun _ : Unit => (cM G ad mrf msl mst men mnw mdn mpw mwr mrs mdr mtb mrc mnx mro mit mve mrb mch mva mic mlb mrw mnb mlk mnk mmd))) A) args s 0 0 A) (F0 m 51 ls []) := by
  obtain ⟨hx, hb, hr, hml, hown, hlocks, ht, hK, hA⟩ := id hC
  intro n
  induction n with
  | zero => intro x2 x3 x4 H locs ls hok; exact hok.elim
  | succ n ih =>
    intro x2 x3 x4 H locs ls hok hres hP hD hS hl
    rw [f_MO_look_51] at hres
    rw [ok_MO_look_51] at hok
    refine lv_iload hx hb d_MO_look_51 (lv_at hl 3 rfl) ?_
    refine lv_iconst (v := (1 : Int32)) hx hb d_MO_look_53 (by decide) ?_
    refine lv_icmp_lt (tgt := 112) hx hb d_MO_look_54 (by decide) (fun c_54 => ?_) (fun c_54 => ?_)
    · have hres := it_t c_54 hres
      refine lv_iload_n hx hb d_MO_look_112 rfl (lv_at hl 2 rfl) ?_
      refine lv_i2l hx hb d_MO_look_113 rfl ?_
      exact en_l (w1 := (fun _ : Unit => (cM G ad mrf msl mst men mnw mdn mpw mwr mrs mdr mtb mrc mnx mro mit mve mrb mch mva mic mlb mrw mnb mlk mnk mmd))) () hx hb hr hlocks hK hP hD hS hres d_MO_look_114
    · have hres := it_f c_54 hres
      have hok := hok.2 c_54
      refine lv_aload_n hx hb d_MO_look_57 rfl (lv_at hl 0 rfl) ?_
      refine lv_iload_n hx hb d_MO_look_58 rfl (lv_at hl 2 rfl) ?_
      refine lv_iload hx hb d_MO_look_59 (lv_at hl 3 rfl) ?_
      obtain ⟨hk_61, hok⟩ := hok
      refine go_iz (run_V hx hb hml hown ht hK hP hD (c_MO_isBad hk_61) (cw_V ht km_MO_124 ki_MO_isBad ks_MO_isBad ini_MO kd_MO_isBad kh_MO_isBad ⟨Nat.le_of_ble_eq_true rfl, Nat.le_of_ble_eq_true rfl⟩ rfl rfl) (q0 := 0) (ci := 6) (As := [.int x3, .int x4]) (rest := []) rfl rfl rfl hl.1 rfl (Nat.le_of_ble_eq_true rfl) d_MO_look_61 ⟨Nat.zero_le _, Nat.zero_le _⟩) hD hS hA (fun z_61 H locs hz_61 hP hD hS => ?_)
      have hres := bindc_eq hz_61 hres
      have hok := bindp_eq hz_61 hok
      have hP : va_P G.1 classes (cM G ad mrf msl mst men mnw mdn mpw mwr mrs mdr mtb mrc mnx mro mit mve mrb mch mva mic mlb mrw mnb mlk mnk mmd) H := hP
      have hD : va_D A (cM G ad mrf msl mst men mnw mdn mpw mwr mrs mdr mtb mrc mnx mro mit mve mrb mch mva mic mlb mrw mnb mlk mnk mmd) := hD
      refine lv_if_eq (tgt := 71) hx hb d_MO_look_64 (by decide) (fun c_64 => ?_) (fun c_64 => ?_)
      · have hres := it_t c_64 hres
        have hok := hok.1 c_64
        refine lv_iload_n hx hb d_MO_look_71 rfl (lv_at hl 1 rfl) ?_
        refine lv_iconst (v := (3 : Int32)) hx hb d_MO_look_72 (by decide) ?_
        refine lv_iload hx hb d_MO_look_73 (lv_at hl 3 rfl) ?_
        refine lv_imul hx hb d_MO_look_75 ?_
        refine lv_iconst (v := (3 : Int32)) hx hb d_MO_look_76 (by decide) ?_
        refine lv_isub hx hb d_MO_look_77 ?_
        refine lv_ishr hx hb d_MO_look_78 ?_
        refine lv_bipush (v := (7 : Int32)) hx hb d_MO_look_79 (by decide) ?_
        refine lv_iand hx hb d_MO_look_81 ?_
        refine lv_istore (lv' := [(5, .int ((x2 >>> ((((3 : Int32) * x4) - (3 : Int32)) &&& 31)) &&& (7 : Int32))), (0, .ref (ad 0)), (2, .int x2), (3, .int x3), (4, .int x4)]) hx hb d_MO_look_82 hl (by decide) rfl (fun ls hl => ?_)
        refine lv_aload_n hx hb d_MO_look_84 rfl (lv_at hl 1 rfl) ?_
        refine lv_iload_n hx hb d_MO_look_85 rfl (lv_at hl 3 rfl) ?_
        refine lv_iload hx hb d_MO_look_86 (lv_at hl 0 rfl) ?_
        obtain ⟨hk_88, hok⟩ := hok
        refine go_iz (run_V hx hb hml hown ht hK hP hD (c_MO_hasEntry hk_88) (cw_V ht km_MO_134 ki_MO_hasEntry ks_MO_hasEntry ini_MO kd_MO_hasEntry kh_MO_hasEntry ⟨Nat.le_of_ble_eq_true rfl, Nat.le_of_ble_eq_true rfl⟩ rfl rfl) (q0 := 0) (ci := 6) (As := [.int x3, .int ((x2 >>> ((((3 : Int32) * x4) - (3 : Int32)) &&& 31)) &&& (7 : Int32))]) (rest := []) rfl rfl rfl hl.1 rfl (Nat.le_of_ble_eq_true rfl) d_MO_look_88 ⟨Nat.zero_le _, Nat.zero_le _⟩) hD hS hA (fun z_88 H locs hz_88 hP hD hS => ?_)
        have hres := bindc_eq hz_88 hres
        have hok := bindp_eq hz_88 hok
        have hP : va_P G.1 classes (cM G ad mrf msl mst men mnw mdn mpw mwr mrs mdr mtb mrc mnx mro mit mve mrb mch mva mic mlb mrw mnb mlk mnk mmd) H := hP
        have hD : va_D A (cM G ad mrf msl mst men mnw mdn mpw mwr mrs mdr mtb mrc mnx mro mit mve mrb mch mva mic mlb mrw mnb mlk mnk mmd) := hD
        refine lv_if_ne (tgt := 98) hx hb d_MO_look_91 (by decide) (fun c_91 => ?_) (fun c_91 => ?_)
        · have hres := it_f c_91 hres
          have hok := hok.2 c_91
          refine lv_aload_n hx hb d_MO_look_98 rfl (lv_at hl 1 rfl) ?_
          refine lv_iload_n hx hb d_MO_look_99 rfl (lv_at hl 3 rfl) ?_
          refine lv_iload hx hb d_MO_look_100 (lv_at hl 0 rfl) ?_
          obtain ⟨hk_102, hok⟩ := hok
          refine go_iz (run_V hx hb hml hown ht hK hP hD (c_MO_entryOf hk_102) (cw_V ht km_MO_130 ki_MO_entryOf ks_MO_entryOf ini_MO kd_MO_entryOf kh_MO_entryOf ⟨Nat.le_of_ble_eq_true rfl, Nat.le_of_ble_eq_true rfl⟩ rfl rfl) (q0 := 0) (ci := 6) (As := [.int x3, .int ((x2 >>> ((((3 : Int32) * x4) - (3 : Int32)) &&& 31)) &&& (7 : Int32))]) (rest := []) rfl rfl rfl hl.1 rfl (Nat.le_of_ble_eq_true rfl) d_MO_look_102 ⟨Nat.zero_le _, Nat.zero_le _⟩) hD hS hA (fun z_102 H locs hz_102 hP hD hS => ?_)
          have hres := bindc_eq hz_102 hres
          have hok := bindp_eq hz_102 hok
          have hP : va_P G.1 classes (cM G ad mrf msl mst men mnw mdn mpw mwr mrs mdr mtb mrc mnx mro mit mve mrb mch mva mic mlb mrw mnb mlk mnk mmd) H := hP
          have hD : va_D A (cM G ad mrf msl mst men mnw mdn mpw mwr mrs mdr mtb mrc mnx mro mit mve mrb mch mva mic mlb mrw mnb mlk mnk mmd) := hD
          refine lv_istore_n (lv' := [(3, .int z_102.1), (5, .int ((x2 >>> ((((3 : Int32) * x4) - (3 : Int32)) &&& 31)) &&& (7 : Int32))), (0, .ref (ad 0)), (2, .int x2), (4, .int x4)]) hx hb d_MO_look_105 rfl hl (by decide) rfl (fun ls hl => ?_)
          refine lv_iinc (v := x4 + (-1 : Int32)) (lv' := [(4, .int (x4 + (-1 : Int32))), (3, .int z_102.1), (5, .int ((x2 >>> ((((3 : Int32) * x4) - (3 : Int32)) &&& 31)) &&& (7 : Int32))), (0, .ref (ad 0)), (2, .int x2)]) hx hb d_MO_look_106 hl (k := 4) rfl rfl (by decide) rfl (fun ls hl => ?_)
          refine lv_goto (tgt := 51) hx hb d_MO_look_109 (by decide) ?_
          exact ih x2 z_102.1 (x4 + (-1 : Int32)) _ _ _ hok hres hP hD hS (lv_sub hl [3, 4, 1, 0] rfl)
        · have hres := it_t c_91 hres
          refine lv_ldc2 hx hb hown (ht _ kl_MO_122) d_MO_look_94 ?_
          exact en_l (w1 := (fun _ : Unit => (cM G ad mrf msl mst men mnw mdn mpw mwr mrs mdr mtb mrc mnx mro mit mve mrb mch mva mic mlb mrw mnb mlk mnk mmd))) () hx hb hr hlocks hK hP hD hS hres d_MO_look_97
      · have hres := it_f c_64 hres
        refine lv_ldc2 hx hb hown (ht _ kl_MO_128) d_MO_look_67 ?_
        exact en_l (w1 := (fun _ : Unit => (cM G ad mrf msl mst men mnw mdn mpw mwr mrs mdr mtb mrc mnx mro mit mve mrb mch mva mic mlb mrw mnb mlk mnk mmd))) () hx hb hr hlocks hK hP hD hS hres d_MO_look_70
def f_MO_look (p0 : Int32) (p1 : Int32) (msl : Int32) (mst : Int32) (men : Int32) (mrs : Int32) (mro : (Nat → Int32)) (mit : (Nat → Int32)) (mve : (Nat → Int32)) (mrb : (Nat → Int32)) : Int64 × Unit := if p0 = 0 then ((1000000000000 : Int64), ()) else bindc (f_MO_rootOf p0 mrs mve mrb) (fun z_10 => bindc (f_MO_isBad z_10.1 (4 : Int32) msl mst men mro mit) (fun z_17 => if z_17.1 = 0 then bindc (f_MO_bitsOf z_10.1 msl mro) (fun z_29 => if (z_29.1 &&& (1 : Int32)) = 0 then ((1000000000000 : Int64), ()) else bindc (f_MO_entryOf z_10.1 (0 : Int32) msl mro) (fun z_44 => f_MO_look_51 1024 p1 z_44.1 (3 : Int32) msl mst men mrs mro mit mve mrb)) else ((1000000000001 : Int64), ())))
def ok_MO_look (p0 : Int32) (p1 : Int32) (msl : Int32) (mst : Int32) (men : Int32) (mrs : Int32) (mro : (Nat → Int32)) (mit : (Nat → Int32)) (mve : (Nat → Int32)) (mrb : (Nat → Int32)) : Prop := (p0 = 0 → True) ∧ (¬ p0 = 0 → ok_MO_rootOf p0 mrs mve mrb ∧ bindp (f_MO_rootOf p0 mrs mve mrb) (fun z_10 => ok_MO_isBad z_10.1 (4 : Int32) msl mst men mro mit ∧ bindp (f_MO_isBad z_10.1 (4 : Int32) msl mst men mro mit) (fun z_17 => (z_17.1 = 0 → ok_MO_bitsOf z_10.1 msl mro ∧ bindp (f_MO_bitsOf z_10.1 msl mro) (fun z_29 => ((z_29.1 &&& (1 : Int32)) = 0 → True) ∧ (¬ (z_29.1 &&& (1 : Int32)) = 0 → ok_MO_entryOf z_10.1 (0 : Int32) msl mro ∧ bindp (f_MO_entryOf z_10.1 (0 : Int32) msl mro) (fun z_44 => ok_MO_look_51  1024 p1 z_44.1 (3 : Int32) msl mst men mrs mro mit mve mrb)))) ∧ (¬ z_17.1 = 0 → True))))
set_option maxHeartbeats 4000000 in
set_option maxRecDepth 100000 in
theorem c_MO_look {l : Launch} {G : GG} {ad : Nat → Nat} {sz : Nat} {mrf : Int32} {msl : Int32} {mst : Int32} {men : Int32} {mnw : Int32} {mdn : Int32} {mpw : Int32} {mwr : Int32} {mrs : Int32} {mdr : Int32} {mtb : Int32} {mrc : Int32} {mnx : Int32} {mro : (Nat → Int32)} {mit : (Nat → Int32)} {mve : (Nat → Int32)} {mrb : (Nat → Int32)} {mch : (Nat → Int32)} {mva : (Nat → Int32)} {mic : (Nat → Int32)} {mlb : (Nat → Int32)} {mrw : (Nat → Int32)} {mnb : (Nat → Int32)} {mlk : (Nat → Int32)} {mnk : (Nat → Int32)} {mmd : (Nat → Int32)} {p0 : Int32} {p1 : Int32} (hok : ok_MO_look p0 p1 msl mst men mrs mro mit mve mrb) : CtL l y_MO_look b_MO_look 6 (some .long) rm_MO_look G (cM G ad mrf msl mst men mnw mdn mpw mwr mrs mdr mtb mrc mnx mro mit mve mrb mch mva mic mlb mrw mnb mlk mnk mmd) sz [.ref (ad 0), .int p0, .int p1] (eqP (f_MO_look p0 p1 msl mst men mrs mro mit mve mrb)) (fun _ : Unit => (cM G ad mrf msl mst men mnw mdn mpw mwr mrs mdr mtb mrc mnx mro mit mve mrb mch mva mic mlb mrw mnb mlk mnk mmd)) := by
  generalize hres : f_MO_look p0 p1 msl mst men mrs mro mit mve mrb = res
  refine Met_of (Qc := fun A => va_Ql (eqP res) (Wb G A (fun _ : Unit => (cM G ad mrf msl mst men mnw mdn mpw mwr mrs mdr mtb mrc mnx mro mit mve mrb mch mva mic mlb mrw mnb mlk mnk mmd))) A) (by decide) (Nat.le_of_ble_eq_true rfl) ?_
  intro p e s m below meth c hadm hx hb hr hml hown hlocks ht hK A hA hP hD hS ls hl
  have hC : Cx p l e s m (([.ref (ad 0), .int p0, .int p1] : List Value)).toArray meth c y_MO_look b_MO_look 6 (some .long) "BookTreesModel" G A := ⟨hx, hb, hr, hml, hown, hlocks, ht, hK, hA⟩
  have hown : s.vm.findClass "BookTreesModel" = some m.cls := hown
  have hl : lv_has ls 6 [(0, .ref (ad 0)), (1, .int p0), (2, .int p1)] := hl
  rw [f_MO_look] at hres
  rw [ok_MO_look] at hok
  refine lv_iload_n hx hb d_MO_look_0 rfl (lv_at hl 1 rfl) ?_
  refine lv_if_ne (tgt := 8) hx hb d_MO_look_1 (by decide) (fun c_1 => ?_) (fun c_1 => ?_)
  · have hres := it_f c_1 hres
    have hok := hok.2 c_1
    refine lv_aload_n hx hb d_MO_look_8 rfl (lv_at hl 0 rfl) ?_
    refine lv_iload_n hx hb d_MO_look_9 rfl (lv_at hl 1 rfl) ?_
    obtain ⟨hk_10, hok⟩ := hok
    refine go_iz (run_V hx hb hml hown ht hK hP hD (c_MO_rootOf hk_10) (cw_V ht km_MO_119 ki_MO_rootOf ks_MO_rootOf ini_MO kd_MO_rootOf kh_MO_rootOf ⟨Nat.le_of_ble_eq_true rfl, Nat.le_of_ble_eq_true rfl⟩ rfl rfl) (q0 := 0) (ci := 6) (As := [.int p0]) (rest := []) rfl rfl rfl hl.1 rfl (Nat.le_of_ble_eq_true rfl) d_MO_look_10 ⟨Nat.zero_le _, Nat.zero_le _⟩) hD hS hA (fun z_10 H locs hz_10 hP hD hS => ?_)
    have hres := bindc_eq hz_10 hres
    have hok := bindp_eq hz_10 hok
    have hP : va_P G.1 classes (cM G ad mrf msl mst men mnw mdn mpw mwr mrs mdr mtb mrc mnx mro mit mve mrb mch mva mic mlb mrw mnb mlk mnk mmd) H := hP
    have hD : va_D A (cM G ad mrf msl mst men mnw mdn mpw mwr mrs mdr mtb mrc mnx mro mit mve mrb mch mva mic mlb mrw mnb mlk mnk mmd) := hD
    refine lv_istore_n (lv' := [(3, .int z_10.1), (0, .ref (ad 0)), (1, .int p0), (2, .int p1)]) hx hb d_MO_look_13 rfl hl (by decide) rfl (fun ls hl => ?_)
    refine lv_aload_n hx hb d_MO_look_14 rfl (lv_at hl 1 rfl) ?_
    refine lv_iload_n hx hb d_MO_look_15 rfl (lv_at hl 0 rfl) ?_
    refine lv_iconst (v := (4 : Int32)) hx hb d_MO_look_16 (by decide) ?_
    obtain ⟨hk_17, hok⟩ := hok
    refine go_iz (run_V hx hb hml hown ht hK hP hD (c_MO_isBad hk_17) (cw_V ht km_MO_124 ki_MO_isBad ks_MO_isBad ini_MO kd_MO_isBad kh_MO_isBad ⟨Nat.le_of_ble_eq_true rfl, Nat.le_of_ble_eq_true rfl⟩ rfl rfl) (q0 := 0) (ci := 6) (As := [.int z_10.1, .int (4 : Int32)]) (rest := []) rfl rfl rfl hl.1 rfl (Nat.le_of_ble_eq_true rfl) d_MO_look_17 ⟨Nat.zero_le _, Nat.zero_le _⟩) hD hS hA (fun z_17 H locs hz_17 hP hD hS => ?_)
    have hres := bindc_eq hz_17 hres
    have hok := bindp_eq hz_17 hok
    have hP : va_P G.1 classes (cM G ad mrf msl mst men mnw mdn mpw mwr mrs mdr mtb mrc mnx mro mit mve mrb mch mva mic mlb mrw mnb mlk mnk mmd) H := hP
    have hD : va_D A (cM G ad mrf msl mst men mnw mdn mpw mwr mrs mdr mtb mrc mnx mro mit mve mrb mch mva mic mlb mrw mnb mlk mnk mmd) := hD
    refine lv_if_eq (tgt := 27) hx hb d_MO_look_20 (by decide) (fun c_20 => ?_) (fun c_20 => ?_)
    · have hres := it_t c_20 hres
      have hok := hok.1 c_20
      refine lv_aload_n hx hb d_MO_look_27 rfl (lv_at hl 1 rfl) ?_
      refine lv_iload_n hx hb d_MO_look_28 rfl (lv_at hl 0 rfl) ?_
      obtain ⟨hk_29, hok⟩ := hok
      refine go_iz (run_V hx hb hml hown ht hK hP hD (c_MO_bitsOf hk_29) (cw_V ht km_MO_92 ki_MO_bitsOf ks_MO_bitsOf ini_MO kd_MO_bitsOf kh_MO_bitsOf ⟨Nat.le_of_ble_eq_true rfl, Nat.le_of_ble_eq_true rfl⟩ rfl rfl) (q0 := 0) (ci := 6) (As := [.int z_10.1]) (rest := []) rfl rfl rfl hl.1 rfl (Nat.le_of_ble_eq_true rfl) d_MO_look_29 ⟨Nat.zero_le _, Nat.zero_le _⟩) hD hS hA (fun z_29 H locs hz_29 hP hD hS => ?_)
      have hres := bindc_eq hz_29 hres
      have hok := bindp_eq hz_29 hok
      have hP : va_P G.1 classes (cM G ad mrf msl mst men mnw mdn mpw mwr mrs mdr mtb mrc mnx mro mit mve mrb mch mva mic mlb mrw mnb mlk mnk mmd) H := hP
      have hD : va_D A (cM G ad mrf msl mst men mnw mdn mpw mwr mrs mdr mtb mrc mnx mro mit mve mrb mch mva mic mlb mrw mnb mlk mnk mmd) := hD
      refine lv_iconst (v := (1 : Int32)) hx hb d_MO_look_32 (by decide) ?_
      refine lv_iand hx hb d_MO_look_33 ?_
      refine lv_if_ne (tgt := 41) hx hb d_MO_look_34 (by decide) (fun c_34 => ?_) (fun c_34 => ?_)
      · have hres := it_f c_34 hres
        have hok := hok.2 c_34
        refine lv_aload_n hx hb d_MO_look_41 rfl (lv_at hl 1 rfl) ?_
        refine lv_iload_n hx hb d_MO_look_42 rfl (lv_at hl 0 rfl) ?_
        refine lv_iconst (v := (0 : Int32)) hx hb d_MO_look_43 (by decide) ?_
        obtain ⟨hk_44, hok⟩ := hok
        refine go_iz (run_V hx hb hml hown ht hK hP hD (c_MO_entryOf hk_44) (cw_V ht km_MO_130 ki_MO_entryOf ks_MO_entryOf ini_MO kd_MO_entryOf kh_MO_entryOf ⟨Nat.le_of_ble_eq_true rfl, Nat.le_of_ble_eq_true rfl⟩ rfl rfl) (q0 := 0) (ci := 6) (As := [.int z_10.1, .int (0 : Int32)]) (rest := []) rfl rfl rfl hl.1 rfl (Nat.le_of_ble_eq_true rfl) d_MO_look_44 ⟨Nat.zero_le _, Nat.zero_le _⟩) hD hS hA (fun z_44 H locs hz_44 hP hD hS => ?_)
        have hres := bindc_eq hz_44 hres
        have hok := bindp_eq hz_44 hok
        have hP : va_P G.1 classes (cM G ad mrf msl mst men mnw mdn mpw mwr mrs mdr mtb mrc mnx mro mit mve mrb mch mva mic mlb mrw mnb mlk mnk mmd) H := hP
        have hD : va_D A (cM G ad mrf msl mst men mnw mdn mpw mwr mrs mdr mtb mrc mnx mro mit mve mrb mch mva mic mlb mrw mnb mlk mnk mmd) := hD
        refine lv_istore_n (lv' := [(3, .int z_44.1), (0, .ref (ad 0)), (1, .int p0), (2, .int p1)]) hx hb d_MO_look_47 rfl hl (by decide) rfl (fun ls hl => ?_)
        refine lv_iconst (v := (3 : Int32)) hx hb d_MO_look_48 (by decide) ?_
        refine lv_istore (lv' := [(4, .int (3 : Int32)), (3, .int z_44.1), (0, .ref (ad 0)), (1, .int p0), (2, .int p1)]) hx hb d_MO_look_49 hl (by decide) rfl (fun ls hl => ?_)
        exact w_MO_look_51 hC 1024 p1 z_44.1 (3 : Int32) _ _ _ hok hres hP hD hS (lv_sub hl [2, 4, 1, 0] rfl)
      · have hres := it_t c_34 hres
        refine lv_ldc2 hx hb hown (ht _ kl_MO_122) d_MO_look_37 ?_
        exact en_l (w1 := (fun _ : Unit => (cM G ad mrf msl mst men mnw mdn mpw mwr mrs mdr mtb mrc mnx mro mit mve mrb mch mva mic mlb mrw mnb mlk mnk mmd))) () hx hb hr hlocks hK hP hD hS hres d_MO_look_40
    · have hres := it_f c_20 hres
      refine lv_ldc2 hx hb hown (ht _ kl_MO_128) d_MO_look_23 ?_
      exact en_l (w1 := (fun _ : Unit => (cM G ad mrf msl mst men mnw mdn mpw mwr mrs mdr mtb mrc mnx mro mit mve mrb mch mva mic mlb mrw mnb mlk mnk mmd))) () hx hb hr hlocks hK hP hD hS hres d_MO_look_26
  · have hres := it_t c_1 hres
    refine lv_ldc2 hx hb hown (ht _ kl_MO_122) d_MO_look_4 ?_
    exact en_l (w1 := (fun _ : Unit => (cM G ad mrf msl mst men mnw mdn mpw mwr mrs mdr mtb mrc mnx mro mit mve mrb mch mva mic mlb mrw mnb mlk mnk mmd))) () hx hb hr hlocks hK hP hD hS hres d_MO_look_7
/-! ===== BookTreesModel.get(I)J ===== -/
abbrev rm_MO_get : Room := { frames := 4, cells := 0, slots := 0, locals := 97 }
def f_MO_get (p0 : Int32) (mrf : Int32) (msl : Int32) (mst : Int32) (men : Int32) (mnw : Int32) (mdn : Int32) (mrs : Int32) (mro : (Nat → Int32)) (mit : (Nat → Int32)) (mve : (Nat → Int32)) (mrb : (Nat → Int32)) (mch : (Nat → Int32)) (mva : (Nat → Int32)) : Int64 × Int32 := bindc (f_MO_isKey p0) (fun z_2 => bindc (f_MO_goes z_2.1 mrf mdn) (fun z_5 => if z_5.1 = 0 then ((0 : Int64), z_5.2) else if (mch p0.toNatClampNeg) = (1 : Int32) then ((mva p0.toNatClampNeg).toInt64, z_5.2) else if (mch p0.toNatClampNeg) = (2 : Int32) then ((1000000000000 : Int64), z_5.2) else bindc (f_MO_look mnw p0 msl mst men mrs mro mit mve mrb) (fun z_55 => (z_55.1, z_5.2))))
def ok_MO_get (p0 : Int32) (mrf : Int32) (msl : Int32) (mst : Int32) (men : Int32) (mnw : Int32) (mdn : Int32) (mrs : Int32) (mro : (Nat → Int32)) (mit : (Nat → Int32)) (mve : (Nat → Int32)) (mrb : (Nat → Int32)) (mch : (Nat → Int32)) (mva : (Nat → Int32)) : Prop := bindp (f_MO_isKey p0) (fun z_2 => bindp (f_MO_goes z_2.1 mrf mdn) (fun z_5 => (z_5.1 = 0 → True) ∧ (¬ z_5.1 = 0 → vp_in p0 512 ∧ (((mch p0.toNatClampNeg) = (1 : Int32) → vp_in p0 512) ∧ (¬ (mch p0.toNatClampNeg) = (1 : Int32) → vp_in p0 512 ∧ (((mch p0.toNatClampNeg) = (2 : Int32) → True) ∧ (¬ (mch p0.toNatClampNeg) = (2 : Int32) → ok_MO_look mnw p0 msl mst men mrs mro mit mve mrb)))))))
set_option maxHeartbeats 4000000 in
set_option maxRecDepth 100000 in
theorem c_MO_get {l : Launch} {G : GG} {ad : Nat → Nat} {sz : Nat} {mrf : Int32} {msl : Int32} {mst : Int32} {men : Int32} {mnw : Int32} {mdn : Int32} {mpw : Int32} {mwr : Int32} {mrs : Int32} {mdr : Int32} {mtb : Int32} {mrc : Int32} {mnx : Int32} {mro : (Nat → Int32)} {mit : (Nat → Int32)} {mve : (Nat → Int32)} {mrb : (Nat → Int32)} {mch : (Nat → Int32)} {mva : (Nat → Int32)} {mic : (Nat → Int32)} {mlb : (Nat → Int32)} {mrw : (Nat → Int32)} {mnb : (Nat → Int32)} {mlk : (Nat → Int32)} {mnk : (Nat → Int32)} {mmd : (Nat → Int32)} {p0 : Int32} (hok : ok_MO_get p0 mrf msl mst men mnw mdn mrs mro mit mve mrb mch mva) : CtL l y_MO_get b_MO_get 2 (some .long) rm_MO_get G (cM G ad mrf msl mst men mnw mdn mpw mwr mrs mdr mtb mrc mnx mro mit mve mrb mch mva mic mlb mrw mnb mlk mnk mmd) sz [.ref (ad 0), .int p0] (eqP (f_MO_get p0 mrf msl mst men mnw mdn mrs mro mit mve mrb mch mva)) (fun u : Int32 => (cM G ad u msl mst men mnw mdn mpw mwr mrs mdr mtb mrc mnx mro mit mve mrb mch mva mic mlb mrw mnb mlk mnk mmd)) := by
  generalize hres : f_MO_get p0 mrf msl mst men mnw mdn mrs mro mit mve mrb mch mva = res
  refine Met_of (Qc := fun A => va_Ql (eqP res) (Wb G A (fun u : Int32 => (cM G ad u msl mst men mnw mdn mpw mwr mrs mdr mtb mrc mnx mro mit mve mrb mch mva mic mlb mrw mnb mlk mnk mmd))) A) (by decide) (Nat.le_of_ble_eq_true rfl) ?_
  intro p e s m below meth c hadm hx hb hr hml hown hlocks ht hK A hA hP hD hS ls hl
  have hC : Cx p l e s m (([.ref (ad 0), .int p0] : List Value)).toArray meth c y_MO_get b_MO_get 2 (some .long) "BookTreesModel" G A := ⟨hx, hb, hr, hml, hown, hlocks, ht, hK, hA⟩
  have hown : s.vm.findClass "BookTreesModel" = some m.cls := hown
  have hl : lv_has ls 2 [(0, .ref (ad 0)), (1, .int p0)] := hl
  rw [f_MO_get] at hres
  rw [ok_MO_get] at hok
  refine lv_aload_n hx hb d_MO_get_0 rfl (lv_at hl 0 rfl) ?_
  refine lv_iload_n hx hb d_MO_get_1 rfl (lv_at hl 1 rfl) ?_
  refine go_iz (run_S hx hb hml hown ht hK hP hD (c_MO_isKey) (cw_S ht km_MO_98 kt_MO_isKey ini_MO kd_MO_isKey kh_MO_isKey ⟨Nat.le_of_ble_eq_true rfl, Nat.le_of_ble_eq_true rfl⟩ rfl rfl) (As := [.int p0]) (rest := [.ref (ad 0)]) rfl hl.1 rfl (Nat.le_of_ble_eq_true rfl) d_MO_get_2 ⟨Nat.zero_le _, Nat.zero_le _⟩) hD hS hA (fun z_2 H locs hz_2 hP hD hS => ?_)
  have hres := bindc_eq hz_2 hres
  have hok := bindp_eq hz_2 hok
  have hP : va_P G.1 classes (cM G ad mrf msl mst men mnw mdn mpw mwr mrs mdr mtb mrc mnx mro mit mve mrb mch mva mic mlb mrw mnb mlk mnk mmd) H := hP
  have hD : va_D A (cM G ad mrf msl mst men mnw mdn mpw mwr mrs mdr mtb mrc mnx mro mit mve mrb mch mva mic mlb mrw mnb mlk mnk mmd) := hD
  refine go_iz (run_V hx hb hml hown ht hK hP hD (c_MO_goes) (cw_V ht km_MO_101 ki_MO_goes ks_MO_goes ini_MO kd_MO_goes kh_MO_goes ⟨Nat.le_of_ble_eq_true rfl, Nat.le_of_ble_eq_true rfl⟩ rfl rfl) (q0 := 0) (ci := 6) (As := [.int z_2.1]) (rest := []) rfl rfl rfl hl.1 rfl (Nat.le_of_ble_eq_true rfl) d_MO_get_5 ⟨Nat.zero_le _, Nat.zero_le _⟩) hD hS hA (fun z_5 H locs hz_5 hP hD hS => ?_)
  have hres := bindc_eq hz_5 hres
  have hok := bindp_eq hz_5 hok
  have hP : va_P G.1 classes (cM G ad z_5.2 msl mst men mnw mdn mpw mwr mrs mdr mtb mrc mnx mro mit mve mrb mch mva mic mlb mrw mnb mlk mnk mmd) H := hP
  have hD : va_D A (cM G ad z_5.2 msl mst men mnw mdn mpw mwr mrs mdr mtb mrc mnx mro mit mve mrb mch mva mic mlb mrw mnb mlk mnk mmd) := hD
  refine lv_if_ne (tgt := 13) hx hb d_MO_get_8 (by decide) (fun c_8 => ?_) (fun c_8 => ?_)
  · have hres := it_f c_8 hres
    have hok := hok.2 c_8
    refine lv_aload_n hx hb d_MO_get_13 rfl (lv_at hl 0 rfl) ?_
    refine va_get (D := G.1) (ci := 6) (C := R_MO) (T := F_MO) (N := 26) hx hb ht in_MO hown hK hP 0 rfl rfl 14 (by decide) (ht _ kf_MO_27) (fun _ h9 => h9) rfl d_MO_get_14 ?_
    refine lv_iload_n hx hb d_MO_get_17 rfl (lv_at hl 1 rfl) ?_
    obtain ⟨hi_18, hok⟩ := hok
    refine va_iald hx hb hK hP 5 0 rfl rfl hi_18 d_MO_get_18 ?_
    refine lv_iconst (v := (1 : Int32)) hx hb d_MO_get_19 (by decide) ?_
    refine lv_icmp_ne (tgt := 33) hx hb d_MO_get_20 (by decide) (fun c_20 => ?_) (fun c_20 => ?_)
    · have hres := it_f c_20 hres
      have hok := hok.2 c_20
      refine lv_aload_n hx hb d_MO_get_33 rfl (lv_at hl 0 rfl) ?_
      refine va_get (D := G.1) (ci := 6) (C := R_MO) (T := F_MO) (N := 26) hx hb ht in_MO hown hK hP 0 rfl rfl 14 (by decide) (ht _ kf_MO_27) (fun _ h9 => h9) rfl d_MO_get_34 ?_
      refine lv_iload_n hx hb d_MO_get_37 rfl (lv_at hl 1 rfl) ?_
      obtain ⟨hi_38, hok⟩ := hok
      refine va_iald hx hb hK hP 5 0 rfl rfl hi_38 d_MO_get_38 ?_
      refine lv_iconst (v := (2 : Int32)) hx hb d_MO_get_39 (by decide) ?_
      refine lv_icmp_ne (tgt := 49) hx hb d_MO_get_40 (by decide) (fun c_40 => ?_) (fun c_40 => ?_)
      · have hres := it_f c_40 hres
        have hok := hok.2 c_40
        refine lv_aload_n hx hb d_MO_get_49 rfl (lv_at hl 0 rfl) ?_
        refine lv_aload_n hx hb d_MO_get_50 rfl (lv_at hl 0 rfl) ?_
        refine va_get (D := G.1) (ci := 6) (C := R_MO) (T := F_MO) (N := 26) hx hb ht in_MO hown hK hP 0 rfl rfl 6 (by decide) (ht _ kf_MO_137) (fun _ h9 => h9) rfl d_MO_get_51 ?_
        refine lv_iload_n hx hb d_MO_get_54 rfl (lv_at hl 1 rfl) ?_
        have hk_55 := hok
        refine go_lz (run_V hx hb hml hown ht hK hP hD (c_MO_look hk_55) (cw_V ht km_MO_140 ki_MO_look ks_MO_look ini_MO kd_MO_look kh_MO_look ⟨Nat.le_of_ble_eq_true rfl, Nat.le_of_ble_eq_true rfl⟩ rfl rfl) (q0 := 0) (ci := 6) (As := [.int mnw, .int p0]) (rest := []) rfl rfl rfl hl.1 rfl (Nat.le_of_ble_eq_true rfl) d_MO_get_55 ⟨Nat.zero_le _, Nat.zero_le _⟩) hD hS hA (fun z_55 H locs hz_55 hP hD hS => ?_)
        have hres := bindc_eq hz_55 hres
        have hP : va_P G.1 classes (cM G ad z_5.2 msl mst men mnw mdn mpw mwr mrs mdr mtb mrc mnx mro mit mve mrb mch mva mic mlb mrw mnb mlk mnk mmd) H := hP
        have hD : va_D A (cM G ad z_5.2 msl mst men mnw mdn mpw mwr mrs mdr mtb mrc mnx mro mit mve mrb mch mva mic mlb mrw mnb mlk mnk mmd) := hD
        exact en_l (w1 := (fun u : Int32 => (cM G ad u msl mst men mnw mdn mpw mwr mrs mdr mtb mrc mnx mro mit mve mrb mch mva mic mlb mrw mnb mlk mnk mmd))) z_5.2 hx hb hr hlocks hK hP hD hS hres d_MO_get_58
      · have hres := it_t c_40 hres
        refine lv_ldc2 hx hb hown (ht _ kl_MO_122) d_MO_get_43 ?_
        refine lv_goto (tgt := 58) hx hb d_MO_get_46 (by decide) ?_
        exact en_l (w1 := (fun u : Int32 => (cM G ad u msl mst men mnw mdn mpw mwr mrs mdr mtb mrc mnx mro mit mve mrb mch mva mic mlb mrw mnb mlk mnk mmd))) z_5.2 hx hb hr hlocks hK hP hD hS hres d_MO_get_58
    · have hres := it_t c_20 hres
      have hok := hok.1 c_20
      refine lv_aload_n hx hb d_MO_get_23 rfl (lv_at hl 0 rfl) ?_
      refine va_get (D := G.1) (ci := 6) (C := R_MO) (T := F_MO) (N := 26) hx hb ht in_MO hown hK hP 0 rfl rfl 15 (by decide) (ht _ kf_MO_30) (fun _ h9 => h9) rfl d_MO_get_24 ?_
      refine lv_iload_n hx hb d_MO_get_27 rfl (lv_at hl 1 rfl) ?_
      have hi_28 := hok
      refine va_iald hx hb hK hP 6 0 rfl rfl hi_28 d_MO_get_28 ?_
      refine lv_i2l hx hb d_MO_get_29 rfl ?_
      refine lv_goto (tgt := 58) hx hb d_MO_get_30 (by decide) ?_
      exact en_l (w1 := (fun u : Int32 => (cM G ad u msl mst men mnw mdn mpw mwr mrs mdr mtb mrc mnx mro mit mve mrb mch mva mic mlb mrw mnb mlk mnk mmd))) z_5.2 hx hb hr hlocks hK hP hD hS hres d_MO_get_58
  · have hres := it_t c_8 hres
    refine lv_lconst (v := (0 : Int64)) hx hb d_MO_get_11 (by decide) ?_
    exact en_l (w1 := (fun u : Int32 => (cM G ad u msl mst men mnw mdn mpw mwr mrs mdr mtb mrc mnx mro mit mve mrb mch mva mic mlb mrw mnb mlk mnk mmd))) z_5.2 hx hb hr hlocks hK hP hD hS hres d_MO_get_12
/-! ===== BookTreesModel.isKept(I)Z ===== -/
abbrev rm_MO_isKept : Room := { frames := 1, cells := 0, slots := 0, locals := 23 }
def f_MO_isKept (p0 : Int32) (mst : Int32) (mrs : Int32) (mve : (Nat → Int32)) (mrb : (Nat → Int32)) : Int32 × Unit := if p0 = 0 then (if mst = 0 then ((1 : Int32), ()) else ((0 : Int32), ())) else bindc (f_MO_rootOf p0 mrs mve mrb) (fun z_21 => if z_21.1 < 0 then ((0 : Int32), ()) else ((1 : Int32), ()))
def ok_MO_isKept (p0 : Int32) (mst : Int32) (mrs : Int32) (mve : (Nat → Int32)) (mrb : (Nat → Int32)) : Prop := (p0 = 0 → True) ∧ (¬ p0 = 0 → ok_MO_rootOf p0 mrs mve mrb)
set_option maxHeartbeats 4000000 in
set_option maxRecDepth 100000 in
theorem c_MO_isKept {l : Launch} {G : GG} {ad : Nat → Nat} {sz : Nat} {mrf : Int32} {msl : Int32} {mst : Int32} {men : Int32} {mnw : Int32} {mdn : Int32} {mpw : Int32} {mwr : Int32} {mrs : Int32} {mdr : Int32} {mtb : Int32} {mrc : Int32} {mnx : Int32} {mro : (Nat → Int32)} {mit : (Nat → Int32)} {mve : (Nat → Int32)} {mrb : (Nat → Int32)} {mch : (Nat → Int32)} {mva : (Nat → Int32)} {mic : (Nat → Int32)} {mlb : (Nat → Int32)} {mrw : (Nat → Int32)} {mnb : (Nat → Int32)} {mlk : (Nat → Int32)} {mnk : (Nat → Int32)} {mmd : (Nat → Int32)} {p0 : Int32} (hok : ok_MO_isKept p0 mst mrs mve mrb) : CtI l y_MO_isKept b_MO_isKept 2 (some .boolean) rm_MO_isKept G (cM G ad mrf msl mst men mnw mdn mpw mwr mrs mdr mtb mrc mnx mro mit mve mrb mch mva mic mlb mrw mnb mlk mnk mmd) sz [.ref (ad 0), .int p0] (eqP (f_MO_isKept p0 mst mrs mve mrb)) (fun _ : Unit => (cM G ad mrf msl mst men mnw mdn mpw mwr mrs mdr mtb mrc mnx mro mit mve mrb mch mva mic mlb mrw mnb mlk mnk mmd)) := by
  generalize hres : f_MO_isKept p0 mst mrs mve mrb = res
  refine Met_of (Qc := fun A => va_Qi (eqP res) (Wb G A (fun _ : Unit => (cM G ad mrf msl mst men mnw mdn mpw mwr mrs mdr mtb mrc mnx mro mit mve mrb mch mva mic mlb mrw mnb mlk mnk mmd))) A) (by decide) (Nat.le_of_ble_eq_true rfl) ?_
  intro p e s m below meth c hadm hx hb hr hml hown hlocks ht hK A hA hP hD hS ls hl
  have hC : Cx p l e s m (([.ref (ad 0), .int p0] : List Value)).toArray meth c y_MO_isKept b_MO_isKept 2 (some .boolean) "BookTreesModel" G A := ⟨hx, hb, hr, hml, hown, hlocks, ht, hK, hA⟩
  have hown : s.vm.findClass "BookTreesModel" = some m.cls := hown
  have hl : lv_has ls 2 [(0, .ref (ad 0)), (1, .int p0)] := hl
  rw [f_MO_isKept] at hres
  rw [ok_MO_isKept] at hok
  refine lv_iload_n hx hb d_MO_isKept_0 rfl (lv_at hl 1 rfl) ?_
  refine lv_if_ne (tgt := 19) hx hb d_MO_isKept_1 (by decide) (fun c_1 => ?_) (fun c_1 => ?_)
  · have hres := it_f c_1 hres
    have hok := hok.2 c_1
    refine lv_aload_n hx hb d_MO_isKept_19 rfl (lv_at hl 0 rfl) ?_
    refine lv_iload_n hx hb d_MO_isKept_20 rfl (lv_at hl 1 rfl) ?_
    have hk_21 := hok
    refine go_iz (run_V hx hb hml hown ht hK hP hD (c_MO_rootOf hk_21) (cw_V ht km_MO_119 ki_MO_rootOf ks_MO_rootOf ini_MO kd_MO_rootOf kh_MO_rootOf ⟨Nat.le_of_ble_eq_true rfl, Nat.le_of_ble_eq_true rfl⟩ rfl rfl) (q0 := 0) (ci := 6) (As := [.int p0]) (rest := []) rfl rfl rfl hl.1 rfl (Nat.le_of_ble_eq_true rfl) d_MO_isKept_21 ⟨Nat.zero_le _, Nat.zero_le _⟩) hD hS hA (fun z_21 H locs hz_21 hP hD hS => ?_)
    have hres := bindc_eq hz_21 hres
    have hP : va_P G.1 classes (cM G ad mrf msl mst men mnw mdn mpw mwr mrs mdr mtb mrc mnx mro mit mve mrb mch mva mic mlb mrw mnb mlk mnk mmd) H := hP
    have hD : va_D A (cM G ad mrf msl mst men mnw mdn mpw mwr mrs mdr mtb mrc mnx mro mit mve mrb mch mva mic mlb mrw mnb mlk mnk mmd) := hD
    refine lv_if_lt (tgt := 31) hx hb d_MO_isKept_24 (by decide) (fun c_24 => ?_) (fun c_24 => ?_)
    · have hres := it_t c_24 hres
      refine lv_iconst (v := (0 : Int32)) hx hb d_MO_isKept_31 (by decide) ?_
      exact en_z (w1 := (fun _ : Unit => (cM G ad mrf msl mst men mnw mdn mpw mwr mrs mdr mtb mrc mnx mro mit mve mrb mch mva mic mlb mrw mnb mlk mnk mmd))) () hx hb hr hlocks hK hP hD hS hres isB_0 d_MO_isKept_32
    · have hres := it_f c_24 hres
      refine lv_iconst (v := (1 : Int32)) hx hb d_MO_isKept_27 (by decide) ?_
      refine lv_goto (tgt := 32) hx hb d_MO_isKept_28 (by decide) ?_
      exact en_z (w1 := (fun _ : Unit => (cM G ad mrf msl mst men mnw mdn mpw mwr mrs mdr mtb mrc mnx mro mit mve mrb mch mva mic mlb mrw mnb mlk mnk mmd))) () hx hb hr hlocks hK hP hD hS hres isB_1 d_MO_isKept_32
  · have hres := it_t c_1 hres
    refine lv_aload_n hx hb d_MO_isKept_4 rfl (lv_at hl 0 rfl) ?_
    refine va_get (D := G.1) (ci := 6) (C := R_MO) (T := F_MO) (N := 26) hx hb ht in_MO hown hK hP 0 rfl rfl 4 (by decide) (ht _ kf_MO_64) (fun _ h9 => h9) rfl d_MO_isKept_5 ?_
    refine lv_if_ne (tgt := 15) hx hb d_MO_isKept_8 (by decide) (fun c_8 => ?_) (fun c_8 => ?_)
    · have hres := it_f c_8 hres
      refine lv_iconst (v := (0 : Int32)) hx hb d_MO_isKept_15 (by decide) ?_
      refine lv_goto (tgt := 32) hx hb d_MO_isKept_16 (by decide) ?_
      exact en_z (w1 := (fun _ : Unit => (cM G ad mrf msl mst men mnw mdn mpw mwr mrs mdr mtb mrc mnx mro mit mve mrb mch mva mic mlb mrw mnb mlk mnk mmd))) () hx hb hr hlocks hK hP hD hS hres isB_0 d_MO_isKept_32
    · have hres := it_t c_8 hres
      refine lv_iconst (v := (1 : Int32)) hx hb d_MO_isKept_11 (by decide) ?_
      refine lv_goto (tgt := 32) hx hb d_MO_isKept_12 (by decide) ?_
      exact en_z (w1 := (fun _ : Unit => (cM G ad mrf msl mst men mnw mdn mpw mwr mrs mdr mtb mrc mnx mro mit mve mrb mch mva mic mlb mrw mnb mlk mnk mmd))) () hx hb hr hlocks hK hP hD hS hres isB_1 d_MO_isKept_32
/-! ===== BookTreesModel.find(II)J ===== -/
abbrev rm_MO_find : Room := { frames := 4, cells := 0, slots := 0, locals := 97 }
def f_MO_find (p0 : Int32) (p1 : Int32) (mrf : Int32) (msl : Int32) (mst : Int32) (men : Int32) (mdn : Int32) (mrs : Int32) (mro : (Nat → Int32)) (mit : (Nat → Int32)) (mve : (Nat → Int32)) (mrb : (Nat → Int32)) : Int64 × Int32 := bindc (f_MO_isKept p0 mst mrs mve mrb) (fun z_3 => if z_3.1 = 0 then bindc (f_MO_goes (0 : Int32) mrf mdn) (fun z_21 => if z_21.1 = 0 then ((0 : Int64), z_21.2) else bindc (f_MO_look p0 p1 msl mst men mrs mro mit mve mrb) (fun z_30 => (z_30.1, z_21.2))) else bindc (f_MO_isKey p1) (fun z_10 => if z_10.1 = 0 then bindc (f_MO_goes (0 : Int32) mrf mdn) (fun z_21 => if z_21.1 = 0 then ((0 : Int64), z_21.2) else bindc (f_MO_look p0 p1 msl mst men mrs mro mit mve mrb) (fun z_30 => (z_30.1, z_21.2))) else bindc (f_MO_goes (1 : Int32) mrf mdn) (fun z_21 => if z_21.1 = 0 then ((0 : Int64), z_21.2) else bindc (f_MO_look p0 p1 msl mst men mrs mro mit mve mrb) (fun z_30 => (z_30.1, z_21.2)))))
def ok_MO_find (p0 : Int32) (p1 : Int32) (mrf : Int32) (msl : Int32) (mst : Int32) (men : Int32) (mdn : Int32) (mrs : Int32) (mro : (Nat → Int32)) (mit : (Nat → Int32)) (mve : (Nat → Int32)) (mrb : (Nat → Int32)) : Prop := ok_MO_isKept p0 mst mrs mve mrb ∧ bindp (f_MO_isKept p0 mst mrs mve mrb) (fun z_3 => (z_3.1 = 0 → bindp (f_MO_goes (0 : Int32) mrf mdn) (fun z_21 => (z_21.1 = 0 → True) ∧ (¬ z_21.1 = 0 → ok_MO_look p0 p1 msl mst men mrs mro mit mve mrb))) ∧ (¬ z_3.1 = 0 → bindp (f_MO_isKey p1) (fun z_10 => (z_10.1 = 0 → bindp (f_MO_goes (0 : Int32) mrf mdn) (fun z_21 => (z_21.1 = 0 → True) ∧ (¬ z_21.1 = 0 → ok_MO_look p0 p1 msl mst men mrs mro mit mve mrb))) ∧ (¬ z_10.1 = 0 → bindp (f_MO_goes (1 : Int32) mrf mdn) (fun z_21 => (z_21.1 = 0 → True) ∧ (¬ z_21.1 = 0 → ok_MO_look p0 p1 msl mst men mrs mro mit mve mrb))))))
set_option maxHeartbeats 4000000 in
set_option maxRecDepth 100000 in
theorem c_MO_find {l : Launch} {G : GG} {ad : Nat → Nat} {sz : Nat} {mrf : Int32} {msl : Int32} {mst : Int32} {men : Int32} {mnw : Int32} {mdn : Int32} {mpw : Int32} {mwr : Int32} {mrs : Int32} {mdr : Int32} {mtb : Int32} {mrc : Int32} {mnx : Int32} {mro : (Nat → Int32)} {mit : (Nat → Int32)} {mve : (Nat → Int32)} {mrb : (Nat → Int32)} {mch : (Nat → Int32)} {mva : (Nat → Int32)} {mic : (Nat → Int32)} {mlb : (Nat → Int32)} {mrw : (Nat → Int32)} {mnb : (Nat → Int32)} {mlk : (Nat → Int32)} {mnk : (Nat → Int32)} {mmd : (Nat → Int32)} {p0 : Int32} {p1 : Int32} (hok : ok_MO_find p0 p1 mrf msl mst men mdn mrs mro mit mve mrb) : CtL l y_MO_find b_MO_find 3 (some .long) rm_MO_find G (cM G ad mrf msl mst men mnw mdn mpw mwr mrs mdr mtb mrc mnx mro mit mve mrb mch mva mic mlb mrw mnb mlk mnk mmd) sz [.ref (ad 0), .int p0, .int p1] (eqP (f_MO_find p0 p1 mrf msl mst men mdn mrs mro mit mve mrb)) (fun u : Int32 => (cM G ad u msl mst men mnw mdn mpw mwr mrs mdr mtb mrc mnx mro mit mve mrb mch mva mic mlb mrw mnb mlk mnk mmd)) := by
  generalize hres : f_MO_find p0 p1 mrf msl mst men mdn mrs mro mit mve mrb = res
  refine Met_of (Qc := fun A => va_Ql (eqP res) (Wb G A (fun u : Int32 => (cM G ad u msl mst men mnw mdn mpw mwr mrs mdr mtb mrc mnx mro mit mve mrb mch mva mic mlb mrw mnb mlk mnk mmd))) A) (by decide) (Nat.le_of_ble_eq_true rfl) ?_
  intro p e s m below meth c hadm hx hb hr hml hown hlocks ht hK A hA hP hD hS ls hl
  have hC : Cx p l e s m (([.ref (ad 0), .int p0, .int p1] : List Value)).toArray meth c y_MO_find b_MO_find 3 (some .long) "BookTreesModel" G A := ⟨hx, hb, hr, hml, hown, hlocks, ht, hK, hA⟩
  have hown : s.vm.findClass "BookTreesModel" = some m.cls := hown
  have hl : lv_has ls 3 [(0, .ref (ad 0)), (1, .int p0), (2, .int p1)] := hl
  rw [f_MO_find] at hres
  rw [ok_MO_find] at hok
  refine lv_aload_n hx hb d_MO_find_0 rfl (lv_at hl 0 rfl) ?_
  refine lv_aload_n hx hb d_MO_find_1 rfl (lv_at hl 0 rfl) ?_
  refine lv_iload_n hx hb d_MO_find_2 rfl (lv_at hl 1 rfl) ?_
  obtain ⟨hk_3, hok⟩ := hok
  refine go_iz (run_V hx hb hml hown ht hK hP hD (c_MO_isKept hk_3) (cw_V ht km_MO_144 ki_MO_isKept ks_MO_isKept ini_MO kd_MO_isKept kh_MO_isKept ⟨Nat.le_of_ble_eq_true rfl, Nat.le_of_ble_eq_true rfl⟩ rfl rfl) (q0 := 0) (ci := 6) (As := [.int p0]) (rest := [.ref (ad 0)]) rfl rfl rfl hl.1 rfl (Nat.le_of_ble_eq_true rfl) d_MO_find_3 ⟨Nat.zero_le _, Nat.zero_le _⟩) hD hS hA (fun z_3 H locs hz_3 hP hD hS => ?_)
  have hres := bindc_eq hz_3 hres
  have hok := bindp_eq hz_3 hok
  have hP : va_P G.1 classes (cM G ad mrf msl mst men mnw mdn mpw mwr mrs mdr mtb mrc mnx mro mit mve mrb mch mva mic mlb mrw mnb mlk mnk mmd) H := hP
  have hD : va_D A (cM G ad mrf msl mst men mnw mdn mpw mwr mrs mdr mtb mrc mnx mro mit mve mrb mch mva mic mlb mrw mnb mlk mnk mmd) := hD
  refine lv_if_eq (tgt := 20) hx hb d_MO_find_6 (by decide) (fun c_6 => ?_) (fun c_6 => ?_)
  · have hres := it_t c_6 hres
    have hok := hok.1 c_6
    refine lv_iconst (v := (0 : Int32)) hx hb d_MO_find_20 (by decide) ?_
    refine go_iz (run_V hx hb hml hown ht hK hP hD (c_MO_goes) (cw_V ht km_MO_101 ki_MO_goes ks_MO_goes ini_MO kd_MO_goes kh_MO_goes ⟨Nat.le_of_ble_eq_true rfl, Nat.le_of_ble_eq_true rfl⟩ rfl rfl) (q0 := 0) (ci := 6) (As := [.int (0 : Int32)]) (rest := []) rfl rfl rfl hl.1 rfl (Nat.le_of_ble_eq_true rfl) d_MO_find_21 ⟨Nat.zero_le _, Nat.zero_le _⟩) hD hS hA (fun z_21 H locs hz_21 hP hD hS => ?_)
    have hres := bindc_eq hz_21 hres
    have hok := bindp_eq hz_21 hok
    have hP : va_P G.1 classes (cM G ad z_21.2 msl mst men mnw mdn mpw mwr mrs mdr mtb mrc mnx mro mit mve mrb mch mva mic mlb mrw mnb mlk mnk mmd) H := hP
    have hD : va_D A (cM G ad z_21.2 msl mst men mnw mdn mpw mwr mrs mdr mtb mrc mnx mro mit mve mrb mch mva mic mlb mrw mnb mlk mnk mmd) := hD
    refine lv_if_eq (tgt := 36) hx hb d_MO_find_24 (by decide) (fun c_24 => ?_) (fun c_24 => ?_)
    · have hres := it_t c_24 hres
      refine lv_lconst (v := (0 : Int64)) hx hb d_MO_find_36 (by decide) ?_
      exact en_l (w1 := (fun u : Int32 => (cM G ad u msl mst men mnw mdn mpw mwr mrs mdr mtb mrc mnx mro mit mve mrb mch mva mic mlb mrw mnb mlk mnk mmd))) z_21.2 hx hb hr hlocks hK hP hD hS hres d_MO_find_37
    · have hres := it_f c_24 hres
      have hok := hok.2 c_24
      refine lv_aload_n hx hb d_MO_find_27 rfl (lv_at hl 0 rfl) ?_
      refine lv_iload_n hx hb d_MO_find_28 rfl (lv_at hl 1 rfl) ?_
      refine lv_iload_n hx hb d_MO_find_29 rfl (lv_at hl 2 rfl) ?_
      have hk_30 := hok
      refine go_lz (run_V hx hb hml hown ht hK hP hD (c_MO_look hk_30) (cw_V ht km_MO_140 ki_MO_look ks_MO_look ini_MO kd_MO_look kh_MO_look ⟨Nat.le_of_ble_eq_true rfl, Nat.le_of_ble_eq_true rfl⟩ rfl rfl) (q0 := 0) (ci := 6) (As := [.int p0, .int p1]) (rest := []) rfl rfl rfl hl.1 rfl (Nat.le_of_ble_eq_true rfl) d_MO_find_30 ⟨Nat.zero_le _, Nat.zero_le _⟩) hD hS hA (fun z_30 H locs hz_30 hP hD hS => ?_)
      have hres := bindc_eq hz_30 hres
      have hP : va_P G.1 classes (cM G ad z_21.2 msl mst men mnw mdn mpw mwr mrs mdr mtb mrc mnx mro mit mve mrb mch mva mic mlb mrw mnb mlk mnk mmd) H := hP
      have hD : va_D A (cM G ad z_21.2 msl mst men mnw mdn mpw mwr mrs mdr mtb mrc mnx mro mit mve mrb mch mva mic mlb mrw mnb mlk mnk mmd) := hD
      refine lv_goto (tgt := 37) hx hb d_MO_find_33 (by decide) ?_
      exact en_l (w1 := (fun u : Int32 => (cM G ad u msl mst men mnw mdn mpw mwr mrs mdr mtb mrc mnx mro mit mve mrb mch mva mic mlb mrw mnb mlk mnk mmd))) z_21.2 hx hb hr hlocks hK hP hD hS hres d_MO_find_37
  · have hres := it_f c_6 hres
    have hok := hok.2 c_6
    refine lv_iload_n hx hb d_MO_find_9 rfl (lv_at hl 2 rfl) ?_
    refine go_iz (run_S hx hb hml hown ht hK hP hD (c_MO_isKey) (cw_S ht km_MO_98 kt_MO_isKey ini_MO kd_MO_isKey kh_MO_isKey ⟨Nat.le_of_ble_eq_true rfl, Nat.le_of_ble_eq_true rfl⟩ rfl rfl) (As := [.int p1]) (rest := [.ref (ad 0)]) rfl hl.1 rfl (Nat.le_of_ble_eq_true rfl) d_MO_find_10 ⟨Nat.zero_le _, Nat.zero_le _⟩) hD hS hA (fun z_10 H locs hz_10 hP hD hS => ?_)
    have hres := bindc_eq hz_10 hres
    have hok := bindp_eq hz_10 hok
    have hP : va_P G.1 classes (cM G ad mrf msl mst men mnw mdn mpw mwr mrs mdr mtb mrc mnx mro mit mve mrb mch mva mic mlb mrw mnb mlk mnk mmd) H := hP
    have hD : va_D A (cM G ad mrf msl mst men mnw mdn mpw mwr mrs mdr mtb mrc mnx mro mit mve mrb mch mva mic mlb mrw mnb mlk mnk mmd) := hD
    refine lv_if_eq (tgt := 20) hx hb d_MO_find_13 (by decide) (fun c_13 => ?_) (fun c_13 => ?_)
    · have hres := it_t c_13 hres
      have hok := hok.1 c_13
      refine lv_iconst (v := (0 : Int32)) hx hb d_MO_find_20 (by decide) ?_
      refine go_iz (run_V hx hb hml hown ht hK hP hD (c_MO_goes) (cw_V ht km_MO_101 ki_MO_goes ks_MO_goes ini_MO kd_MO_goes kh_MO_goes ⟨Nat.le_of_ble_eq_true rfl, Nat.le_of_ble_eq_true rfl⟩ rfl rfl) (q0 := 0) (ci := 6) (As := [.int (0 : Int32)]) (rest := []) rfl rfl rfl hl.1 rfl (Nat.le_of_ble_eq_true rfl) d_MO_find_21 ⟨Nat.zero_le _, Nat.zero_le _⟩) hD hS hA (fun z_21 H locs hz_21 hP hD hS => ?_)
      have hres := bindc_eq hz_21 hres
      have hok := bindp_eq hz_21 hok
      have hP : va_P G.1 classes (cM G ad z_21.2 msl mst men mnw mdn mpw mwr mrs mdr mtb mrc mnx mro mit mve mrb mch mva mic mlb mrw mnb mlk mnk mmd) H := hP
      have hD : va_D A (cM G ad z_21.2 msl mst men mnw mdn mpw mwr mrs mdr mtb mrc mnx mro mit mve mrb mch mva mic mlb mrw mnb mlk mnk mmd) := hD
      refine lv_if_eq (tgt := 36) hx hb d_MO_find_24 (by decide) (fun c_24 => ?_) (fun c_24 => ?_)
      · have hres := it_t c_24 hres
        refine lv_lconst (v := (0 : Int64)) hx hb d_MO_find_36 (by decide) ?_
        exact en_l (w1 := (fun u : Int32 => (cM G ad u msl mst men mnw mdn mpw mwr mrs mdr mtb mrc mnx mro mit mve mrb mch mva mic mlb mrw mnb mlk mnk mmd))) z_21.2 hx hb hr hlocks hK hP hD hS hres d_MO_find_37
      · have hres := it_f c_24 hres
        have hok := hok.2 c_24
        refine lv_aload_n hx hb d_MO_find_27 rfl (lv_at hl 0 rfl) ?_
        refine lv_iload_n hx hb d_MO_find_28 rfl (lv_at hl 1 rfl) ?_
        refine lv_iload_n hx hb d_MO_find_29 rfl (lv_at hl 2 rfl) ?_
        have hk_30 := hok
        refine go_lz (run_V hx hb hml hown ht hK hP hD (c_MO_look hk_30) (cw_V ht km_MO_140 ki_MO_look ks_MO_look ini_MO kd_MO_look kh_MO_look ⟨Nat.le_of_ble_eq_true rfl, Nat.le_of_ble_eq_true rfl⟩ rfl rfl) (q0 := 0) (ci := 6) (As := [.int p0, .int p1]) (rest := []) rfl rfl rfl hl.1 rfl (Nat.le_of_ble_eq_true rfl) d_MO_find_30 ⟨Nat.zero_le _, Nat.zero_le _⟩) hD hS hA (fun z_30 H locs hz_30 hP hD hS => ?_)
        have hres := bindc_eq hz_30 hres
        have hP : va_P G.1 classes (cM G ad z_21.2 msl mst men mnw mdn mpw mwr mrs mdr mtb mrc mnx mro mit mve mrb mch mva mic mlb mrw mnb mlk mnk mmd) H := hP
        have hD : va_D A (cM G ad z_21.2 msl mst men mnw mdn mpw mwr mrs mdr mtb mrc mnx mro mit mve mrb mch mva mic mlb mrw mnb mlk mnk mmd) := hD
        refine lv_goto (tgt := 37) hx hb d_MO_find_33 (by decide) ?_
        exact en_l (w1 := (fun u : Int32 => (cM G ad u msl mst men mnw mdn mpw mwr mrs mdr mtb mrc mnx mro mit mve mrb mch mva mic mlb mrw mnb mlk mnk mmd))) z_21.2 hx hb hr hlocks hK hP hD hS hres d_MO_find_37
    · have hres := it_f c_13 hres
      have hok := hok.2 c_13
      refine lv_iconst (v := (1 : Int32)) hx hb d_MO_find_16 (by decide) ?_
      refine lv_goto (tgt := 21) hx hb d_MO_find_17 (by decide) ?_
      refine go_iz (run_V hx hb hml hown ht hK hP hD (c_MO_goes) (cw_V ht km_MO_101 ki_MO_goes ks_MO_goes ini_MO kd_MO_goes kh_MO_goes ⟨Nat.le_of_ble_eq_true rfl, Nat.le_of_ble_eq_true rfl⟩ rfl rfl) (q0 := 0) (ci := 6) (As := [.int (1 : Int32)]) (rest := []) rfl rfl rfl hl.1 rfl (Nat.le_of_ble_eq_true rfl) d_MO_find_21 ⟨Nat.zero_le _, Nat.zero_le _⟩) hD hS hA (fun z_21 H locs hz_21 hP hD hS => ?_)
      have hres := bindc_eq hz_21 hres
      have hok := bindp_eq hz_21 hok
      have hP : va_P G.1 classes (cM G ad z_21.2 msl mst men mnw mdn mpw mwr mrs mdr mtb mrc mnx mro mit mve mrb mch mva mic mlb mrw mnb mlk mnk mmd) H := hP
      have hD : va_D A (cM G ad z_21.2 msl mst men mnw mdn mpw mwr mrs mdr mtb mrc mnx mro mit mve mrb mch mva mic mlb mrw mnb mlk mnk mmd) := hD
      refine lv_if_eq (tgt := 36) hx hb d_MO_find_24 (by decide) (fun c_24 => ?_) (fun c_24 => ?_)
      · have hres := it_t c_24 hres
        refine lv_lconst (v := (0 : Int64)) hx hb d_MO_find_36 (by decide) ?_
        exact en_l (w1 := (fun u : Int32 => (cM G ad u msl mst men mnw mdn mpw mwr mrs mdr mtb mrc mnx mro mit mve mrb mch mva mic mlb mrw mnb mlk mnk mmd))) z_21.2 hx hb hr hlocks hK hP hD hS hres d_MO_find_37
      · have hres := it_f c_24 hres
        have hok := hok.2 c_24
        refine lv_aload_n hx hb d_MO_find_27 rfl (lv_at hl 0 rfl) ?_
        refine lv_iload_n hx hb d_MO_find_28 rfl (lv_at hl 1 rfl) ?_
        refine lv_iload_n hx hb d_MO_find_29 rfl (lv_at hl 2 rfl) ?_
        have hk_30 := hok
        refine go_lz (run_V hx hb hml hown ht hK hP hD (c_MO_look hk_30) (cw_V ht km_MO_140 ki_MO_look ks_MO_look ini_MO kd_MO_look kh_MO_look ⟨Nat.le_of_ble_eq_true rfl, Nat.le_of_ble_eq_true rfl⟩ rfl rfl) (q0 := 0) (ci := 6) (As := [.int p0, .int p1]) (rest := []) rfl rfl rfl hl.1 rfl (Nat.le_of_ble_eq_true rfl) d_MO_find_30 ⟨Nat.zero_le _, Nat.zero_le _⟩) hD hS hA (fun z_30 H locs hz_30 hP hD hS => ?_)
        have hres := bindc_eq hz_30 hres
        have hP : va_P G.1 classes (cM G ad z_21.2 msl mst men mnw mdn mpw mwr mrs mdr mtb mrc mnx mro mit mve mrb mch mva mic mlb mrw mnb mlk mnk mmd) H := hP
        have hD : va_D A (cM G ad z_21.2 msl mst men mnw mdn mpw mwr mrs mdr mtb mrc mnx mro mit mve mrb mch mva mic mlb mrw mnb mlk mnk mmd) := hD
        refine lv_goto (tgt := 37) hx hb d_MO_find_33 (by decide) ?_
        exact en_l (w1 := (fun u : Int32 => (cM G ad u msl mst men mnw mdn mpw mwr mrs mdr mtb mrc mnx mro mit mve mrb mch mva mic mlb mrw mnb mlk mnk mmd))) z_21.2 hx hb hr hlocks hK hP hD hS hres d_MO_find_37
/-! ===== BookTreesModel.next(II)I ===== -/
abbrev rm_MO_next : Room := { frames := 4, cells := 0, slots := 0, locals := 97 }
def f_MO_next_31 : Nat → Int32 → Int32 → Int32 → Int32 → Int32 → Int32 → Int32 → Int32 → (Nat → Int32) → (Nat → Int32) → (Nat → Int32) → (Nat → Int32) → Int32 × Int32
  | 0, x1, x3, mrf, msl, mst, men, mdn, mrs, mro, mit, mve, mrb => (0, mrf)
  | n + 1, x1, x3, mrf, msl, mst, men, mdn, mrs, mro, mit, mve, mrb => if (512 : Int32) ≤ x3 then ((-1 : Int32), mrf) else bindc (f_MO_look x1 x3 msl mst men mrs mro mit mve mrb) (fun z_41 => if (lg_cmp z_41.1 (1000000000000 : Int64)) = 0 then f_MO_next_31 n x1 (x3 + (1 : Int32)) mrf msl mst men mdn mrs mro mit mve mrb else if (lg_cmp z_41.1 (1000000000001 : Int64)) = 0 then ((-2 : Int32), mrf) else (x3, mrf))
def ok_MO_next_31 : Nat → Int32 → Int32 → Int32 → Int32 → Int32 → Int32 → Int32 → Int32 → (Nat → Int32) → (Nat → Int32) → (Nat → Int32) → (Nat → Int32) → Prop
  | 0, _, _, _, _, _, _, _, _, _, _, _, _ => False
  | n + 1, x1, x3, mrf, msl, mst, men, mdn, mrs, mro, mit, mve, mrb => ((512 : Int32) ≤ x3 → True) ∧ (¬ (512 : Int32) ≤ x3 → ok_MO_look x1 x3 msl mst men mrs mro mit mve mrb ∧ bindp (f_MO_look x1 x3 msl mst men mrs mro mit mve mrb) (fun z_41 => ((lg_cmp z_41.1 (1000000000000 : Int64)) = 0 → ok_MO_next_31  n x1 (x3 + (1 : Int32)) mrf msl mst men mdn mrs mro mit mve mrb) ∧ (¬ (lg_cmp z_41.1 (1000000000000 : Int64)) = 0 → True)))
set_option maxHeartbeats 4000000 in
set_option maxRecDepth 100000 in
theorem w_MO_next_31 {p : Program} {l : Launch} {e : Env} {s : State} {m : MethodId} {args : Array Value} {below : List Frame} {meth : Method} {c : Code} {A : Nat → Prop} {G : GG} {ad : Nat → Nat} {msl : Int32} {mst : Int32} {men : Int32} {mnw : Int32} {mdn : Int32} {mpw : Int32} {mwr : Int32} {mrs : Int32} {mdr : Int32} {mtb : Int32} {mrc : Int32} {mnx : Int32} {mro : (Nat → Int32)} {mit : (Nat → Int32)} {mve : (Nat → Int32)} {mrb : (Nat → Int32)} {mch : (Nat → Int32)} {mva : (Nat → Int32)} {mic : (Nat → Int32)} {mlb : (Nat → Int32)} {mrw : (Nat → Int32)} {mnb : (Nat → Int32)} {mlk : (Nat → Int32)} {mnk : (Nat → Int32)} {mmd : (Nat → Int32)} {res : Int32 × Int32} (hC : Cx p l e s m args meth c y_MO_next b_MO_next 6 (some .int) "BookTreesModel" G A) : ∀ (n : Nat) (x1 : Int32) (x3 : Int32) (mrf : Int32) (H : Heap) (locs : List Loc) (ls : Array Slot), ok_MO_next_31 n x1 x3 mrf msl mst men mdn mrs mro mit mve mrb → f_MO_next_31 n x1 x3 mrf msl mst men mdn mrs mro mit mve mrb = res → va_P G.1 classes (cM G ad mrf msl mst men mnw mdn mpw mwr mrs mdr mtb mrc mnx mro mit mve mrb mch mva mic mlb mrw mnb mlk mnk mmd) H → va_D A (cM G ad mrf msl mst men mnw mdn mpw mwr mrs mdr mtb mrc mnx mro mit mve mrb mch mva mic mlb mrw mnb mlk mnk mmd) → va_S A s.heap H locs → lv_has ls 6 [(0, .ref (ad 0)), (1, .int x1), (3, .int x3)] → W p l e rm_MO_next s m args below meth c H locs 0 0 (MQ below (va_Qi (eqP res) (Wb G A (fun u : Int32 => (cM G ad u msl mst men mnw mdn mpw mwr mrs mdr mtb mrc mnx mro mit mve mrb mch mva mic mlb mrw mnb mlk mnk mmd))) A) args s 0 0 A) (F0 m 31 ls []) := by
  obtain ⟨hx, hb, hr, hml, hown, hlocks, ht, hK, hA⟩ := id hC
  intro n
  induction n with
  | zero => intro x1 x3 mrf H locs ls hok; exact hok.elim
  | succ n ih =>
    intro x1 x3 mrf H locs ls hok hres hP hD hS hl
    rw [f_MO_next_31] at hres
    rw [ok_MO_next_31] at hok
    refine lv_iload_n hx hb d_MO_next_31 rfl (lv_at hl 2 rfl) ?_
    refine lv_sipush (v := (512 : Int32)) hx hb d_MO_next_32 (by decide) ?_
    refine lv_icmp_ge (tgt := 77) hx hb d_MO_next_35 (by decide) (fun c_35 => ?_) (fun c_35 => ?_)
    · have hres := it_t c_35 hres
      refine lv_iconst (v := (-1 : Int32)) hx hb d_MO_next_77 (by decide) ?_
      exact en_i (w1 := (fun u : Int32 => (cM G ad u msl mst men mnw mdn mpw mwr mrs mdr mtb mrc mnx mro mit mve mrb mch mva mic mlb mrw mnb mlk mnk mmd))) mrf hx hb hr hlocks hK hP hD hS hres d_MO_next_78
    · have hres := it_f c_35 hres
      have hok := hok.2 c_35
      refine lv_aload_n hx hb d_MO_next_38 rfl (lv_at hl 0 rfl) ?_
      refine lv_iload_n hx hb d_MO_next_39 rfl (lv_at hl 1 rfl) ?_
      refine lv_iload_n hx hb d_MO_next_40 rfl (lv_at hl 2 rfl) ?_
      obtain ⟨hk_41, hok⟩ := hok
      refine go_lz (run_V hx hb hml hown ht hK hP hD (c_MO_look hk_41) (cw_V ht km_MO_140 ki_MO_look ks_MO_look ini_MO kd_MO_look kh_MO_look ⟨Nat.le_of_ble_eq_true rfl, Nat.le_of_ble_eq_true rfl⟩ rfl rfl) (q0 := 0) (ci := 6) (As := [.int x1, .int x3]) (rest := []) rfl rfl rfl hl.1 rfl (Nat.le_of_ble_eq_true rfl) d_MO_next_41 ⟨Nat.zero_le _, Nat.zero_le _⟩) hD hS hA (fun z_41 H locs hz_41 hP hD hS => ?_)
      have hres := bindc_eq hz_41 hres
      have hok := bindp_eq hz_41 hok
      have hP : va_P G.1 classes (cM G ad mrf msl mst men mnw mdn mpw mwr mrs mdr mtb mrc mnx mro mit mve mrb mch mva mic mlb mrw mnb mlk mnk mmd) H := hP
      have hD : va_D A (cM G ad mrf msl mst men mnw mdn mpw mwr mrs mdr mtb mrc mnx mro mit mve mrb mch mva mic mlb mrw mnb mlk mnk mmd) := hD
      refine lv_lstore (lv' := [(4, .long z_41.1), (0, .ref (ad 0)), (1, .int x1), (3, .int x3)]) hx hb d_MO_next_44 hl (by decide) rfl (fun ls hl => ?_)
      refine lv_lload hx hb d_MO_next_46 (lv_at hl 0 rfl) ?_
      refine lv_ldc2 hx hb hown (ht _ kl_MO_122) d_MO_next_48 ?_
      refine W.lcmp hx hb d_MO_next_51 ?_
      refine lv_if_eq (tgt := 71) hx hb d_MO_next_52 (by decide) (fun c_52 => ?_) (fun c_52 => ?_)
      · have hres := it_t c_52 hres
        have hok := hok.1 c_52
        refine lv_iinc (v := x3 + (1 : Int32)) (lv' := [(3, .int (x3 + (1 : Int32))), (4, .long z_41.1), (0, .ref (ad 0)), (1, .int x1)]) hx hb d_MO_next_71 hl (k := 3) rfl rfl (by decide) rfl (fun ls hl => ?_)
        refine lv_goto (tgt := 31) hx hb d_MO_next_74 (by decide) ?_
        exact ih x1 (x3 + (1 : Int32)) mrf _ _ _ hok hres hP hD hS (lv_sub hl [2, 3, 0] rfl)
      · have hres := it_f c_52 hres
        refine lv_lload hx hb d_MO_next_55 (lv_at hl 0 rfl) ?_
        refine lv_ldc2 hx hb hown (ht _ kl_MO_128) d_MO_next_57 ?_
        refine W.lcmp hx hb d_MO_next_60 ?_
        refine lv_if_ne (tgt := 69) hx hb d_MO_next_61 (by decide) (fun c_61 => ?_) (fun c_61 => ?_)
        · have hres := it_f c_61 hres
          refine lv_iload_n hx hb d_MO_next_69 rfl (lv_at hl 3 rfl) ?_
          exact en_i (w1 := (fun u : Int32 => (cM G ad u msl mst men mnw mdn mpw mwr mrs mdr mtb mrc mnx mro mit mve mrb mch mva mic mlb mrw mnb mlk mnk mmd))) mrf hx hb hr hlocks hK hP hD hS hres d_MO_next_70
        · have hres := it_t c_61 hres
          refine lv_bipush (v := (-2 : Int32)) hx hb d_MO_next_64 (by decide) ?_
          refine lv_goto (tgt := 70) hx hb d_MO_next_66 (by decide) ?_
          exact en_i (w1 := (fun u : Int32 => (cM G ad u msl mst men mnw mdn mpw mwr mrs mdr mtb mrc mnx mro mit mve mrb mch mva mic mlb mrw mnb mlk mnk mmd))) mrf hx hb hr hlocks hK hP hD hS hres d_MO_next_70
def f_MO_next_21 (x1 : Int32) (x2 : Int32) (y1 : Int32) (mrf : Int32) (msl : Int32) (mst : Int32) (men : Int32) (mdn : Int32) (mrs : Int32) (mro : (Nat → Int32)) (mit : (Nat → Int32)) (mve : (Nat → Int32)) (mrb : (Nat → Int32)) : Int32 × Int32 := bindc (f_MO_goes y1 mrf mdn) (fun z_21 => if z_21.1 = 0 then ((0 : Int32), z_21.2) else f_MO_next_31 1024 x1 x2 z_21.2 msl mst men mdn mrs mro mit mve mrb)
def ok_MO_next_21 (x1 : Int32) (x2 : Int32) (y1 : Int32) (mrf : Int32) (msl : Int32) (mst : Int32) (men : Int32) (mdn : Int32) (mrs : Int32) (mro : (Nat → Int32)) (mit : (Nat → Int32)) (mve : (Nat → Int32)) (mrb : (Nat → Int32)) : Prop := bindp (f_MO_goes y1 mrf mdn) (fun z_21 => (z_21.1 = 0 → True) ∧ (¬ z_21.1 = 0 → ok_MO_next_31  1024 x1 x2 z_21.2 msl mst men mdn mrs mro mit mve mrb))
set_option maxHeartbeats 4000000 in
set_option maxRecDepth 100000 in
theorem w_MO_next_21 {p : Program} {l : Launch} {e : Env} {s : State} {m : MethodId} {args : Array Value} {below : List Frame} {meth : Method} {c : Code} {A : Nat → Prop} {G : GG} {ad : Nat → Nat} {msl : Int32} {mst : Int32} {men : Int32} {mnw : Int32} {mdn : Int32} {mpw : Int32} {mwr : Int32} {mrs : Int32} {mdr : Int32} {mtb : Int32} {mrc : Int32} {mnx : Int32} {mro : (Nat → Int32)} {mit : (Nat → Int32)} {mve : (Nat → Int32)} {mrb : (Nat → Int32)} {mch : (Nat → Int32)} {mva : (Nat → Int32)} {mic : (Nat → Int32)} {mlb : (Nat → Int32)} {mrw : (Nat → Int32)} {mnb : (Nat → Int32)} {mlk : (Nat → Int32)} {mnk : (Nat → Int32)} {mmd : (Nat → Int32)} {res : Int32 × Int32} (hC : Cx p l e s m args meth c y_MO_next b_MO_next 6 (some .int) "BookTreesModel" G A) : ∀ (x1 : Int32) (x2 : Int32) (y1 : Int32) (mrf : Int32) (H : Heap) (locs : List Loc) (ls : Array Slot), ok_MO_next_21 x1 x2 y1 mrf msl mst men mdn mrs mro mit mve mrb → f_MO_next_21 x1 x2 y1 mrf msl mst men mdn mrs mro mit mve mrb = res → va_P G.1 classes (cM G ad mrf msl mst men mnw mdn mpw mwr mrs mdr mtb mrc mnx mro mit mve mrb mch mva mic mlb mrw mnb mlk mnk mmd) H → va_D A (cM G ad mrf msl mst men mnw mdn mpw mwr mrs mdr mtb mrc mnx mro mit mve mrb mch mva mic mlb mrw mnb mlk mnk mmd) → va_S A s.heap H locs → lv_has ls 6 [(0, .ref (ad 0)), (1, .int x1), (2, .int x2)] → W p l e rm_MO_next s m args below meth c H locs 0 0 (MQ below (va_Qi (eqP res) (Wb G A (fun u : Int32 => (cM G ad u msl mst men mnw mdn mpw mwr mrs mdr mtb mrc mnx mro mit mve mrb mch mva mic mlb mrw mnb mlk mnk mmd))) A) args s 0 0 A) (F0 m 21 ls [.int y1, .ref (ad 0)]) := by
  obtain ⟨hx, hb, hr, hml, hown, hlocks, ht, hK, hA⟩ := id hC
  intro x1 x2 y1 mrf H locs ls hok hres hP hD hS hl
  rw [f_MO_next_21] at hres
  rw [ok_MO_next_21] at hok
  refine go_iz (run_V hx hb hml hown ht hK hP hD (c_MO_goes) (cw_V ht km_MO_101 ki_MO_goes ks_MO_goes ini_MO kd_MO_goes kh_MO_goes ⟨Nat.le_of_ble_eq_true rfl, Nat.le_of_ble_eq_true rfl⟩ rfl rfl) (q0 := 0) (ci := 6) (As := [.int y1]) (rest := []) rfl rfl rfl hl.1 rfl (Nat.le_of_ble_eq_true rfl) d_MO_next_21 ⟨Nat.zero_le _, Nat.zero_le _⟩) hD hS hA (fun z_21 H locs hz_21 hP hD hS => ?_)
  have hres := bindc_eq hz_21 hres
  have hok := bindp_eq hz_21 hok
  have hP : va_P G.1 classes (cM G ad z_21.2 msl mst men mnw mdn mpw mwr mrs mdr mtb mrc mnx mro mit mve mrb mch mva mic mlb mrw mnb mlk mnk mmd) H := hP
  have hD : va_D A (cM G ad z_21.2 msl mst men mnw mdn mpw mwr mrs mdr mtb mrc mnx mro mit mve mrb mch mva mic mlb mrw mnb mlk mnk mmd) := hD
  refine lv_if_ne (tgt := 29) hx hb d_MO_next_24 (by decide) (fun c_24 => ?_) (fun c_24 => ?_)
  · have hres := it_f c_24 hres
    have hok := hok.2 c_24
    refine lv_iload_n hx hb d_MO_next_29 rfl (lv_at hl 2 rfl) ?_
    refine lv_istore_n (lv' := [(3, .int x2), (0, .ref (ad 0)), (1, .int x1), (2, .int x2)]) hx hb d_MO_next_30 rfl hl (by decide) rfl (fun ls hl => ?_)
    exact w_MO_next_31 hC 1024 x1 x2 z_21.2 _ _ _ hok hres hP hD hS (lv_sub hl [1, 2, 0] rfl)
  · have hres := it_t c_24 hres
    refine lv_iconst (v := (0 : Int32)) hx hb d_MO_next_27 (by decide) ?_
    exact en_i (w1 := (fun u : Int32 => (cM G ad u msl mst men mnw mdn mpw mwr mrs mdr mtb mrc mnx mro mit mve mrb mch mva mic mlb mrw mnb mlk mnk mmd))) z_21.2 hx hb hr hlocks hK hP hD hS hres d_MO_next_28
def f_MO_next_20 (x1 : Int32) (x2 : Int32) (mrf : Int32) (msl : Int32) (mst : Int32) (men : Int32) (mdn : Int32) (mrs : Int32) (mro : (Nat → Int32)) (mit : (Nat → Int32)) (mve : (Nat → Int32)) (mrb : (Nat → Int32)) : Int32 × Int32 := f_MO_next_21 x1 x2 (0 : Int32) mrf msl mst men mdn mrs mro mit mve mrb
def ok_MO_next_20 (x1 : Int32) (x2 : Int32) (mrf : Int32) (msl : Int32) (mst : Int32) (men : Int32) (mdn : Int32) (mrs : Int32) (mro : (Nat → Int32)) (mit : (Nat → Int32)) (mve : (Nat → Int32)) (mrb : (Nat → Int32)) : Prop := ok_MO_next_21  x1 x2 (0 : Int32) mrf msl mst men mdn mrs mro mit mve mrb
set_option maxHeartbeats 4000000 in
set_option maxRecDepth 100000 in
theorem w_MO_next_20 {p : Program} {l : Launch} {e : Env} {s : State} {m : MethodId} {args : Array Value} {below : List Frame} {meth : Method} {c : Code} {A : Nat → Prop} {G : GG} {ad : Nat → Nat} {msl : Int32} {mst : Int32} {men : Int32} {mnw : Int32} {mdn : Int32} {mpw : Int32} {mwr : Int32} {mrs : Int32} {mdr : Int32} {mtb : Int32} {mrc : Int32} {mnx : Int32} {mro : (Nat → Int32)} {mit : (Nat → Int32)} {mve : (Nat → Int32)} {mrb : (Nat → Int32)} {mch : (Nat → Int32)} {mva : (Nat → Int32)} {mic : (Nat → Int32)} {mlb : (Nat → Int32)} {mrw : (Nat → Int32)} {mnb : (Nat → Int32)} {mlk : (Nat → Int32)} {mnk : (Nat → Int32)} {mmd : (Nat → Int32)} {res : Int32 × Int32} (hC : Cx p l e s m args meth c y_MO_next b_MO_next 6 (some .int) "BookTreesModel" G A) : ∀ (x1 : Int32) (x2 : Int32) (mrf : Int32) (H : Heap) (locs : List Loc) (ls : Array Slot), ok_MO_next_20 x1 x2 mrf msl mst men mdn mrs mro mit mve mrb → f_MO_next_20 x1 x2 mrf msl mst men mdn mrs mro mit mve mrb = res → va_P G.1 classes (cM G ad mrf msl mst men mnw mdn mpw mwr mrs mdr mtb mrc mnx mro mit mve mrb mch mva mic mlb mrw mnb mlk mnk mmd) H → va_D A (cM G ad mrf msl mst men mnw mdn mpw mwr mrs mdr mtb mrc mnx mro mit mve mrb mch mva mic mlb mrw mnb mlk mnk mmd) → va_S A s.heap H locs → lv_has ls 6 [(0, .ref (ad 0)), (1, .int x1), (2, .int x2)] → W p l e rm_MO_next s m args below meth c H locs 0 0 (MQ below (va_Qi (eqP res) (Wb G A (fun u : Int32 => (cM G ad u msl mst men mnw mdn mpw mwr mrs mdr mtb mrc mnx mro mit mve mrb mch mva mic mlb mrw mnb mlk mnk mmd))) A) args s 0 0 A) (F0 m 20 ls [.ref (ad 0)]) := by
  obtain ⟨hx, hb, hr, hml, hown, hlocks, ht, hK, hA⟩ := id hC
  intro x1 x2 mrf H locs ls hok hres hP hD hS hl
  rw [f_MO_next_20] at hres
  rw [ok_MO_next_20] at hok
  refine lv_iconst (v := (0 : Int32)) hx hb d_MO_next_20 (by decide) ?_
  exact w_MO_next_21 hC x1 x2 (0 : Int32) mrf _ _ _ hok hres hP hD hS (lv_sub hl [0, 1, 2] rfl)
def f_MO_next (p0 : Int32) (p1 : Int32) (mrf : Int32) (msl : Int32) (mst : Int32) (men : Int32) (mdn : Int32) (mrs : Int32) (mro : (Nat → Int32)) (mit : (Nat → Int32)) (mve : (Nat → Int32)) (mrb : (Nat → Int32)) : Int32 × Int32 := bindc (f_MO_isKept p0 mst mrs mve mrb) (fun z_3 => if z_3.1 = 0 then f_MO_next_20 p0 p1 mrf msl mst men mdn mrs mro mit mve mrb else bindc (f_MO_isKey p1) (fun z_10 => if z_10.1 = 0 then f_MO_next_20 p0 p1 mrf msl mst men mdn mrs mro mit mve mrb else f_MO_next_21 p0 p1 (1 : Int32) mrf msl mst men mdn mrs mro mit mve mrb))
def ok_MO_next (p0 : Int32) (p1 : Int32) (mrf : Int32) (msl : Int32) (mst : Int32) (men : Int32) (mdn : Int32) (mrs : Int32) (mro : (Nat → Int32)) (mit : (Nat → Int32)) (mve : (Nat → Int32)) (mrb : (Nat → Int32)) : Prop := ok_MO_isKept p0 mst mrs mve mrb ∧ bindp (f_MO_isKept p0 mst mrs mve mrb) (fun z_3 => (z_3.1 = 0 → ok_MO_next_20  p0 p1 mrf msl mst men mdn mrs mro mit mve mrb) ∧ (¬ z_3.1 = 0 → bindp (f_MO_isKey p1) (fun z_10 => (z_10.1 = 0 → ok_MO_next_20  p0 p1 mrf msl mst men mdn mrs mro mit mve mrb) ∧ (¬ z_10.1 = 0 → ok_MO_next_21  p0 p1 (1 : Int32) mrf msl mst men mdn mrs mro mit mve mrb))))
set_option maxHeartbeats 4000000 in
set_option maxRecDepth 100000 in
theorem c_MO_next {l : Launch} {G : GG} {ad : Nat → Nat} {sz : Nat} {mrf : Int32} {msl : Int32} {mst : Int32} {men : Int32} {mnw : Int32} {mdn : Int32} {mpw : Int32} {mwr : Int32} {mrs : Int32} {mdr : Int32} {mtb : Int32} {mrc : Int32} {mnx : Int32} {mro : (Nat → Int32)} {mit : (Nat → Int32)} {mve : (Nat → Int32)} {mrb : (Nat → Int32)} {mch : (Nat → Int32)} {mva : (Nat → Int32)} {mic : (Nat → Int32)} {mlb : (Nat → Int32)} {mrw : (Nat → Int32)} {mnb : (Nat → Int32)} {mlk : (Nat → Int32)} {mnk : (Nat → Int32)} {mmd : (Nat → Int32)} {p0 : Int32} {p1 : Int32} (hok : ok_MO_next p0 p1 mrf msl mst men mdn mrs mro mit mve mrb) : CtI l y_MO_next b_MO_next 6 (some .int) rm_MO_next G (cM G ad mrf msl mst men mnw mdn mpw mwr mrs mdr mtb mrc mnx mro mit mve mrb mch mva mic mlb mrw mnb mlk mnk mmd) sz [.ref (ad 0), .int p0, .int p1] (eqP (f_MO_next p0 p1 mrf msl mst men mdn mrs mro mit mve mrb)) (fun u : Int32 => (cM G ad u msl mst men mnw mdn mpw mwr mrs mdr mtb mrc mnx mro mit mve mrb mch mva mic mlb mrw mnb mlk mnk mmd)) := by
  generalize hres : f_MO_next p0 p1 mrf msl mst men mdn mrs mro mit mve mrb = res
  refine Met_of (Qc := fun A => va_Qi (eqP res) (Wb G A (fun u : Int32 => (cM G ad u msl mst men mnw mdn mpw mwr mrs mdr mtb mrc mnx mro mit mve mrb mch mva mic mlb mrw mnb mlk mnk mmd))) A) (by decide) (Nat.le_of_ble_eq_true rfl) ?_
  intro p e s m below meth c hadm hx hb hr hml hown hlocks ht hK A hA hP hD hS ls hl
  have hC : Cx p l e s m (([.ref (ad 0), .int p0, .int p1] : List Value)).toArray meth c y_MO_next b_MO_next 6 (some .int) "BookTreesModel" G A := ⟨hx, hb, hr, hml, hown, hlocks, ht, hK, hA⟩
  have hown : s.vm.findClass "BookTreesModel" = some m.cls := hown
  have hl : lv_has ls 6 [(0, .ref (ad 0)), (1, .int p0), (2, .int p1)] := hl
  rw [f_MO_next] at hres
  rw [ok_MO_next] at hok
  refine lv_aload_n hx hb d_MO_next_0 rfl (lv_at hl 0 rfl) ?_
  refine lv_aload_n hx hb d_MO_next_1 rfl (lv_at hl 0 rfl) ?_
  refine lv_iload_n hx hb d_MO_next_2 rfl (lv_at hl 1 rfl) ?_
  obtain ⟨hk_3, hok⟩ := hok
  refine go_iz (run_V hx hb hml hown ht hK hP hD (c_MO_isKept hk_3) (cw_V ht km_MO_144 ki_MO_isKept ks_MO_isKept ini_MO kd_MO_isKept kh_MO_isKept ⟨Nat.le_of_ble_eq_true rfl, Nat.le_of_ble_eq_true rfl⟩ rfl rfl) (q0 := 0) (ci := 6) (As := [.int p0]) (rest := [.ref (ad 0)]) rfl rfl rfl hl.1 rfl (Nat.le_of_ble_eq_true rfl) d_MO_next_3 ⟨Nat.zero_le _, Nat.zero_le _⟩) hD hS hA (fun z_3 H locs hz_3 hP hD hS => ?_)
  have hres := bindc_eq hz_3 hres
  have hok := bindp_eq hz_3 hok
  have hP : va_P G.1 classes (cM G ad mrf msl mst men mnw mdn mpw mwr mrs mdr mtb mrc mnx mro mit mve mrb mch mva mic mlb mrw mnb mlk mnk mmd) H := hP
  have hD : va_D A (cM G ad mrf msl mst men mnw mdn mpw mwr mrs mdr mtb mrc mnx mro mit mve mrb mch mva mic mlb mrw mnb mlk mnk mmd) := hD
  refine lv_if_eq (tgt := 20) hx hb d_MO_next_6 (by decide) (fun c_6 => ?_) (fun c_6 => ?_)
  · have hres := it_t c_6 hres
    have hok := hok.1 c_6
    exact w_MO_next_20 hC p0 p1 mrf _ _ _ hok hres hP hD hS (lv_sub hl [0, 1, 2] rfl)
  · have hres := it_f c_6 hres
    have hok := hok.2 c_6
    refine lv_iload_n hx hb d_MO_next_9 rfl (lv_at hl 2 rfl) ?_
    refine go_iz (run_S hx hb hml hown ht hK hP hD (c_MO_isKey) (cw_S ht km_MO_98 kt_MO_isKey ini_MO kd_MO_isKey kh_MO_isKey ⟨Nat.le_of_ble_eq_true rfl, Nat.le_of_ble_eq_true rfl⟩ rfl rfl) (As := [.int p1]) (rest := [.ref (ad 0)]) rfl hl.1 rfl (Nat.le_of_ble_eq_true rfl) d_MO_next_10 ⟨Nat.zero_le _, Nat.zero_le _⟩) hD hS hA (fun z_10 H locs hz_10 hP hD hS => ?_)
    have hres := bindc_eq hz_10 hres
    have hok := bindp_eq hz_10 hok
    have hP : va_P G.1 classes (cM G ad mrf msl mst men mnw mdn mpw mwr mrs mdr mtb mrc mnx mro mit mve mrb mch mva mic mlb mrw mnb mlk mnk mmd) H := hP
    have hD : va_D A (cM G ad mrf msl mst men mnw mdn mpw mwr mrs mdr mtb mrc mnx mro mit mve mrb mch mva mic mlb mrw mnb mlk mnk mmd) := hD
    refine lv_if_eq (tgt := 20) hx hb d_MO_next_13 (by decide) (fun c_13 => ?_) (fun c_13 => ?_)
    · have hres := it_t c_13 hres
      have hok := hok.1 c_13
      exact w_MO_next_20 hC p0 p1 mrf _ _ _ hok hres hP hD hS (lv_sub hl [0, 1, 2] rfl)
    · have hres := it_f c_13 hres
      have hok := hok.2 c_13
      refine lv_iconst (v := (1 : Int32)) hx hb d_MO_next_16 (by decide) ?_
      refine lv_goto (tgt := 21) hx hb d_MO_next_17 (by decide) ?_
      exact w_MO_next_21 hC p0 p1 (1 : Int32) mrf _ _ _ hok hres hP hD hS (lv_sub hl [0, 1, 2] rfl)
/-! ===== BookTreesModel.rows(I)I ===== -/
abbrev rm_MO_rows : Room := { frames := 3, cells := 0, slots := 0, locals := 72 }
def f_MO_rows (p0 : Int32) (mrf : Int32) (msl : Int32) (mst : Int32) (men : Int32) (mdn : Int32) (mrs : Int32) (mro : (Nat → Int32)) (mit : (Nat → Int32)) (mve : (Nat → Int32)) (mrb : (Nat → Int32)) : Int32 × Int32 := bindc (f_MO_isKept p0 mst mrs mve mrb) (fun z_3 => bindc (f_MO_goes z_3.1 mrf mdn) (fun z_6 => if z_6.1 = 0 then ((0 : Int32), z_6.2) else if p0 = 0 then ((0 : Int32), z_6.2) else bindc (f_MO_rootOf p0 mrs mve mrb) (fun z_22 => bindc (f_MO_isBad z_22.1 (4 : Int32) msl mst men mro mit) (fun z_29 => if z_29.1 = 0 then bindc (f_MO_entryOf z_22.1 (1 : Int32) msl mro) (fun z_43 => (z_43.1, z_6.2)) else ((-2 : Int32), z_6.2)))))
def ok_MO_rows (p0 : Int32) (mrf : Int32) (msl : Int32) (mst : Int32) (men : Int32) (mdn : Int32) (mrs : Int32) (mro : (Nat → Int32)) (mit : (Nat → Int32)) (mve : (Nat → Int32)) (mrb : (Nat → Int32)) : Prop := ok_MO_isKept p0 mst mrs mve mrb ∧ bindp (f_MO_isKept p0 mst mrs mve mrb) (fun z_3 => bindp (f_MO_goes z_3.1 mrf mdn) (fun z_6 => (z_6.1 = 0 → True) ∧ (¬ z_6.1 = 0 → (p0 = 0 → True) ∧ (¬ p0 = 0 → ok_MO_rootOf p0 mrs mve mrb ∧ bindp (f_MO_rootOf p0 mrs mve mrb) (fun z_22 => ok_MO_isBad z_22.1 (4 : Int32) msl mst men mro mit ∧ bindp (f_MO_isBad z_22.1 (4 : Int32) msl mst men mro mit) (fun z_29 => (z_29.1 = 0 → ok_MO_entryOf z_22.1 (1 : Int32) msl mro) ∧ (¬ z_29.1 = 0 → True)))))))
set_option maxHeartbeats 4000000 in
set_option maxRecDepth 100000 in
theorem c_MO_rows {l : Launch} {G : GG} {ad : Nat → Nat} {sz : Nat} {mrf : Int32} {msl : Int32} {mst : Int32} {men : Int32} {mnw : Int32} {mdn : Int32} {mpw : Int32} {mwr : Int32} {mrs : Int32} {mdr : Int32} {mtb : Int32} {mrc : Int32} {mnx : Int32} {mro : (Nat → Int32)} {mit : (Nat → Int32)} {mve : (Nat → Int32)} {mrb : (Nat → Int32)} {mch : (Nat → Int32)} {mva : (Nat → Int32)} {mic : (Nat → Int32)} {mlb : (Nat → Int32)} {mrw : (Nat → Int32)} {mnb : (Nat → Int32)} {mlk : (Nat → Int32)} {mnk : (Nat → Int32)} {mmd : (Nat → Int32)} {p0 : Int32} (hok : ok_MO_rows p0 mrf msl mst men mdn mrs mro mit mve mrb) : CtI l y_MO_rows b_MO_rows 3 (some .int) rm_MO_rows G (cM G ad mrf msl mst men mnw mdn mpw mwr mrs mdr mtb mrc mnx mro mit mve mrb mch mva mic mlb mrw mnb mlk mnk mmd) sz [.ref (ad 0), .int p0] (eqP (f_MO_rows p0 mrf msl mst men mdn mrs mro mit mve mrb)) (fun u : Int32 => (cM G ad u msl mst men mnw mdn mpw mwr mrs mdr mtb mrc mnx mro mit mve mrb mch mva mic mlb mrw mnb mlk mnk mmd)) := by
  generalize hres : f_MO_rows p0 mrf msl mst men mdn mrs mro mit mve mrb = res
  refine Met_of (Qc := fun A => va_Qi (eqP res) (Wb G A (fun u : Int32 => (cM G ad u msl mst men mnw mdn mpw mwr mrs mdr mtb mrc mnx mro mit mve mrb mch mva mic mlb mrw mnb mlk mnk mmd))) A) (by decide) (Nat.le_of_ble_eq_true rfl) ?_
  intro p e s m below meth c hadm hx hb hr hml hown hlocks ht hK A hA hP hD hS ls hl
  have hC : Cx p l e s m (([.ref (ad 0), .int p0] : List Value)).toArray meth c y_MO_rows b_MO_rows 3 (some .int) "BookTreesModel" G A := ⟨hx, hb, hr, hml, hown, hlocks, ht, hK, hA⟩
  have hown : s.vm.findClass "BookTreesModel" = some m.cls := hown
  have hl : lv_has ls 3 [(0, .ref (ad 0)), (1, .int p0)] := hl
  rw [f_MO_rows] at hres
  rw [ok_MO_rows] at hok
  refine lv_aload_n hx hb d_MO_rows_0 rfl (lv_at hl 0 rfl) ?_
  refine lv_aload_n hx hb d_MO_rows_1 rfl (lv_at hl 0 rfl) ?_
  refine lv_iload_n hx hb d_MO_rows_2 rfl (lv_at hl 1 rfl) ?_
  obtain ⟨hk_3, hok⟩ := hok
  refine go_iz (run_V hx hb hml hown ht hK hP hD (c_MO_isKept hk_3) (cw_V ht km_MO_144 ki_MO_isKept ks_MO_isKept ini_MO kd_MO_isKept kh_MO_isKept ⟨Nat.le_of_ble_eq_true rfl, Nat.le_of_ble_eq_true rfl⟩ rfl rfl) (q0 := 0) (ci := 6) (As := [.int p0]) (rest := [.ref (ad 0)]) rfl rfl rfl hl.1 rfl (Nat.le_of_ble_eq_true rfl) d_MO_rows_3 ⟨Nat.zero_le _, Nat.zero_le _⟩) hD hS hA (fun z_3 H locs hz_3 hP hD hS => ?_)
  have hres := bindc_eq hz_3 hres
  have hok := bindp_eq hz_3 hok
  have hP : va_P G.1 classes (cM G ad mrf msl mst men mnw mdn mpw mwr mrs mdr mtb mrc mnx mro mit mve mrb mch mva mic mlb mrw mnb mlk mnk mmd) H := hP
  have hD : va_D A (cM G ad mrf msl mst men mnw mdn mpw mwr mrs mdr mtb mrc mnx mro mit mve mrb mch mva mic mlb mrw mnb mlk mnk mmd) := hD
  refine go_iz (run_V hx hb hml hown ht hK hP hD (c_MO_goes) (cw_V ht km_MO_101 ki_MO_goes ks_MO_goes ini_MO kd_MO_goes kh_MO_goes ⟨Nat.le_of_ble_eq_true rfl, Nat.le_of_ble_eq_true rfl⟩ rfl rfl) (q0 := 0) (ci := 6) (As := [.int z_3.1]) (rest := []) rfl rfl rfl hl.1 rfl (Nat.le_of_ble_eq_true rfl) d_MO_rows_6 ⟨Nat.zero_le _, Nat.zero_le _⟩) hD hS hA (fun z_6 H locs hz_6 hP hD hS => ?_)
  have hres := bindc_eq hz_6 hres
  have hok := bindp_eq hz_6 hok
  have hP : va_P G.1 classes (cM G ad z_6.2 msl mst men mnw mdn mpw mwr mrs mdr mtb mrc mnx mro mit mve mrb mch mva mic mlb mrw mnb mlk mnk mmd) H := hP
  have hD : va_D A (cM G ad z_6.2 msl mst men mnw mdn mpw mwr mrs mdr mtb mrc mnx mro mit mve mrb mch mva mic mlb mrw mnb mlk mnk mmd) := hD
  refine lv_if_ne (tgt := 14) hx hb d_MO_rows_9 (by decide) (fun c_9 => ?_) (fun c_9 => ?_)
  · have hres := it_f c_9 hres
    have hok := hok.2 c_9
    refine lv_iload_n hx hb d_MO_rows_14 rfl (lv_at hl 1 rfl) ?_
    refine lv_if_ne (tgt := 20) hx hb d_MO_rows_15 (by decide) (fun c_15 => ?_) (fun c_15 => ?_)
    · have hres := it_f c_15 hres
      have hok := hok.2 c_15
      refine lv_aload_n hx hb d_MO_rows_20 rfl (lv_at hl 0 rfl) ?_
      refine lv_iload_n hx hb d_MO_rows_21 rfl (lv_at hl 1 rfl) ?_
      obtain ⟨hk_22, hok⟩ := hok
      refine go_iz (run_V hx hb hml hown ht hK hP hD (c_MO_rootOf hk_22) (cw_V ht km_MO_119 ki_MO_rootOf ks_MO_rootOf ini_MO kd_MO_rootOf kh_MO_rootOf ⟨Nat.le_of_ble_eq_true rfl, Nat.le_of_ble_eq_true rfl⟩ rfl rfl) (q0 := 0) (ci := 6) (As := [.int p0]) (rest := []) rfl rfl rfl hl.1 rfl (Nat.le_of_ble_eq_true rfl) d_MO_rows_22 ⟨Nat.zero_le _, Nat.zero_le _⟩) hD hS hA (fun z_22 H locs hz_22 hP hD hS => ?_)
      have hres := bindc_eq hz_22 hres
      have hok := bindp_eq hz_22 hok
      have hP : va_P G.1 classes (cM G ad z_6.2 msl mst men mnw mdn mpw mwr mrs mdr mtb mrc mnx mro mit mve mrb mch mva mic mlb mrw mnb mlk mnk mmd) H := hP
      have hD : va_D A (cM G ad z_6.2 msl mst men mnw mdn mpw mwr mrs mdr mtb mrc mnx mro mit mve mrb mch mva mic mlb mrw mnb mlk mnk mmd) := hD
      refine lv_istore_n (lv' := [(2, .int z_22.1), (0, .ref (ad 0)), (1, .int p0)]) hx hb d_MO_rows_25 rfl hl (by decide) rfl (fun ls hl => ?_)
      refine lv_aload_n hx hb d_MO_rows_26 rfl (lv_at hl 1 rfl) ?_
      refine lv_iload_n hx hb d_MO_rows_27 rfl (lv_at hl 0 rfl) ?_
      refine lv_iconst (v := (4 : Int32)) hx hb d_MO_rows_28 (by decide) ?_
      obtain ⟨hk_29, hok⟩ := hok
      refine go_iz (run_V hx hb hml hown ht hK hP hD (c_MO_isBad hk_29) (cw_V ht km_MO_124 ki_MO_isBad ks_MO_isBad ini_MO kd_MO_isBad kh_MO_isBad ⟨Nat.le_of_ble_eq_true rfl, Nat.le_of_ble_eq_true rfl⟩ rfl rfl) (q0 := 0) (ci := 6) (As := [.int z_22.1, .int (4 : Int32)]) (rest := []) rfl rfl rfl hl.1 rfl (Nat.le_of_ble_eq_true rfl) d_MO_rows_29 ⟨Nat.zero_le _, Nat.zero_le _⟩) hD hS hA (fun z_29 H locs hz_29 hP hD hS => ?_)
      have hres := bindc_eq hz_29 hres
      have hok := bindp_eq hz_29 hok
      have hP : va_P G.1 classes (cM G ad z_6.2 msl mst men mnw mdn mpw mwr mrs mdr mtb mrc mnx mro mit mve mrb mch mva mic mlb mrw mnb mlk mnk mmd) H := hP
      have hD : va_D A (cM G ad z_6.2 msl mst men mnw mdn mpw mwr mrs mdr mtb mrc mnx mro mit mve mrb mch mva mic mlb mrw mnb mlk mnk mmd) := hD
      refine lv_if_eq (tgt := 40) hx hb d_MO_rows_32 (by decide) (fun c_32 => ?_) (fun c_32 => ?_)
      · have hres := it_t c_32 hres
        have hok := hok.1 c_32
        refine lv_aload_n hx hb d_MO_rows_40 rfl (lv_at hl 1 rfl) ?_
        refine lv_iload_n hx hb d_MO_rows_41 rfl (lv_at hl 0 rfl) ?_
        refine lv_iconst (v := (1 : Int32)) hx hb d_MO_rows_42 (by decide) ?_
        have hk_43 := hok
        refine go_iz (run_V hx hb hml hown ht hK hP hD (c_MO_entryOf hk_43) (cw_V ht km_MO_130 ki_MO_entryOf ks_MO_entryOf ini_MO kd_MO_entryOf kh_MO_entryOf ⟨Nat.le_of_ble_eq_true rfl, Nat.le_of_ble_eq_true rfl⟩ rfl rfl) (q0 := 0) (ci := 6) (As := [.int z_22.1, .int (1 : Int32)]) (rest := []) rfl rfl rfl hl.1 rfl (Nat.le_of_ble_eq_true rfl) d_MO_rows_43 ⟨Nat.zero_le _, Nat.zero_le _⟩) hD hS hA (fun z_43 H locs hz_43 hP hD hS => ?_)
        have hres := bindc_eq hz_43 hres
        have hP : va_P G.1 classes (cM G ad z_6.2 msl mst men mnw mdn mpw mwr mrs mdr mtb mrc mnx mro mit mve mrb mch mva mic mlb mrw mnb mlk mnk mmd) H := hP
        have hD : va_D A (cM G ad z_6.2 msl mst men mnw mdn mpw mwr mrs mdr mtb mrc mnx mro mit mve mrb mch mva mic mlb mrw mnb mlk mnk mmd) := hD
        exact en_i (w1 := (fun u : Int32 => (cM G ad u msl mst men mnw mdn mpw mwr mrs mdr mtb mrc mnx mro mit mve mrb mch mva mic mlb mrw mnb mlk mnk mmd))) z_6.2 hx hb hr hlocks hK hP hD hS hres d_MO_rows_46
      · have hres := it_f c_32 hres
        refine lv_bipush (v := (-2 : Int32)) hx hb d_MO_rows_35 (by decide) ?_
        refine lv_goto (tgt := 46) hx hb d_MO_rows_37 (by decide) ?_
        exact en_i (w1 := (fun u : Int32 => (cM G ad u msl mst men mnw mdn mpw mwr mrs mdr mtb mrc mnx mro mit mve mrb mch mva mic mlb mrw mnb mlk mnk mmd))) z_6.2 hx hb hr hlocks hK hP hD hS hres d_MO_rows_46
    · have hres := it_t c_15 hres
      refine lv_iconst (v := (0 : Int32)) hx hb d_MO_rows_18 (by decide) ?_
      exact en_i (w1 := (fun u : Int32 => (cM G ad u msl mst men mnw mdn mpw mwr mrs mdr mtb mrc mnx mro mit mve mrb mch mva mic mlb mrw mnb mlk mnk mmd))) z_6.2 hx hb hr hlocks hK hP hD hS hres d_MO_rows_19
  · have hres := it_t c_9 hres
    refine lv_iconst (v := (0 : Int32)) hx hb d_MO_rows_12 (by decide) ?_
    exact en_i (w1 := (fun u : Int32 => (cM G ad u msl mst men mnw mdn mpw mwr mrs mdr mtb mrc mnx mro mit mve mrb mch mva mic mlb mrw mnb mlk mnk mmd))) z_6.2 hx hb hr hlocks hK hP hD hS hres d_MO_rows_13
/-! ===== BookTreesModel.kept(I)I ===== -/
abbrev rm_MO_kept : Room := { frames := 1, cells := 0, slots := 0, locals := 21 }
def f_MO_kept_10 (x1 : Int32) (y1 : Int32) (mrf : Int32) (mst : Int32) (mdn : Int32) (mrs : Int32) (mve : (Nat → Int32)) : Int32 × Int32 := bindc (f_MO_goes y1 mrf mdn) (fun z_10 => if z_10.1 = 0 then ((0 : Int32), z_10.2) else if mrs ≤ x1 then (if x1 = mrs then (if mst = 0 then ((0 : Int32), z_10.2) else ((-1 : Int32), z_10.2)) else ((-1 : Int32), z_10.2)) else (mve ((mrs - (1 : Int32)) - x1).toNatClampNeg, z_10.2))
def ok_MO_kept_10 (x1 : Int32) (y1 : Int32) (mrf : Int32) (mst : Int32) (mdn : Int32) (mrs : Int32) (mve : (Nat → Int32)) : Prop := bindp (f_MO_goes y1 mrf mdn) (fun z_10 => (z_10.1 = 0 → True) ∧ (¬ z_10.1 = 0 → (mrs ≤ x1 → True) ∧ (¬ mrs ≤ x1 → vp_in ((mrs - (1 : Int32)) - x1) 4000)))
set_option maxHeartbeats 4000000 in
set_option maxRecDepth 100000 in
theorem w_MO_kept_10 {p : Program} {l : Launch} {e : Env} {s : State} {m : MethodId} {args : Array Value} {below : List Frame} {meth : Method} {c : Code} {A : Nat → Prop} {G : GG} {ad : Nat → Nat} {msl : Int32} {mst : Int32} {men : Int32} {mnw : Int32} {mdn : Int32} {mpw : Int32} {mwr : Int32} {mrs : Int32} {mdr : Int32} {mtb : Int32} {mrc : Int32} {mnx : Int32} {mro : (Nat → Int32)} {mit : (Nat → Int32)} {mve : (Nat → Int32)} {mrb : (Nat → Int32)} {mch : (Nat → Int32)} {mva : (Nat → Int32)} {mic : (Nat → Int32)} {mlb : (Nat → Int32)} {mrw : (Nat → Int32)} {mnb : (Nat → Int32)} {mlk : (Nat → Int32)} {mnk : (Nat → Int32)} {mmd : (Nat → Int32)} {res : Int32 × Int32} (hC : Cx p l e s m args meth c y_MO_kept b_MO_kept 2 (some .int) "BookTreesModel" G A) : ∀ (x1 : Int32) (y1 : Int32) (mrf : Int32) (H : Heap) (locs : List Loc) (ls : Array Slot), ok_MO_kept_10 x1 y1 mrf mst mdn mrs mve → f_MO_kept_10 x1 y1 mrf mst mdn mrs mve = res → va_P G.1 classes (cM G ad mrf msl mst men mnw mdn mpw mwr mrs mdr mtb mrc mnx mro mit mve mrb mch mva mic mlb mrw mnb mlk mnk mmd) H → va_D A (cM G ad mrf msl mst men mnw mdn mpw mwr mrs mdr mtb mrc mnx mro mit mve mrb mch mva mic mlb mrw mnb mlk mnk mmd) → va_S A s.heap H locs → lv_has ls 2 [(0, .ref (ad 0)), (1, .int x1)] → W p l e rm_MO_kept s m args below meth c H locs 0 0 (MQ below (va_Qi (eqP res) (Wb G A (fun u : Int32 => (cM G ad u msl mst men mnw mdn mpw mwr mrs mdr mtb mrc mnx mro mit mve mrb mch mva mic mlb mrw mnb mlk mnk mmd))) A) args s 0 0 A) (F0 m 10 ls [.int y1, .ref (ad 0)]) := by
  obtain ⟨hx, hb, hr, hml, hown, hlocks, ht, hK, hA⟩ := id hC
  intro x1 y1 mrf H locs ls hok hres hP hD hS hl
  rw [f_MO_kept_10] at hres
  rw [ok_MO_kept_10] at hok
  refine go_iz (run_V hx hb hml hown ht hK hP hD (c_MO_goes) (cw_V ht km_MO_101 ki_MO_goes ks_MO_goes ini_MO kd_MO_goes kh_MO_goes ⟨Nat.le_of_ble_eq_true rfl, Nat.le_of_ble_eq_true rfl⟩ rfl rfl) (q0 := 0) (ci := 6) (As := [.int y1]) (rest := []) rfl rfl rfl hl.1 rfl (Nat.le_of_ble_eq_true rfl) d_MO_kept_10 ⟨Nat.zero_le _, Nat.zero_le _⟩) hD hS hA (fun z_10 H locs hz_10 hP hD hS => ?_)
  have hres := bindc_eq hz_10 hres
  have hok := bindp_eq hz_10 hok
  have hP : va_P G.1 classes (cM G ad z_10.2 msl mst men mnw mdn mpw mwr mrs mdr mtb mrc mnx mro mit mve mrb mch mva mic mlb mrw mnb mlk mnk mmd) H := hP
  have hD : va_D A (cM G ad z_10.2 msl mst men mnw mdn mpw mwr mrs mdr mtb mrc mnx mro mit mve mrb mch mva mic mlb mrw mnb mlk mnk mmd) := hD
  refine lv_if_ne (tgt := 18) hx hb d_MO_kept_13 (by decide) (fun c_13 => ?_) (fun c_13 => ?_)
  · have hres := it_f c_13 hres
    have hok := hok.2 c_13
    refine lv_iload_n hx hb d_MO_kept_18 rfl (lv_at hl 1 rfl) ?_
    refine lv_aload_n hx hb d_MO_kept_19 rfl (lv_at hl 0 rfl) ?_
    refine va_get (D := G.1) (ci := 6) (C := R_MO) (T := F_MO) (N := 26) hx hb ht in_MO hown hK hP 0 rfl rfl 10 (by decide) (ht _ kf_MO_116) (fun _ h9 => h9) rfl d_MO_kept_20 ?_
    refine lv_icmp_ge (tgt := 42) hx hb d_MO_kept_23 (by decide) (fun c_23 => ?_) (fun c_23 => ?_)
    · have hres := it_t c_23 hres
      refine lv_iload_n hx hb d_MO_kept_42 rfl (lv_at hl 1 rfl) ?_
      refine lv_aload_n hx hb d_MO_kept_43 rfl (lv_at hl 0 rfl) ?_
      refine va_get (D := G.1) (ci := 6) (C := R_MO) (T := F_MO) (N := 26) hx hb ht in_MO hown hK hP 0 rfl rfl 10 (by decide) (ht _ kf_MO_116) (fun _ h9 => h9) rfl d_MO_kept_44 ?_
      refine lv_icmp_ne (tgt := 61) hx hb d_MO_kept_47 (by decide) (fun c_47 => ?_) (fun c_47 => ?_)
      · have hres := it_f c_47 hres
        refine lv_iconst (v := (-1 : Int32)) hx hb d_MO_kept_61 (by decide) ?_
        exact en_i (w1 := (fun u : Int32 => (cM G ad u msl mst men mnw mdn mpw mwr mrs mdr mtb mrc mnx mro mit mve mrb mch mva mic mlb mrw mnb mlk mnk mmd))) z_10.2 hx hb hr hlocks hK hP hD hS hres d_MO_kept_62
      · have hres := it_t c_47 hres
        refine lv_aload_n hx hb d_MO_kept_50 rfl (lv_at hl 0 rfl) ?_
        refine va_get (D := G.1) (ci := 6) (C := R_MO) (T := F_MO) (N := 26) hx hb ht in_MO hown hK hP 0 rfl rfl 4 (by decide) (ht _ kf_MO_64) (fun _ h9 => h9) rfl d_MO_kept_51 ?_
        refine lv_if_ne (tgt := 61) hx hb d_MO_kept_54 (by decide) (fun c_54 => ?_) (fun c_54 => ?_)
        · have hres := it_f c_54 hres
          refine lv_iconst (v := (-1 : Int32)) hx hb d_MO_kept_61 (by decide) ?_
          exact en_i (w1 := (fun u : Int32 => (cM G ad u msl mst men mnw mdn mpw mwr mrs mdr mtb mrc mnx mro mit mve mrb mch mva mic mlb mrw mnb mlk mnk mmd))) z_10.2 hx hb hr hlocks hK hP hD hS hres d_MO_kept_62
        · have hres := it_t c_54 hres
          refine lv_iconst (v := (0 : Int32)) hx hb d_MO_kept_57 (by decide) ?_
          refine lv_goto (tgt := 62) hx hb d_MO_kept_58 (by decide) ?_
          exact en_i (w1 := (fun u : Int32 => (cM G ad u msl mst men mnw mdn mpw mwr mrs mdr mtb mrc mnx mro mit mve mrb mch mva mic mlb mrw mnb mlk mnk mmd))) z_10.2 hx hb hr hlocks hK hP hD hS hres d_MO_kept_62
    · have hres := it_f c_23 hres
      have hok := hok.2 c_23
      refine lv_aload_n hx hb d_MO_kept_26 rfl (lv_at hl 0 rfl) ?_
      refine va_get (D := G.1) (ci := 6) (C := R_MO) (T := F_MO) (N := 26) hx hb ht in_MO hown hK hP 0 rfl rfl 11 (by decide) (ht _ kf_MO_21) (fun _ h9 => h9) rfl d_MO_kept_27 ?_
      refine lv_aload_n hx hb d_MO_kept_30 rfl (lv_at hl 0 rfl) ?_
      refine va_get (D := G.1) (ci := 6) (C := R_MO) (T := F_MO) (N := 26) hx hb ht in_MO hown hK hP 0 rfl rfl 10 (by decide) (ht _ kf_MO_116) (fun _ h9 => h9) rfl d_MO_kept_31 ?_
      refine lv_iconst (v := (1 : Int32)) hx hb d_MO_kept_34 (by decide) ?_
      refine lv_isub hx hb d_MO_kept_35 ?_
      refine lv_iload_n hx hb d_MO_kept_36 rfl (lv_at hl 1 rfl) ?_
      refine lv_isub hx hb d_MO_kept_37 ?_
      have hi_38 := hok
      refine va_iald hx hb hK hP 3 0 rfl rfl hi_38 d_MO_kept_38 ?_
      refine lv_goto (tgt := 62) hx hb d_MO_kept_39 (by decide) ?_
      exact en_i (w1 := (fun u : Int32 => (cM G ad u msl mst men mnw mdn mpw mwr mrs mdr mtb mrc mnx mro mit mve mrb mch mva mic mlb mrw mnb mlk mnk mmd))) z_10.2 hx hb hr hlocks hK hP hD hS hres d_MO_kept_62
  · have hres := it_t c_13 hres
    refine lv_iconst (v := (0 : Int32)) hx hb d_MO_kept_16 (by decide) ?_
    exact en_i (w1 := (fun u : Int32 => (cM G ad u msl mst men mnw mdn mpw mwr mrs mdr mtb mrc mnx mro mit mve mrb mch mva mic mlb mrw mnb mlk mnk mmd))) z_10.2 hx hb hr hlocks hK hP hD hS hres d_MO_kept_17
def f_MO_kept (p0 : Int32) (mrf : Int32) (mst : Int32) (mdn : Int32) (mrs : Int32) (mve : (Nat → Int32)) : Int32 × Int32 := if p0 < 0 then f_MO_kept_10 p0 (0 : Int32) mrf mst mdn mrs mve else f_MO_kept_10 p0 (1 : Int32) mrf mst mdn mrs mve
def ok_MO_kept (p0 : Int32) (mrf : Int32) (mst : Int32) (mdn : Int32) (mrs : Int32) (mve : (Nat → Int32)) : Prop := (p0 < 0 → ok_MO_kept_10  p0 (0 : Int32) mrf mst mdn mrs mve) ∧ (¬ p0 < 0 → ok_MO_kept_10  p0 (1 : Int32) mrf mst mdn mrs mve)
set_option maxHeartbeats 4000000 in
set_option maxRecDepth 100000 in
theorem c_MO_kept {l : Launch} {G : GG} {ad : Nat → Nat} {sz : Nat} {mrf : Int32} {msl : Int32} {mst : Int32} {men : Int32} {mnw : Int32} {mdn : Int32} {mpw : Int32} {mwr : Int32} {mrs : Int32} {mdr : Int32} {mtb : Int32} {mrc : Int32} {mnx : Int32} {mro : (Nat → Int32)} {mit : (Nat → Int32)} {mve : (Nat → Int32)} {mrb : (Nat → Int32)} {mch : (Nat → Int32)} {mva : (Nat → Int32)} {mic : (Nat → Int32)} {mlb : (Nat → Int32)} {mrw : (Nat → Int32)} {mnb : (Nat → Int32)} {mlk : (Nat → Int32)} {mnk : (Nat → Int32)} {mmd : (Nat → Int32)} {p0 : Int32} (hok : ok_MO_kept p0 mrf mst mdn mrs mve) : CtI l y_MO_kept b_MO_kept 2 (some .int) rm_MO_kept G (cM G ad mrf msl mst men mnw mdn mpw mwr mrs mdr mtb mrc mnx mro mit mve mrb mch mva mic mlb mrw mnb mlk mnk mmd) sz [.ref (ad 0), .int p0] (eqP (f_MO_kept p0 mrf mst mdn mrs mve)) (fun u : Int32 => (cM G ad u msl mst men mnw mdn mpw mwr mrs mdr mtb mrc mnx mro mit mve mrb mch mva mic mlb mrw mnb mlk mnk mmd)) := by
  generalize hres : f_MO_kept p0 mrf mst mdn mrs mve = res
  refine Met_of (Qc := fun A => va_Qi (eqP res) (Wb G A (fun u : Int32 => (cM G ad u msl mst men mnw mdn mpw mwr mrs mdr mtb mrc mnx mro mit mve mrb mch mva mic mlb mrw mnb mlk mnk mmd))) A) (by decide) (Nat.le_of_ble_eq_true rfl) ?_
  intro p e s m below meth c hadm hx hb hr hml hown hlocks ht hK A hA hP hD hS ls hl
  have hC : Cx p l e s m (([.ref (ad 0), .int p0] : List Value)).toArray meth c y_MO_kept b_MO_kept 2 (some .int) "BookTreesModel" G A := ⟨hx, hb, hr, hml, hown, hlocks, ht, hK, hA⟩
  have hown : s.vm.findClass "BookTreesModel" = some m.cls := hown
  have hl : lv_has ls 2 [(0, .ref (ad 0)), (1, .int p0)] := hl
  rw [f_MO_kept] at hres
  rw [ok_MO_kept] at hok
  refine lv_aload_n hx hb d_MO_kept_0 rfl (lv_at hl 0 rfl) ?_
  refine lv_iload_n hx hb d_MO_kept_1 rfl (lv_at hl 1 rfl) ?_
  refine lv_if_lt (tgt := 9) hx hb d_MO_kept_2 (by decide) (fun c_2 => ?_) (fun c_2 => ?_)
  · have hres := it_t c_2 hres
    have hok := hok.1 c_2
    refine lv_iconst (v := (0 : Int32)) hx hb d_MO_kept_9 (by decide) ?_
    exact w_MO_kept_10 hC p0 (0 : Int32) mrf _ _ _ hok hres hP hD hS (lv_sub hl [0, 1] rfl)
  · have hres := it_f c_2 hres
    have hok := hok.2 c_2
    refine lv_iconst (v := (1 : Int32)) hx hb d_MO_kept_5 (by decide) ?_
    refine lv_goto (tgt := 10) hx hb d_MO_kept_6 (by decide) ?_
    exact w_MO_kept_10 hC p0 (1 : Int32) mrf _ _ _ hok hres hP hD hS (lv_sub hl [0, 1] rfl)
/-! ===== BookTreesModel.readTop()Z ===== -/
abbrev rm_MO_readTop : Room := { frames := 3, cells := 0, slots := 0, locals := 72 }
def f_MO_readTop_90 : Nat → Int32 → Int32 → Int32 → Int32 → Int32 → Int32 → Int32 → Int32 → Int32 → (Nat → Int32) → (Nat → Int32) → (Nat → Int32) → (Nat → Int32) → (Nat → Int32) → Int32 × Int32 × Int32 × (Nat → Int32)
  | 0, x2, x3, msl, mst, men, mnw, mrs, mtb, mrc, mro, mit, mve, mrb, mnk => (0, (mtb, mrc, mnk))
  | n + 1, x2, x3, msl, mst, men, mnw, mrs, mtb, mrc, mro, mit, mve, mrb, mnk => if (8 : Int32) ≤ x3 then ((1 : Int32), (mtb, mrc, mnk)) else bindc (f_MO_hasEntry x2 x3 msl mro) (fun z_104 => if z_104.1 = 0 then f_MO_readTop_90 n x2 (x3 + (1 : Int32)) msl mst men mnw mrs mtb mrc mro mit mve mrb (upd mnk x3.toNatClampNeg (0 : Int32)) else bindc (f_MO_entryOf x2 x3 msl mro) (fun z_113 => f_MO_readTop_90 n x2 (x3 + (1 : Int32)) msl mst men mnw mrs mtb mrc mro mit mve mrb (upd mnk x3.toNatClampNeg z_113.1)))
def ok_MO_readTop_90 : Nat → Int32 → Int32 → Int32 → Int32 → Int32 → Int32 → Int32 → Int32 → Int32 → (Nat → Int32) → (Nat → Int32) → (Nat → Int32) → (Nat → Int32) → (Nat → Int32) → Prop
  | 0, _, _, _, _, _, _, _, _, _, _, _, _, _, _ => False
  | n + 1, x2, x3, msl, mst, men, mnw, mrs, mtb, mrc, mro, mit, mve, mrb, mnk => ((8 : Int32) ≤ x3 → True) ∧ (¬ (8 : Int32) ≤ x3 → ok_MO_hasEntry x2 x3 msl mro ∧ bindp (f_MO_hasEntry x2 x3 msl mro) (fun z_104 => (z_104.1 = 0 → vp_in x3 8 ∧ (ok_MO_readTop_90  n x2 (x3 + (1 : Int32)) msl mst men mnw mrs mtb mrc mro mit mve mrb (upd mnk x3.toNatClampNeg (0 : Int32)))) ∧ (¬ z_104.1 = 0 → ok_MO_entryOf x2 x3 msl mro ∧ bindp (f_MO_entryOf x2 x3 msl mro) (fun z_113 => vp_in x3 8 ∧ (ok_MO_readTop_90  n x2 (x3 + (1 : Int32)) msl mst men mnw mrs mtb mrc mro mit mve mrb (upd mnk x3.toNatClampNeg z_113.1))))))
set_option maxHeartbeats 4000000 in
set_option maxRecDepth 100000 in
theorem w_MO_readTop_90 {p : Program} {l : Launch} {e : Env} {s : State} {m : MethodId} {args : Array Value} {below : List Frame} {meth : Method} {c : Code} {A : Nat → Prop} {G : GG} {ad : Nat → Nat} {mrf : Int32} {msl : Int32} {mst : Int32} {men : Int32} {mnw : Int32} {mdn : Int32} {mpw : Int32} {mwr : Int32} {mrs : Int32} {mdr : Int32} {mnx : Int32} {mro : (Nat → Int32)} {mit : (Nat → Int32)} {mve : (Nat → Int32)} {mrb : (Nat → Int32)} {mch : (Nat → Int32)} {mva : (Nat → Int32)} {mic : (Nat → Int32)} {mlb : (Nat → Int32)} {mrw : (Nat → Int32)} {mnb : (Nat → Int32)} {mlk : (Nat → Int32)} {mmd : (Nat → Int32)} {res : Int32 × Int32 × Int32 × (Nat → Int32)} (hC : Cx p l e s m args meth c y_MO_readTop b_MO_readTop 4 (some .boolean) "BookTreesModel" G A) : ∀ (n : Nat) (x2 : Int32) (x3 : Int32) (mtb : Int32) (mrc : Int32) (mnk : (Nat → Int32)) (H : Heap) (locs : List Loc) (ls : Array Slot), ok_MO_readTop_90 n x2 x3 msl mst men mnw mrs mtb mrc mro mit mve mrb mnk → f_MO_readTop_90 n x2 x3 msl mst men mnw mrs mtb mrc mro mit mve mrb mnk = res → va_P G.1 classes (cM G ad mrf msl mst men mnw mdn mpw mwr mrs mdr mtb mrc mnx mro mit mve mrb mch mva mic mlb mrw mnb mlk mnk mmd) H → va_D A (cM G ad mrf msl mst men mnw mdn mpw mwr mrs mdr mtb mrc mnx mro mit mve mrb mch mva mic mlb mrw mnb mlk mnk mmd) → va_S A s.heap H locs → lv_has ls 4 [(0, .ref (ad 0)), (2, .int x2), (3, .int x3)] → W p l e rm_MO_readTop s m args below meth c H locs 0 0 (MQ below (va_Qi (eqP res) (Wb G A (fun u : Int32 × Int32 × (Nat → Int32) => (cM G ad mrf msl mst men mnw mdn mpw mwr mrs mdr u.1 u.2.1 mnx mro mit mve mrb mch mva mic mlb mrw mnb mlk u.2.2 mmd))) A) args s 0 0 A) (F0 m 90 ls []) := by
  obtain ⟨hx, hb, hr, hml, hown, hlocks, ht, hK, hA⟩ := id hC
  intro n
  induction n with
  | zero => intro x2 x3 mtb mrc mnk H locs ls hok; exact hok.elim
  | succ n ih =>
    intro x2 x3 mtb mrc mnk H locs ls hok hres hP hD hS hl
    rw [f_MO_readTop_90] at hres
    rw [ok_MO_readTop_90] at hok
    refine lv_iload_n hx hb d_MO_readTop_90 rfl (lv_at hl 2 rfl) ?_
    refine lv_bipush (v := (8 : Int32)) hx hb d_MO_readTop_91 (by decide) ?_
    refine lv_icmp_ge (tgt := 127) hx hb d_MO_readTop_93 (by decide) (fun c_93 => ?_) (fun c_93 => ?_)
    · have hres := it_t c_93 hres
      refine lv_iconst (v := (1 : Int32)) hx hb d_MO_readTop_127 (by decide) ?_
      exact en_z (w1 := (fun u : Int32 × Int32 × (Nat → Int32) => (cM G ad mrf msl mst men mnw mdn mpw mwr mrs mdr u.1 u.2.1 mnx mro mit mve mrb mch mva mic mlb mrw mnb mlk u.2.2 mmd))) (mtb, mrc, mnk) hx hb hr hlocks hK hP hD hS hres isB_1 d_MO_readTop_128
    · have hres := it_f c_93 hres
      have hok := hok.2 c_93
      refine lv_aload_n hx hb d_MO_readTop_96 rfl (lv_at hl 0 rfl) ?_
      refine va_get (D := G.1) (ci := 6) (C := R_MO) (T := F_MO) (N := 26) hx hb ht in_MO hown hK hP 0 rfl rfl 22 (by decide) (ht _ kf_MO_48) (fun _ h9 => h9) rfl d_MO_readTop_97 ?_
      refine lv_iload_n hx hb d_MO_readTop_100 rfl (lv_at hl 2 rfl) ?_
      refine lv_aload_n hx hb d_MO_readTop_101 rfl (lv_at hl 0 rfl) ?_
      refine lv_iload_n hx hb d_MO_readTop_102 rfl (lv_at hl 1 rfl) ?_
      refine lv_iload_n hx hb d_MO_readTop_103 rfl (lv_at hl 2 rfl) ?_
      obtain ⟨hk_104, hok⟩ := hok
      refine go_iz (run_V hx hb hml hown ht hK hP hD (c_MO_hasEntry hk_104) (cw_V ht km_MO_134 ki_MO_hasEntry ks_MO_hasEntry ini_MO kd_MO_hasEntry kh_MO_hasEntry ⟨Nat.le_of_ble_eq_true rfl, Nat.le_of_ble_eq_true rfl⟩ rfl rfl) (q0 := 0) (ci := 6) (As := [.int x2, .int x3]) (rest := [.int x3, .ref (ad 12)]) rfl rfl rfl hl.1 rfl (Nat.le_of_ble_eq_true rfl) d_MO_readTop_104 ⟨Nat.zero_le _, Nat.zero_le _⟩) hD hS hA (fun z_104 H locs hz_104 hP hD hS => ?_)
      have hres := bindc_eq hz_104 hres
      have hok := bindp_eq hz_104 hok
      have hP : va_P G.1 classes (cM G ad mrf msl mst men mnw mdn mpw mwr mrs mdr mtb mrc mnx mro mit mve mrb mch mva mic mlb mrw mnb mlk mnk mmd) H := hP
      have hD : va_D A (cM G ad mrf msl mst men mnw mdn mpw mwr mrs mdr mtb mrc mnx mro mit mve mrb mch mva mic mlb mrw mnb mlk mnk mmd) := hD
      refine lv_if_eq (tgt := 119) hx hb d_MO_readTop_107 (by decide) (fun c_107 => ?_) (fun c_107 => ?_)
      · have hres := it_t c_107 hres
        have hok := hok.1 c_107
        refine lv_iconst (v := (0 : Int32)) hx hb d_MO_readTop_119 (by decide) ?_
        obtain ⟨hi_120, hok⟩ := hok
        refine va_iast hx hb hK hP hD hS 12 0 rfl rfl hi_120 d_MO_readTop_120 (fun H locs hP hD hS => ?_)
        have hP : va_P G.1 classes (cM G ad mrf msl mst men mnw mdn mpw mwr mrs mdr mtb mrc mnx mro mit mve mrb mch mva mic mlb mrw mnb mlk (upd mnk x3.toNatClampNeg (0 : Int32)) mmd) H := hP
        have hD : va_D A (cM G ad mrf msl mst men mnw mdn mpw mwr mrs mdr mtb mrc mnx mro mit mve mrb mch mva mic mlb mrw mnb mlk (upd mnk x3.toNatClampNeg (0 : Int32)) mmd) := hD
        refine lv_iinc (v := x3 + (1 : Int32)) (lv' := [(3, .int (x3 + (1 : Int32))), (0, .ref (ad 0)), (2, .int x2)]) hx hb d_MO_readTop_121 hl (k := 2) rfl rfl (by decide) rfl (fun ls hl => ?_)
        refine lv_goto (tgt := 90) hx hb d_MO_readTop_124 (by decide) ?_
        exact ih x2 (x3 + (1 : Int32)) mtb mrc (upd mnk x3.toNatClampNeg (0 : Int32)) _ _ _ hok hres hP hD hS (lv_sub hl [1, 2, 0] rfl)
      · have hres := it_f c_107 hres
        have hok := hok.2 c_107
        refine lv_aload_n hx hb d_MO_readTop_110 rfl (lv_at hl 0 rfl) ?_
        refine lv_iload_n hx hb d_MO_readTop_111 rfl (lv_at hl 1 rfl) ?_
        refine lv_iload_n hx hb d_MO_readTop_112 rfl (lv_at hl 2 rfl) ?_
        obtain ⟨hk_113, hok⟩ := hok
        refine go_iz (run_V hx hb hml hown ht hK hP hD (c_MO_entryOf hk_113) (cw_V ht km_MO_130 ki_MO_entryOf ks_MO_entryOf ini_MO kd_MO_entryOf kh_MO_entryOf ⟨Nat.le_of_ble_eq_true rfl, Nat.le_of_ble_eq_true rfl⟩ rfl rfl) (q0 := 0) (ci := 6) (As := [.int x2, .int x3]) (rest := [.int x3, .ref (ad 12)]) rfl rfl rfl hl.1 rfl (Nat.le_of_ble_eq_true rfl) d_MO_readTop_113 ⟨Nat.zero_le _, Nat.zero_le _⟩) hD hS hA (fun z_113 H locs hz_113 hP hD hS => ?_)
        have hres := bindc_eq hz_113 hres
        have hok := bindp_eq hz_113 hok
        have hP : va_P G.1 classes (cM G ad mrf msl mst men mnw mdn mpw mwr mrs mdr mtb mrc mnx mro mit mve mrb mch mva mic mlb mrw mnb mlk mnk mmd) H := hP
        have hD : va_D A (cM G ad mrf msl mst men mnw mdn mpw mwr mrs mdr mtb mrc mnx mro mit mve mrb mch mva mic mlb mrw mnb mlk mnk mmd) := hD
        refine lv_goto (tgt := 120) hx hb d_MO_readTop_116 (by decide) ?_
        obtain ⟨hi_120, hok⟩ := hok
        refine va_iast hx hb hK hP hD hS 12 0 rfl rfl hi_120 d_MO_readTop_120 (fun H locs hP hD hS => ?_)
        have hP : va_P G.1 classes (cM G ad mrf msl mst men mnw mdn mpw mwr mrs mdr mtb mrc mnx mro mit mve mrb mch mva mic mlb mrw mnb mlk (upd mnk x3.toNatClampNeg z_113.1) mmd) H := hP
        have hD : va_D A (cM G ad mrf msl mst men mnw mdn mpw mwr mrs mdr mtb mrc mnx mro mit mve mrb mch mva mic mlb mrw mnb mlk (upd mnk x3.toNatClampNeg z_113.1) mmd) := hD
        refine lv_iinc (v := x3 + (1 : Int32)) (lv' := [(3, .int (x3 + (1 : Int32))), (0, .ref (ad 0)), (2, .int x2)]) hx hb d_MO_readTop_121 hl (k := 2) rfl rfl (by decide) rfl (fun ls hl => ?_)
        refine lv_goto (tgt := 90) hx hb d_MO_readTop_124 (by decide) ?_
        exact ih x2 (x3 + (1 : Int32)) mtb mrc (upd mnk x3.toNatClampNeg z_113.1) _ _ _ hok hres hP hD hS (lv_sub hl [1, 2, 0] rfl)
def f_MO_readTop  (msl : Int32) (mst : Int32) (men : Int32) (mnw : Int32) (mrs : Int32) (mtb : Int32) (mrc : Int32) (mro : (Nat → Int32)) (mit : (Nat → Int32)) (mve : (Nat → Int32)) (mrb : (Nat → Int32)) (mnk : (Nat → Int32)) : Int32 × Int32 × Int32 × (Nat → Int32) := if mnw = 0 then ((1 : Int32), ((0 : Int32), (0 : Int32), mnk)) else bindc (f_MO_rootOf mnw mrs mve mrb) (fun z_24 => bindc (f_MO_isBad z_24.1 (4 : Int32) msl mst men mro mit) (fun z_31 => if z_31.1 = 0 then bindc (f_MO_entryOf z_24.1 (1 : Int32) msl mro) (fun z_43 => bindc (f_MO_bitsOf z_24.1 msl mro) (fun z_51 => if (z_51.1 &&& (1 : Int32)) = 0 then ((1 : Int32), ((0 : Int32), z_43.1, mnk)) else bindc (f_MO_entryOf z_24.1 (0 : Int32) msl mro) (fun z_64 => bindc (f_MO_isBad z_64.1 (3 : Int32) msl mst men mro mit) (fun z_71 => if z_71.1 = 0 then bindc (f_MO_bitsOf z_64.1 msl mro) (fun z_82 => f_MO_readTop_90 1024 z_64.1 (0 : Int32) msl mst men mnw mrs z_82.1 z_43.1 mro mit mve mrb mnk) else ((0 : Int32), ((0 : Int32), z_43.1, mnk)))))) else ((0 : Int32), ((0 : Int32), (0 : Int32), mnk))))
def ok_MO_readTop  (msl : Int32) (mst : Int32) (men : Int32) (mnw : Int32) (mrs : Int32) (mtb : Int32) (mrc : Int32) (mro : (Nat → Int32)) (mit : (Nat → Int32)) (mve : (Nat → Int32)) (mrb : (Nat → Int32)) (mnk : (Nat → Int32)) : Prop := (mnw = 0 → True) ∧ (¬ mnw = 0 → ok_MO_rootOf mnw mrs mve mrb ∧ bindp (f_MO_rootOf mnw mrs mve mrb) (fun z_24 => ok_MO_isBad z_24.1 (4 : Int32) msl mst men mro mit ∧ bindp (f_MO_isBad z_24.1 (4 : Int32) msl mst men mro mit) (fun z_31 => (z_31.1 = 0 → ok_MO_entryOf z_24.1 (1 : Int32) msl mro ∧ bindp (f_MO_entryOf z_24.1 (1 : Int32) msl mro) (fun z_43 => ok_MO_bitsOf z_24.1 msl mro ∧ bindp (f_MO_bitsOf z_24.1 msl mro) (fun z_51 => ((z_51.1 &&& (1 : Int32)) = 0 → True) ∧ (¬ (z_51.1 &&& (1 : Int32)) = 0 → ok_MO_entryOf z_24.1 (0 : Int32) msl mro ∧ bindp (f_MO_entryOf z_24.1 (0 : Int32) msl mro) (fun z_64 => ok_MO_isBad z_64.1 (3 : Int32) msl mst men mro mit ∧ bindp (f_MO_isBad z_64.1 (3 : Int32) msl mst men mro mit) (fun z_71 => (z_71.1 = 0 → ok_MO_bitsOf z_64.1 msl mro ∧ bindp (f_MO_bitsOf z_64.1 msl mro) (fun z_82 => ok_MO_readTop_90  1024 z_64.1 (0 : Int32) msl mst men mnw mrs z_82.1 z_43.1 mro mit mve mrb mnk)) ∧ (¬ z_71.1 = 0 → True))))))) ∧ (¬ z_31.1 = 0 → True))))
set_option maxHeartbeats 4000000 in
set_option maxRecDepth 100000 in
theorem c_MO_readTop {l : Launch} {G : GG} {ad : Nat → Nat} {sz : Nat} {mrf : Int32} {msl : Int32} {mst : Int32} {men : Int32} {mnw : Int32} {mdn : Int32} {mpw : Int32} {mwr : Int32} {mrs : Int32} {mdr : Int32} {mtb : Int32} {mrc : Int32} {mnx : Int32} {mro : (Nat → Int32)} {mit : (Nat → Int32)} {mve : (Nat → Int32)} {mrb : (Nat → Int32)} {mch : (Nat → Int32)} {mva : (Nat → Int32)} {mic : (Nat → Int32)} {mlb : (Nat → Int32)} {mrw : (Nat → Int32)} {mnb : (Nat → Int32)} {mlk : (Nat → Int32)} {mnk : (Nat → Int32)} {mmd : (Nat → Int32)}  (hok : ok_MO_readTop msl mst men mnw mrs mtb mrc mro mit mve mrb mnk) : CtI l y_MO_readTop b_MO_readTop 4 (some .boolean) rm_MO_readTop G (cM G ad mrf msl mst men mnw mdn mpw mwr mrs mdr mtb mrc mnx mro mit mve mrb mch mva mic mlb mrw mnb mlk mnk mmd) sz [.ref (ad 0)] (eqP (f_MO_readTop msl mst men mnw mrs mtb mrc mro mit mve mrb mnk)) (fun u : Int32 × Int32 × (Nat → Int32) => (cM G ad mrf msl mst men mnw mdn mpw mwr mrs mdr u.1 u.2.1 mnx mro mit mve mrb mch mva mic mlb mrw mnb mlk u.2.2 mmd)) := by
  generalize hres : f_MO_readTop msl mst men mnw mrs mtb mrc mro mit mve mrb mnk = res
  refine Met_of (Qc := fun A => va_Qi (eqP res) (Wb G A (fun u : Int32 × Int32 × (Nat → Int32) => (cM G ad mrf msl mst men mnw mdn mpw mwr mrs mdr u.1 u.2.1 mnx mro mit mve mrb mch mva mic mlb mrw mnb mlk u.2.2 mmd))) A) (by decide) (Nat.le_of_ble_eq_true rfl) ?_
  intro p e s m below meth c hadm hx hb hr hml hown hlocks ht hK A hA hP hD hS ls hl
  have hC : Cx p l e s m (([.ref (ad 0)] : List Value)).toArray meth c y_MO_readTop b_MO_readTop 4 (some .boolean) "BookTreesModel" G A := ⟨hx, hb, hr, hml, hown, hlocks, ht, hK, hA⟩
  have hown : s.vm.findClass "BookTreesModel" = some m.cls := hown
  have hl : lv_has ls 4 [(0, .ref (ad 0))] := hl
  rw [f_MO_readTop] at hres
  rw [ok_MO_readTop] at hok
  refine lv_aload_n hx hb d_MO_readTop_0 rfl (lv_at hl 0 rfl) ?_
  refine lv_iconst (v := (0 : Int32)) hx hb d_MO_readTop_1 (by decide) ?_
  refine va_put (D := G.1) (ci := 6) (v := .int (0 : Int32)) (ty := .int) (C := R_MO) (T := F_MO) (N := 26) hx hb ht in_MO t_MO to_MO nm_MO hown hK hP hD hS 0 rfl rfl 21 (by decide) (ht _ kf_MO_160) (fun _ h9 => h9) rfl (to_MO 21 (by decide)) rfl rfl (Nat.le_of_ble_eq_true rfl) d_MO_readTop_2 (fun H locs hP hD hS => ?_)
  have hP : va_P G.1 classes (cM G ad mrf msl mst men mnw mdn mpw mwr mrs mdr (0 : Int32) mrc mnx mro mit mve mrb mch mva mic mlb mrw mnb mlk mnk mmd) H := hP
  have hD : va_D A (cM G ad mrf msl mst men mnw mdn mpw mwr mrs mdr (0 : Int32) mrc mnx mro mit mve mrb mch mva mic mlb mrw mnb mlk mnk mmd) := hD
  refine lv_aload_n hx hb d_MO_readTop_5 rfl (lv_at hl 0 rfl) ?_
  refine lv_iconst (v := (0 : Int32)) hx hb d_MO_readTop_6 (by decide) ?_
  refine va_put (D := G.1) (ci := 6) (v := .int (0 : Int32)) (ty := .int) (C := R_MO) (T := F_MO) (N := 26) hx hb ht in_MO t_MO to_MO nm_MO hown hK hP hD hS 0 rfl rfl 23 (by decide) (ht _ kf_MO_166) (fun _ h9 => h9) rfl (to_MO 23 (by decide)) rfl rfl (Nat.le_of_ble_eq_true rfl) d_MO_readTop_7 (fun H locs hP hD hS => ?_)
  have hP : va_P G.1 classes (cM G ad mrf msl mst men mnw mdn mpw mwr mrs mdr (0 : Int32) (0 : Int32) mnx mro mit mve mrb mch mva mic mlb mrw mnb mlk mnk mmd) H := hP
  have hD : va_D A (cM G ad mrf msl mst men mnw mdn mpw mwr mrs mdr (0 : Int32) (0 : Int32) mnx mro mit mve mrb mch mva mic mlb mrw mnb mlk mnk mmd) := hD
  refine lv_aload_n hx hb d_MO_readTop_10 rfl (lv_at hl 0 rfl) ?_
  refine va_get (D := G.1) (ci := 6) (C := R_MO) (T := F_MO) (N := 26) hx hb ht in_MO hown hK hP 0 rfl rfl 6 (by decide) (ht _ kf_MO_137) (fun _ h9 => h9) rfl d_MO_readTop_11 ?_
  refine lv_if_ne (tgt := 19) hx hb d_MO_readTop_14 (by decide) (fun c_14 => ?_) (fun c_14 => ?_)
  · have hres := it_f c_14 hres
    have hok := hok.2 c_14
    refine lv_aload_n hx hb d_MO_readTop_19 rfl (lv_at hl 0 rfl) ?_
    refine lv_aload_n hx hb d_MO_readTop_20 rfl (lv_at hl 0 rfl) ?_
    refine va_get (D := G.1) (ci := 6) (C := R_MO) (T := F_MO) (N := 26) hx hb ht in_MO hown hK hP 0 rfl rfl 6 (by decide) (ht _ kf_MO_137) (fun _ h9 => h9) rfl d_MO_readTop_21 ?_
    obtain ⟨hk_24, hok⟩ := hok
    refine go_iz (run_V hx hb hml hown ht hK hP hD (c_MO_rootOf hk_24) (cw_V ht km_MO_119 ki_MO_rootOf ks_MO_rootOf ini_MO kd_MO_rootOf kh_MO_rootOf ⟨Nat.le_of_ble_eq_true rfl, Nat.le_of_ble_eq_true rfl⟩ rfl rfl) (q0 := 0) (ci := 6) (As := [.int mnw]) (rest := []) rfl rfl rfl hl.1 rfl (Nat.le_of_ble_eq_true rfl) d_MO_readTop_24 ⟨Nat.zero_le _, Nat.zero_le _⟩) hD hS hA (fun z_24 H locs hz_24 hP hD hS => ?_)
    have hres := bindc_eq hz_24 hres
    have hok := bindp_eq hz_24 hok
    have hP : va_P G.1 classes (cM G ad mrf msl mst men mnw mdn mpw mwr mrs mdr (0 : Int32) (0 : Int32) mnx mro mit mve mrb mch mva mic mlb mrw mnb mlk mnk mmd) H := hP
    have hD : va_D A (cM G ad mrf msl mst men mnw mdn mpw mwr mrs mdr (0 : Int32) (0 : Int32) mnx mro mit mve mrb mch mva mic mlb mrw mnb mlk mnk mmd) := hD
    refine lv_istore_n (lv' := [(1, .int z_24.1), (0, .ref (ad 0))]) hx hb d_MO_readTop_27 rfl hl (by decide) rfl (fun ls hl => ?_)
    refine lv_aload_n hx hb d_MO_readTop_28 rfl (lv_at hl 1 rfl) ?_
    refine lv_iload_n hx hb d_MO_readTop_29 rfl (lv_at hl 0 rfl) ?_
    refine lv_iconst (v := (4 : Int32)) hx hb d_MO_readTop_30 (by decide) ?_
    obtain ⟨hk_31, hok⟩ := hok
    refine go_iz (run_V hx hb hml hown ht hK hP hD (c_MO_isBad hk_31) (cw_V ht km_MO_124 ki_MO_isBad ks_MO_isBad ini_MO kd_MO_isBad kh_MO_isBad ⟨Nat.le_of_ble_eq_true rfl, Nat.le_of_ble_eq_true rfl⟩ rfl rfl) (q0 := 0) (ci := 6) (As := [.int z_24.1, .int (4 : Int32)]) (rest := []) rfl rfl rfl hl.1 rfl (Nat.le_of_ble_eq_true rfl) d_MO_readTop_31 ⟨Nat.zero_le _, Nat.zero_le _⟩) hD hS hA (fun z_31 H locs hz_31 hP hD hS => ?_)
    have hres := bindc_eq hz_31 hres
    have hok := bindp_eq hz_31 hok
    have hP : va_P G.1 classes (cM G ad mrf msl mst men mnw mdn mpw mwr mrs mdr (0 : Int32) (0 : Int32) mnx mro mit mve mrb mch mva mic mlb mrw mnb mlk mnk mmd) H := hP
    have hD : va_D A (cM G ad mrf msl mst men mnw mdn mpw mwr mrs mdr (0 : Int32) (0 : Int32) mnx mro mit mve mrb mch mva mic mlb mrw mnb mlk mnk mmd) := hD
    refine lv_if_eq (tgt := 39) hx hb d_MO_readTop_34 (by decide) (fun c_34 => ?_) (fun c_34 => ?_)
    · have hres := it_t c_34 hres
      have hok := hok.1 c_34
      refine lv_aload_n hx hb d_MO_readTop_39 rfl (lv_at hl 1 rfl) ?_
      refine lv_aload_n hx hb d_MO_readTop_40 rfl (lv_at hl 1 rfl) ?_
      refine lv_iload_n hx hb d_MO_readTop_41 rfl (lv_at hl 0 rfl) ?_
      refine lv_iconst (v := (1 : Int32)) hx hb d_MO_readTop_42 (by decide) ?_
      obtain ⟨hk_43, hok⟩ := hok
      refine go_iz (run_V hx hb hml hown ht hK hP hD (c_MO_entryOf hk_43) (cw_V ht km_MO_130 ki_MO_entryOf ks_MO_entryOf ini_MO kd_MO_entryOf kh_MO_entryOf ⟨Nat.le_of_ble_eq_true rfl, Nat.le_of_ble_eq_true rfl⟩ rfl rfl) (q0 := 0) (ci := 6) (As := [.int z_24.1, .int (1 : Int32)]) (rest := [.ref (ad 0)]) rfl rfl rfl hl.1 rfl (Nat.le_of_ble_eq_true rfl) d_MO_readTop_43 ⟨Nat.zero_le _, Nat.zero_le _⟩) hD hS hA (fun z_43 H locs hz_43 hP hD hS => ?_)
      have hres := bindc_eq hz_43 hres
      have hok := bindp_eq hz_43 hok
      have hP : va_P G.1 classes (cM G ad mrf msl mst men mnw mdn mpw mwr mrs mdr (0 : Int32) (0 : Int32) mnx mro mit mve mrb mch mva mic mlb mrw mnb mlk mnk mmd) H := hP
      have hD : va_D A (cM G ad mrf msl mst men mnw mdn mpw mwr mrs mdr (0 : Int32) (0 : Int32) mnx mro mit mve mrb mch mva mic mlb mrw mnb mlk mnk mmd) := hD
      refine va_put (D := G.1) (ci := 6) (v := .int z_43.1) (ty := .int) (C := R_MO) (T := F_MO) (N := 26) hx hb ht in_MO t_MO to_MO nm_MO hown hK hP hD hS 0 rfl rfl 23 (by decide) (ht _ kf_MO_166) (fun _ h9 => h9) rfl (to_MO 23 (by decide)) rfl rfl (Nat.le_of_ble_eq_true rfl) d_MO_readTop_46 (fun H locs hP hD hS => ?_)
      have hP : va_P G.1 classes (cM G ad mrf msl mst men mnw mdn mpw mwr mrs mdr (0 : Int32) z_43.1 mnx mro mit mve mrb mch mva mic mlb mrw mnb mlk mnk mmd) H := hP
      have hD : va_D A (cM G ad mrf msl mst men mnw mdn mpw mwr mrs mdr (0 : Int32) z_43.1 mnx mro mit mve mrb mch mva mic mlb mrw mnb mlk mnk mmd) := hD
      refine lv_aload_n hx hb d_MO_readTop_49 rfl (lv_at hl 1 rfl) ?_
      refine lv_iload_n hx hb d_MO_readTop_50 rfl (lv_at hl 0 rfl) ?_
      obtain ⟨hk_51, hok⟩ := hok
      refine go_iz (run_V hx hb hml hown ht hK hP hD (c_MO_bitsOf hk_51) (cw_V ht km_MO_92 ki_MO_bitsOf ks_MO_bitsOf ini_MO kd_MO_bitsOf kh_MO_bitsOf ⟨Nat.le_of_ble_eq_true rfl, Nat.le_of_ble_eq_true rfl⟩ rfl rfl) (q0 := 0) (ci := 6) (As := [.int z_24.1]) (rest := []) rfl rfl rfl hl.1 rfl (Nat.le_of_ble_eq_true rfl) d_MO_readTop_51 ⟨Nat.zero_le _, Nat.zero_le _⟩) hD hS hA (fun z_51 H locs hz_51 hP hD hS => ?_)
      have hres := bindc_eq hz_51 hres
      have hok := bindp_eq hz_51 hok
      have hP : va_P G.1 classes (cM G ad mrf msl mst men mnw mdn mpw mwr mrs mdr (0 : Int32) z_43.1 mnx mro mit mve mrb mch mva mic mlb mrw mnb mlk mnk mmd) H := hP
      have hD : va_D A (cM G ad mrf msl mst men mnw mdn mpw mwr mrs mdr (0 : Int32) z_43.1 mnx mro mit mve mrb mch mva mic mlb mrw mnb mlk mnk mmd) := hD
      refine lv_iconst (v := (1 : Int32)) hx hb d_MO_readTop_54 (by decide) ?_
      refine lv_iand hx hb d_MO_readTop_55 ?_
      refine lv_if_ne (tgt := 61) hx hb d_MO_readTop_56 (by decide) (fun c_56 => ?_) (fun c_56 => ?_)
      · have hres := it_f c_56 hres
        have hok := hok.2 c_56
        refine lv_aload_n hx hb d_MO_readTop_61 rfl (lv_at hl 1 rfl) ?_
        refine lv_iload_n hx hb d_MO_readTop_62 rfl (lv_at hl 0 rfl) ?_
        refine lv_iconst (v := (0 : Int32)) hx hb d_MO_readTop_63 (by decide) ?_
        obtain ⟨hk_64, hok⟩ := hok
        refine go_iz (run_V hx hb hml hown ht hK hP hD (c_MO_entryOf hk_64) (cw_V ht km_MO_130 ki_MO_entryOf ks_MO_entryOf ini_MO kd_MO_entryOf kh_MO_entryOf ⟨Nat.le_of_ble_eq_true rfl, Nat.le_of_ble_eq_true rfl⟩ rfl rfl) (q0 := 0) (ci := 6) (As := [.int z_24.1, .int (0 : Int32)]) (rest := []) rfl rfl rfl hl.1 rfl (Nat.le_of_ble_eq_true rfl) d_MO_readTop_64 ⟨Nat.zero_le _, Nat.zero_le _⟩) hD hS hA (fun z_64 H locs hz_64 hP hD hS => ?_)
        have hres := bindc_eq hz_64 hres
        have hok := bindp_eq hz_64 hok
        have hP : va_P G.1 classes (cM G ad mrf msl mst men mnw mdn mpw mwr mrs mdr (0 : Int32) z_43.1 mnx mro mit mve mrb mch mva mic mlb mrw mnb mlk mnk mmd) H := hP
        have hD : va_D A (cM G ad mrf msl mst men mnw mdn mpw mwr mrs mdr (0 : Int32) z_43.1 mnx mro mit mve mrb mch mva mic mlb mrw mnb mlk mnk mmd) := hD
        refine lv_istore_n (lv' := [(2, .int z_64.1), (1, .int z_24.1), (0, .ref (ad 0))]) hx hb d_MO_readTop_67 rfl hl (by decide) rfl (fun ls hl => ?_)
        refine lv_aload_n hx hb d_MO_readTop_68 rfl (lv_at hl 2 rfl) ?_
        refine lv_iload_n hx hb d_MO_readTop_69 rfl (lv_at hl 0 rfl) ?_
        refine lv_iconst (v := (3 : Int32)) hx hb d_MO_readTop_70 (by decide) ?_
        obtain ⟨hk_71, hok⟩ := hok
        refine go_iz (run_V hx hb hml hown ht hK hP hD (c_MO_isBad hk_71) (cw_V ht km_MO_124 ki_MO_isBad ks_MO_isBad ini_MO kd_MO_isBad kh_MO_isBad ⟨Nat.le_of_ble_eq_true rfl, Nat.le_of_ble_eq_true rfl⟩ rfl rfl) (q0 := 0) (ci := 6) (As := [.int z_64.1, .int (3 : Int32)]) (rest := []) rfl rfl rfl hl.1 rfl (Nat.le_of_ble_eq_true rfl) d_MO_readTop_71 ⟨Nat.zero_le _, Nat.zero_le _⟩) hD hS hA (fun z_71 H locs hz_71 hP hD hS => ?_)
        have hres := bindc_eq hz_71 hres
        have hok := bindp_eq hz_71 hok
        have hP : va_P G.1 classes (cM G ad mrf msl mst men mnw mdn mpw mwr mrs mdr (0 : Int32) z_43.1 mnx mro mit mve mrb mch mva mic mlb mrw mnb mlk mnk mmd) H := hP
        have hD : va_D A (cM G ad mrf msl mst men mnw mdn mpw mwr mrs mdr (0 : Int32) z_43.1 mnx mro mit mve mrb mch mva mic mlb mrw mnb mlk mnk mmd) := hD
        refine lv_if_eq (tgt := 79) hx hb d_MO_readTop_74 (by decide) (fun c_74 => ?_) (fun c_74 => ?_)
        · have hres := it_t c_74 hres
          have hok := hok.1 c_74
          refine lv_aload_n hx hb d_MO_readTop_79 rfl (lv_at hl 2 rfl) ?_
          refine lv_aload_n hx hb d_MO_readTop_80 rfl (lv_at hl 2 rfl) ?_
          refine lv_iload_n hx hb d_MO_readTop_81 rfl (lv_at hl 0 rfl) ?_
          obtain ⟨hk_82, hok⟩ := hok
          refine go_iz (run_V hx hb hml hown ht hK hP hD (c_MO_bitsOf hk_82) (cw_V ht km_MO_92 ki_MO_bitsOf ks_MO_bitsOf ini_MO kd_MO_bitsOf kh_MO_bitsOf ⟨Nat.le_of_ble_eq_true rfl, Nat.le_of_ble_eq_true rfl⟩ rfl rfl) (q0 := 0) (ci := 6) (As := [.int z_64.1]) (rest := [.ref (ad 0)]) rfl rfl rfl hl.1 rfl (Nat.le_of_ble_eq_true rfl) d_MO_readTop_82 ⟨Nat.zero_le _, Nat.zero_le _⟩) hD hS hA (fun z_82 H locs hz_82 hP hD hS => ?_)
          have hres := bindc_eq hz_82 hres
          have hok := bindp_eq hz_82 hok
          have hP : va_P G.1 classes (cM G ad mrf msl mst men mnw mdn mpw mwr mrs mdr (0 : Int32) z_43.1 mnx mro mit mve mrb mch mva mic mlb mrw mnb mlk mnk mmd) H := hP
          have hD : va_D A (cM G ad mrf msl mst men mnw mdn mpw mwr mrs mdr (0 : Int32) z_43.1 mnx mro mit mve mrb mch mva mic mlb mrw mnb mlk mnk mmd) := hD
          refine va_put (D := G.1) (ci := 6) (v := .int z_82.1) (ty := .int) (C := R_MO) (T := F_MO) (N := 26) hx hb ht in_MO t_MO to_MO nm_MO hown hK hP hD hS 0 rfl rfl 21 (by decide) (ht _ kf_MO_160) (fun _ h9 => h9) rfl (to_MO 21 (by decide)) rfl rfl (Nat.le_of_ble_eq_true rfl) d_MO_readTop_85 (fun H locs hP hD hS => ?_)
          have hP : va_P G.1 classes (cM G ad mrf msl mst men mnw mdn mpw mwr mrs mdr z_82.1 z_43.1 mnx mro mit mve mrb mch mva mic mlb mrw mnb mlk mnk mmd) H := hP
          have hD : va_D A (cM G ad mrf msl mst men mnw mdn mpw mwr mrs mdr z_82.1 z_43.1 mnx mro mit mve mrb mch mva mic mlb mrw mnb mlk mnk mmd) := hD
          refine lv_iconst (v := (0 : Int32)) hx hb d_MO_readTop_88 (by decide) ?_
          refine lv_istore_n (lv' := [(3, .int (0 : Int32)), (2, .int z_64.1), (1, .int z_24.1), (0, .ref (ad 0))]) hx hb d_MO_readTop_89 rfl hl (by decide) rfl (fun ls hl => ?_)
          exact w_MO_readTop_90 hC 1024 z_64.1 (0 : Int32) z_82.1 z_43.1 mnk _ _ _ hok hres hP hD hS (lv_sub hl [3, 1, 0] rfl)
        · have hres := it_f c_74 hres
          refine lv_iconst (v := (0 : Int32)) hx hb d_MO_readTop_77 (by decide) ?_
          exact en_z (w1 := (fun u : Int32 × Int32 × (Nat → Int32) => (cM G ad mrf msl mst men mnw mdn mpw mwr mrs mdr u.1 u.2.1 mnx mro mit mve mrb mch mva mic mlb mrw mnb mlk u.2.2 mmd))) ((0 : Int32), z_43.1, mnk) hx hb hr hlocks hK hP hD hS hres isB_0 d_MO_readTop_78
      · have hres := it_t c_56 hres
        refine lv_iconst (v := (1 : Int32)) hx hb d_MO_readTop_59 (by decide) ?_
        exact en_z (w1 := (fun u : Int32 × Int32 × (Nat → Int32) => (cM G ad mrf msl mst men mnw mdn mpw mwr mrs mdr u.1 u.2.1 mnx mro mit mve mrb mch mva mic mlb mrw mnb mlk u.2.2 mmd))) ((0 : Int32), z_43.1, mnk) hx hb hr hlocks hK hP hD hS hres isB_1 d_MO_readTop_60
    · have hres := it_f c_34 hres
      refine lv_iconst (v := (0 : Int32)) hx hb d_MO_readTop_37 (by decide) ?_
      exact en_z (w1 := (fun u : Int32 × Int32 × (Nat → Int32) => (cM G ad mrf msl mst men mnw mdn mpw mwr mrs mdr u.1 u.2.1 mnx mro mit mve mrb mch mva mic mlb mrw mnb mlk u.2.2 mmd))) ((0 : Int32), (0 : Int32), mnk) hx hb hr hlocks hK hP hD hS hres isB_0 d_MO_readTop_38
  · have hres := it_t c_14 hres
    refine lv_iconst (v := (1 : Int32)) hx hb d_MO_readTop_17 (by decide) ?_
    exact en_z (w1 := (fun u : Int32 × Int32 × (Nat → Int32) => (cM G ad mrf msl mst men mnw mdn mpw mwr mrs mdr u.1 u.2.1 mnx mro mit mve mrb mch mva mic mlb mrw mnb mlk u.2.2 mmd))) ((0 : Int32), (0 : Int32), mnk) hx hb hr hlocks hK hP hD hS hres isB_1 d_MO_readTop_18
