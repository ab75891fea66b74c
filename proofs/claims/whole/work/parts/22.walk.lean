/-! ===== BookTreesModel.isNodeChanged(I)Z ===== -/
abbrev rm_MO_isNodeChanged : Room := { frames := 0, cells := 0, slots := 0, locals := 0 }
def f_MO_isNodeChanged_4 : Nat → Int32 → Int32 → Int32 → (Nat → Int32) → Int32 × Unit
  | 0, x1, x2, x3, mic => (0, ())
  | n + 1, x1, x2, x3, mic => if (8 : Int32) ≤ x3 then (x2, ()) else if x2 = 0 then (if (mic (((8 : Int32) * x1) + x3).toNatClampNeg) = 0 then f_MO_isNodeChanged_4 n x1 (0 : Int32) (x3 + (1 : Int32)) mic else f_MO_isNodeChanged_4 n x1 (1 : Int32) (x3 + (1 : Int32)) mic) else f_MO_isNodeChanged_4 n x1 (1 : Int32) (x3 + (1 : Int32)) mic
def ok_MO_isNodeChanged_4 : Nat → Int32 → Int32 → Int32 → (Nat → Int32) → Prop
  | 0, _, _, _, _ => False
  | n + 1, x1, x2, x3, mic => ((8 : Int32) ≤ x3 → isB x2) ∧ (¬ (8 : Int32) ≤ x3 → (x2 = 0 → vp_in (((8 : Int32) * x1) + x3) 64 ∧ (((mic (((8 : Int32) * x1) + x3).toNatClampNeg) = 0 → ok_MO_isNodeChanged_4  n x1 (0 : Int32) (x3 + (1 : Int32)) mic) ∧ (¬ (mic (((8 : Int32) * x1) + x3).toNatClampNeg) = 0 → ok_MO_isNodeChanged_4  n x1 (1 : Int32) (x3 + (1 : Int32)) mic))) ∧ (¬ x2 = 0 → ok_MO_isNodeChanged_4  n x1 (1 : Int32) (x3 + (1 : Int32)) mic))
set_option maxHeartbeats 4000000 in
set_option maxRecDepth 100000 in
theorem w_MO_isNodeChanged_4 {p : Program} {l : Launch} {e : Env} {s : State} {m : MethodId} {args : Array Value} {below : List Frame} {meth : Method} {c : Code} {A : Nat → Prop} {G : GG} {ad : Nat → Nat} {mrf : Int32} {msl : Int32} {mst : Int32} {men : Int32} {mnw : Int32} {mdn : Int32} {mpw : Int32} {mwr : Int32} {mrs : Int32} {mdr : Int32} {mtb : Int32} {mrc : Int32} {mnx : Int32} {mro : (Nat → Int32)} {mit : (Nat → Int32)} {mve : (Nat → Int32)} {mrb : (Nat → Int32)} {mch : (Nat → Int32)} {mva : (Nat → Int32)} {mic : (Nat → Int32)} {mlb : (Nat → Int32)} {mrw : (Nat → Int32)} {mnb : (Nat → Int32)} {mlk : (Nat → Int32)} {mnk : (Nat → Int32)} {mmd : (Nat → Int32)} {res : Int32 × Unit} (hC : Cx p l e s m args meth c y_MO_isNodeChanged b_MO_isNodeChanged 4 (some .boolean) "BookTreesModel" G A) : ∀ (n : Nat) (x1 : Int32) (x2 : Int32) (x3 : Int32)  (H : Heap) (locs : List Loc) (ls : Array Slot), ok_MO_isNodeChanged_4 n x1 x2 x3 mic → f_MO_isNodeChanged_4 n x1 x2 x3 mic = res → va_P G.1 classes (cM G ad mrf msl mst men mnw mdn mpw mwr mrs mdr mtb mrc mnx mro mit mve mrb mch mva mic mlb mrw mnb mlk mnk mmd) H → va_D A (cM G ad mrf msl mst men mnw mdn mpw mwr mrs mdr mtb mrc mnx mro mit mve mrb mch mva mic mlb mrw mnb mlk mnk mmd) → va_S A s.heap H locs → lv_has ls 4 [(0, .ref (ad 0)), (1, .int x1), (2, .int x2), (3, .int x3)] → W p l e rm_MO_isNodeChanged s m args below meth c H locs 0 0 (MQ below (va_Qi (eqP res) (Wb G A (fun _ : Unit => (cM G ad mrf msl mst men mnw mdn mpw mwr mrs mdr mtb mrc mnx mro mit mve mrb mch mva mic mlb mrw mnb mlk mnk mmd))) A) args s 0 0 A) (F0 m 4 ls []) := by
  obtain ⟨hx, hb, hr, hml, hown, hlocks, ht, hK, hA⟩ := id hC
  intro n
  induction n with
  | zero => intro x1 x2 x3 H locs ls hok; exact hok.elim
  | succ n ih =>
    intro x1 x2 x3 H locs ls hok hres hP hD hS hl
    rw [f_MO_isNodeChanged_4] at hres
    rw [ok_MO_isNodeChanged_4] at hok
    refine lv_iload_n hx hb d_MO_isNodeChanged_4 rfl (lv_at hl 3 rfl) ?_
    refine lv_bipush (v := (8 : Int32)) hx hb d_MO_isNodeChanged_5 (by decide) ?_
    refine lv_icmp_ge (tgt := 40) hx hb d_MO_isNodeChanged_7 (by decide) (fun c_7 => ?_) (fun c_7 => ?_)
    · have hres := it_t c_7 hres
      have hok := hok.1 c_7
      refine lv_iload_n hx hb d_MO_isNodeChanged_40 rfl (lv_at hl 2 rfl) ?_
      exact en_z (w1 := (fun _ : Unit => (cM G ad mrf msl mst men mnw mdn mpw mwr mrs mdr mtb mrc mnx mro mit mve mrb mch mva mic mlb mrw mnb mlk mnk mmd))) () hx hb hr hlocks hK hP hD hS hres hok d_MO_isNodeChanged_41
    · have hres := it_f c_7 hres
      have hok := hok.2 c_7
      refine lv_iload_n hx hb d_MO_isNodeChanged_10 rfl (lv_at hl 2 rfl) ?_
      refine lv_if_ne (tgt := 28) hx hb d_MO_isNodeChanged_11 (by decide) (fun c_11 => ?_) (fun c_11 => ?_)
      · have hres := it_f c_11 hres
        have hok := hok.2 c_11
        refine lv_iconst (v := (1 : Int32)) hx hb d_MO_isNodeChanged_28 (by decide) ?_
        refine lv_goto (tgt := 33) hx hb d_MO_isNodeChanged_29 (by decide) ?_
        refine lv_istore_n (lv' := [(2, .int (1 : Int32)), (0, .ref (ad 0)), (1, .int x1), (3, .int x3)]) hx hb d_MO_isNodeChanged_33 rfl hl (by decide) rfl (fun ls hl => ?_)
        refine lv_iinc (v := x3 + (1 : Int32)) (lv' := [(3, .int (x3 + (1 : Int32))), (2, .int (1 : Int32)), (0, .ref (ad 0)), (1, .int x1)]) hx hb d_MO_isNodeChanged_34 hl (k := 3) rfl rfl (by decide) rfl (fun ls hl => ?_)
        refine lv_goto (tgt := 4) hx hb d_MO_isNodeChanged_37 (by decide) ?_
        exact ih x1 (1 : Int32) (x3 + (1 : Int32)) _ _ _ hok hres hP hD hS (lv_sub hl [2, 3, 1, 0] rfl)
      · have hres := it_t c_11 hres
        have hok := hok.1 c_11
        refine lv_aload_n hx hb d_MO_isNodeChanged_14 rfl (lv_at hl 0 rfl) ?_
        refine va_get (D := G.1) (ci := 6) (C := R_MO) (T := F_MO) (N := 26) hx hb ht in_MO hown hK hP 0 rfl rfl 16 (by decide) (ht _ kf_MO_33) (fun _ h9 => h9) rfl d_MO_isNodeChanged_15 ?_
        refine lv_bipush (v := (8 : Int32)) hx hb d_MO_isNodeChanged_18 (by decide) ?_
        refine lv_iload_n hx hb d_MO_isNodeChanged_20 rfl (lv_at hl 1 rfl) ?_
        refine lv_imul hx hb d_MO_isNodeChanged_21 ?_
        refine lv_iload_n hx hb d_MO_isNodeChanged_22 rfl (lv_at hl 3 rfl) ?_
        refine lv_iadd hx hb d_MO_isNodeChanged_23 ?_
        obtain ⟨hi_24, hok⟩ := hok
        refine va_zald hx hb hK hP 7 1 rfl rfl hi_24 d_MO_isNodeChanged_24 ?_
        refine lv_if_eq (tgt := 32) hx hb d_MO_isNodeChanged_25 (by decide) (fun c_25 => ?_) (fun c_25 => ?_)
        · have hres := it_t c_25 hres
          have hok := hok.1 c_25
          refine lv_iconst (v := (0 : Int32)) hx hb d_MO_isNodeChanged_32 (by decide) ?_
          refine lv_istore_n (lv' := [(2, .int (0 : Int32)), (0, .ref (ad 0)), (1, .int x1), (3, .int x3)]) hx hb d_MO_isNodeChanged_33 rfl hl (by decide) rfl (fun ls hl => ?_)
          refine lv_iinc (v := x3 + (1 : Int32)) (lv' := [(3, .int (x3 + (1 : Int32))), (2, .int (0 : Int32)), (0, .ref (ad 0)), (1, .int x1)]) hx hb d_MO_isNodeChanged_34 hl (k := 3) rfl rfl (by decide) rfl (fun ls hl => ?_)
          refine lv_goto (tgt := 4) hx hb d_MO_isNodeChanged_37 (by decide) ?_
          exact ih x1 (0 : Int32) (x3 + (1 : Int32)) _ _ _ hok hres hP hD hS (lv_sub hl [2, 3, 1, 0] rfl)
        · have hres := it_f c_25 hres
          have hok := hok.2 c_25
          refine lv_iconst (v := (1 : Int32)) hx hb d_MO_isNodeChanged_28 (by decide) ?_
          refine lv_goto (tgt := 33) hx hb d_MO_isNodeChanged_29 (by decide) ?_
          refine lv_istore_n (lv' := [(2, .int (1 : Int32)), (0, .ref (ad 0)), (1, .int x1), (3, .int x3)]) hx hb d_MO_isNodeChanged_33 rfl hl (by decide) rfl (fun ls hl => ?_)
          refine lv_iinc (v := x3 + (1 : Int32)) (lv' := [(3, .int (x3 + (1 : Int32))), (2, .int (1 : Int32)), (0, .ref (ad 0)), (1, .int x1)]) hx hb d_MO_isNodeChanged_34 hl (k := 3) rfl rfl (by decide) rfl (fun ls hl => ?_)
          refine lv_goto (tgt := 4) hx hb d_MO_isNodeChanged_37 (by decide) ?_
          exact ih x1 (1 : Int32) (x3 + (1 : Int32)) _ _ _ hok hres hP hD hS (lv_sub hl [2, 3, 1, 0] rfl)
def f_MO_isNodeChanged (p0 : Int32) (mic : (Nat → Int32)) : Int32 × Unit := f_MO_isNodeChanged_4 1024 p0 (0 : Int32) (0 : Int32) mic
def ok_MO_isNodeChanged (p0 : Int32) (mic : (Nat → Int32)) : Prop := ok_MO_isNodeChanged_4  1024 p0 (0 : Int32) (0 : Int32) mic
set_option maxHeartbeats 4000000 in
set_option maxRecDepth 100000 in
theorem c_MO_isNodeChanged {l : Launch} {G : GG} {ad : Nat → Nat} {sz : Nat} {mrf : Int32} {msl : Int32} {mst : Int32} {men : Int32} {mnw : Int32} {mdn : Int32} {mpw : Int32} {mwr : Int32} {mrs : Int32} {mdr : Int32} {mtb : Int32} {mrc : Int32} {mnx : Int32} {mro : (Nat → Int32)} {mit : (Nat → Int32)} {mve : (Nat → Int32)} {mrb : (Nat → Int32)} {mch : (Nat → Int32)} {mva : (Nat → Int32)} {mic : (Nat → Int32)} {mlb : (Nat → Int32)} {mrw : (Nat → Int32)} {mnb : (Nat → Int32)} {mlk : (Nat → Int32)} {mnk : (Nat → Int32)} {mmd : (Nat → Int32)} {p0 : Int32} (hok : ok_MO_isNodeChanged p0 mic) : CtI l y_MO_isNodeChanged b_MO_isNodeChanged 4 (some .boolean) rm_MO_isNodeChanged G (cM G ad mrf msl mst men mnw mdn mpw mwr mrs mdr mtb mrc mnx mro mit mve mrb mch mva mic mlb mrw mnb mlk mnk mmd) sz [.ref (ad 0), .int p0] (eqP (f_MO_isNodeChanged p0 mic)) (fun _ : Unit => (cM G ad mrf msl mst men mnw mdn mpw mwr mrs mdr mtb mrc mnx mro mit mve mrb mch mva mic mlb mrw mnb mlk mnk mmd)) := by
  generalize hres : f_MO_isNodeChanged p0 mic = res
  refine Met_of (Qc := fun A => va_Qi (eqP res) (Wb G A (fun _ : Unit => (cM G ad mrf msl mst men mnw mdn mpw mwr mrs mdr mtb mrc mnx mro mit mve mrb mch mva mic mlb mrw mnb mlk mnk mmd))) A) (by decide) (Nat.le_of_ble_eq_true rfl) ?_
  intro p e s m below meth c hadm hx hb hr hml hown hlocks ht hK A hA hP hD hS ls hl
  have hC : Cx p l e s m (([.ref (ad 0), .int p0] : List Value)).toArray meth c y_MO_isNodeChanged b_MO_isNodeChanged 4 (some .boolean) "BookTreesModel" G A := ⟨hx, hb, hr, hml, hown, hlocks, ht, hK, hA⟩
  have hown : s.vm.findClass "BookTreesModel" = some m.cls := hown
  have hl : lv_has ls 4 [(0, .ref (ad 0)), (1, .int p0)] := hl
  rw [f_MO_isNodeChanged] at hres
  rw [ok_MO_isNodeChanged] at hok
  refine lv_iconst (v := (0 : Int32)) hx hb d_MO_isNodeChanged_0 (by decide) ?_
  refine lv_istore_n (lv' := [(2, .int (0 : Int32)), (0, .ref (ad 0)), (1, .int p0)]) hx hb d_MO_isNodeChanged_1 rfl hl (by decide) rfl (fun ls hl => ?_)
  refine lv_iconst (v := (0 : Int32)) hx hb d_MO_isNodeChanged_2 (by decide) ?_
  refine lv_istore_n (lv' := [(3, .int (0 : Int32)), (2, .int (0 : Int32)), (0, .ref (ad 0)), (1, .int p0)]) hx hb d_MO_isNodeChanged_3 rfl hl (by decide) rfl (fun ls hl => ?_)
  exact w_MO_isNodeChanged_4 hC 1024 p0 (0 : Int32) (0 : Int32) _ _ _ hok hres hP hD hS (lv_sub hl [2, 3, 1, 0] rfl)
/-! ===== BookTreesModel.readLeaf(II)Z ===== -/
abbrev rm_MO_readLeaf : Room := { frames := 3, cells := 0, slots := 0, locals := 72 }
def f_MO_readLeaf_24 : Nat → Int32 → Int32 → Int32 → Int32 → Int32 → Int32 → (Nat → Int32) → (Nat → Int32) → (Nat → Int32) → (Nat → Int32) → Int32 × (Nat → Int32) × (Nat → Int32)
  | 0, x1, x2, x3, msl, mst, men, mro, mit, mlb, mrw => (0, (mlb, mrw))
  | n + 1, x1, x2, x3, msl, mst, men, mro, mit, mlb, mrw => if (8 : Int32) ≤ x3 then ((1 : Int32), (mlb, mrw)) else bindc (f_MO_hasEntry x2 x3 msl mro) (fun z_43 => if z_43.1 = 0 then f_MO_readLeaf_24 n x1 x2 (x3 + (1 : Int32)) msl mst men mro mit mlb (upd mrw (((8 : Int32) * x1) + x3).toNatClampNeg (0 : Int32)) else bindc (f_MO_entryOf x2 x3 msl mro) (fun z_52 => f_MO_readLeaf_24 n x1 x2 (x3 + (1 : Int32)) msl mst men mro mit mlb (upd mrw (((8 : Int32) * x1) + x3).toNatClampNeg z_52.1)))
def ok_MO_readLeaf_24 : Nat → Int32 → Int32 → Int32 → Int32 → Int32 → Int32 → (Nat → Int32) → (Nat → Int32) → (Nat → Int32) → (Nat → Int32) → Prop
  | 0, _, _, _, _, _, _, _, _, _, _ => False
  | n + 1, x1, x2, x3, msl, mst, men, mro, mit, mlb, mrw => ((8 : Int32) ≤ x3 → True) ∧ (¬ (8 : Int32) ≤ x3 → ok_MO_hasEntry x2 x3 msl mro ∧ bindp (f_MO_hasEntry x2 x3 msl mro) (fun z_43 => (z_43.1 = 0 → vp_in (((8 : Int32) * x1) + x3) 512 ∧ (ok_MO_readLeaf_24  n x1 x2 (x3 + (1 : Int32)) msl mst men mro mit mlb (upd mrw (((8 : Int32) * x1) + x3).toNatClampNeg (0 : Int32)))) ∧ (¬ z_43.1 = 0 → ok_MO_entryOf x2 x3 msl mro ∧ bindp (f_MO_entryOf x2 x3 msl mro) (fun z_52 => vp_in (((8 : Int32) * x1) + x3) 512 ∧ (ok_MO_readLeaf_24  n x1 x2 (x3 + (1 : Int32)) msl mst men mro mit mlb (upd mrw (((8 : Int32) * x1) + x3).toNatClampNeg z_52.1))))))
set_option maxHeartbeats 4000000 in
set_option maxRecDepth 100000 in
theorem w_MO_readLeaf_24 {p : Program} {l : Launch} {e : Env} {s : State} {m : MethodId} {args : Array Value} {below : List Frame} {meth : Method} {c : Code} {A : Nat → Prop} {G : GG} {ad : Nat → Nat} {mrf : Int32} {msl : Int32} {mst : Int32} {men : Int32} {mnw : Int32} {mdn : Int32} {mpw : Int32} {mwr : Int32} {mrs : Int32} {mdr : Int32} {mtb : Int32} {mrc : Int32} {mnx : Int32} {mro : (Nat → Int32)} {mit : (Nat → Int32)} {mve : (Nat → Int32)} {mrb : (Nat → Int32)} {mch : (Nat → Int32)} {mva : (Nat → Int32)} {mic : (Nat → Int32)} {mnb : (Nat → Int32)} {mlk : (Nat → Int32)} {mnk : (Nat → Int32)} {mmd : (Nat → Int32)} {res : Int32 × (Nat → Int32) × (Nat → Int32)} (hC : Cx p l e s m args meth c y_MO_readLeaf b_MO_readLeaf 4 (some .boolean) "BookTreesModel" G A) : ∀ (n : Nat) (x1 : Int32) (x2 : Int32) (x3 : Int32) (mlb : (Nat → Int32)) (mrw : (Nat → Int32)) (H : Heap) (locs : List Loc) (ls : Array Slot), ok_MO_readLeaf_24 n x1 x2 x3 msl mst men mro mit mlb mrw → f_MO_readLeaf_24 n x1 x2 x3 msl mst men mro mit mlb mrw = res → va_P G.1 classes (cM G ad mrf msl mst men mnw mdn mpw mwr mrs mdr mtb mrc mnx mro mit mve mrb mch mva mic mlb mrw mnb mlk mnk mmd) H → va_D A (cM G ad mrf msl mst men mnw mdn mpw mwr mrs mdr mtb mrc mnx mro mit mve mrb mch mva mic mlb mrw mnb mlk mnk mmd) → va_S A s.heap H locs → lv_has ls 4 [(0, .ref (ad 0)), (1, .int x1), (2, .int x2), (3, .int x3)] → W p l e rm_MO_readLeaf s m args below meth c H locs 0 0 (MQ below (va_Qi (eqP res) (Wb G A (fun u : (Nat → Int32) × (Nat → Int32) => (cM G ad mrf msl mst men mnw mdn mpw mwr mrs mdr mtb mrc mnx mro mit mve mrb mch mva mic u.1 u.2 mnb mlk mnk mmd))) A) args s 0 0 A) (F0 m 24 ls []) := by
  obtain ⟨hx, hb, hr, hml, hown, hlocks, ht, hK, hA⟩ := id hC
  intro n
  induction n with
  | zero => intro x1 x2 x3 mlb mrw H locs ls hok; exact hok.elim
  | succ n ih =>
    intro x1 x2 x3 mlb mrw H locs ls hok hres hP hD hS hl
    rw [f_MO_readLeaf_24] at hres
    rw [ok_MO_readLeaf_24] at hok
    refine lv_iload_n hx hb d_MO_readLeaf_24 rfl (lv_at hl 3 rfl) ?_
    refine lv_bipush (v := (8 : Int32)) hx hb d_MO_readLeaf_25 (by decide) ?_
    refine lv_icmp_ge (tgt := 66) hx hb d_MO_readLeaf_27 (by decide) (fun c_27 => ?_) (fun c_27 => ?_)
    · have hres := it_t c_27 hres
      refine lv_iconst (v := (1 : Int32)) hx hb d_MO_readLeaf_66 (by decide) ?_
      exact en_z (w1 := (fun u : (Nat → Int32) × (Nat → Int32) => (cM G ad mrf msl mst men mnw mdn mpw mwr mrs mdr mtb mrc mnx mro mit mve mrb mch mva mic u.1 u.2 mnb mlk mnk mmd))) (mlb, mrw) hx hb hr hlocks hK hP hD hS hres isB_1 d_MO_readLeaf_67
    · have hres := it_f c_27 hres
      have hok := hok.2 c_27
      refine lv_aload_n hx hb d_MO_readLeaf_30 rfl (lv_at hl 0 rfl) ?_
      refine va_get (D := G.1) (ci := 6) (C := R_MO) (T := F_MO) (N := 26) hx hb ht in_MO hown hK hP 0 rfl rfl 18 (by decide) (ht _ kf_MO_39) (fun _ h9 => h9) rfl d_MO_readLeaf_31 ?_
      refine lv_bipush (v := (8 : Int32)) hx hb d_MO_readLeaf_34 (by decide) ?_
      refine lv_iload_n hx hb d_MO_readLeaf_36 rfl (lv_at hl 1 rfl) ?_
      refine lv_imul hx hb d_MO_readLeaf_37 ?_
      refine lv_iload_n hx hb d_MO_readLeaf_38 rfl (lv_at hl 3 rfl) ?_
      refine lv_iadd hx hb d_MO_readLeaf_39 ?_
      refine lv_aload_n hx hb d_MO_readLeaf_40 rfl (lv_at hl 0 rfl) ?_
      refine lv_iload_n hx hb d_MO_readLeaf_41 rfl (lv_at hl 2 rfl) ?_
      refine lv_iload_n hx hb d_MO_readLeaf_42 rfl (lv_at hl 3 rfl) ?_
      obtain ⟨hk_43, hok⟩ := hok
      refine go_iz (run_V hx hb hml hown ht hK hP hD (c_MO_hasEntry hk_43) (cw_V ht km_MO_134 ki_MO_hasEntry ks_MO_hasEntry ini_MO kd_MO_hasEntry kh_MO_hasEntry ⟨Nat.le_of_ble_eq_true rfl, Nat.le_of_ble_eq_true rfl⟩ rfl rfl) (q0 := 0) (ci := 6) (As := [.int x2, .int x3]) (rest := [.int (((8 : Int32) * x1) + x3), .ref (ad 9)]) rfl rfl rfl hl.1 rfl (Nat.le_of_ble_eq_true rfl) d_MO_readLeaf_43 ⟨Nat.zero_le _, Nat.zero_le _⟩) hD hS hA (fun z_43 H locs hz_43 hP hD hS => ?_)
      have hres := bindc_eq hz_43 hres
      have hok := bindp_eq hz_43 hok
      have hP : va_P G.1 classes (cM G ad mrf msl mst men mnw mdn mpw mwr mrs mdr mtb mrc mnx mro mit mve mrb mch mva mic mlb mrw mnb mlk mnk mmd) H := hP
      have hD : va_D A (cM G ad mrf msl mst men mnw mdn mpw mwr mrs mdr mtb mrc mnx mro mit mve mrb mch mva mic mlb mrw mnb mlk mnk mmd) := hD
      refine lv_if_eq (tgt := 58) hx hb d_MO_readLeaf_46 (by decide) (fun c_46 => ?_) (fun c_46 => ?_)
      · have hres := it_t c_46 hres
        have hok := hok.1 c_46
        refine lv_iconst (v := (0 : Int32)) hx hb d_MO_readLeaf_58 (by decide) ?_
        obtain ⟨hi_59, hok⟩ := hok
        refine va_iast hx hb hK hP hD hS 9 0 rfl rfl hi_59 d_MO_readLeaf_59 (fun H locs hP hD hS => ?_)
        have hP : va_P G.1 classes (cM G ad mrf msl mst men mnw mdn mpw mwr mrs mdr mtb mrc mnx mro mit mve mrb mch mva mic mlb (upd mrw (((8 : Int32) * x1) + x3).toNatClampNeg (0 : Int32)) mnb mlk mnk mmd) H := hP
        have hD : va_D A (cM G ad mrf msl mst men mnw mdn mpw mwr mrs mdr mtb mrc mnx mro mit mve mrb mch mva mic mlb (upd mrw (((8 : Int32) * x1) + x3).toNatClampNeg (0 : Int32)) mnb mlk mnk mmd) := hD
        refine lv_iinc (v := x3 + (1 : Int32)) (lv' := [(3, .int (x3 + (1 : Int32))), (0, .ref (ad 0)), (1, .int x1), (2, .int x2)]) hx hb d_MO_readLeaf_60 hl (k := 3) rfl rfl (by decide) rfl (fun ls hl => ?_)
        refine lv_goto (tgt := 24) hx hb d_MO_readLeaf_63 (by decide) ?_
        exact ih x1 x2 (x3 + (1 : Int32)) mlb (upd mrw (((8 : Int32) * x1) + x3).toNatClampNeg (0 : Int32)) _ _ _ hok hres hP hD hS (lv_sub hl [1, 2, 3, 0] rfl)
      · have hres := it_f c_46 hres
        have hok := hok.2 c_46
        refine lv_aload_n hx hb d_MO_readLeaf_49 rfl (lv_at hl 0 rfl) ?_
        refine lv_iload_n hx hb d_MO_readLeaf_50 rfl (lv_at hl 2 rfl) ?_
        refine lv_iload_n hx hb d_MO_readLeaf_51 rfl (lv_at hl 3 rfl) ?_
        obtain ⟨hk_52, hok⟩ := hok
        refine go_iz (run_V hx hb hml hown ht hK hP hD (c_MO_entryOf hk_52) (cw_V ht km_MO_130 ki_MO_entryOf ks_MO_entryOf ini_MO kd_MO_entryOf kh_MO_entryOf ⟨Nat.le_of_ble_eq_true rfl, Nat.le_of_ble_eq_true rfl⟩ rfl rfl) (q0 := 0) (ci := 6) (As := [.int x2, .int x3]) (rest := [.int (((8 : Int32) * x1) + x3), .ref (ad 9)]) rfl rfl rfl hl.1 rfl (Nat.le_of_ble_eq_true rfl) d_MO_readLeaf_52 ⟨Nat.zero_le _, Nat.zero_le _⟩) hD hS hA (fun z_52 H locs hz_52 hP hD hS => ?_)
        have hres := bindc_eq hz_52 hres
        have hok := bindp_eq hz_52 hok
        have hP : va_P G.1 classes (cM G ad mrf msl mst men mnw mdn mpw mwr mrs mdr mtb mrc mnx mro mit mve mrb mch mva mic mlb mrw mnb mlk mnk mmd) H := hP
        have hD : va_D A (cM G ad mrf msl mst men mnw mdn mpw mwr mrs mdr mtb mrc mnx mro mit mve mrb mch mva mic mlb mrw mnb mlk mnk mmd) := hD
        refine lv_goto (tgt := 59) hx hb d_MO_readLeaf_55 (by decide) ?_
        obtain ⟨hi_59, hok⟩ := hok
        refine va_iast hx hb hK hP hD hS 9 0 rfl rfl hi_59 d_MO_readLeaf_59 (fun H locs hP hD hS => ?_)
        have hP : va_P G.1 classes (cM G ad mrf msl mst men mnw mdn mpw mwr mrs mdr mtb mrc mnx mro mit mve mrb mch mva mic mlb (upd mrw (((8 : Int32) * x1) + x3).toNatClampNeg z_52.1) mnb mlk mnk mmd) H := hP
        have hD : va_D A (cM G ad mrf msl mst men mnw mdn mpw mwr mrs mdr mtb mrc mnx mro mit mve mrb mch mva mic mlb (upd mrw (((8 : Int32) * x1) + x3).toNatClampNeg z_52.1) mnb mlk mnk mmd) := hD
        refine lv_iinc (v := x3 + (1 : Int32)) (lv' := [(3, .int (x3 + (1 : Int32))), (0, .ref (ad 0)), (1, .int x1), (2, .int x2)]) hx hb d_MO_readLeaf_60 hl (k := 3) rfl rfl (by decide) rfl (fun ls hl => ?_)
        refine lv_goto (tgt := 24) hx hb d_MO_readLeaf_63 (by decide) ?_
        exact ih x1 x2 (x3 + (1 : Int32)) mlb (upd mrw (((8 : Int32) * x1) + x3).toNatClampNeg z_52.1) _ _ _ hok hres hP hD hS (lv_sub hl [1, 2, 3, 0] rfl)
def f_MO_readLeaf (p0 : Int32) (p1 : Int32) (msl : Int32) (mst : Int32) (men : Int32) (mro : (Nat → Int32)) (mit : (Nat → Int32)) (mlb : (Nat → Int32)) (mrw : (Nat → Int32)) : Int32 × (Nat → Int32) × (Nat → Int32) := bindc (f_MO_isBad p1 (1 : Int32) msl mst men mro mit) (fun z_3 => if z_3.1 = 0 then bindc (f_MO_bitsOf p1 msl mro) (fun z_18 => f_MO_readLeaf_24 1024 p0 p1 (0 : Int32) msl mst men mro mit (upd mlb p0.toNatClampNeg z_18.1) mrw) else ((0 : Int32), (mlb, mrw)))
def ok_MO_readLeaf (p0 : Int32) (p1 : Int32) (msl : Int32) (mst : Int32) (men : Int32) (mro : (Nat → Int32)) (mit : (Nat → Int32)) (mlb : (Nat → Int32)) (mrw : (Nat → Int32)) : Prop := ok_MO_isBad p1 (1 : Int32) msl mst men mro mit ∧ bindp (f_MO_isBad p1 (1 : Int32) msl mst men mro mit) (fun z_3 => (z_3.1 = 0 → ok_MO_bitsOf p1 msl mro ∧ bindp (f_MO_bitsOf p1 msl mro) (fun z_18 => vp_in p0 64 ∧ (ok_MO_readLeaf_24  1024 p0 p1 (0 : Int32) msl mst men mro mit (upd mlb p0.toNatClampNeg z_18.1) mrw))) ∧ (¬ z_3.1 = 0 → True))
set_option maxHeartbeats 4000000 in
set_option maxRecDepth 100000 in
theorem c_MO_readLeaf {l : Launch} {G : GG} {ad : Nat → Nat} {sz : Nat} {mrf : Int32} {msl : Int32} {mst : Int32} {men : Int32} {mnw : Int32} {mdn : Int32} {mpw : Int32} {mwr : Int32} {mrs : Int32} {mdr : Int32} {mtb : Int32} {mrc : Int32} {mnx : Int32} {mro : (Nat → Int32)} {mit : (Nat → Int32)} {mve : (Nat → Int32)} {mrb : (Nat → Int32)} {mch : (Nat → Int32)} {mva : (Nat → Int32)} {mic : (Nat → Int32)} {mlb : (Nat → Int32)} {mrw : (Nat → Int32)} {mnb : (Nat → Int32)} {mlk : (Nat → Int32)} {mnk : (Nat → Int32)} {mmd : (Nat → Int32)} {p0 : Int32} {p1 : Int32} (hok : ok_MO_readLeaf p0 p1 msl mst men mro mit mlb mrw) : CtI l y_MO_readLeaf b_MO_readLeaf 4 (some .boolean) rm_MO_readLeaf G (cM G ad mrf msl mst men mnw mdn mpw mwr mrs mdr mtb mrc mnx mro mit mve mrb mch mva mic mlb mrw mnb mlk mnk mmd) sz [.ref (ad 0), .int p0, .int p1] (eqP (f_MO_readLeaf p0 p1 msl mst men mro mit mlb mrw)) (fun u : (Nat → Int32) × (Nat → Int32) => (cM G ad mrf msl mst men mnw mdn mpw mwr mrs mdr mtb mrc mnx mro mit mve mrb mch mva mic u.1 u.2 mnb mlk mnk mmd)) := by
  generalize hres : f_MO_readLeaf p0 p1 msl mst men mro mit mlb mrw = res
  refine Met_of (Qc := fun A => va_Qi (eqP res) (Wb G A (fun u : (Nat → Int32) × (Nat → Int32) => (cM G ad mrf msl mst men mnw mdn mpw mwr mrs mdr mtb mrc mnx mro mit mve mrb mch mva mic u.1 u.2 mnb mlk mnk mmd))) A) (by decide) (Nat.le_of_ble_eq_true rfl) ?_
  intro p e s m below meth c hadm hx hb hr hml hown hlocks ht hK A hA hP hD hS ls hl
  have hC : Cx p l e s m (([.ref (ad 0), .int p0, .int p1] : List Value)).toArray meth c y_MO_readLeaf b_MO_readLeaf 4 (some .boolean) "BookTreesModel" G A := ⟨hx, hb, hr, hml, hown, hlocks, ht, hK, hA⟩
  have hown : s.vm.findClass "BookTreesModel" = some m.cls := hown
  have hl : lv_has ls 4 [(0, .ref (ad 0)), (1, .int p0), (2, .int p1)] := hl
  rw [f_MO_readLeaf] at hres
  rw [ok_MO_readLeaf] at hok
  refine lv_aload_n hx hb d_MO_readLeaf_0 rfl (lv_at hl 0 rfl) ?_
  refine lv_iload_n hx hb d_MO_readLeaf_1 rfl (lv_at hl 2 rfl) ?_
  refine lv_iconst (v := (1 : Int32)) hx hb d_MO_readLeaf_2 (by decide) ?_
  obtain ⟨hk_3, hok⟩ := hok
  refine go_iz (run_V hx hb hml hown ht hK hP hD (c_MO_isBad hk_3) (cw_V ht km_MO_124 ki_MO_isBad ks_MO_isBad ini_MO kd_MO_isBad kh_MO_isBad ⟨Nat.le_of_ble_eq_true rfl, Nat.le_of_ble_eq_true rfl⟩ rfl rfl) (q0 := 0) (ci := 6) (As := [.int p1, .int (1 : Int32)]) (rest := []) rfl rfl rfl hl.1 rfl (Nat.le_of_ble_eq_true rfl) d_MO_readLeaf_3 ⟨Nat.zero_le _, Nat.zero_le _⟩) hD hS hA (fun z_3 H locs hz_3 hP hD hS => ?_)
  have hres := bindc_eq hz_3 hres
  have hok := bindp_eq hz_3 hok
  have hP : va_P G.1 classes (cM G ad mrf msl mst men mnw mdn mpw mwr mrs mdr mtb mrc mnx mro mit mve mrb mch mva mic mlb mrw mnb mlk mnk mmd) H := hP
  have hD : va_D A (cM G ad mrf msl mst men mnw mdn mpw mwr mrs mdr mtb mrc mnx mro mit mve mrb mch mva mic mlb mrw mnb mlk mnk mmd) := hD
  refine lv_if_eq (tgt := 11) hx hb d_MO_readLeaf_6 (by decide) (fun c_6 => ?_) (fun c_6 => ?_)
  · have hres := it_t c_6 hres
    have hok := hok.1 c_6
    refine lv_aload_n hx hb d_MO_readLeaf_11 rfl (lv_at hl 0 rfl) ?_
    refine va_get (D := G.1) (ci := 6) (C := R_MO) (T := F_MO) (N := 26) hx hb ht in_MO hown hK hP 0 rfl rfl 17 (by decide) (ht _ kf_MO_36) (fun _ h9 => h9) rfl d_MO_readLeaf_12 ?_
    refine lv_iload_n hx hb d_MO_readLeaf_15 rfl (lv_at hl 1 rfl) ?_
    refine lv_aload_n hx hb d_MO_readLeaf_16 rfl (lv_at hl 0 rfl) ?_
    refine lv_iload_n hx hb d_MO_readLeaf_17 rfl (lv_at hl 2 rfl) ?_
    obtain ⟨hk_18, hok⟩ := hok
    refine go_iz (run_V hx hb hml hown ht hK hP hD (c_MO_bitsOf hk_18) (cw_V ht km_MO_92 ki_MO_bitsOf ks_MO_bitsOf ini_MO kd_MO_bitsOf kh_MO_bitsOf ⟨Nat.le_of_ble_eq_true rfl, Nat.le_of_ble_eq_true rfl⟩ rfl rfl) (q0 := 0) (ci := 6) (As := [.int p1]) (rest := [.int p0, .ref (ad 8)]) rfl rfl rfl hl.1 rfl (Nat.le_of_ble_eq_true rfl) d_MO_readLeaf_18 ⟨Nat.zero_le _, Nat.zero_le _⟩) hD hS hA (fun z_18 H locs hz_18 hP hD hS => ?_)
    have hres := bindc_eq hz_18 hres
    have hok := bindp_eq hz_18 hok
    have hP : va_P G.1 classes (cM G ad mrf msl mst men mnw mdn mpw mwr mrs mdr mtb mrc mnx mro mit mve mrb mch mva mic mlb mrw mnb mlk mnk mmd) H := hP
    have hD : va_D A (cM G ad mrf msl mst men mnw mdn mpw mwr mrs mdr mtb mrc mnx mro mit mve mrb mch mva mic mlb mrw mnb mlk mnk mmd) := hD
    obtain ⟨hi_21, hok⟩ := hok
    refine va_iast hx hb hK hP hD hS 8 0 rfl rfl hi_21 d_MO_readLeaf_21 (fun H locs hP hD hS => ?_)
    have hP : va_P G.1 classes (cM G ad mrf msl mst men mnw mdn mpw mwr mrs mdr mtb mrc mnx mro mit mve mrb mch mva mic (upd mlb p0.toNatClampNeg z_18.1) mrw mnb mlk mnk mmd) H := hP
    have hD : va_D A (cM G ad mrf msl mst men mnw mdn mpw mwr mrs mdr mtb mrc mnx mro mit mve mrb mch mva mic (upd mlb p0.toNatClampNeg z_18.1) mrw mnb mlk mnk mmd) := hD
    refine lv_iconst (v := (0 : Int32)) hx hb d_MO_readLeaf_22 (by decide) ?_
    refine lv_istore_n (lv' := [(3, .int (0 : Int32)), (0, .ref (ad 0)), (1, .int p0), (2, .int p1)]) hx hb d_MO_readLeaf_23 rfl hl (by decide) rfl (fun ls hl => ?_)
    exact w_MO_readLeaf_24 hC 1024 p0 p1 (0 : Int32) (upd mlb p0.toNatClampNeg z_18.1) mrw _ _ _ hok hres hP hD hS (lv_sub hl [1, 2, 3, 0] rfl)
  · have hres := it_f c_6 hres
    refine lv_iconst (v := (0 : Int32)) hx hb d_MO_readLeaf_9 (by decide) ?_
    exact en_z (w1 := (fun u : (Nat → Int32) × (Nat → Int32) => (cM G ad mrf msl mst men mnw mdn mpw mwr mrs mdr mtb mrc mnx mro mit mve mrb mch mva mic u.1 u.2 mnb mlk mnk mmd))) (mlb, mrw) hx hb hr hlocks hK hP hD hS hres isB_0 d_MO_readLeaf_10
/-! ===== BookTreesModel.readNode(I)Z ===== -/
abbrev rm_MO_readNode : Room := { frames := 4, cells := 0, slots := 0, locals := 95 }
def f_MO_readNode_92 : Nat → Int32 → Int32 → Int32 → Int32 → Int32 → Int32 → Int32 → Int32 → (Nat → Int32) → (Nat → Int32) → (Nat → Int32) → (Nat → Int32) → (Nat → Int32) → (Nat → Int32) → (Nat → Int32) → (Nat → Int32) → Int32 × (Nat → Int32) × (Nat → Int32) × (Nat → Int32) × (Nat → Int32)
  | 0, x1, x2, x3, x4, msl, mst, men, mtb, mro, mit, mic, mlb, mrw, mnb, mlk, mnk => (0, (mlb, mrw, mnb, mlk))
  | n + 1, x1, x2, x3, x4, msl, mst, men, mtb, mro, mit, mic, mlb, mrw, mnb, mlk, mnk => if (8 : Int32) ≤ x4 then (x3, (mlb, mrw, mnb, mlk)) else bindc (f_MO_hasEntry x2 x4 msl mro) (fun z_112 => if z_112.1 = 0 then (if x3 = 0 then f_MO_readNode_92 n x1 x2 (0 : Int32) (x4 + (1 : Int32)) msl mst men mtb mro mit mic mlb mrw mnb (upd mlk (((8 : Int32) * x1) + x4).toNatClampNeg (0 : Int32)) mnk else if z_112.1 = 0 then f_MO_readNode_92 n x1 x2 (1 : Int32) (x4 + (1 : Int32)) msl mst men mtb mro mit mic mlb mrw mnb (upd mlk (((8 : Int32) * x1) + x4).toNatClampNeg (0 : Int32)) mnk else if (mic (((8 : Int32) * x1) + x4).toNatClampNeg) = 0 then f_MO_readNode_92 n x1 x2 (1 : Int32) (x4 + (1 : Int32)) msl mst men mtb mro mit mic mlb mrw mnb (upd mlk (((8 : Int32) * x1) + x4).toNatClampNeg (0 : Int32)) mnk else bindc (f_MO_readLeaf (((8 : Int32) * x1) + x4) ((upd mlk (((8 : Int32) * x1) + x4).toNatClampNeg (0 : Int32)) (((8 : Int32) * x1) + x4).toNatClampNeg) msl mst men mro mit mlb mrw) (fun z_169 => if z_169.1 = 0 then f_MO_readNode_92 n x1 x2 (0 : Int32) (x4 + (1 : Int32)) msl mst men mtb mro mit mic z_169.2.1 z_169.2.2 mnb (upd mlk (((8 : Int32) * x1) + x4).toNatClampNeg (0 : Int32)) mnk else f_MO_readNode_92 n x1 x2 (1 : Int32) (x4 + (1 : Int32)) msl mst men mtb mro mit mic z_169.2.1 z_169.2.2 mnb (upd mlk (((8 : Int32) * x1) + x4).toNatClampNeg (0 : Int32)) mnk)) else bindc (f_MO_entryOf x2 x4 msl mro) (fun z_132 => if x3 = 0 then f_MO_readNode_92 n x1 x2 (0 : Int32) (x4 + (1 : Int32)) msl mst men mtb mro mit mic mlb mrw mnb (upd mlk (((8 : Int32) * x1) + x4).toNatClampNeg z_132.1) mnk else if z_112.1 = 0 then f_MO_readNode_92 n x1 x2 (1 : Int32) (x4 + (1 : Int32)) msl mst men mtb mro mit mic mlb mrw mnb (upd mlk (((8 : Int32) * x1) + x4).toNatClampNeg z_132.1) mnk else if (mic (((8 : Int32) * x1) + x4).toNatClampNeg) = 0 then f_MO_readNode_92 n x1 x2 (1 : Int32) (x4 + (1 : Int32)) msl mst men mtb mro mit mic mlb mrw mnb (upd mlk (((8 : Int32) * x1) + x4).toNatClampNeg z_132.1) mnk else bindc (f_MO_readLeaf (((8 : Int32) * x1) + x4) ((upd mlk (((8 : Int32) * x1) + x4).toNatClampNeg z_132.1) (((8 : Int32) * x1) + x4).toNatClampNeg) msl mst men mro mit mlb mrw) (fun z_169 => if z_169.1 = 0 then f_MO_readNode_92 n x1 x2 (0 : Int32) (x4 + (1 : Int32)) msl mst men mtb mro mit mic z_169.2.1 z_169.2.2 mnb (upd mlk (((8 : Int32) * x1) + x4).toNatClampNeg z_132.1) mnk else f_MO_readNode_92 n x1 x2 (1 : Int32) (x4 + (1 : Int32)) msl mst men mtb mro mit mic z_169.2.1 z_169.2.2 mnb (upd mlk (((8 : Int32) * x1) + x4).toNatClampNeg z_132.1) mnk)))
def ok_MO_readNode_92 : Nat → Int32 → Int32 → Int32 → Int32 → Int32 → Int32 → Int32 → Int32 → (Nat → Int32) → (Nat → Int32) → (Nat → Int32) → (Nat → Int32) → (Nat → Int32) → (Nat → Int32) → (Nat → Int32) → (Nat → Int32) → Prop
  | 0, _, _, _, _, _, _, _, _, _, _, _, _, _, _, _, _ => False
  | n + 1, x1, x2, x3, x4, msl, mst, men, mtb, mro, mit, mic, mlb, mrw, mnb, mlk, mnk => ((8 : Int32) ≤ x4 → isB x3) ∧ (¬ (8 : Int32) ≤ x4 → ok_MO_hasEntry x2 x4 msl mro ∧ bindp (f_MO_hasEntry x2 x4 msl mro) (fun z_112 => (z_112.1 = 0 → vp_in (((8 : Int32) * x1) + x4) 64 ∧ ((x3 = 0 → ok_MO_readNode_92  n x1 x2 (0 : Int32) (x4 + (1 : Int32)) msl mst men mtb mro mit mic mlb mrw mnb (upd mlk (((8 : Int32) * x1) + x4).toNatClampNeg (0 : Int32)) mnk) ∧ (¬ x3 = 0 → (z_112.1 = 0 → ok_MO_readNode_92  n x1 x2 (1 : Int32) (x4 + (1 : Int32)) msl mst men mtb mro mit mic mlb mrw mnb (upd mlk (((8 : Int32) * x1) + x4).toNatClampNeg (0 : Int32)) mnk) ∧ (¬ z_112.1 = 0 → vp_in (((8 : Int32) * x1) + x4) 64 ∧ (((mic (((8 : Int32) * x1) + x4).toNatClampNeg) = 0 → ok_MO_readNode_92  n x1 x2 (1 : Int32) (x4 + (1 : Int32)) msl mst men mtb mro mit mic mlb mrw mnb (upd mlk (((8 : Int32) * x1) + x4).toNatClampNeg (0 : Int32)) mnk) ∧ (¬ (mic (((8 : Int32) * x1) + x4).toNatClampNeg) = 0 → vp_in (((8 : Int32) * x1) + x4) 64 ∧ (ok_MO_readLeaf (((8 : Int32) * x1) + x4) ((upd mlk (((8 : Int32) * x1) + x4).toNatClampNeg (0 : Int32)) (((8 : Int32) * x1) + x4).toNatClampNeg) msl mst men mro mit mlb mrw ∧ bindp (f_MO_readLeaf (((8 : Int32) * x1) + x4) ((upd mlk (((8 : Int32) * x1) + x4).toNatClampNeg (0 : Int32)) (((8 : Int32) * x1) + x4).toNatClampNeg) msl mst men mro mit mlb mrw) (fun z_169 => (z_169.1 = 0 → ok_MO_readNode_92  n x1 x2 (0 : Int32) (x4 + (1 : Int32)) msl mst men mtb mro mit mic z_169.2.1 z_169.2.2 mnb (upd mlk (((8 : Int32) * x1) + x4).toNatClampNeg (0 : Int32)) mnk) ∧ (¬ z_169.1 = 0 → ok_MO_readNode_92  n x1 x2 (1 : Int32) (x4 + (1 : Int32)) msl mst men mtb mro mit mic z_169.2.1 z_169.2.2 mnb (upd mlk (((8 : Int32) * x1) + x4).toNatClampNeg (0 : Int32)) mnk))))))))) ∧ (¬ z_112.1 = 0 → ok_MO_entryOf x2 x4 msl mro ∧ bindp (f_MO_entryOf x2 x4 msl mro) (fun z_132 => vp_in (((8 : Int32) * x1) + x4) 64 ∧ ((x3 = 0 → ok_MO_readNode_92  n x1 x2 (0 : Int32) (x4 + (1 : Int32)) msl mst men mtb mro mit mic mlb mrw mnb (upd mlk (((8 : Int32) * x1) + x4).toNatClampNeg z_132.1) mnk) ∧ (¬ x3 = 0 → (z_112.1 = 0 → ok_MO_readNode_92  n x1 x2 (1 : Int32) (x4 + (1 : Int32)) msl mst men mtb mro mit mic mlb mrw mnb (upd mlk (((8 : Int32) * x1) + x4).toNatClampNeg z_132.1) mnk) ∧ (¬ z_112.1 = 0 → vp_in (((8 : Int32) * x1) + x4) 64 ∧ (((mic (((8 : Int32) * x1) + x4).toNatClampNeg) = 0 → ok_MO_readNode_92  n x1 x2 (1 : Int32) (x4 + (1 : Int32)) msl mst men mtb mro mit mic mlb mrw mnb (upd mlk (((8 : Int32) * x1) + x4).toNatClampNeg z_132.1) mnk) ∧ (¬ (mic (((8 : Int32) * x1) + x4).toNatClampNeg) = 0 → vp_in (((8 : Int32) * x1) + x4) 64 ∧ (ok_MO_readLeaf (((8 : Int32) * x1) + x4) ((upd mlk (((8 : Int32) * x1) + x4).toNatClampNeg z_132.1) (((8 : Int32) * x1) + x4).toNatClampNeg) msl mst men mro mit mlb mrw ∧ bindp (f_MO_readLeaf (((8 : Int32) * x1) + x4) ((upd mlk (((8 : Int32) * x1) + x4).toNatClampNeg z_132.1) (((8 : Int32) * x1) + x4).toNatClampNeg) msl mst men mro mit mlb mrw) (fun z_169 => (z_169.1 = 0 → ok_MO_readNode_92  n x1 x2 (0 : Int32) (x4 + (1 : Int32)) msl mst men mtb mro mit mic z_169.2.1 z_169.2.2 mnb (upd mlk (((8 : Int32) * x1) + x4).toNatClampNeg z_132.1) mnk) ∧ (¬ z_169.1 = 0 → ok_MO_readNode_92  n x1 x2 (1 : Int32) (x4 + (1 : Int32)) msl mst men mtb mro mit mic z_169.2.1 z_169.2.2 mnb (upd mlk (((8 : Int32) * x1) + x4).toNatClampNeg z_132.1) mnk))))))))))))
set_option maxHeartbeats 4000000 in
set_option maxRecDepth 100000 in
theorem w_MO_readNode_92 {p : Program} {l : Launch} {e : Env} {s : State} {m : MethodId} {args : Array Value} {below : List Frame} {meth : Method} {c : Code} {A : Nat → Prop} {G : GG} {ad : Nat → Nat} {mrf : Int32} {msl : Int32} {mst : Int32} {men : Int32} {mnw : Int32} {mdn : Int32} {mpw : Int32} {mwr : Int32} {mrs : Int32} {mdr : Int32} {mtb : Int32} {mrc : Int32} {mnx : Int32} {mro : (Nat → Int32)} {mit : (Nat → Int32)} {mve : (Nat → Int32)} {mrb : (Nat → Int32)} {mch : (Nat → Int32)} {mva : (Nat → Int32)} {mic : (Nat → Int32)} {mnk : (Nat → Int32)} {mmd : (Nat → Int32)} {res : Int32 × (Nat → Int32) × (Nat → Int32) × (Nat → Int32) × (Nat → Int32)} (hC : Cx p l e s m args meth c y_MO_readNode b_MO_readNode 7 (some .boolean) "BookTreesModel" G A) : ∀ (n : Nat) (x1 : Int32) (x2 : Int32) (x3 : Int32) (x4 : Int32) (mlb : (Nat → Int32)) (mrw : (Nat → Int32)) (mnb : (Nat → Int32)) (mlk : (Nat → Int32)) (H : Heap) (locs : List Loc) (ls : Array Slot), ok_MO_readNode_92 n x1 x2 x3 x4 msl mst men mtb mro mit mic mlb mrw mnb mlk mnk → f_MO_readNode_92 n x1 x2 x3 x4 msl mst men mtb mro mit mic mlb mrw mnb mlk mnk = res → va_P G.1 classes (cM G ad mrf msl mst men mnw mdn mpw mwr mrs mdr mtb mrc mnx mro mit mve mrb mch mva mic mlb mrw mnb mlk mnk mmd) H → va_D A (cM G ad mrf msl mst men mnw mdn mpw mwr mrs mdr mtb mrc mnx mro mit mve mrb mch mva mic mlb mrw mnb mlk mnk mmd) → va_S A s.heap H locs → lv_has ls 7 [(0, .ref (ad 0)), (1, .int x1), (2, .int x2), (3, .int x3), (4, .int x4)] → W p l e rm_MO_readNode s m args below meth c H locs 0 0 (MQ below (va_Qi (eqP res) (Wb G A (fun u : (Nat → Int32) × (Nat → Int32) × (Nat → Int32) × (Nat → Int32) => (cM G ad mrf msl mst men mnw mdn mpw mwr mrs mdr mtb mrc mnx mro mit mve mrb mch mva mic u.1 u.2.1 u.2.2.1 u.2.2.2 mnk mmd))) A) args s 0 0 A) (F0 m 92 ls []) := by
  obtain ⟨hx, hb, hr, hml, hown, hlocks, ht, hK, hA⟩ := id hC
  intro n
  induction n with
  | zero => intro x1 x2 x3 x4 mlb mrw mnb mlk H locs ls hok; exact hok.elim
  | succ n ih =>
    intro x1 x2 x3 x4 mlb mrw mnb mlk H locs ls hok hres hP hD hS hl
    rw [f_MO_readNode_92] at hres
    rw [ok_MO_readNode_92] at hok
    refine lv_iload hx hb d_MO_readNode_92 (lv_at hl 4 rfl) ?_
    refine lv_bipush (v := (8 : Int32)) hx hb d_MO_readNode_94 (by decide) ?_
    refine lv_icmp_ge (tgt := 187) hx hb d_MO_readNode_96 (by decide) (fun c_96 => ?_) (fun c_96 => ?_)
    · have hres := it_t c_96 hres
      have hok := hok.1 c_96
      refine lv_iload_n hx hb d_MO_readNode_187 rfl (lv_at hl 3 rfl) ?_
      exact en_z (w1 := (fun u : (Nat → Int32) × (Nat → Int32) × (Nat → Int32) × (Nat → Int32) => (cM G ad mrf msl mst men mnw mdn mpw mwr mrs mdr mtb mrc mnx mro mit mve mrb mch mva mic u.1 u.2.1 u.2.2.1 u.2.2.2 mnk mmd))) (mlb, mrw, mnb, mlk) hx hb hr hlocks hK hP hD hS hres hok d_MO_readNode_188
    · have hres := it_f c_96 hres
      have hok := hok.2 c_96
      refine lv_bipush (v := (8 : Int32)) hx hb d_MO_readNode_99 (by decide) ?_
      refine lv_iload_n hx hb d_MO_readNode_101 rfl (lv_at hl 1 rfl) ?_
      refine lv_imul hx hb d_MO_readNode_102 ?_
      refine lv_iload hx hb d_MO_readNode_103 (lv_at hl 4 rfl) ?_
      refine lv_iadd hx hb d_MO_readNode_105 ?_
      refine lv_istore (lv' := [(5, .int (((8 : Int32) * x1) + x4)), (0, .ref (ad 0)), (1, .int x1), (2, .int x2), (3, .int x3), (4, .int x4)]) hx hb d_MO_readNode_106 hl (by decide) rfl (fun ls hl => ?_)
      refine lv_aload_n hx hb d_MO_readNode_108 rfl (lv_at hl 1 rfl) ?_
      refine lv_iload_n hx hb d_MO_readNode_109 rfl (lv_at hl 3 rfl) ?_
      refine lv_iload hx hb d_MO_readNode_110 (lv_at hl 5 rfl) ?_
      obtain ⟨hk_112, hok⟩ := hok
      refine go_iz (run_V hx hb hml hown ht hK hP hD (c_MO_hasEntry hk_112) (cw_V ht km_MO_134 ki_MO_hasEntry ks_MO_hasEntry ini_MO kd_MO_hasEntry kh_MO_hasEntry ⟨Nat.le_of_ble_eq_true rfl, Nat.le_of_ble_eq_true rfl⟩ rfl rfl) (q0 := 0) (ci := 6) (As := [.int x2, .int x4]) (rest := []) rfl rfl rfl hl.1 rfl (Nat.le_of_ble_eq_true rfl) d_MO_readNode_112 ⟨Nat.zero_le _, Nat.zero_le _⟩) hD hS hA (fun z_112 H locs hz_112 hP hD hS => ?_)
      have hres := bindc_eq hz_112 hres
      have hok := bindp_eq hz_112 hok
      have hP : va_P G.1 classes (cM G ad mrf msl mst men mnw mdn mpw mwr mrs mdr mtb mrc mnx mro mit mve mrb mch mva mic mlb mrw mnb mlk mnk mmd) H := hP
      have hD : va_D A (cM G ad mrf msl mst men mnw mdn mpw mwr mrs mdr mtb mrc mnx mro mit mve mrb mch mva mic mlb mrw mnb mlk mnk mmd) := hD
      refine lv_istore (lv' := [(6, .int z_112.1), (5, .int (((8 : Int32) * x1) + x4)), (0, .ref (ad 0)), (1, .int x1), (2, .int x2), (3, .int x3), (4, .int x4)]) hx hb d_MO_readNode_115 hl (by decide) rfl (fun ls hl => ?_)
      refine lv_aload_n hx hb d_MO_readNode_117 rfl (lv_at hl 2 rfl) ?_
      refine va_get (D := G.1) (ci := 6) (C := R_MO) (T := F_MO) (N := 26) hx hb ht in_MO hown hK hP 0 rfl rfl 20 (by decide) (ht _ kf_MO_45) (fun _ h9 => h9) rfl d_MO_readNode_118 ?_
      refine lv_iload hx hb d_MO_readNode_121 (lv_at hl 1 rfl) ?_
      refine lv_iload hx hb d_MO_readNode_123 (lv_at hl 0 rfl) ?_
      refine lv_if_eq (tgt := 138) hx hb d_MO_readNode_125 (by decide) (fun c_125 => ?_) (fun c_125 => ?_)
      · have hres := it_t c_125 hres
        have hok := hok.1 c_125
        refine lv_iconst (v := (0 : Int32)) hx hb d_MO_readNode_138 (by decide) ?_
        obtain ⟨hi_139, hok⟩ := hok
        refine va_iast hx hb hK hP hD hS 11 0 rfl rfl hi_139 d_MO_readNode_139 (fun H locs hP hD hS => ?_)
        have hP : va_P G.1 classes (cM G ad mrf msl mst men mnw mdn mpw mwr mrs mdr mtb mrc mnx mro mit mve mrb mch mva mic mlb mrw mnb (upd mlk (((8 : Int32) * x1) + x4).toNatClampNeg (0 : Int32)) mnk mmd) H := hP
        have hD : va_D A (cM G ad mrf msl mst men mnw mdn mpw mwr mrs mdr mtb mrc mnx mro mit mve mrb mch mva mic mlb mrw mnb (upd mlk (((8 : Int32) * x1) + x4).toNatClampNeg (0 : Int32)) mnk mmd) := hD
        refine lv_iload_n hx hb d_MO_readNode_140 rfl (lv_at hl 5 rfl) ?_
        refine lv_if_eq (tgt := 179) hx hb d_MO_readNode_141 (by decide) (fun c_141 => ?_) (fun c_141 => ?_)
        · have hres := it_t c_141 hres
          have hok := hok.1 c_141
          refine lv_iconst (v := (0 : Int32)) hx hb d_MO_readNode_179 (by decide) ?_
          refine lv_istore_n (lv' := [(3, .int (0 : Int32)), (6, .int z_112.1), (5, .int (((8 : Int32) * x1) + x4)), (0, .ref (ad 0)), (1, .int x1), (2, .int x2), (4, .int x4)]) hx hb d_MO_readNode_180 rfl hl (by decide) rfl (fun ls hl => ?_)
          refine lv_iinc (v := x4 + (1 : Int32)) (lv' := [(4, .int (x4 + (1 : Int32))), (3, .int (0 : Int32)), (6, .int z_112.1), (5, .int (((8 : Int32) * x1) + x4)), (0, .ref (ad 0)), (1, .int x1), (2, .int x2)]) hx hb d_MO_readNode_181 hl (k := 6) rfl rfl (by decide) rfl (fun ls hl => ?_)
          refine lv_goto (tgt := 92) hx hb d_MO_readNode_184 (by decide) ?_
          exact ih x1 x2 (0 : Int32) (x4 + (1 : Int32)) mlb mrw mnb (upd mlk (((8 : Int32) * x1) + x4).toNatClampNeg (0 : Int32)) _ _ _ hok hres hP hD hS (lv_sub hl [4, 5, 6, 1, 0] rfl)
        · have hres := it_f c_141 hres
          have hok := hok.2 c_141
          refine lv_iload hx hb d_MO_readNode_144 (lv_at hl 0 rfl) ?_
          refine lv_if_eq (tgt := 175) hx hb d_MO_readNode_146 (by decide) (fun c_146 => ?_) (fun c_146 => ?_)
          · have hres := it_t c_146 hres
            have hok := hok.1 c_146
            refine lv_iconst (v := (1 : Int32)) hx hb d_MO_readNode_175 (by decide) ?_
            refine lv_goto (tgt := 180) hx hb d_MO_readNode_176 (by decide) ?_
            refine lv_istore_n (lv' := [(3, .int (1 : Int32)), (6, .int z_112.1), (5, .int (((8 : Int32) * x1) + x4)), (0, .ref (ad 0)), (1, .int x1), (2, .int x2), (4, .int x4)]) hx hb d_MO_readNode_180 rfl hl (by decide) rfl (fun ls hl => ?_)
            refine lv_iinc (v := x4 + (1 : Int32)) (lv' := [(4, .int (x4 + (1 : Int32))), (3, .int (1 : Int32)), (6, .int z_112.1), (5, .int (((8 : Int32) * x1) + x4)), (0, .ref (ad 0)), (1, .int x1), (2, .int x2)]) hx hb d_MO_readNode_181 hl (k := 6) rfl rfl (by decide) rfl (fun ls hl => ?_)
            refine lv_goto (tgt := 92) hx hb d_MO_readNode_184 (by decide) ?_
            exact ih x1 x2 (1 : Int32) (x4 + (1 : Int32)) mlb mrw mnb (upd mlk (((8 : Int32) * x1) + x4).toNatClampNeg (0 : Int32)) _ _ _ hok hres hP hD hS (lv_sub hl [4, 5, 6, 1, 0] rfl)
          · have hres := it_f c_146 hres
            have hok := hok.2 c_146
            refine lv_aload_n hx hb d_MO_readNode_149 rfl (lv_at hl 2 rfl) ?_
            refine va_get (D := G.1) (ci := 6) (C := R_MO) (T := F_MO) (N := 26) hx hb ht in_MO hown hK hP 0 rfl rfl 16 (by decide) (ht _ kf_MO_33) (fun _ h9 => h9) rfl d_MO_readNode_150 ?_
            refine lv_iload hx hb d_MO_readNode_153 (lv_at hl 1 rfl) ?_
            obtain ⟨hi_155, hok⟩ := hok
            refine va_zald hx hb hK hP 7 1 rfl rfl hi_155 d_MO_readNode_155 ?_
            refine lv_if_eq (tgt := 175) hx hb d_MO_readNode_156 (by decide) (fun c_156 => ?_) (fun c_156 => ?_)
            · have hres := it_t c_156 hres
              have hok := hok.1 c_156
              refine lv_iconst (v := (1 : Int32)) hx hb d_MO_readNode_175 (by decide) ?_
              refine lv_goto (tgt := 180) hx hb d_MO_readNode_176 (by decide) ?_
              refine lv_istore_n (lv' := [(3, .int (1 : Int32)), (6, .int z_112.1), (5, .int (((8 : Int32) * x1) + x4)), (0, .ref (ad 0)), (1, .int x1), (2, .int x2), (4, .int x4)]) hx hb d_MO_readNode_180 rfl hl (by decide) rfl (fun ls hl => ?_)
              refine lv_iinc (v := x4 + (1 : Int32)) (lv' := [(4, .int (x4 + (1 : Int32))), (3, .int (1 : Int32)), (6, .int z_112.1), (5, .int (((8 : Int32) * x1) + x4)), (0, .ref (ad 0)), (1, .int x1), (2, .int x2)]) hx hb d_MO_readNode_181 hl (k := 6) rfl rfl (by decide) rfl (fun ls hl => ?_)
              refine lv_goto (tgt := 92) hx hb d_MO_readNode_184 (by decide) ?_
              exact ih x1 x2 (1 : Int32) (x4 + (1 : Int32)) mlb mrw mnb (upd mlk (((8 : Int32) * x1) + x4).toNatClampNeg (0 : Int32)) _ _ _ hok hres hP hD hS (lv_sub hl [4, 5, 6, 1, 0] rfl)
            · have hres := it_f c_156 hres
              have hok := hok.2 c_156
              refine lv_aload_n hx hb d_MO_readNode_159 rfl (lv_at hl 2 rfl) ?_
              refine lv_iload hx hb d_MO_readNode_160 (lv_at hl 1 rfl) ?_
              refine lv_aload_n hx hb d_MO_readNode_162 rfl (lv_at hl 2 rfl) ?_
              refine va_get (D := G.1) (ci := 6) (C := R_MO) (T := F_MO) (N := 26) hx hb ht in_MO hown hK hP 0 rfl rfl 20 (by decide) (ht _ kf_MO_45) (fun _ h9 => h9) rfl d_MO_readNode_163 ?_
              refine lv_iload hx hb d_MO_readNode_166 (lv_at hl 1 rfl) ?_
              obtain ⟨hi_168, hok⟩ := hok
              refine va_iald hx hb hK hP 11 0 rfl rfl hi_168 d_MO_readNode_168 ?_
              obtain ⟨hk_169, hok⟩ := hok
              refine go_iz (run_V hx hb hml hown ht hK hP hD (c_MO_readLeaf hk_169) (cw_V ht km_MO_163 ki_MO_readLeaf ks_MO_readLeaf ini_MO kd_MO_readLeaf kh_MO_readLeaf ⟨Nat.le_of_ble_eq_true rfl, Nat.le_of_ble_eq_true rfl⟩ rfl rfl) (q0 := 0) (ci := 6) (As := [.int (((8 : Int32) * x1) + x4), .int ((upd mlk (((8 : Int32) * x1) + x4).toNatClampNeg (0 : Int32)) (((8 : Int32) * x1) + x4).toNatClampNeg)]) (rest := []) rfl rfl rfl hl.1 rfl (Nat.le_of_ble_eq_true rfl) d_MO_readNode_169 ⟨Nat.zero_le _, Nat.zero_le _⟩) hD hS hA (fun z_169 H locs hz_169 hP hD hS => ?_)
              have hres := bindc_eq hz_169 hres
              have hok := bindp_eq hz_169 hok
              have hP : va_P G.1 classes (cM G ad mrf msl mst men mnw mdn mpw mwr mrs mdr mtb mrc mnx mro mit mve mrb mch mva mic z_169.2.1 z_169.2.2 mnb (upd mlk (((8 : Int32) * x1) + x4).toNatClampNeg (0 : Int32)) mnk mmd) H := hP
              have hD : va_D A (cM G ad mrf msl mst men mnw mdn mpw mwr mrs mdr mtb mrc mnx mro mit mve mrb mch mva mic z_169.2.1 z_169.2.2 mnb (upd mlk (((8 : Int32) * x1) + x4).toNatClampNeg (0 : Int32)) mnk mmd) := hD
              refine lv_if_eq (tgt := 179) hx hb d_MO_readNode_172 (by decide) (fun c_172 => ?_) (fun c_172 => ?_)
              · have hres := it_t c_172 hres
                have hok := hok.1 c_172
                refine lv_iconst (v := (0 : Int32)) hx hb d_MO_readNode_179 (by decide) ?_
                refine lv_istore_n (lv' := [(3, .int (0 : Int32)), (6, .int z_112.1), (5, .int (((8 : Int32) * x1) + x4)), (0, .ref (ad 0)), (1, .int x1), (2, .int x2), (4, .int x4)]) hx hb d_MO_readNode_180 rfl hl (by decide) rfl (fun ls hl => ?_)
                refine lv_iinc (v := x4 + (1 : Int32)) (lv' := [(4, .int (x4 + (1 : Int32))), (3, .int (0 : Int32)), (6, .int z_112.1), (5, .int (((8 : Int32) * x1) + x4)), (0, .ref (ad 0)), (1, .int x1), (2, .int x2)]) hx hb d_MO_readNode_181 hl (k := 6) rfl rfl (by decide) rfl (fun ls hl => ?_)
                refine lv_goto (tgt := 92) hx hb d_MO_readNode_184 (by decide) ?_
                exact ih x1 x2 (0 : Int32) (x4 + (1 : Int32)) z_169.2.1 z_169.2.2 mnb (upd mlk (((8 : Int32) * x1) + x4).toNatClampNeg (0 : Int32)) _ _ _ hok hres hP hD hS (lv_sub hl [4, 5, 6, 1, 0] rfl)
              · have hres := it_f c_172 hres
                have hok := hok.2 c_172
                refine lv_iconst (v := (1 : Int32)) hx hb d_MO_readNode_175 (by decide) ?_
                refine lv_goto (tgt := 180) hx hb d_MO_readNode_176 (by decide) ?_
                refine lv_istore_n (lv' := [(3, .int (1 : Int32)), (6, .int z_112.1), (5, .int (((8 : Int32) * x1) + x4)), (0, .ref (ad 0)), (1, .int x1), (2, .int x2), (4, .int x4)]) hx hb d_MO_readNode_180 rfl hl (by decide) rfl (fun ls hl => ?_)
                refine lv_iinc (v := x4 + (1 : Int32)) (lv' := [(4, .int (x4 + (1 : Int32))), (3, .int (1 : Int32)), (6, .int z_112.1), (5, .int (((8 : Int32) * x1) + x4)), (0, .ref (ad 0)), (1, .int x1), (2, .int x2)]) hx hb d_MO_readNode_181 hl (k := 6) rfl rfl (by decide) rfl (fun ls hl => ?_)
                refine lv_goto (tgt := 92) hx hb d_MO_readNode_184 (by decide) ?_
                exact ih x1 x2 (1 : Int32) (x4 + (1 : Int32)) z_169.2.1 z_169.2.2 mnb (upd mlk (((8 : Int32) * x1) + x4).toNatClampNeg (0 : Int32)) _ _ _ hok hres hP hD hS (lv_sub hl [4, 5, 6, 1, 0] rfl)
      · have hres := it_f c_125 hres
        have hok := hok.2 c_125
        refine lv_aload_n hx hb d_MO_readNode_128 rfl (lv_at hl 2 rfl) ?_
        refine lv_iload_n hx hb d_MO_readNode_129 rfl (lv_at hl 4 rfl) ?_
        refine lv_iload hx hb d_MO_readNode_130 (lv_at hl 6 rfl) ?_
        obtain ⟨hk_132, hok⟩ := hok
        refine go_iz (run_V hx hb hml hown ht hK hP hD (c_MO_entryOf hk_132) (cw_V ht km_MO_130 ki_MO_entryOf ks_MO_entryOf ini_MO kd_MO_entryOf kh_MO_entryOf ⟨Nat.le_of_ble_eq_true rfl, Nat.le_of_ble_eq_true rfl⟩ rfl rfl) (q0 := 0) (ci := 6) (As := [.int x2, .int x4]) (rest := [.int (((8 : Int32) * x1) + x4), .ref (ad 11)]) rfl rfl rfl hl.1 rfl (Nat.le_of_ble_eq_true rfl) d_MO_readNode_132 ⟨Nat.zero_le _, Nat.zero_le _⟩) hD hS hA (fun z_132 H locs hz_132 hP hD hS => ?_)
        have hres := bindc_eq hz_132 hres
        have hok := bindp_eq hz_132 hok
        have hP : va_P G.1 classes (cM G ad mrf msl mst men mnw mdn mpw mwr mrs mdr mtb mrc mnx mro mit mve mrb mch mva mic mlb mrw mnb mlk mnk mmd) H := hP
        have hD : va_D A (cM G ad mrf msl mst men mnw mdn mpw mwr mrs mdr mtb mrc mnx mro mit mve mrb mch mva mic mlb mrw mnb mlk mnk mmd) := hD
        refine lv_goto (tgt := 139) hx hb d_MO_readNode_135 (by decide) ?_
        obtain ⟨hi_139, hok⟩ := hok
        refine va_iast hx hb hK hP hD hS 11 0 rfl rfl hi_139 d_MO_readNode_139 (fun H locs hP hD hS => ?_)
        have hP : va_P G.1 classes (cM G ad mrf msl mst men mnw mdn mpw mwr mrs mdr mtb mrc mnx mro mit mve mrb mch mva mic mlb mrw mnb (upd mlk (((8 : Int32) * x1) + x4).toNatClampNeg z_132.1) mnk mmd) H := hP
        have hD : va_D A (cM G ad mrf msl mst men mnw mdn mpw mwr mrs mdr mtb mrc mnx mro mit mve mrb mch mva mic mlb mrw mnb (upd mlk (((8 : Int32) * x1) + x4).toNatClampNeg z_132.1) mnk mmd) := hD
        refine lv_iload_n hx hb d_MO_readNode_140 rfl (lv_at hl 5 rfl) ?_
        refine lv_if_eq (tgt := 179) hx hb d_MO_readNode_141 (by decide) (fun c_141 => ?_) (fun c_141 => ?_)
        · have hres := it_t c_141 hres
          have hok := hok.1 c_141
          refine lv_iconst (v := (0 : Int32)) hx hb d_MO_readNode_179 (by decide) ?_
          refine lv_istore_n (lv' := [(3, .int (0 : Int32)), (6, .int z_112.1), (5, .int (((8 : Int32) * x1) + x4)), (0, .ref (ad 0)), (1, .int x1), (2, .int x2), (4, .int x4)]) hx hb d_MO_readNode_180 rfl hl (by decide) rfl (fun ls hl => ?_)
          refine lv_iinc (v := x4 + (1 : Int32)) (lv' := [(4, .int (x4 + (1 : Int32))), (3, .int (0 : Int32)), (6, .int z_112.1), (5, .int (((8 : Int32) * x1) + x4)), (0, .ref (ad 0)), (1, .int x1), (2, .int x2)]) hx hb d_MO_readNode_181 hl (k := 6) rfl rfl (by decide) rfl (fun ls hl => ?_)
          refine lv_goto (tgt := 92) hx hb d_MO_readNode_184 (by decide) ?_
          exact ih x1 x2 (0 : Int32) (x4 + (1 : Int32)) mlb mrw mnb (upd mlk (((8 : Int32) * x1) + x4).toNatClampNeg z_132.1) _ _ _ hok hres hP hD hS (lv_sub hl [4, 5, 6, 1, 0] rfl)
        · have hres := it_f c_141 hres
          have hok := hok.2 c_141
          refine lv_iload hx hb d_MO_readNode_144 (lv_at hl 0 rfl) ?_
          refine lv_if_eq (tgt := 175) hx hb d_MO_readNode_146 (by decide) (fun c_146 => ?_) (fun c_146 => ?_)
          · have hres := it_t c_146 hres
            have hok := hok.1 c_146
            refine lv_iconst (v := (1 : Int32)) hx hb d_MO_readNode_175 (by decide) ?_
            refine lv_goto (tgt := 180) hx hb d_MO_readNode_176 (by decide) ?_
            refine lv_istore_n (lv' := [(3, .int (1 : Int32)), (6, .int z_112.1), (5, .int (((8 : Int32) * x1) + x4)), (0, .ref (ad 0)), (1, .int x1), (2, .int x2), (4, .int x4)]) hx hb d_MO_readNode_180 rfl hl (by decide) rfl (fun ls hl => ?_)
            refine lv_iinc (v := x4 + (1 : Int32)) (lv' := [(4, .int (x4 + (1 : Int32))), (3, .int (1 : Int32)), (6, .int z_112.1), (5, .int (((8 : Int32) * x1) + x4)), (0, .ref (ad 0)), (1, .int x1), (2, .int x2)]) hx hb d_MO_readNode_181 hl (k := 6) rfl rfl (by decide) rfl (fun ls hl => ?_)
            refine lv_goto (tgt := 92) hx hb d_MO_readNode_184 (by decide) ?_
            exact ih x1 x2 (1 : Int32) (x4 + (1 : Int32)) mlb mrw mnb (upd mlk (((8 : Int32) * x1) + x4).toNatClampNeg z_132.1) _ _ _ hok hres hP hD hS (lv_sub hl [4, 5, 6, 1, 0] rfl)
          · have hres := it_f c_146 hres
            have hok := hok.2 c_146
            refine lv_aload_n hx hb d_MO_readNode_149 rfl (lv_at hl 2 rfl) ?_
            refine va_get (D := G.1) (ci := 6) (C := R_MO) (T := F_MO) (N := 26) hx hb ht in_MO hown hK hP 0 rfl rfl 16 (by decide) (ht _ kf_MO_33) (fun _ h9 => h9) rfl d_MO_readNode_150 ?_
            refine lv_iload hx hb d_MO_readNode_153 (lv_at hl 1 rfl) ?_
            obtain ⟨hi_155, hok⟩ := hok
            refine va_zald hx hb hK hP 7 1 rfl rfl hi_155 d_MO_readNode_155 ?_
            refine lv_if_eq (tgt := 175) hx hb d_MO_readNode_156 (by decide) (fun c_156 => ?_) (fun c_156 => ?_)
            · have hres := it_t c_156 hres
              have hok := hok.1 c_156
              refine lv_iconst (v := (1 : Int32)) hx hb d_MO_readNode_175 (by decide) ?_
              refine lv_goto (tgt := 180) hx hb d_MO_readNode_176 (by decide) ?_
              refine lv_istore_n (lv' := [(3, .int (1 : Int32)), (6, .int z_112.1), (5, .int (((8 : Int32) * x1) + x4)), (0, .ref (ad 0)), (1, .int x1), (2, .int x2), (4, .int x4)]) hx hb d_MO_readNode_180 rfl hl (by decide) rfl (fun ls hl => ?_)
              refine lv_iinc (v := x4 + (1 : Int32)) (lv' := [(4, .int (x4 + (1 : Int32))), (3, .int (1 : Int32)), (6, .int z_112.1), (5, .int (((8 : Int32) * x1) + x4)), (0, .ref (ad 0)), (1, .int x1), (2, .int x2)]) hx hb d_MO_readNode_181 hl (k := 6) rfl rfl (by decide) rfl (fun ls hl => ?_)
              refine lv_goto (tgt := 92) hx hb d_MO_readNode_184 (by decide) ?_
              exact ih x1 x2 (1 : Int32) (x4 + (1 : Int32)) mlb mrw mnb (upd mlk (((8 : Int32) * x1) + x4).toNatClampNeg z_132.1) _ _ _ hok hres hP hD hS (lv_sub hl [4, 5, 6, 1, 0] rfl)
            · have hres := it_f c_156 hres
              have hok := hok.2 c_156
              refine lv_aload_n hx hb d_MO_readNode_159 rfl (lv_at hl 2 rfl) ?_
              refine lv_iload hx hb d_MO_readNode_160 (lv_at hl 1 rfl) ?_
              refine lv_aload_n hx hb d_MO_readNode_162 rfl (lv_at hl 2 rfl) ?_
              refine va_get (D := G.1) (ci := 6) (C := R_MO) (T := F_MO) (N := 26) hx hb ht in_MO hown hK hP 0 rfl rfl 20 (by decide) (ht _ kf_MO_45) (fun _ h9 => h9) rfl d_MO_readNode_163 ?_
              refine lv_iload hx hb d_MO_readNode_166 (lv_at hl 1 rfl) ?_
              obtain ⟨hi_168, hok⟩ := hok
              refine va_iald hx hb hK hP 11 0 rfl rfl hi_168 d_MO_readNode_168 ?_
              obtain ⟨hk_169, hok⟩ := hok
              refine go_iz (run_V hx hb hml hown ht hK hP hD (c_MO_readLeaf hk_169) (cw_V ht km_MO_163 ki_MO_readLeaf ks_MO_readLeaf ini_MO kd_MO_readLeaf kh_MO_readLeaf ⟨Nat.le_of_ble_eq_true rfl, Nat.le_of_ble_eq_true rfl⟩ rfl rfl) (q0 := 0) (ci := 6) (As := [.int (((8 : Int32) * x1) + x4), .int ((upd mlk (((8 : Int32) * x1) + x4).toNatClampNeg z_132.1) (((8 : Int32) * x1) + x4).toNatClampNeg)]) (rest := []) rfl rfl rfl hl.1 rfl (Nat.le_of_ble_eq_true rfl) d_MO_readNode_169 ⟨Nat.zero_le _, Nat.zero_le _⟩) hD hS hA (fun z_169 H locs hz_169 hP hD hS => ?_)
              have hres := bindc_eq hz_169 hres
              have hok := bindp_eq hz_169 hok
              have hP : va_P G.1 classes (cM G ad mrf msl mst men mnw mdn mpw mwr mrs mdr mtb mrc mnx mro mit mve mrb mch mva mic z_169.2.1 z_169.2.2 mnb (upd mlk (((8 : Int32) * x1) + x4).toNatClampNeg z_132.1) mnk mmd) H := hP
              have hD : va_D A (cM G ad mrf msl mst men mnw mdn mpw mwr mrs mdr mtb mrc mnx mro mit mve mrb mch mva mic z_169.2.1 z_169.2.2 mnb (upd mlk (((8 : Int32) * x1) + x4).toNatClampNeg z_132.1) mnk mmd) := hD
              refine lv_if_eq (tgt := 179) hx hb d_MO_readNode_172 (by decide) (fun c_172 => ?_) (fun c_172 => ?_)
              · have hres := it_t c_172 hres
                have hok := hok.1 c_172
                refine lv_iconst (v := (0 : Int32)) hx hb d_MO_readNode_179 (by decide) ?_
                refine lv_istore_n (lv' := [(3, .int (0 : Int32)), (6, .int z_112.1), (5, .int (((8 : Int32) * x1) + x4)), (0, .ref (ad 0)), (1, .int x1), (2, .int x2), (4, .int x4)]) hx hb d_MO_readNode_180 rfl hl (by decide) rfl (fun ls hl => ?_)
                refine lv_iinc (v := x4 + (1 : Int32)) (lv' := [(4, .int (x4 + (1 : Int32))), (3, .int (0 : Int32)), (6, .int z_112.1), (5, .int (((8 : Int32) * x1) + x4)), (0, .ref (ad 0)), (1, .int x1), (2, .int x2)]) hx hb d_MO_readNode_181 hl (k := 6) rfl rfl (by decide) rfl (fun ls hl => ?_)
                refine lv_goto (tgt := 92) hx hb d_MO_readNode_184 (by decide) ?_
                exact ih x1 x2 (0 : Int32) (x4 + (1 : Int32)) z_169.2.1 z_169.2.2 mnb (upd mlk (((8 : Int32) * x1) + x4).toNatClampNeg z_132.1) _ _ _ hok hres hP hD hS (lv_sub hl [4, 5, 6, 1, 0] rfl)
              · have hres := it_f c_172 hres
                have hok := hok.2 c_172
                refine lv_iconst (v := (1 : Int32)) hx hb d_MO_readNode_175 (by decide) ?_
                refine lv_goto (tgt := 180) hx hb d_MO_readNode_176 (by decide) ?_
                refine lv_istore_n (lv' := [(3, .int (1 : Int32)), (6, .int z_112.1), (5, .int (((8 : Int32) * x1) + x4)), (0, .ref (ad 0)), (1, .int x1), (2, .int x2), (4, .int x4)]) hx hb d_MO_readNode_180 rfl hl (by decide) rfl (fun ls hl => ?_)
                refine lv_iinc (v := x4 + (1 : Int32)) (lv' := [(4, .int (x4 + (1 : Int32))), (3, .int (1 : Int32)), (6, .int z_112.1), (5, .int (((8 : Int32) * x1) + x4)), (0, .ref (ad 0)), (1, .int x1), (2, .int x2)]) hx hb d_MO_readNode_181 hl (k := 6) rfl rfl (by decide) rfl (fun ls hl => ?_)
                refine lv_goto (tgt := 92) hx hb d_MO_readNode_184 (by decide) ?_
                exact ih x1 x2 (1 : Int32) (x4 + (1 : Int32)) z_169.2.1 z_169.2.2 mnb (upd mlk (((8 : Int32) * x1) + x4).toNatClampNeg z_132.1) _ _ _ hok hres hP hD hS (lv_sub hl [4, 5, 6, 1, 0] rfl)
def f_MO_readNode_9 : Nat → Int32 → Int32 → Int32 → Int32 → Int32 → Int32 → (Nat → Int32) → (Nat → Int32) → (Nat → Int32) → (Nat → Int32) → (Nat → Int32) → (Nat → Int32) → (Nat → Int32) → (Nat → Int32) → Int32 × (Nat → Int32) × (Nat → Int32) × (Nat → Int32) × (Nat → Int32)
  | 0, x1, x2, msl, mst, men, mtb, mro, mit, mic, mlb, mrw, mnb, mlk, mnk => (0, (mlb, mrw, mnb, mlk))
  | n + 1, x1, x2, msl, mst, men, mtb, mro, mit, mic, mlb, mrw, mnb, mlk, mnk => if (8 : Int32) ≤ x2 then (if ((mtb >>> (x1 &&& 31)) &&& (1 : Int32)) = 0 then ((1 : Int32), (mlb, mrw, mnb, mlk)) else bindc (f_MO_isBad (mnk x1.toNatClampNeg) (2 : Int32) msl mst men mro mit) (fun z_68 => if z_68.1 = 0 then bindc (f_MO_bitsOf (mnk x1.toNatClampNeg) msl mro) (fun z_83 => f_MO_readNode_92 1024 x1 (mnk x1.toNatClampNeg) (1 : Int32) (0 : Int32) msl mst men mtb mro mit mic mlb mrw (upd mnb x1.toNatClampNeg z_83.1) mlk mnk) else ((0 : Int32), (mlb, mrw, mnb, mlk)))) else f_MO_readNode_9 n x1 (x2 + (1 : Int32)) msl mst men mtb mro mit mic (upd mlb (((8 : Int32) * x1) + x2).toNatClampNeg (0 : Int32)) mrw mnb (upd mlk (((8 : Int32) * x1) + x2).toNatClampNeg (0 : Int32)) mnk
def ok_MO_readNode_9 : Nat → Int32 → Int32 → Int32 → Int32 → Int32 → Int32 → (Nat → Int32) → (Nat → Int32) → (Nat → Int32) → (Nat → Int32) → (Nat → Int32) → (Nat → Int32) → (Nat → Int32) → (Nat → Int32) → Prop
  | 0, _, _, _, _, _, _, _, _, _, _, _, _, _, _ => False
  | n + 1, x1, x2, msl, mst, men, mtb, mro, mit, mic, mlb, mrw, mnb, mlk, mnk => ((8 : Int32) ≤ x2 → (((mtb >>> (x1 &&& 31)) &&& (1 : Int32)) = 0 → True) ∧ (¬ ((mtb >>> (x1 &&& 31)) &&& (1 : Int32)) = 0 → vp_in x1 8 ∧ (ok_MO_isBad (mnk x1.toNatClampNeg) (2 : Int32) msl mst men mro mit ∧ bindp (f_MO_isBad (mnk x1.toNatClampNeg) (2 : Int32) msl mst men mro mit) (fun z_68 => (z_68.1 = 0 → ok_MO_bitsOf (mnk x1.toNatClampNeg) msl mro ∧ bindp (f_MO_bitsOf (mnk x1.toNatClampNeg) msl mro) (fun z_83 => vp_in x1 8 ∧ (ok_MO_readNode_92  1024 x1 (mnk x1.toNatClampNeg) (1 : Int32) (0 : Int32) msl mst men mtb mro mit mic mlb mrw (upd mnb x1.toNatClampNeg z_83.1) mlk mnk))) ∧ (¬ z_68.1 = 0 → True))))) ∧ (¬ (8 : Int32) ≤ x2 → vp_in (((8 : Int32) * x1) + x2) 64 ∧ (vp_in (((8 : Int32) * x1) + x2) 64 ∧ (ok_MO_readNode_9  n x1 (x2 + (1 : Int32)) msl mst men mtb mro mit mic (upd mlb (((8 : Int32) * x1) + x2).toNatClampNeg (0 : Int32)) mrw mnb (upd mlk (((8 : Int32) * x1) + x2).toNatClampNeg (0 : Int32)) mnk)))
set_option maxHeartbeats 4000000 in
set_option maxRecDepth 100000 in
theorem w_MO_readNode_9 {p : Program} {l : Launch} {e : Env} {s : State} {m : MethodId} {args : Array Value} {below : List Frame} {meth : Method} {c : Code} {A : Nat → Prop} {G : GG} {ad : Nat → Nat} {mrf : Int32} {msl : Int32} {mst : Int32} {men : Int32} {mnw : Int32} {mdn : Int32} {mpw : Int32} {mwr : Int32} {mrs : Int32} {mdr : Int32} {mtb : Int32} {mrc : Int32} {mnx : Int32} {mro : (Nat → Int32)} {mit : (Nat → Int32)} {mve : (Nat → Int32)} {mrb : (Nat → Int32)} {mch : (Nat → Int32)} {mva : (Nat → Int32)} {mic : (Nat → Int32)} {mnk : (Nat → Int32)} {mmd : (Nat → Int32)} {res : Int32 × (Nat → Int32) × (Nat → Int32) × (Nat → Int32) × (Nat → Int32)} (hC : Cx p l e s m args meth c y_MO_readNode b_MO_readNode 7 (some .boolean) "BookTreesModel" G A) : ∀ (n : Nat) (x1 : Int32) (x2 : Int32) (mlb : (Nat → Int32)) (mrw : (Nat → Int32)) (mnb : (Nat → Int32)) (mlk : (Nat → Int32)) (H : Heap) (locs : List Loc) (ls : Array Slot), ok_MO_readNode_9 n x1 x2 msl mst men mtb mro mit mic mlb mrw mnb mlk mnk → f_MO_readNode_9 n x1 x2 msl mst men mtb mro mit mic mlb mrw mnb mlk mnk = res → va_P G.1 classes (cM G ad mrf msl mst men mnw mdn mpw mwr mrs mdr mtb mrc mnx mro mit mve mrb mch mva mic mlb mrw mnb mlk mnk mmd) H → va_D A (cM G ad mrf msl mst men mnw mdn mpw mwr mrs mdr mtb mrc mnx mro mit mve mrb mch mva mic mlb mrw mnb mlk mnk mmd) → va_S A s.heap H locs → lv_has ls 7 [(0, .ref (ad 0)), (1, .int x1), (2, .int x2)] → W p l e rm_MO_readNode s m args below meth c H locs 0 0 (MQ below (va_Qi (eqP res) (Wb G A (fun u : (Nat → Int32) × (Nat → Int32) × (Nat → Int32) × (Nat → Int32) => (cM G ad mrf msl mst men mnw mdn mpw mwr mrs mdr mtb mrc mnx mro mit mve mrb mch mva mic u.1 u.2.1 u.2.2.1 u.2.2.2 mnk mmd))) A) args s 0 0 A) (F0 m 9 ls []) := by
  obtain ⟨hx, hb, hr, hml, hown, hlocks, ht, hK, hA⟩ := id hC
  intro n
  induction n with
  | zero => intro x1 x2 mlb mrw mnb mlk H locs ls hok; exact hok.elim
  | succ n ih =>
    intro x1 x2 mlb mrw mnb mlk H locs ls hok hres hP hD hS hl
    rw [f_MO_readNode_9] at hres
    rw [ok_MO_readNode_9] at hok
    refine lv_iload_n hx hb d_MO_readNode_9 rfl (lv_at hl 2 rfl) ?_
    refine lv_bipush (v := (8 : Int32)) hx hb d_MO_readNode_10 (by decide) ?_
    refine lv_icmp_ge (tgt := 45) hx hb d_MO_readNode_12 (by decide) (fun c_12 => ?_) (fun c_12 => ?_)
    · have hres := it_t c_12 hres
      have hok := hok.1 c_12
      refine lv_aload_n hx hb d_MO_readNode_45 rfl (lv_at hl 0 rfl) ?_
      refine va_get (D := G.1) (ci := 6) (C := R_MO) (T := F_MO) (N := 26) hx hb ht in_MO hown hK hP 0 rfl rfl 21 (by decide) (ht _ kf_MO_160) (fun _ h9 => h9) rfl d_MO_readNode_46 ?_
      refine lv_iload_n hx hb d_MO_readNode_49 rfl (lv_at hl 1 rfl) ?_
      refine lv_ishr hx hb d_MO_readNode_50 ?_
      refine lv_iconst (v := (1 : Int32)) hx hb d_MO_readNode_51 (by decide) ?_
      refine lv_iand hx hb d_MO_readNode_52 ?_
      refine lv_if_ne (tgt := 58) hx hb d_MO_readNode_53 (by decide) (fun c_53 => ?_) (fun c_53 => ?_)
      · have hres := it_f c_53 hres
        have hok := hok.2 c_53
        refine lv_aload_n hx hb d_MO_readNode_58 rfl (lv_at hl 0 rfl) ?_
        refine va_get (D := G.1) (ci := 6) (C := R_MO) (T := F_MO) (N := 26) hx hb ht in_MO hown hK hP 0 rfl rfl 22 (by decide) (ht _ kf_MO_48) (fun _ h9 => h9) rfl d_MO_readNode_59 ?_
        refine lv_iload_n hx hb d_MO_readNode_62 rfl (lv_at hl 1 rfl) ?_
        obtain ⟨hi_63, hok⟩ := hok
        refine va_iald hx hb hK hP 12 0 rfl rfl hi_63 d_MO_readNode_63 ?_
        refine lv_istore_n (lv' := [(2, .int (mnk x1.toNatClampNeg)), (0, .ref (ad 0)), (1, .int x1)]) hx hb d_MO_readNode_64 rfl hl (by decide) rfl (fun ls hl => ?_)
        refine lv_aload_n hx hb d_MO_readNode_65 rfl (lv_at hl 1 rfl) ?_
        refine lv_iload_n hx hb d_MO_readNode_66 rfl (lv_at hl 0 rfl) ?_
        refine lv_iconst (v := (2 : Int32)) hx hb d_MO_readNode_67 (by decide) ?_
        obtain ⟨hk_68, hok⟩ := hok
        refine go_iz (run_V hx hb hml hown ht hK hP hD (c_MO_isBad hk_68) (cw_V ht km_MO_124 ki_MO_isBad ks_MO_isBad ini_MO kd_MO_isBad kh_MO_isBad ⟨Nat.le_of_ble_eq_true rfl, Nat.le_of_ble_eq_true rfl⟩ rfl rfl) (q0 := 0) (ci := 6) (As := [.int (mnk x1.toNatClampNeg), .int (2 : Int32)]) (rest := []) rfl rfl rfl hl.1 rfl (Nat.le_of_ble_eq_true rfl) d_MO_readNode_68 ⟨Nat.zero_le _, Nat.zero_le _⟩) hD hS hA (fun z_68 H locs hz_68 hP hD hS => ?_)
        have hres := bindc_eq hz_68 hres
        have hok := bindp_eq hz_68 hok
        have hP : va_P G.1 classes (cM G ad mrf msl mst men mnw mdn mpw mwr mrs mdr mtb mrc mnx mro mit mve mrb mch mva mic mlb mrw mnb mlk mnk mmd) H := hP
        have hD : va_D A (cM G ad mrf msl mst men mnw mdn mpw mwr mrs mdr mtb mrc mnx mro mit mve mrb mch mva mic mlb mrw mnb mlk mnk mmd) := hD
        refine lv_if_eq (tgt := 76) hx hb d_MO_readNode_71 (by decide) (fun c_71 => ?_) (fun c_71 => ?_)
        · have hres := it_t c_71 hres
          have hok := hok.1 c_71
          refine lv_aload_n hx hb d_MO_readNode_76 rfl (lv_at hl 1 rfl) ?_
          refine va_get (D := G.1) (ci := 6) (C := R_MO) (T := F_MO) (N := 26) hx hb ht in_MO hown hK hP 0 rfl rfl 19 (by decide) (ht _ kf_MO_42) (fun _ h9 => h9) rfl d_MO_readNode_77 ?_
          refine lv_iload_n hx hb d_MO_readNode_80 rfl (lv_at hl 2 rfl) ?_
          refine lv_aload_n hx hb d_MO_readNode_81 rfl (lv_at hl 1 rfl) ?_
          refine lv_iload_n hx hb d_MO_readNode_82 rfl (lv_at hl 0 rfl) ?_
          obtain ⟨hk_83, hok⟩ := hok
          refine go_iz (run_V hx hb hml hown ht hK hP hD (c_MO_bitsOf hk_83) (cw_V ht km_MO_92 ki_MO_bitsOf ks_MO_bitsOf ini_MO kd_MO_bitsOf kh_MO_bitsOf ⟨Nat.le_of_ble_eq_true rfl, Nat.le_of_ble_eq_true rfl⟩ rfl rfl) (q0 := 0) (ci := 6) (As := [.int (mnk x1.toNatClampNeg)]) (rest := [.int x1, .ref (ad 10)]) rfl rfl rfl hl.1 rfl (Nat.le_of_ble_eq_true rfl) d_MO_readNode_83 ⟨Nat.zero_le _, Nat.zero_le _⟩) hD hS hA (fun z_83 H locs hz_83 hP hD hS => ?_)
          have hres := bindc_eq hz_83 hres
          have hok := bindp_eq hz_83 hok
          have hP : va_P G.1 classes (cM G ad mrf msl mst men mnw mdn mpw mwr mrs mdr mtb mrc mnx mro mit mve mrb mch mva mic mlb mrw mnb mlk mnk mmd) H := hP
          have hD : va_D A (cM G ad mrf msl mst men mnw mdn mpw mwr mrs mdr mtb mrc mnx mro mit mve mrb mch mva mic mlb mrw mnb mlk mnk mmd) := hD
          obtain ⟨hi_86, hok⟩ := hok
          refine va_iast hx hb hK hP hD hS 10 0 rfl rfl hi_86 d_MO_readNode_86 (fun H locs hP hD hS => ?_)
          have hP : va_P G.1 classes (cM G ad mrf msl mst men mnw mdn mpw mwr mrs mdr mtb mrc mnx mro mit mve mrb mch mva mic mlb mrw (upd mnb x1.toNatClampNeg z_83.1) mlk mnk mmd) H := hP
          have hD : va_D A (cM G ad mrf msl mst men mnw mdn mpw mwr mrs mdr mtb mrc mnx mro mit mve mrb mch mva mic mlb mrw (upd mnb x1.toNatClampNeg z_83.1) mlk mnk mmd) := hD
          refine lv_iconst (v := (1 : Int32)) hx hb d_MO_readNode_87 (by decide) ?_
          refine lv_istore_n (lv' := [(3, .int (1 : Int32)), (2, .int (mnk x1.toNatClampNeg)), (0, .ref (ad 0)), (1, .int x1)]) hx hb d_MO_readNode_88 rfl hl (by decide) rfl (fun ls hl => ?_)
          refine lv_iconst (v := (0 : Int32)) hx hb d_MO_readNode_89 (by decide) ?_
          refine lv_istore (lv' := [(4, .int (0 : Int32)), (3, .int (1 : Int32)), (2, .int (mnk x1.toNatClampNeg)), (0, .ref (ad 0)), (1, .int x1)]) hx hb d_MO_readNode_90 hl (by decide) rfl (fun ls hl => ?_)
          exact w_MO_readNode_92 hC 1024 x1 (mnk x1.toNatClampNeg) (1 : Int32) (0 : Int32) mlb mrw (upd mnb x1.toNatClampNeg z_83.1) mlk _ _ _ hok hres hP hD hS (lv_sub hl [3, 4, 2, 1, 0] rfl)
        · have hres := it_f c_71 hres
          refine lv_iconst (v := (0 : Int32)) hx hb d_MO_readNode_74 (by decide) ?_
          exact en_z (w1 := (fun u : (Nat → Int32) × (Nat → Int32) × (Nat → Int32) × (Nat → Int32) => (cM G ad mrf msl mst men mnw mdn mpw mwr mrs mdr mtb mrc mnx mro mit mve mrb mch mva mic u.1 u.2.1 u.2.2.1 u.2.2.2 mnk mmd))) (mlb, mrw, mnb, mlk) hx hb hr hlocks hK hP hD hS hres isB_0 d_MO_readNode_75
      · have hres := it_t c_53 hres
        refine lv_iconst (v := (1 : Int32)) hx hb d_MO_readNode_56 (by decide) ?_
        exact en_z (w1 := (fun u : (Nat → Int32) × (Nat → Int32) × (Nat → Int32) × (Nat → Int32) => (cM G ad mrf msl mst men mnw mdn mpw mwr mrs mdr mtb mrc mnx mro mit mve mrb mch mva mic u.1 u.2.1 u.2.2.1 u.2.2.2 mnk mmd))) (mlb, mrw, mnb, mlk) hx hb hr hlocks hK hP hD hS hres isB_1 d_MO_readNode_57
    · have hres := it_f c_12 hres
      have hok := hok.2 c_12
      refine lv_aload_n hx hb d_MO_readNode_15 rfl (lv_at hl 0 rfl) ?_
      refine va_get (D := G.1) (ci := 6) (C := R_MO) (T := F_MO) (N := 26) hx hb ht in_MO hown hK hP 0 rfl rfl 17 (by decide) (ht _ kf_MO_36) (fun _ h9 => h9) rfl d_MO_readNode_16 ?_
      refine lv_bipush (v := (8 : Int32)) hx hb d_MO_readNode_19 (by decide) ?_
      refine lv_iload_n hx hb d_MO_readNode_21 rfl (lv_at hl 1 rfl) ?_
      refine lv_imul hx hb d_MO_readNode_22 ?_
      refine lv_iload_n hx hb d_MO_readNode_23 rfl (lv_at hl 2 rfl) ?_
      refine lv_iadd hx hb d_MO_readNode_24 ?_
      refine lv_iconst (v := (0 : Int32)) hx hb d_MO_readNode_25 (by decide) ?_
      obtain ⟨hi_26, hok⟩ := hok
      refine va_iast hx hb hK hP hD hS 8 0 rfl rfl hi_26 d_MO_readNode_26 (fun H locs hP hD hS => ?_)
      have hP : va_P G.1 classes (cM G ad mrf msl mst men mnw mdn mpw mwr mrs mdr mtb mrc mnx mro mit mve mrb mch mva mic (upd mlb (((8 : Int32) * x1) + x2).toNatClampNeg (0 : Int32)) mrw mnb mlk mnk mmd) H := hP
      have hD : va_D A (cM G ad mrf msl mst men mnw mdn mpw mwr mrs mdr mtb mrc mnx mro mit mve mrb mch mva mic (upd mlb (((8 : Int32) * x1) + x2).toNatClampNeg (0 : Int32)) mrw mnb mlk mnk mmd) := hD
      refine lv_aload_n hx hb d_MO_readNode_27 rfl (lv_at hl 0 rfl) ?_
      refine va_get (D := G.1) (ci := 6) (C := R_MO) (T := F_MO) (N := 26) hx hb ht in_MO hown hK hP 0 rfl rfl 20 (by decide) (ht _ kf_MO_45) (fun _ h9 => h9) rfl d_MO_readNode_28 ?_
      refine lv_bipush (v := (8 : Int32)) hx hb d_MO_readNode_31 (by decide) ?_
      refine lv_iload_n hx hb d_MO_readNode_33 rfl (lv_at hl 1 rfl) ?_
      refine lv_imul hx hb d_MO_readNode_34 ?_
      refine lv_iload_n hx hb d_MO_readNode_35 rfl (lv_at hl 2 rfl) ?_
      refine lv_iadd hx hb d_MO_readNode_36 ?_
      refine lv_iconst (v := (0 : Int32)) hx hb d_MO_readNode_37 (by decide) ?_
      obtain ⟨hi_38, hok⟩ := hok
      refine va_iast hx hb hK hP hD hS 11 0 rfl rfl hi_38 d_MO_readNode_38 (fun H locs hP hD hS => ?_)
      have hP : va_P G.1 classes (cM G ad mrf msl mst men mnw mdn mpw mwr mrs mdr mtb mrc mnx mro mit mve mrb mch mva mic (upd mlb (((8 : Int32) * x1) + x2).toNatClampNeg (0 : Int32)) mrw mnb (upd mlk (((8 : Int32) * x1) + x2).toNatClampNeg (0 : Int32)) mnk mmd) H := hP
      have hD : va_D A (cM G ad mrf msl mst men mnw mdn mpw mwr mrs mdr mtb mrc mnx mro mit mve mrb mch mva mic (upd mlb (((8 : Int32) * x1) + x2).toNatClampNeg (0 : Int32)) mrw mnb (upd mlk (((8 : Int32) * x1) + x2).toNatClampNeg (0 : Int32)) mnk mmd) := hD
      refine lv_iinc (v := x2 + (1 : Int32)) (lv' := [(2, .int (x2 + (1 : Int32))), (0, .ref (ad 0)), (1, .int x1)]) hx hb d_MO_readNode_39 hl (k := 2) rfl rfl (by decide) rfl (fun ls hl => ?_)
      refine lv_goto (tgt := 9) hx hb d_MO_readNode_42 (by decide) ?_
      exact ih x1 (x2 + (1 : Int32)) (upd mlb (((8 : Int32) * x1) + x2).toNatClampNeg (0 : Int32)) mrw mnb (upd mlk (((8 : Int32) * x1) + x2).toNatClampNeg (0 : Int32)) _ _ _ hok hres hP hD hS (lv_sub hl [1, 2, 0] rfl)
def f_MO_readNode (p0 : Int32) (msl : Int32) (mst : Int32) (men : Int32) (mtb : Int32) (mro : (Nat → Int32)) (mit : (Nat → Int32)) (mic : (Nat → Int32)) (mlb : (Nat → Int32)) (mrw : (Nat → Int32)) (mnb : (Nat → Int32)) (mlk : (Nat → Int32)) (mnk : (Nat → Int32)) : Int32 × (Nat → Int32) × (Nat → Int32) × (Nat → Int32) × (Nat → Int32) := f_MO_readNode_9 1024 p0 (0 : Int32) msl mst men mtb mro mit mic mlb mrw (upd mnb p0.toNatClampNeg (0 : Int32)) mlk mnk
def ok_MO_readNode (p0 : Int32) (msl : Int32) (mst : Int32) (men : Int32) (mtb : Int32) (mro : (Nat → Int32)) (mit : (Nat → Int32)) (mic : (Nat → Int32)) (mlb : (Nat → Int32)) (mrw : (Nat → Int32)) (mnb : (Nat → Int32)) (mlk : (Nat → Int32)) (mnk : (Nat → Int32)) : Prop := vp_in p0 8 ∧ (ok_MO_readNode_9  1024 p0 (0 : Int32) msl mst men mtb mro mit mic mlb mrw (upd mnb p0.toNatClampNeg (0 : Int32)) mlk mnk)
set_option maxHeartbeats 4000000 in
set_option maxRecDepth 100000 in
theorem c_MO_readNode {l : Launch} {G : GG} {ad : Nat → Nat} {sz : Nat} {mrf : Int32} {msl : Int32} {mst : Int32} {men : Int32} {mnw : Int32} {mdn : Int32} {mpw : Int32} {mwr : Int32} {mrs : Int32} {mdr : Int32} {mtb : Int32} {mrc : Int32} {mnx : Int32} {mro : (Nat → Int32)} {mit : (Nat → Int32)} {mve : (Nat → Int32)} {mrb : (Nat → Int32)} {mch : (Nat → Int32)} {mva : (Nat → Int32)} {mic : (Nat → Int32)} {mlb : (Nat → Int32)} {mrw : (Nat → Int32)} {mnb : (Nat → Int32)} {mlk : (Nat → Int32)} {mnk : (Nat → Int32)} {mmd : (Nat → Int32)} {p0 : Int32} (hok : ok_MO_readNode p0 msl mst men mtb mro mit mic mlb mrw mnb mlk mnk) : CtI l y_MO_readNode b_MO_readNode 7 (some .boolean) rm_MO_readNode G (cM G ad mrf msl mst men mnw mdn mpw mwr mrs mdr mtb mrc mnx mro mit mve mrb mch mva mic mlb mrw mnb mlk mnk mmd) sz [.ref (ad 0), .int p0] (eqP (f_MO_readNode p0 msl mst men mtb mro mit mic mlb mrw mnb mlk mnk)) (fun u : (Nat → Int32) × (Nat → Int32) × (Nat → Int32) × (Nat → Int32) => (cM G ad mrf msl mst men mnw mdn mpw mwr mrs mdr mtb mrc mnx mro mit mve mrb mch mva mic u.1 u.2.1 u.2.2.1 u.2.2.2 mnk mmd)) := by
  generalize hres : f_MO_readNode p0 msl mst men mtb mro mit mic mlb mrw mnb mlk mnk = res
  refine Met_of (Qc := fun A => va_Qi (eqP res) (Wb G A (fun u : (Nat → Int32) × (Nat → Int32) × (Nat → Int32) × (Nat → Int32) => (cM G ad mrf msl mst men mnw mdn mpw mwr mrs mdr mtb mrc mnx mro mit mve mrb mch mva mic u.1 u.2.1 u.2.2.1 u.2.2.2 mnk mmd))) A) (by decide) (Nat.le_of_ble_eq_true rfl) ?_
  intro p e s m below meth c hadm hx hb hr hml hown hlocks ht hK A hA hP hD hS ls hl
  have hC : Cx p l e s m (([.ref (ad 0), .int p0] : List Value)).toArray meth c y_MO_readNode b_MO_readNode 7 (some .boolean) "BookTreesModel" G A := ⟨hx, hb, hr, hml, hown, hlocks, ht, hK, hA⟩
  have hown : s.vm.findClass "BookTreesModel" = some m.cls := hown
  have hl : lv_has ls 7 [(0, .ref (ad 0)), (1, .int p0)] := hl
  rw [f_MO_readNode] at hres
  rw [ok_MO_readNode] at hok
  refine lv_aload_n hx hb d_MO_readNode_0 rfl (lv_at hl 0 rfl) ?_
  refine va_get (D := G.1) (ci := 6) (C := R_MO) (T := F_MO) (N := 26) hx hb ht in_MO hown hK hP 0 rfl rfl 19 (by decide) (ht _ kf_MO_42) (fun _ h9 => h9) rfl d_MO_readNode_1 ?_
  refine lv_iload_n hx hb d_MO_readNode_4 rfl (lv_at hl 1 rfl) ?_
  refine lv_iconst (v := (0 : Int32)) hx hb d_MO_readNode_5 (by decide) ?_
  obtain ⟨hi_6, hok⟩ := hok
  refine va_iast hx hb hK hP hD hS 10 0 rfl rfl hi_6 d_MO_readNode_6 (fun H locs hP hD hS => ?_)
  have hP : va_P G.1 classes (cM G ad mrf msl mst men mnw mdn mpw mwr mrs mdr mtb mrc mnx mro mit mve mrb mch mva mic mlb mrw (upd mnb p0.toNatClampNeg (0 : Int32)) mlk mnk mmd) H := hP
  have hD : va_D A (cM G ad mrf msl mst men mnw mdn mpw mwr mrs mdr mtb mrc mnx mro mit mve mrb mch mva mic mlb mrw (upd mnb p0.toNatClampNeg (0 : Int32)) mlk mnk mmd) := hD
  refine lv_iconst (v := (0 : Int32)) hx hb d_MO_readNode_7 (by decide) ?_
  refine lv_istore_n (lv' := [(2, .int (0 : Int32)), (0, .ref (ad 0)), (1, .int p0)]) hx hb d_MO_readNode_8 rfl hl (by decide) rfl (fun ls hl => ?_)
  exact w_MO_readNode_9 hC 1024 p0 (0 : Int32) mlb mrw (upd mnb p0.toNatClampNeg (0 : Int32)) mlk _ _ _ hok hres hP hD hS (lv_sub hl [1, 2, 0] rfl)
/-! ===== BookTreesModel.readAll()Z ===== -/
abbrev rm_MO_readAll : Room := { frames := 5, cells := 0, slots := 0, locals := 121 }
def f_MO_readAll_7 : Nat → Int32 → Int32 → Int32 → Int32 → Int32 → Int32 → Int32 → Int32 → Int32 → (Nat → Int32) → (Nat → Int32) → (Nat → Int32) → (Nat → Int32) → (Nat → Int32) → (Nat → Int32) → (Nat → Int32) → (Nat → Int32) → (Nat → Int32) → (Nat → Int32) → Int32 × Int32 × Int32 × (Nat → Int32) × (Nat → Int32) × (Nat → Int32) × (Nat → Int32) × (Nat → Int32)
  | 0, x1, x2, msl, mst, men, mnw, mrs, mtb, mrc, mro, mit, mve, mrb, mic, mlb, mrw, mnb, mlk, mnk => (0, (mtb, mrc, mlb, mrw, mnb, mlk, mnk))
  | n + 1, x1, x2, msl, mst, men, mnw, mrs, mtb, mrc, mro, mit, mve, mrb, mic, mlb, mrw, mnb, mlk, mnk => if (8 : Int32) ≤ x2 then (x1, (mtb, mrc, mlb, mrw, mnb, mlk, mnk)) else if x1 = 0 then (x1, (mtb, mrc, mlb, mrw, mnb, mlk, mnk)) else bindc (f_MO_isNodeChanged x2 mic) (fun z_19 => if z_19.1 = 0 then f_MO_readAll_7 n (1 : Int32) (x2 + (1 : Int32)) msl mst men mnw mrs mtb mrc mro mit mve mrb mic mlb mrw mnb mlk mnk else bindc (f_MO_readNode x2 msl mst men mtb mro mit mic mlb mrw mnb mlk mnk) (fun z_27 => if z_27.1 = 0 then f_MO_readAll_7 n (0 : Int32) (x2 + (1 : Int32)) msl mst men mnw mrs mtb mrc mro mit mve mrb mic z_27.2.1 z_27.2.2.1 z_27.2.2.2.1 z_27.2.2.2.2 mnk else f_MO_readAll_7 n (1 : Int32) (x2 + (1 : Int32)) msl mst men mnw mrs mtb mrc mro mit mve mrb mic z_27.2.1 z_27.2.2.1 z_27.2.2.2.1 z_27.2.2.2.2 mnk))
def ok_MO_readAll_7 : Nat → Int32 → Int32 → Int32 → Int32 → Int32 → Int32 → Int32 → Int32 → Int32 → (Nat → Int32) → (Nat → Int32) → (Nat → Int32) → (Nat → Int32) → (Nat → Int32) → (Nat → Int32) → (Nat → Int32) → (Nat → Int32) → (Nat → Int32) → (Nat → Int32) → Prop
  | 0, _, _, _, _, _, _, _, _, _, _, _, _, _, _, _, _, _, _, _ => False
  | n + 1, x1, x2, msl, mst, men, mnw, mrs, mtb, mrc, mro, mit, mve, mrb, mic, mlb, mrw, mnb, mlk, mnk => ((8 : Int32) ≤ x2 → isB x1) ∧ (¬ (8 : Int32) ≤ x2 → (x1 = 0 → isB x1) ∧ (¬ x1 = 0 → ok_MO_isNodeChanged x2 mic ∧ bindp (f_MO_isNodeChanged x2 mic) (fun z_19 => (z_19.1 = 0 → ok_MO_readAll_7  n (1 : Int32) (x2 + (1 : Int32)) msl mst men mnw mrs mtb mrc mro mit mve mrb mic mlb mrw mnb mlk mnk) ∧ (¬ z_19.1 = 0 → ok_MO_readNode x2 msl mst men mtb mro mit mic mlb mrw mnb mlk mnk ∧ bindp (f_MO_readNode x2 msl mst men mtb mro mit mic mlb mrw mnb mlk mnk) (fun z_27 => (z_27.1 = 0 → ok_MO_readAll_7  n (0 : Int32) (x2 + (1 : Int32)) msl mst men mnw mrs mtb mrc mro mit mve mrb mic z_27.2.1 z_27.2.2.1 z_27.2.2.2.1 z_27.2.2.2.2 mnk) ∧ (¬ z_27.1 = 0 → ok_MO_readAll_7  n (1 : Int32) (x2 + (1 : Int32)) msl mst men mnw mrs mtb mrc mro mit mve mrb mic z_27.2.1 z_27.2.2.1 z_27.2.2.2.1 z_27.2.2.2.2 mnk))))))
set_option maxHeartbeats 4000000 in
set_option maxRecDepth 100000 in
theorem w_MO_readAll_7 {p : Program} {l : Launch} {e : Env} {s : State} {m : MethodId} {args : Array Value} {below : List Frame} {meth : Method} {c : Code} {A : Nat → Prop} {G : GG} {ad : Nat → Nat} {mrf : Int32} {msl : Int32} {mst : Int32} {men : Int32} {mnw : Int32} {mdn : Int32} {mpw : Int32} {mwr : Int32} {mrs : Int32} {mdr : Int32} {mnx : Int32} {mro : (Nat → Int32)} {mit : (Nat → Int32)} {mve : (Nat → Int32)} {mrb : (Nat → Int32)} {mch : (Nat → Int32)} {mva : (Nat → Int32)} {mic : (Nat → Int32)} {mmd : (Nat → Int32)} {res : Int32 × Int32 × Int32 × (Nat → Int32) × (Nat → Int32) × (Nat → Int32) × (Nat → Int32) × (Nat → Int32)} (hC : Cx p l e s m args meth c y_MO_readAll b_MO_readAll 3 (some .boolean) "BookTreesModel" G A) : ∀ (n : Nat) (x1 : Int32) (x2 : Int32) (mtb : Int32) (mrc : Int32) (mlb : (Nat → Int32)) (mrw : (Nat → Int32)) (mnb : (Nat → Int32)) (mlk : (Nat → Int32)) (mnk : (Nat → Int32)) (H : Heap) (locs : List Loc) (ls : Array Slot), ok_MO_readAll_7 n x1 x2 msl mst men mnw mrs mtb mrc mro mit mve mrb mic mlb mrw mnb mlk mnk → f_MO_readAll_7 n x1 x2 msl mst men mnw mrs mtb mrc mro mit mve mrb mic mlb mrw mnb mlk mnk = res → va_P G.1 classes (cM G ad mrf msl mst men mnw mdn mpw mwr mrs mdr mtb mrc mnx mro mit mve mrb mch mva mic mlb mrw mnb mlk mnk mmd) H → va_D A (cM G ad mrf msl mst men mnw mdn mpw mwr mrs mdr mtb mrc mnx mro mit mve mrb mch mva mic mlb mrw mnb mlk mnk mmd) → va_S A s.heap H locs → lv_has ls 3 [(0, .ref (ad 0)), (1, .int x1), (2, .int x2)] → W p l e rm_MO_readAll s m args below meth c H locs 0 0 (MQ below (va_Qi (eqP res) (Wb G A (fun u : Int32 × Int32 × (Nat → Int32) × (Nat → Int32) × (Nat → Int32) × (Nat → Int32) × (Nat → Int32) => (cM G ad mrf msl mst men mnw mdn mpw mwr mrs mdr u.1 u.2.1 mnx mro mit mve mrb mch mva mic u.2.2.1 u.2.2.2.1 u.2.2.2.2.1 u.2.2.2.2.2.1 u.2.2.2.2.2.2 mmd))) A) args s 0 0 A) (F0 m 7 ls []) := by
  obtain ⟨hx, hb, hr, hml, hown, hlocks, ht, hK, hA⟩ := id hC
  intro n
  induction n with
  | zero => intro x1 x2 mtb mrc mlb mrw mnb mlk mnk H locs ls hok; exact hok.elim
  | succ n ih =>
    intro x1 x2 mtb mrc mlb mrw mnb mlk mnk H locs ls hok hres hP hD hS hl
    rw [f_MO_readAll_7] at hres
    rw [ok_MO_readAll_7] at hok
    refine lv_iload_n hx hb d_MO_readAll_7 rfl (lv_at hl 2 rfl) ?_
    refine lv_bipush (v := (8 : Int32)) hx hb d_MO_readAll_8 (by decide) ?_
    refine lv_icmp_ge (tgt := 45) hx hb d_MO_readAll_10 (by decide) (fun c_10 => ?_) (fun c_10 => ?_)
    · have hres := it_t c_10 hres
      have hok := hok.1 c_10
      refine lv_iload_n hx hb d_MO_readAll_45 rfl (lv_at hl 1 rfl) ?_
      exact en_z (w1 := (fun u : Int32 × Int32 × (Nat → Int32) × (Nat → Int32) × (Nat → Int32) × (Nat → Int32) × (Nat → Int32) => (cM G ad mrf msl mst men mnw mdn mpw mwr mrs mdr u.1 u.2.1 mnx mro mit mve mrb mch mva mic u.2.2.1 u.2.2.2.1 u.2.2.2.2.1 u.2.2.2.2.2.1 u.2.2.2.2.2.2 mmd))) (mtb, mrc, mlb, mrw, mnb, mlk, mnk) hx hb hr hlocks hK hP hD hS hres hok d_MO_readAll_46
    · have hres := it_f c_10 hres
      have hok := hok.2 c_10
      refine lv_iload_n hx hb d_MO_readAll_13 rfl (lv_at hl 1 rfl) ?_
      refine lv_if_eq (tgt := 45) hx hb d_MO_readAll_14 (by decide) (fun c_14 => ?_) (fun c_14 => ?_)
      · have hres := it_t c_14 hres
        have hok := hok.1 c_14
        refine lv_iload_n hx hb d_MO_readAll_45 rfl (lv_at hl 1 rfl) ?_
        exact en_z (w1 := (fun u : Int32 × Int32 × (Nat → Int32) × (Nat → Int32) × (Nat → Int32) × (Nat → Int32) × (Nat → Int32) => (cM G ad mrf msl mst men mnw mdn mpw mwr mrs mdr u.1 u.2.1 mnx mro mit mve mrb mch mva mic u.2.2.1 u.2.2.2.1 u.2.2.2.2.1 u.2.2.2.2.2.1 u.2.2.2.2.2.2 mmd))) (mtb, mrc, mlb, mrw, mnb, mlk, mnk) hx hb hr hlocks hK hP hD hS hres hok d_MO_readAll_46
      · have hres := it_f c_14 hres
        have hok := hok.2 c_14
        refine lv_aload_n hx hb d_MO_readAll_17 rfl (lv_at hl 0 rfl) ?_
        refine lv_iload_n hx hb d_MO_readAll_18 rfl (lv_at hl 2 rfl) ?_
        obtain ⟨hk_19, hok⟩ := hok
        refine go_iz (run_V hx hb hml hown ht hK hP hD (c_MO_isNodeChanged hk_19) (cw_V ht km_MO_172 ki_MO_isNodeChanged ks_MO_isNodeChanged ini_MO kd_MO_isNodeChanged kh_MO_isNodeChanged ⟨Nat.le_of_ble_eq_true rfl, Nat.le_of_ble_eq_true rfl⟩ rfl rfl) (q0 := 0) (ci := 6) (As := [.int x2]) (rest := []) rfl rfl rfl hl.1 rfl (Nat.le_of_ble_eq_true rfl) d_MO_readAll_19 ⟨Nat.zero_le _, Nat.zero_le _⟩) hD hS hA (fun z_19 H locs hz_19 hP hD hS => ?_)
        have hres := bindc_eq hz_19 hres
        have hok := bindp_eq hz_19 hok
        have hP : va_P G.1 classes (cM G ad mrf msl mst men mnw mdn mpw mwr mrs mdr mtb mrc mnx mro mit mve mrb mch mva mic mlb mrw mnb mlk mnk mmd) H := hP
        have hD : va_D A (cM G ad mrf msl mst men mnw mdn mpw mwr mrs mdr mtb mrc mnx mro mit mve mrb mch mva mic mlb mrw mnb mlk mnk mmd) := hD
        refine lv_if_eq (tgt := 33) hx hb d_MO_readAll_22 (by decide) (fun c_22 => ?_) (fun c_22 => ?_)
        · have hres := it_t c_22 hres
          have hok := hok.1 c_22
          refine lv_iconst (v := (1 : Int32)) hx hb d_MO_readAll_33 (by decide) ?_
          refine lv_goto (tgt := 38) hx hb d_MO_readAll_34 (by decide) ?_
          refine lv_istore_n (lv' := [(1, .int (1 : Int32)), (0, .ref (ad 0)), (2, .int x2)]) hx hb d_MO_readAll_38 rfl hl (by decide) rfl (fun ls hl => ?_)
          refine lv_iinc (v := x2 + (1 : Int32)) (lv' := [(2, .int (x2 + (1 : Int32))), (1, .int (1 : Int32)), (0, .ref (ad 0))]) hx hb d_MO_readAll_39 hl (k := 2) rfl rfl (by decide) rfl (fun ls hl => ?_)
          refine lv_goto (tgt := 7) hx hb d_MO_readAll_42 (by decide) ?_
          exact ih (1 : Int32) (x2 + (1 : Int32)) mtb mrc mlb mrw mnb mlk mnk _ _ _ hok hres hP hD hS (lv_sub hl [2, 1, 0] rfl)
        · have hres := it_f c_22 hres
          have hok := hok.2 c_22
          refine lv_aload_n hx hb d_MO_readAll_25 rfl (lv_at hl 0 rfl) ?_
          refine lv_iload_n hx hb d_MO_readAll_26 rfl (lv_at hl 2 rfl) ?_
          obtain ⟨hk_27, hok⟩ := hok
          refine go_iz (run_V hx hb hml hown ht hK hP hD (c_MO_readNode hk_27) (cw_V ht km_MO_175 ki_MO_readNode ks_MO_readNode ini_MO kd_MO_readNode kh_MO_readNode ⟨Nat.le_of_ble_eq_true rfl, Nat.le_of_ble_eq_true rfl⟩ rfl rfl) (q0 := 0) (ci := 6) (As := [.int x2]) (rest := []) rfl rfl rfl hl.1 rfl (Nat.le_of_ble_eq_true rfl) d_MO_readAll_27 ⟨Nat.zero_le _, Nat.zero_le _⟩) hD hS hA (fun z_27 H locs hz_27 hP hD hS => ?_)
          have hres := bindc_eq hz_27 hres
          have hok := bindp_eq hz_27 hok
          have hP : va_P G.1 classes (cM G ad mrf msl mst men mnw mdn mpw mwr mrs mdr mtb mrc mnx mro mit mve mrb mch mva mic z_27.2.1 z_27.2.2.1 z_27.2.2.2.1 z_27.2.2.2.2 mnk mmd) H := hP
          have hD : va_D A (cM G ad mrf msl mst men mnw mdn mpw mwr mrs mdr mtb mrc mnx mro mit mve mrb mch mva mic z_27.2.1 z_27.2.2.1 z_27.2.2.2.1 z_27.2.2.2.2 mnk mmd) := hD
          refine lv_if_eq (tgt := 37) hx hb d_MO_readAll_30 (by decide) (fun c_30 => ?_) (fun c_30 => ?_)
          · have hres := it_t c_30 hres
            have hok := hok.1 c_30
            refine lv_iconst (v := (0 : Int32)) hx hb d_MO_readAll_37 (by decide) ?_
            refine lv_istore_n (lv' := [(1, .int (0 : Int32)), (0, .ref (ad 0)), (2, .int x2)]) hx hb d_MO_readAll_38 rfl hl (by decide) rfl (fun ls hl => ?_)
            refine lv_iinc (v := x2 + (1 : Int32)) (lv' := [(2, .int (x2 + (1 : Int32))), (1, .int (0 : Int32)), (0, .ref (ad 0))]) hx hb d_MO_readAll_39 hl (k := 2) rfl rfl (by decide) rfl (fun ls hl => ?_)
            refine lv_goto (tgt := 7) hx hb d_MO_readAll_42 (by decide) ?_
            exact ih (0 : Int32) (x2 + (1 : Int32)) mtb mrc z_27.2.1 z_27.2.2.1 z_27.2.2.2.1 z_27.2.2.2.2 mnk _ _ _ hok hres hP hD hS (lv_sub hl [2, 1, 0] rfl)
          · have hres := it_f c_30 hres
            have hok := hok.2 c_30
            refine lv_iconst (v := (1 : Int32)) hx hb d_MO_readAll_33 (by decide) ?_
            refine lv_goto (tgt := 38) hx hb d_MO_readAll_34 (by decide) ?_
            refine lv_istore_n (lv' := [(1, .int (1 : Int32)), (0, .ref (ad 0)), (2, .int x2)]) hx hb d_MO_readAll_38 rfl hl (by decide) rfl (fun ls hl => ?_)
            refine lv_iinc (v := x2 + (1 : Int32)) (lv' := [(2, .int (x2 + (1 : Int32))), (1, .int (1 : Int32)), (0, .ref (ad 0))]) hx hb d_MO_readAll_39 hl (k := 2) rfl rfl (by decide) rfl (fun ls hl => ?_)
            refine lv_goto (tgt := 7) hx hb d_MO_readAll_42 (by decide) ?_
            exact ih (1 : Int32) (x2 + (1 : Int32)) mtb mrc z_27.2.1 z_27.2.2.1 z_27.2.2.2.1 z_27.2.2.2.2 mnk _ _ _ hok hres hP hD hS (lv_sub hl [2, 1, 0] rfl)
def f_MO_readAll  (msl : Int32) (mst : Int32) (men : Int32) (mnw : Int32) (mrs : Int32) (mtb : Int32) (mrc : Int32) (mro : (Nat → Int32)) (mit : (Nat → Int32)) (mve : (Nat → Int32)) (mrb : (Nat → Int32)) (mic : (Nat → Int32)) (mlb : (Nat → Int32)) (mrw : (Nat → Int32)) (mnb : (Nat → Int32)) (mlk : (Nat → Int32)) (mnk : (Nat → Int32)) : Int32 × Int32 × Int32 × (Nat → Int32) × (Nat → Int32) × (Nat → Int32) × (Nat → Int32) × (Nat → Int32) := bindc (f_MO_readTop msl mst men mnw mrs mtb mrc mro mit mve mrb mnk) (fun z_1 => f_MO_readAll_7 1024 z_1.1 (0 : Int32) msl mst men mnw mrs z_1.2.1 z_1.2.2.1 mro mit mve mrb mic mlb mrw mnb mlk z_1.2.2.2)
def ok_MO_readAll  (msl : Int32) (mst : Int32) (men : Int32) (mnw : Int32) (mrs : Int32) (mtb : Int32) (mrc : Int32) (mro : (Nat → Int32)) (mit : (Nat → Int32)) (mve : (Nat → Int32)) (mrb : (Nat → Int32)) (mic : (Nat → Int32)) (mlb : (Nat → Int32)) (mrw : (Nat → Int32)) (mnb : (Nat → Int32)) (mlk : (Nat → Int32)) (mnk : (Nat → Int32)) : Prop := ok_MO_readTop msl mst men mnw mrs mtb mrc mro mit mve mrb mnk ∧ bindp (f_MO_readTop msl mst men mnw mrs mtb mrc mro mit mve mrb mnk) (fun z_1 => ok_MO_readAll_7  1024 z_1.1 (0 : Int32) msl mst men mnw mrs z_1.2.1 z_1.2.2.1 mro mit mve mrb mic mlb mrw mnb mlk z_1.2.2.2)
set_option maxHeartbeats 4000000 in
set_option maxRecDepth 100000 in
theorem c_MO_readAll {l : Launch} {G : GG} {ad : Nat → Nat} {sz : Nat} {mrf : Int32} {msl : Int32} {mst : Int32} {men : Int32} {mnw : Int32} {mdn : Int32} {mpw : Int32} {mwr : Int32} {mrs : Int32} {mdr : Int32} {mtb : Int32} {mrc : Int32} {mnx : Int32} {mro : (Nat → Int32)} {mit : (Nat → Int32)} {mve : (Nat → Int32)} {mrb : (Nat → Int32)} {mch : (Nat → Int32)} {mva : (Nat → Int32)} {mic : (Nat → Int32)} {mlb : (Nat → Int32)} {mrw : (Nat → Int32)} {mnb : (Nat → Int32)} {mlk : (Nat → Int32)} {mnk : (Nat → Int32)} {mmd : (Nat → Int32)}  (hok : ok_MO_readAll msl mst men mnw mrs mtb mrc mro mit mve mrb mic mlb mrw mnb mlk mnk) : CtI l y_MO_readAll b_MO_readAll 3 (some .boolean) rm_MO_readAll G (cM G ad mrf msl mst men mnw mdn mpw mwr mrs mdr mtb mrc mnx mro mit mve mrb mch mva mic mlb mrw mnb mlk mnk mmd) sz [.ref (ad 0)] (eqP (f_MO_readAll msl mst men mnw mrs mtb mrc mro mit mve mrb mic mlb mrw mnb mlk mnk)) (fun u : Int32 × Int32 × (Nat → Int32) × (Nat → Int32) × (Nat → Int32) × (Nat → Int32) × (Nat → Int32) => (cM G ad mrf msl mst men mnw mdn mpw mwr mrs mdr u.1 u.2.1 mnx mro mit mve mrb mch mva mic u.2.2.1 u.2.2.2.1 u.2.2.2.2.1 u.2.2.2.2.2.1 u.2.2.2.2.2.2 mmd)) := by
  generalize hres : f_MO_readAll msl mst men mnw mrs mtb mrc mro mit mve mrb mic mlb mrw mnb mlk mnk = res
  refine Met_of (Qc := fun A => va_Qi (eqP res) (Wb G A (fun u : Int32 × Int32 × (Nat → Int32) × (Nat → Int32) × (Nat → Int32) × (Nat → Int32) × (Nat → Int32) => (cM G ad mrf msl mst men mnw mdn mpw mwr mrs mdr u.1 u.2.1 mnx mro mit mve mrb mch mva mic u.2.2.1 u.2.2.2.1 u.2.2.2.2.1 u.2.2.2.2.2.1 u.2.2.2.2.2.2 mmd))) A) (by decide) (Nat.le_of_ble_eq_true rfl) ?_
  intro p e s m below meth c hadm hx hb hr hml hown hlocks ht hK A hA hP hD hS ls hl
  have hC : Cx p l e s m (([.ref (ad 0)] : List Value)).toArray meth c y_MO_readAll b_MO_readAll 3 (some .boolean) "BookTreesModel" G A := ⟨hx, hb, hr, hml, hown, hlocks, ht, hK, hA⟩
  have hown : s.vm.findClass "BookTreesModel" = some m.cls := hown
  have hl : lv_has ls 3 [(0, .ref (ad 0))] := hl
  rw [f_MO_readAll] at hres
  rw [ok_MO_readAll] at hok
  refine lv_aload_n hx hb d_MO_readAll_0 rfl (lv_at hl 0 rfl) ?_
  obtain ⟨hk_1, hok⟩ := hok
  refine go_iz (run_V hx hb hml hown ht hK hP hD (c_MO_readTop hk_1) (cw_V ht km_MO_169 ki_MO_readTop ks_MO_readTop ini_MO kd_MO_readTop kh_MO_readTop ⟨Nat.le_of_ble_eq_true rfl, Nat.le_of_ble_eq_true rfl⟩ rfl rfl) (q0 := 0) (ci := 6) (As := []) (rest := []) rfl rfl rfl hl.1 rfl (Nat.le_of_ble_eq_true rfl) d_MO_readAll_1 ⟨Nat.zero_le _, Nat.zero_le _⟩) hD hS hA (fun z_1 H locs hz_1 hP hD hS => ?_)
  have hres := bindc_eq hz_1 hres
  have hok := bindp_eq hz_1 hok
  have hP : va_P G.1 classes (cM G ad mrf msl mst men mnw mdn mpw mwr mrs mdr z_1.2.1 z_1.2.2.1 mnx mro mit mve mrb mch mva mic mlb mrw mnb mlk z_1.2.2.2 mmd) H := hP
  have hD : va_D A (cM G ad mrf msl mst men mnw mdn mpw mwr mrs mdr z_1.2.1 z_1.2.2.1 mnx mro mit mve mrb mch mva mic mlb mrw mnb mlk z_1.2.2.2 mmd) := hD
  refine lv_istore_n (lv' := [(1, .int z_1.1), (0, .ref (ad 0))]) hx hb d_MO_readAll_4 rfl hl (by decide) rfl (fun ls hl => ?_)
  refine lv_iconst (v := (0 : Int32)) hx hb d_MO_readAll_5 (by decide) ?_
  refine lv_istore_n (lv' := [(2, .int (0 : Int32)), (1, .int z_1.1), (0, .ref (ad 0))]) hx hb d_MO_readAll_6 rfl hl (by decide) rfl (fun ls hl => ?_)
  exact w_MO_readAll_7 hC 1024 z_1.1 (0 : Int32) z_1.2.1 z_1.2.2.1 mlb mrw mnb mlk z_1.2.2.2 _ _ _ hok hres hP hD hS (lv_sub hl [2, 1, 0] rfl)
/-! ===== BookTreesModel.applyDraft()V ===== -/
abbrev rm_MO_applyDraft : Room := { frames := 0, cells := 0, slots := 0, locals := 0 }
def f_MO_applyDraft_2 : Nat → Int32 → Int32 → (Nat → Int32) → (Nat → Int32) → (Nat → Int32) → (Nat → Int32) → Int32 × (Nat → Int32) × (Nat → Int32)
  | 0, x1, mrc, mch, mva, mlb, mrw => (mrc, mlb, mrw)
  | n + 1, x1, mrc, mch, mva, mlb, mrw => if (512 : Int32) ≤ x1 then (mrc, mlb, mrw) else if ((mlb (x1 / (8 : Int32)).toNatClampNeg) &&& ((1 : Int32) <<< ((x1 - x1 / (8 : Int32) * (8 : Int32)) &&& 31))) = 0 then (if (mch x1.toNatClampNeg) = (1 : Int32) then (if (0 : Int32) = 0 then f_MO_applyDraft_2 n (x1 + (1 : Int32)) (mrc + (1 : Int32)) mch mva (upd mlb (x1 / (8 : Int32)).toNatClampNeg ((mlb (x1 / (8 : Int32)).toNatClampNeg) ||| ((1 : Int32) <<< ((x1 - x1 / (8 : Int32) * (8 : Int32)) &&& 31)))) (upd mrw x1.toNatClampNeg (mva x1.toNatClampNeg)) else f_MO_applyDraft_2 n (x1 + (1 : Int32)) mrc mch mva (upd mlb (x1 / (8 : Int32)).toNatClampNeg ((mlb (x1 / (8 : Int32)).toNatClampNeg) ||| ((1 : Int32) <<< ((x1 - x1 / (8 : Int32) * (8 : Int32)) &&& 31)))) (upd mrw x1.toNatClampNeg (mva x1.toNatClampNeg))) else if (mch x1.toNatClampNeg) = (2 : Int32) then (if (0 : Int32) = 0 then f_MO_applyDraft_2 n (x1 + (1 : Int32)) mrc mch mva (upd mlb (x1 / (8 : Int32)).toNatClampNeg ((mlb (x1 / (8 : Int32)).toNatClampNeg) &&& (((1 : Int32) <<< ((x1 - x1 / (8 : Int32) * (8 : Int32)) &&& 31)) ^^^ (-1 : Int32)))) (upd mrw x1.toNatClampNeg (0 : Int32)) else f_MO_applyDraft_2 n (x1 + (1 : Int32)) (mrc - (1 : Int32)) mch mva (upd mlb (x1 / (8 : Int32)).toNatClampNeg ((mlb (x1 / (8 : Int32)).toNatClampNeg) &&& (((1 : Int32) <<< ((x1 - x1 / (8 : Int32) * (8 : Int32)) &&& 31)) ^^^ (-1 : Int32)))) (upd mrw x1.toNatClampNeg (0 : Int32))) else f_MO_applyDraft_2 n (x1 + (1 : Int32)) mrc mch mva mlb mrw) else if (mch x1.toNatClampNeg) = (1 : Int32) then (if (1 : Int32) = 0 then f_MO_applyDraft_2 n (x1 + (1 : Int32)) (mrc + (1 : Int32)) mch mva (upd mlb (x1 / (8 : Int32)).toNatClampNeg ((mlb (x1 / (8 : Int32)).toNatClampNeg) ||| ((1 : Int32) <<< ((x1 - x1 / (8 : Int32) * (8 : Int32)) &&& 31)))) (upd mrw x1.toNatClampNeg (mva x1.toNatClampNeg)) else f_MO_applyDraft_2 n (x1 + (1 : Int32)) mrc mch mva (upd mlb (x1 / (8 : Int32)).toNatClampNeg ((mlb (x1 / (8 : Int32)).toNatClampNeg) ||| ((1 : Int32) <<< ((x1 - x1 / (8 : Int32) * (8 : Int32)) &&& 31)))) (upd mrw x1.toNatClampNeg (mva x1.toNatClampNeg))) else if (mch x1.toNatClampNeg) = (2 : Int32) then (if (1 : Int32) = 0 then f_MO_applyDraft_2 n (x1 + (1 : Int32)) mrc mch mva (upd mlb (x1 / (8 : Int32)).toNatClampNeg ((mlb (x1 / (8 : Int32)).toNatClampNeg) &&& (((1 : Int32) <<< ((x1 - x1 / (8 : Int32) * (8 : Int32)) &&& 31)) ^^^ (-1 : Int32)))) (upd mrw x1.toNatClampNeg (0 : Int32)) else f_MO_applyDraft_2 n (x1 + (1 : Int32)) (mrc - (1 : Int32)) mch mva (upd mlb (x1 / (8 : Int32)).toNatClampNeg ((mlb (x1 / (8 : Int32)).toNatClampNeg) &&& (((1 : Int32) <<< ((x1 - x1 / (8 : Int32) * (8 : Int32)) &&& 31)) ^^^ (-1 : Int32)))) (upd mrw x1.toNatClampNeg (0 : Int32))) else f_MO_applyDraft_2 n (x1 + (1 : Int32)) mrc mch mva mlb mrw
def ok_MO_applyDraft_2 : Nat → Int32 → Int32 → (Nat → Int32) → (Nat → Int32) → (Nat → Int32) → (Nat → Int32) → Prop
  | 0, _, _, _, _, _, _ => False
  | n + 1, x1, mrc, mch, mva, mlb, mrw => ((512 : Int32) ≤ x1 → True) ∧ (¬ (512 : Int32) ≤ x1 → vp_in (x1 / (8 : Int32)) 64 ∧ ((((mlb (x1 / (8 : Int32)).toNatClampNeg) &&& ((1 : Int32) <<< ((x1 - x1 / (8 : Int32) * (8 : Int32)) &&& 31))) = 0 → vp_in x1 512 ∧ (((mch x1.toNatClampNeg) = (1 : Int32) → ((0 : Int32) = 0 → vp_in (x1 / (8 : Int32)) 64 ∧ (vp_in (x1 / (8 : Int32)) 64 ∧ (vp_in x1 512 ∧ (vp_in x1 512 ∧ (ok_MO_applyDraft_2  n (x1 + (1 : Int32)) (mrc + (1 : Int32)) mch mva (upd mlb (x1 / (8 : Int32)).toNatClampNeg ((mlb (x1 / (8 : Int32)).toNatClampNeg) ||| ((1 : Int32) <<< ((x1 - x1 / (8 : Int32) * (8 : Int32)) &&& 31)))) (upd mrw x1.toNatClampNeg (mva x1.toNatClampNeg))))))) ∧ (¬ (0 : Int32) = 0 → vp_in (x1 / (8 : Int32)) 64 ∧ (vp_in (x1 / (8 : Int32)) 64 ∧ (vp_in x1 512 ∧ (vp_in x1 512 ∧ (ok_MO_applyDraft_2  n (x1 + (1 : Int32)) mrc mch mva (upd mlb (x1 / (8 : Int32)).toNatClampNeg ((mlb (x1 / (8 : Int32)).toNatClampNeg) ||| ((1 : Int32) <<< ((x1 - x1 / (8 : Int32) * (8 : Int32)) &&& 31)))) (upd mrw x1.toNatClampNeg (mva x1.toNatClampNeg)))))))) ∧ (¬ (mch x1.toNatClampNeg) = (1 : Int32) → vp_in x1 512 ∧ (((mch x1.toNatClampNeg) = (2 : Int32) → ((0 : Int32) = 0 → vp_in (x1 / (8 : Int32)) 64 ∧ (vp_in (x1 / (8 : Int32)) 64 ∧ (vp_in x1 512 ∧ (ok_MO_applyDraft_2  n (x1 + (1 : Int32)) mrc mch mva (upd mlb (x1 / (8 : Int32)).toNatClampNeg ((mlb (x1 / (8 : Int32)).toNatClampNeg) &&& (((1 : Int32) <<< ((x1 - x1 / (8 : Int32) * (8 : Int32)) &&& 31)) ^^^ (-1 : Int32)))) (upd mrw x1.toNatClampNeg (0 : Int32)))))) ∧ (¬ (0 : Int32) = 0 → vp_in (x1 / (8 : Int32)) 64 ∧ (vp_in (x1 / (8 : Int32)) 64 ∧ (vp_in x1 512 ∧ (ok_MO_applyDraft_2  n (x1 + (1 : Int32)) (mrc - (1 : Int32)) mch mva (upd mlb (x1 / (8 : Int32)).toNatClampNeg ((mlb (x1 / (8 : Int32)).toNatClampNeg) &&& (((1 : Int32) <<< ((x1 - x1 / (8 : Int32) * (8 : Int32)) &&& 31)) ^^^ (-1 : Int32)))) (upd mrw x1.toNatClampNeg (0 : Int32))))))) ∧ (¬ (mch x1.toNatClampNeg) = (2 : Int32) → ok_MO_applyDraft_2  n (x1 + (1 : Int32)) mrc mch mva mlb mrw))))) ∧ (¬ ((mlb (x1 / (8 : Int32)).toNatClampNeg) &&& ((1 : Int32) <<< ((x1 - x1 / (8 : Int32) * (8 : Int32)) &&& 31))) = 0 → vp_in x1 512 ∧ (((mch x1.toNatClampNeg) = (1 : Int32) → ((1 : Int32) = 0 → vp_in (x1 / (8 : Int32)) 64 ∧ (vp_in (x1 / (8 : Int32)) 64 ∧ (vp_in x1 512 ∧ (vp_in x1 512 ∧ (ok_MO_applyDraft_2  n (x1 + (1 : Int32)) (mrc + (1 : Int32)) mch mva (upd mlb (x1 / (8 : Int32)).toNatClampNeg ((mlb (x1 / (8 : Int32)).toNatClampNeg) ||| ((1 : Int32) <<< ((x1 - x1 / (8 : Int32) * (8 : Int32)) &&& 31)))) (upd mrw x1.toNatClampNeg (mva x1.toNatClampNeg))))))) ∧ (¬ (1 : Int32) = 0 → vp_in (x1 / (8 : Int32)) 64 ∧ (vp_in (x1 / (8 : Int32)) 64 ∧ (vp_in x1 512 ∧ (vp_in x1 512 ∧ (ok_MO_applyDraft_2  n (x1 + (1 : Int32)) mrc mch mva (upd mlb (x1 / (8 : Int32)).toNatClampNeg ((mlb (x1 / (8 : Int32)).toNatClampNeg) ||| ((1 : Int32) <<< ((x1 - x1 / (8 : Int32) * (8 : Int32)) &&& 31)))) (upd mrw x1.toNatClampNeg (mva x1.toNatClampNeg)))))))) ∧ (¬ (mch x1.toNatClampNeg) = (1 : Int32) → vp_in x1 512 ∧ (((mch x1.toNatClampNeg) = (2 : Int32) → ((1 : Int32) = 0 → vp_in (x1 / (8 : Int32)) 64 ∧ (vp_in (x1 / (8 : Int32)) 64 ∧ (vp_in x1 512 ∧ (ok_MO_applyDraft_2  n (x1 + (1 : Int32)) mrc mch mva (upd mlb (x1 / (8 : Int32)).toNatClampNeg ((mlb (x1 / (8 : Int32)).toNatClampNeg) &&& (((1 : Int32) <<< ((x1 - x1 / (8 : Int32) * (8 : Int32)) &&& 31)) ^^^ (-1 : Int32)))) (upd mrw x1.toNatClampNeg (0 : Int32)))))) ∧ (¬ (1 : Int32) = 0 → vp_in (x1 / (8 : Int32)) 64 ∧ (vp_in (x1 / (8 : Int32)) 64 ∧ (vp_in x1 512 ∧ (ok_MO_applyDraft_2  n (x1 + (1 : Int32)) (mrc - (1 : Int32)) mch mva (upd mlb (x1 / (8 : Int32)).toNatClampNeg ((mlb (x1 / (8 : Int32)).toNatClampNeg) &&& (((1 : Int32) <<< ((x1 - x1 / (8 : Int32) * (8 : Int32)) &&& 31)) ^^^ (-1 : Int32)))) (upd mrw x1.toNatClampNeg (0 : Int32))))))) ∧ (¬ (mch x1.toNatClampNeg) = (2 : Int32) → ok_MO_applyDraft_2  n (x1 + (1 : Int32)) mrc mch mva mlb mrw)))))))
set_option maxHeartbeats 4000000 in
set_option maxRecDepth 100000 in
theorem w_MO_applyDraft_2 {p : Program} {l : Launch} {e : Env} {s : State} {m : MethodId} {args : Array Value} {below : List Frame} {meth : Method} {c : Code} {A : Nat → Prop} {G : GG} {ad : Nat → Nat} {mrf : Int32} {msl : Int32} {mst : Int32} {men : Int32} {mnw : Int32} {mdn : Int32} {mpw : Int32} {mwr : Int32} {mrs : Int32} {mdr : Int32} {mtb : Int32} {mnx : Int32} {mro : (Nat → Int32)} {mit : (Nat → Int32)} {mve : (Nat → Int32)} {mrb : (Nat → Int32)} {mch : (Nat → Int32)} {mva : (Nat → Int32)} {mic : (Nat → Int32)} {mnb : (Nat → Int32)} {mlk : (Nat → Int32)} {mnk : (Nat → Int32)} {mmd : (Nat → Int32)} {res : Int32 × (Nat → Int32) × (Nat → Int32)} (hC : Cx p l e s m args meth c y_MO_applyDraft b_MO_applyDraft 5 none "BookTreesModel" G A) : ∀ (n : Nat) (x1 : Int32) (mrc : Int32) (mlb : (Nat → Int32)) (mrw : (Nat → Int32)) (H : Heap) (locs : List Loc) (ls : Array Slot), ok_MO_applyDraft_2 n x1 mrc mch mva mlb mrw → f_MO_applyDraft_2 n x1 mrc mch mva mlb mrw = res → va_P G.1 classes (cM G ad mrf msl mst men mnw mdn mpw mwr mrs mdr mtb mrc mnx mro mit mve mrb mch mva mic mlb mrw mnb mlk mnk mmd) H → va_D A (cM G ad mrf msl mst men mnw mdn mpw mwr mrs mdr mtb mrc mnx mro mit mve mrb mch mva mic mlb mrw mnb mlk mnk mmd) → va_S A s.heap H locs → lv_has ls 5 [(0, .ref (ad 0)), (1, .int x1)] → W p l e rm_MO_applyDraft s m args below meth c H locs 0 0 (MQ below (va_Qv (eqV res) (Wb G A (fun u : Int32 × (Nat → Int32) × (Nat → Int32) => (cM G ad mrf msl mst men mnw mdn mpw mwr mrs mdr mtb u.1 mnx mro mit mve mrb mch mva mic u.2.1 u.2.2 mnb mlk mnk mmd))) A) args s 0 0 A) (F0 m 2 ls []) := by
  obtain ⟨hx, hb, hr, hml, hown, hlocks, ht, hK, hA⟩ := id hC
  intro n
  induction n with
  | zero => intro x1 mrc mlb mrw H locs ls hok; exact hok.elim
  | succ n ih =>
    intro x1 mrc mlb mrw H locs ls hok hres hP hD hS hl
    rw [f_MO_applyDraft_2] at hres
    rw [ok_MO_applyDraft_2] at hok
    refine lv_iload_n hx hb d_MO_applyDraft_2 rfl (lv_at hl 1 rfl) ?_
    refine lv_sipush (v := (512 : Int32)) hx hb d_MO_applyDraft_3 (by decide) ?_
    refine lv_icmp_ge (tgt := 161) hx hb d_MO_applyDraft_6 (by decide) (fun c_6 => ?_) (fun c_6 => ?_)
    · have hres := it_t c_6 hres
      exact en_v (w1 := (fun u : Int32 × (Nat → Int32) × (Nat → Int32) => (cM G ad mrf msl mst men mnw mdn mpw mwr mrs mdr mtb u.1 mnx mro mit mve mrb mch mva mic u.2.1 u.2.2 mnb mlk mnk mmd))) (mrc, mlb, mrw) hx hb hr hlocks hK hP hD hS hres d_MO_applyDraft_161
    · have hres := it_f c_6 hres
      have hok := hok.2 c_6
      refine lv_iload_n hx hb d_MO_applyDraft_9 rfl (lv_at hl 1 rfl) ?_
      refine lv_bipush (v := (8 : Int32)) hx hb d_MO_applyDraft_10 (by decide) ?_
      refine lv_idiv hx hb d_MO_applyDraft_12 (by decide) ?_
      refine lv_istore_n (lv' := [(2, .int (x1 / (8 : Int32))), (0, .ref (ad 0)), (1, .int x1)]) hx hb d_MO_applyDraft_13 rfl hl (by decide) rfl (fun ls hl => ?_)
      refine lv_iconst (v := (1 : Int32)) hx hb d_MO_applyDraft_14 (by decide) ?_
      refine lv_iload_n hx hb d_MO_applyDraft_15 rfl (lv_at hl 2 rfl) ?_
      refine lv_bipush (v := (8 : Int32)) hx hb d_MO_applyDraft_16 (by decide) ?_
      refine lv_irem hx hb d_MO_applyDraft_18 (by decide) ?_
      refine lv_ishl hx hb d_MO_applyDraft_19 ?_
      refine lv_istore_n (lv' := [(3, .int ((1 : Int32) <<< ((x1 - x1 / (8 : Int32) * (8 : Int32)) &&& 31))), (2, .int (x1 / (8 : Int32))), (0, .ref (ad 0)), (1, .int x1)]) hx hb d_MO_applyDraft_20 rfl hl (by decide) rfl (fun ls hl => ?_)
      refine lv_aload_n hx hb d_MO_applyDraft_21 rfl (lv_at hl 2 rfl) ?_
      refine va_get (D := G.1) (ci := 6) (C := R_MO) (T := F_MO) (N := 26) hx hb ht in_MO hown hK hP 0 rfl rfl 17 (by decide) (ht _ kf_MO_36) (fun _ h9 => h9) rfl d_MO_applyDraft_22 ?_
      refine lv_iload_n hx hb d_MO_applyDraft_25 rfl (lv_at hl 1 rfl) ?_
      obtain ⟨hi_26, hok⟩ := hok
      refine va_iald hx hb hK hP 8 0 rfl rfl hi_26 d_MO_applyDraft_26 ?_
      refine lv_iload_n hx hb d_MO_applyDraft_27 rfl (lv_at hl 0 rfl) ?_
      refine lv_iand hx hb d_MO_applyDraft_28 ?_
      refine lv_if_eq (tgt := 36) hx hb d_MO_applyDraft_29 (by decide) (fun c_29 => ?_) (fun c_29 => ?_)
      · have hres := it_t c_29 hres
        have hok := hok.1 c_29
        refine lv_iconst (v := (0 : Int32)) hx hb d_MO_applyDraft_36 (by decide) ?_
        refine lv_istore (lv' := [(4, .int (0 : Int32)), (3, .int ((1 : Int32) <<< ((x1 - x1 / (8 : Int32) * (8 : Int32)) &&& 31))), (2, .int (x1 / (8 : Int32))), (0, .ref (ad 0)), (1, .int x1)]) hx hb d_MO_applyDraft_37 hl (by decide) rfl (fun ls hl => ?_)
        refine lv_aload_n hx hb d_MO_applyDraft_39 rfl (lv_at hl 3 rfl) ?_
        refine va_get (D := G.1) (ci := 6) (C := R_MO) (T := F_MO) (N := 26) hx hb ht in_MO hown hK hP 0 rfl rfl 14 (by decide) (ht _ kf_MO_27) (fun _ h9 => h9) rfl d_MO_applyDraft_40 ?_
        refine lv_iload_n hx hb d_MO_applyDraft_43 rfl (lv_at hl 4 rfl) ?_
        obtain ⟨hi_44, hok⟩ := hok
        refine va_iald hx hb hK hP 5 0 rfl rfl hi_44 d_MO_applyDraft_44 ?_
        refine lv_iconst (v := (1 : Int32)) hx hb d_MO_applyDraft_45 (by decide) ?_
        refine lv_icmp_ne (tgt := 100) hx hb d_MO_applyDraft_46 (by decide) (fun c_46 => ?_) (fun c_46 => ?_)
        · have hres := it_f c_46 hres
          have hok := hok.2 c_46
          refine lv_aload_n hx hb d_MO_applyDraft_100 rfl (lv_at hl 3 rfl) ?_
          refine va_get (D := G.1) (ci := 6) (C := R_MO) (T := F_MO) (N := 26) hx hb ht in_MO hown hK hP 0 rfl rfl 14 (by decide) (ht _ kf_MO_27) (fun _ h9 => h9) rfl d_MO_applyDraft_101 ?_
          refine lv_iload_n hx hb d_MO_applyDraft_104 rfl (lv_at hl 4 rfl) ?_
          obtain ⟨hi_105, hok⟩ := hok
          refine va_iald hx hb hK hP 5 0 rfl rfl hi_105 d_MO_applyDraft_105 ?_
          refine lv_iconst (v := (2 : Int32)) hx hb d_MO_applyDraft_106 (by decide) ?_
          refine lv_icmp_ne (tgt := 155) hx hb d_MO_applyDraft_107 (by decide) (fun c_107 => ?_) (fun c_107 => ?_)
          · have hres := it_f c_107 hres
            have hok := hok.2 c_107
            refine lv_iinc (v := x1 + (1 : Int32)) (lv' := [(1, .int (x1 + (1 : Int32))), (4, .int (0 : Int32)), (3, .int ((1 : Int32) <<< ((x1 - x1 / (8 : Int32) * (8 : Int32)) &&& 31))), (2, .int (x1 / (8 : Int32))), (0, .ref (ad 0))]) hx hb d_MO_applyDraft_155 hl (k := 4) rfl rfl (by decide) rfl (fun ls hl => ?_)
            refine lv_goto (tgt := 2) hx hb d_MO_applyDraft_158 (by decide) ?_
            exact ih (x1 + (1 : Int32)) mrc mlb mrw _ _ _ hok hres hP hD hS (lv_sub hl [4, 0] rfl)
          · have hres := it_t c_107 hres
            have hok := hok.1 c_107
            refine lv_aload_n hx hb d_MO_applyDraft_110 rfl (lv_at hl 3 rfl) ?_
            refine lv_iload hx hb d_MO_applyDraft_111 (lv_at hl 0 rfl) ?_
            refine lv_if_eq (tgt := 125) hx hb d_MO_applyDraft_113 (by decide) (fun c_113 => ?_) (fun c_113 => ?_)
            · have hres := it_t c_113 hres
              have hok := hok.1 c_113
              refine lv_aload_n hx hb d_MO_applyDraft_125 rfl (lv_at hl 3 rfl) ?_
              refine va_get (D := G.1) (ci := 6) (C := R_MO) (T := F_MO) (N := 26) hx hb ht in_MO hown hK hP 0 rfl rfl 23 (by decide) (ht _ kf_MO_166) (fun _ h9 => h9) rfl d_MO_applyDraft_126 ?_
              refine va_put (D := G.1) (ci := 6) (v := .int mrc) (ty := .int) (C := R_MO) (T := F_MO) (N := 26) hx hb ht in_MO t_MO to_MO nm_MO hown hK hP hD hS 0 rfl rfl 23 (by decide) (ht _ kf_MO_166) (fun _ h9 => h9) rfl (to_MO 23 (by decide)) rfl rfl (Nat.le_of_ble_eq_true rfl) d_MO_applyDraft_129 (fun H locs hP hD hS => ?_)
              have hP : va_P G.1 classes (cM G ad mrf msl mst men mnw mdn mpw mwr mrs mdr mtb mrc mnx mro mit mve mrb mch mva mic mlb mrw mnb mlk mnk mmd) H := hP
              have hD : va_D A (cM G ad mrf msl mst men mnw mdn mpw mwr mrs mdr mtb mrc mnx mro mit mve mrb mch mva mic mlb mrw mnb mlk mnk mmd) := hD
              refine lv_aload_n hx hb d_MO_applyDraft_132 rfl (lv_at hl 3 rfl) ?_
              refine va_get (D := G.1) (ci := 6) (C := R_MO) (T := F_MO) (N := 26) hx hb ht in_MO hown hK hP 0 rfl rfl 17 (by decide) (ht _ kf_MO_36) (fun _ h9 => h9) rfl d_MO_applyDraft_133 ?_
              refine lv_iload_n hx hb d_MO_applyDraft_136 rfl (lv_at hl 2 rfl) ?_
              refine lv_aload_n hx hb d_MO_applyDraft_137 rfl (lv_at hl 3 rfl) ?_
              refine va_get (D := G.1) (ci := 6) (C := R_MO) (T := F_MO) (N := 26) hx hb ht in_MO hown hK hP 0 rfl rfl 17 (by decide) (ht _ kf_MO_36) (fun _ h9 => h9) rfl d_MO_applyDraft_138 ?_
              refine lv_iload_n hx hb d_MO_applyDraft_141 rfl (lv_at hl 2 rfl) ?_
              obtain ⟨hi_142, hok⟩ := hok
              refine va_iald hx hb hK hP 8 0 rfl rfl hi_142 d_MO_applyDraft_142 ?_
              refine lv_iload_n hx hb d_MO_applyDraft_143 rfl (lv_at hl 1 rfl) ?_
              refine lv_iconst (v := (-1 : Int32)) hx hb d_MO_applyDraft_144 (by decide) ?_
              refine lv_ixor hx hb d_MO_applyDraft_145 ?_
              refine lv_iand hx hb d_MO_applyDraft_146 ?_
              obtain ⟨hi_147, hok⟩ := hok
              refine va_iast hx hb hK hP hD hS 8 0 rfl rfl hi_147 d_MO_applyDraft_147 (fun H locs hP hD hS => ?_)
              have hP : va_P G.1 classes (cM G ad mrf msl mst men mnw mdn mpw mwr mrs mdr mtb mrc mnx mro mit mve mrb mch mva mic (upd mlb (x1 / (8 : Int32)).toNatClampNeg ((mlb (x1 / (8 : Int32)).toNatClampNeg) &&& (((1 : Int32) <<< ((x1 - x1 / (8 : Int32) * (8 : Int32)) &&& 31)) ^^^ (-1 : Int32)))) mrw mnb mlk mnk mmd) H := hP
              have hD : va_D A (cM G ad mrf msl mst men mnw mdn mpw mwr mrs mdr mtb mrc mnx mro mit mve mrb mch mva mic (upd mlb (x1 / (8 : Int32)).toNatClampNeg ((mlb (x1 / (8 : Int32)).toNatClampNeg) &&& (((1 : Int32) <<< ((x1 - x1 / (8 : Int32) * (8 : Int32)) &&& 31)) ^^^ (-1 : Int32)))) mrw mnb mlk mnk mmd) := hD
              refine lv_aload_n hx hb d_MO_applyDraft_148 rfl (lv_at hl 3 rfl) ?_
              refine va_get (D := G.1) (ci := 6) (C := R_MO) (T := F_MO) (N := 26) hx hb ht in_MO hown hK hP 0 rfl rfl 18 (by decide) (ht _ kf_MO_39) (fun _ h9 => h9) rfl d_MO_applyDraft_149 ?_
              refine lv_iload_n hx hb d_MO_applyDraft_152 rfl (lv_at hl 4 rfl) ?_
              refine lv_iconst (v := (0 : Int32)) hx hb d_MO_applyDraft_153 (by decide) ?_
              obtain ⟨hi_154, hok⟩ := hok
              refine va_iast hx hb hK hP hD hS 9 0 rfl rfl hi_154 d_MO_applyDraft_154 (fun H locs hP hD hS => ?_)
              have hP : va_P G.1 classes (cM G ad mrf msl mst men mnw mdn mpw mwr mrs mdr mtb mrc mnx mro mit mve mrb mch mva mic (upd mlb (x1 / (8 : Int32)).toNatClampNeg ((mlb (x1 / (8 : Int32)).toNatClampNeg) &&& (((1 : Int32) <<< ((x1 - x1 / (8 : Int32) * (8 : Int32)) &&& 31)) ^^^ (-1 : Int32)))) (upd mrw x1.toNatClampNeg (0 : Int32)) mnb mlk mnk mmd) H := hP
              have hD : va_D A (cM G ad mrf msl mst men mnw mdn mpw mwr mrs mdr mtb mrc mnx mro mit mve mrb mch mva mic (upd mlb (x1 / (8 : Int32)).toNatClampNeg ((mlb (x1 / (8 : Int32)).toNatClampNeg) &&& (((1 : Int32) <<< ((x1 - x1 / (8 : Int32) * (8 : Int32)) &&& 31)) ^^^ (-1 : Int32)))) (upd mrw x1.toNatClampNeg (0 : Int32)) mnb mlk mnk mmd) := hD
              refine lv_iinc (v := x1 + (1 : Int32)) (lv' := [(1, .int (x1 + (1 : Int32))), (4, .int (0 : Int32)), (3, .int ((1 : Int32) <<< ((x1 - x1 / (8 : Int32) * (8 : Int32)) &&& 31))), (2, .int (x1 / (8 : Int32))), (0, .ref (ad 0))]) hx hb d_MO_applyDraft_155 hl (k := 4) rfl rfl (by decide) rfl (fun ls hl => ?_)
              refine lv_goto (tgt := 2) hx hb d_MO_applyDraft_158 (by decide) ?_
              exact ih (x1 + (1 : Int32)) mrc (upd mlb (x1 / (8 : Int32)).toNatClampNeg ((mlb (x1 / (8 : Int32)).toNatClampNeg) &&& (((1 : Int32) <<< ((x1 - x1 / (8 : Int32) * (8 : Int32)) &&& 31)) ^^^ (-1 : Int32)))) (upd mrw x1.toNatClampNeg (0 : Int32)) _ _ _ hok hres hP hD hS (lv_sub hl [4, 0] rfl)
            · have hres := it_f c_113 hres
              have hok := hok.2 c_113
              refine lv_aload_n hx hb d_MO_applyDraft_116 rfl (lv_at hl 3 rfl) ?_
              refine va_get (D := G.1) (ci := 6) (C := R_MO) (T := F_MO) (N := 26) hx hb ht in_MO hown hK hP 0 rfl rfl 23 (by decide) (ht _ kf_MO_166) (fun _ h9 => h9) rfl d_MO_applyDraft_117 ?_
              refine lv_iconst (v := (1 : Int32)) hx hb d_MO_applyDraft_120 (by decide) ?_
              refine lv_isub hx hb d_MO_applyDraft_121 ?_
              refine lv_goto (tgt := 129) hx hb d_MO_applyDraft_122 (by decide) ?_
              refine va_put (D := G.1) (ci := 6) (v := .int (mrc - (1 : Int32))) (ty := .int) (C := R_MO) (T := F_MO) (N := 26) hx hb ht in_MO t_MO to_MO nm_MO hown hK hP hD hS 0 rfl rfl 23 (by decide) (ht _ kf_MO_166) (fun _ h9 => h9) rfl (to_MO 23 (by decide)) rfl rfl (Nat.le_of_ble_eq_true rfl) d_MO_applyDraft_129 (fun H locs hP hD hS => ?_)
              have hP : va_P G.1 classes (cM G ad mrf msl mst men mnw mdn mpw mwr mrs mdr mtb (mrc - (1 : Int32)) mnx mro mit mve mrb mch mva mic mlb mrw mnb mlk mnk mmd) H := hP
              have hD : va_D A (cM G ad mrf msl mst men mnw mdn mpw mwr mrs mdr mtb (mrc - (1 : Int32)) mnx mro mit mve mrb mch mva mic mlb mrw mnb mlk mnk mmd) := hD
              refine lv_aload_n hx hb d_MO_applyDraft_132 rfl (lv_at hl 3 rfl) ?_
              refine va_get (D := G.1) (ci := 6) (C := R_MO) (T := F_MO) (N := 26) hx hb ht in_MO hown hK hP 0 rfl rfl 17 (by decide) (ht _ kf_MO_36) (fun _ h9 => h9) rfl d_MO_applyDraft_133 ?_
              refine lv_iload_n hx hb d_MO_applyDraft_136 rfl (lv_at hl 2 rfl) ?_
              refine lv_aload_n hx hb d_MO_applyDraft_137 rfl (lv_at hl 3 rfl) ?_
              refine va_get (D := G.1) (ci := 6) (C := R_MO) (T := F_MO) (N := 26) hx hb ht in_MO hown hK hP 0 rfl rfl 17 (by decide) (ht _ kf_MO_36) (fun _ h9 => h9) rfl d_MO_applyDraft_138 ?_
              refine lv_iload_n hx hb d_MO_applyDraft_141 rfl (lv_at hl 2 rfl) ?_
              obtain ⟨hi_142, hok⟩ := hok
              refine va_iald hx hb hK hP 8 0 rfl rfl hi_142 d_MO_applyDraft_142 ?_
              refine lv_iload_n hx hb d_MO_applyDraft_143 rfl (lv_at hl 1 rfl) ?_
              refine lv_iconst (v := (-1 : Int32)) hx hb d_MO_applyDraft_144 (by decide) ?_
              refine lv_ixor hx hb d_MO_applyDraft_145 ?_
              refine lv_iand hx hb d_MO_applyDraft_146 ?_
              obtain ⟨hi_147, hok⟩ := hok
              refine va_iast hx hb hK hP hD hS 8 0 rfl rfl hi_147 d_MO_applyDraft_147 (fun H locs hP hD hS => ?_)
              have hP : va_P G.1 classes (cM G ad mrf msl mst men mnw mdn mpw mwr mrs mdr mtb (mrc - (1 : Int32)) mnx mro mit mve mrb mch mva mic (upd mlb (x1 / (8 : Int32)).toNatClampNeg ((mlb (x1 / (8 : Int32)).toNatClampNeg) &&& (((1 : Int32) <<< ((x1 - x1 / (8 : Int32) * (8 : Int32)) &&& 31)) ^^^ (-1 : Int32)))) mrw mnb mlk mnk mmd) H := hP
              have hD : va_D A (cM G ad mrf msl mst men mnw mdn mpw mwr mrs mdr mtb (mrc - (1 : Int32)) mnx mro mit mve mrb mch mva mic (upd mlb (x1 / (8 : Int32)).toNatClampNeg ((mlb (x1 / (8 : Int32)).toNatClampNeg) &&& (((1 : Int32) <<< ((x1 - x1 / (8 : Int32) * (8 : Int32)) &&& 31)) ^^^ (-1 : Int32)))) mrw mnb mlk mnk mmd) := hD
              refine lv_aload_n hx hb d_MO_applyDraft_148 rfl (lv_at hl 3 rfl) ?_
              refine va_get (D := G.1) (ci := 6) (C := R_MO) (T := F_MO) (N := 26) hx hb ht in_MO hown hK hP 0 rfl rfl 18 (by decide) (ht _ kf_MO_39) (fun _ h9 => h9) rfl d_MO_applyDraft_149 ?_
              refine lv_iload_n hx hb d_MO_applyDraft_152 rfl (lv_at hl 4 rfl) ?_
              refine lv_iconst (v := (0 : Int32)) hx hb d_MO_applyDraft_153 (by decide) ?_
              obtain ⟨hi_154, hok⟩ := hok
              refine va_iast hx hb hK hP hD hS 9 0 rfl rfl hi_154 d_MO_applyDraft_154 (fun H locs hP hD hS => ?_)
              have hP : va_P G.1 classes (cM G ad mrf msl mst men mnw mdn mpw mwr mrs mdr mtb (mrc - (1 : Int32)) mnx mro mit mve mrb mch mva mic (upd mlb (x1 / (8 : Int32)).toNatClampNeg ((mlb (x1 / (8 : Int32)).toNatClampNeg) &&& (((1 : Int32) <<< ((x1 - x1 / (8 : Int32) * (8 : Int32)) &&& 31)) ^^^ (-1 : Int32)))) (upd mrw x1.toNatClampNeg (0 : Int32)) mnb mlk mnk mmd) H := hP
              have hD : va_D A (cM G ad mrf msl mst men mnw mdn mpw mwr mrs mdr mtb (mrc - (1 : Int32)) mnx mro mit mve mrb mch mva mic (upd mlb (x1 / (8 : Int32)).toNatClampNeg ((mlb (x1 / (8 : Int32)).toNatClampNeg) &&& (((1 : Int32) <<< ((x1 - x1 / (8 : Int32) * (8 : Int32)) &&& 31)) ^^^ (-1 : Int32)))) (upd mrw x1.toNatClampNeg (0 : Int32)) mnb mlk mnk mmd) := hD
              refine lv_iinc (v := x1 + (1 : Int32)) (lv' := [(1, .int (x1 + (1 : Int32))), (4, .int (0 : Int32)), (3, .int ((1 : Int32) <<< ((x1 - x1 / (8 : Int32) * (8 : Int32)) &&& 31))), (2, .int (x1 / (8 : Int32))), (0, .ref (ad 0))]) hx hb d_MO_applyDraft_155 hl (k := 4) rfl rfl (by decide) rfl (fun ls hl => ?_)
              refine lv_goto (tgt := 2) hx hb d_MO_applyDraft_158 (by decide) ?_
              exact ih (x1 + (1 : Int32)) (mrc - (1 : Int32)) (upd mlb (x1 / (8 : Int32)).toNatClampNeg ((mlb (x1 / (8 : Int32)).toNatClampNeg) &&& (((1 : Int32) <<< ((x1 - x1 / (8 : Int32) * (8 : Int32)) &&& 31)) ^^^ (-1 : Int32)))) (upd mrw x1.toNatClampNeg (0 : Int32)) _ _ _ hok hres hP hD hS (lv_sub hl [4, 0] rfl)
        · have hres := it_t c_46 hres
          have hok := hok.1 c_46
          refine lv_aload_n hx hb d_MO_applyDraft_49 rfl (lv_at hl 3 rfl) ?_
          refine lv_iload hx hb d_MO_applyDraft_50 (lv_at hl 0 rfl) ?_
          refine lv_if_eq (tgt := 62) hx hb d_MO_applyDraft_52 (by decide) (fun c_52 => ?_) (fun c_52 => ?_)
          · have hres := it_t c_52 hres
            have hok := hok.1 c_52
            refine lv_aload_n hx hb d_MO_applyDraft_62 rfl (lv_at hl 3 rfl) ?_
            refine va_get (D := G.1) (ci := 6) (C := R_MO) (T := F_MO) (N := 26) hx hb ht in_MO hown hK hP 0 rfl rfl 23 (by decide) (ht _ kf_MO_166) (fun _ h9 => h9) rfl d_MO_applyDraft_63 ?_
            refine lv_iconst (v := (1 : Int32)) hx hb d_MO_applyDraft_66 (by decide) ?_
            refine lv_iadd hx hb d_MO_applyDraft_67 ?_
            refine va_put (D := G.1) (ci := 6) (v := .int (mrc + (1 : Int32))) (ty := .int) (C := R_MO) (T := F_MO) (N := 26) hx hb ht in_MO t_MO to_MO nm_MO hown hK hP hD hS 0 rfl rfl 23 (by decide) (ht _ kf_MO_166) (fun _ h9 => h9) rfl (to_MO 23 (by decide)) rfl rfl (Nat.le_of_ble_eq_true rfl) d_MO_applyDraft_68 (fun H locs hP hD hS => ?_)
            have hP : va_P G.1 classes (cM G ad mrf msl mst men mnw mdn mpw mwr mrs mdr mtb (mrc + (1 : Int32)) mnx mro mit mve mrb mch mva mic mlb mrw mnb mlk mnk mmd) H := hP
            have hD : va_D A (cM G ad mrf msl mst men mnw mdn mpw mwr mrs mdr mtb (mrc + (1 : Int32)) mnx mro mit mve mrb mch mva mic mlb mrw mnb mlk mnk mmd) := hD
            refine lv_aload_n hx hb d_MO_applyDraft_71 rfl (lv_at hl 3 rfl) ?_
            refine va_get (D := G.1) (ci := 6) (C := R_MO) (T := F_MO) (N := 26) hx hb ht in_MO hown hK hP 0 rfl rfl 17 (by decide) (ht _ kf_MO_36) (fun _ h9 => h9) rfl d_MO_applyDraft_72 ?_
            refine lv_iload_n hx hb d_MO_applyDraft_75 rfl (lv_at hl 2 rfl) ?_
            refine lv_aload_n hx hb d_MO_applyDraft_76 rfl (lv_at hl 3 rfl) ?_
            refine va_get (D := G.1) (ci := 6) (C := R_MO) (T := F_MO) (N := 26) hx hb ht in_MO hown hK hP 0 rfl rfl 17 (by decide) (ht _ kf_MO_36) (fun _ h9 => h9) rfl d_MO_applyDraft_77 ?_
            refine lv_iload_n hx hb d_MO_applyDraft_80 rfl (lv_at hl 2 rfl) ?_
            obtain ⟨hi_81, hok⟩ := hok
            refine va_iald hx hb hK hP 8 0 rfl rfl hi_81 d_MO_applyDraft_81 ?_
            refine lv_iload_n hx hb d_MO_applyDraft_82 rfl (lv_at hl 1 rfl) ?_
            refine lv_ior hx hb d_MO_applyDraft_83 ?_
            obtain ⟨hi_84, hok⟩ := hok
            refine va_iast hx hb hK hP hD hS 8 0 rfl rfl hi_84 d_MO_applyDraft_84 (fun H locs hP hD hS => ?_)
            have hP : va_P G.1 classes (cM G ad mrf msl mst men mnw mdn mpw mwr mrs mdr mtb (mrc + (1 : Int32)) mnx mro mit mve mrb mch mva mic (upd mlb (x1 / (8 : Int32)).toNatClampNeg ((mlb (x1 / (8 : Int32)).toNatClampNeg) ||| ((1 : Int32) <<< ((x1 - x1 / (8 : Int32) * (8 : Int32)) &&& 31)))) mrw mnb mlk mnk mmd) H := hP
            have hD : va_D A (cM G ad mrf msl mst men mnw mdn mpw mwr mrs mdr mtb (mrc + (1 : Int32)) mnx mro mit mve mrb mch mva mic (upd mlb (x1 / (8 : Int32)).toNatClampNeg ((mlb (x1 / (8 : Int32)).toNatClampNeg) ||| ((1 : Int32) <<< ((x1 - x1 / (8 : Int32) * (8 : Int32)) &&& 31)))) mrw mnb mlk mnk mmd) := hD
            refine lv_aload_n hx hb d_MO_applyDraft_85 rfl (lv_at hl 3 rfl) ?_
            refine va_get (D := G.1) (ci := 6) (C := R_MO) (T := F_MO) (N := 26) hx hb ht in_MO hown hK hP 0 rfl rfl 18 (by decide) (ht _ kf_MO_39) (fun _ h9 => h9) rfl d_MO_applyDraft_86 ?_
            refine lv_iload_n hx hb d_MO_applyDraft_89 rfl (lv_at hl 4 rfl) ?_
            refine lv_aload_n hx hb d_MO_applyDraft_90 rfl (lv_at hl 3 rfl) ?_
            refine va_get (D := G.1) (ci := 6) (C := R_MO) (T := F_MO) (N := 26) hx hb ht in_MO hown hK hP 0 rfl rfl 15 (by decide) (ht _ kf_MO_30) (fun _ h9 => h9) rfl d_MO_applyDraft_91 ?_
            refine lv_iload_n hx hb d_MO_applyDraft_94 rfl (lv_at hl 4 rfl) ?_
            obtain ⟨hi_95, hok⟩ := hok
            refine va_iald hx hb hK hP 6 0 rfl rfl hi_95 d_MO_applyDraft_95 ?_
            obtain ⟨hi_96, hok⟩ := hok
            refine va_iast hx hb hK hP hD hS 9 0 rfl rfl hi_96 d_MO_applyDraft_96 (fun H locs hP hD hS => ?_)
            have hP : va_P G.1 classes (cM G ad mrf msl mst men mnw mdn mpw mwr mrs mdr mtb (mrc + (1 : Int32)) mnx mro mit mve mrb mch mva mic (upd mlb (x1 / (8 : Int32)).toNatClampNeg ((mlb (x1 / (8 : Int32)).toNatClampNeg) ||| ((1 : Int32) <<< ((x1 - x1 / (8 : Int32) * (8 : Int32)) &&& 31)))) (upd mrw x1.toNatClampNeg (mva x1.toNatClampNeg)) mnb mlk mnk mmd) H := hP
            have hD : va_D A (cM G ad mrf msl mst men mnw mdn mpw mwr mrs mdr mtb (mrc + (1 : Int32)) mnx mro mit mve mrb mch mva mic (upd mlb (x1 / (8 : Int32)).toNatClampNeg ((mlb (x1 / (8 : Int32)).toNatClampNeg) ||| ((1 : Int32) <<< ((x1 - x1 / (8 : Int32) * (8 : Int32)) &&& 31)))) (upd mrw x1.toNatClampNeg (mva x1.toNatClampNeg)) mnb mlk mnk mmd) := hD
            refine lv_goto (tgt := 155) hx hb d_MO_applyDraft_97 (by decide) ?_
            refine lv_iinc (v := x1 + (1 : Int32)) (lv' := [(1, .int (x1 + (1 : Int32))), (4, .int (0 : Int32)), (3, .int ((1 : Int32) <<< ((x1 - x1 / (8 : Int32) * (8 : Int32)) &&& 31))), (2, .int (x1 / (8 : Int32))), (0, .ref (ad 0))]) hx hb d_MO_applyDraft_155 hl (k := 4) rfl rfl (by decide) rfl (fun ls hl => ?_)
            refine lv_goto (tgt := 2) hx hb d_MO_applyDraft_158 (by decide) ?_
            exact ih (x1 + (1 : Int32)) (mrc + (1 : Int32)) (upd mlb (x1 / (8 : Int32)).toNatClampNeg ((mlb (x1 / (8 : Int32)).toNatClampNeg) ||| ((1 : Int32) <<< ((x1 - x1 / (8 : Int32) * (8 : Int32)) &&& 31)))) (upd mrw x1.toNatClampNeg (mva x1.toNatClampNeg)) _ _ _ hok hres hP hD hS (lv_sub hl [4, 0] rfl)
          · have hres := it_f c_52 hres
            have hok := hok.2 c_52
            refine lv_aload_n hx hb d_MO_applyDraft_55 rfl (lv_at hl 3 rfl) ?_
            refine va_get (D := G.1) (ci := 6) (C := R_MO) (T := F_MO) (N := 26) hx hb ht in_MO hown hK hP 0 rfl rfl 23 (by decide) (ht _ kf_MO_166) (fun _ h9 => h9) rfl d_MO_applyDraft_56 ?_
            refine lv_goto (tgt := 68) hx hb d_MO_applyDraft_59 (by decide) ?_
            refine va_put (D := G.1) (ci := 6) (v := .int mrc) (ty := .int) (C := R_MO) (T := F_MO) (N := 26) hx hb ht in_MO t_MO to_MO nm_MO hown hK hP hD hS 0 rfl rfl 23 (by decide) (ht _ kf_MO_166) (fun _ h9 => h9) rfl (to_MO 23 (by decide)) rfl rfl (Nat.le_of_ble_eq_true rfl) d_MO_applyDraft_68 (fun H locs hP hD hS => ?_)
            have hP : va_P G.1 classes (cM G ad mrf msl mst men mnw mdn mpw mwr mrs mdr mtb mrc mnx mro mit mve mrb mch mva mic mlb mrw mnb mlk mnk mmd) H := hP
            have hD : va_D A (cM G ad mrf msl mst men mnw mdn mpw mwr mrs mdr mtb mrc mnx mro mit mve mrb mch mva mic mlb mrw mnb mlk mnk mmd) := hD
            refine lv_aload_n hx hb d_MO_applyDraft_71 rfl (lv_at hl 3 rfl) ?_
            refine va_get (D := G.1) (ci := 6) (C := R_MO) (T := F_MO) (N := 26) hx hb ht in_MO hown hK hP 0 rfl rfl 17 (by decide) (ht _ kf_MO_36) (fun _ h9 => h9) rfl d_MO_applyDraft_72 ?_
            refine lv_iload_n hx hb d_MO_applyDraft_75 rfl (lv_at hl 2 rfl) ?_
            refine lv_aload_n hx hb d_MO_applyDraft_76 rfl (lv_at hl 3 rfl) ?_
            refine va_get (D := G.1) (ci := 6) (C := R_MO) (T := F_MO) (N := 26) hx hb ht in_MO hown hK hP 0 rfl rfl 17 (by decide) (ht _ kf_MO_36) (fun _ h9 => h9) rfl d_MO_applyDraft_77 ?_
            refine lv_iload_n hx hb d_MO_applyDraft_80 rfl (lv_at hl 2 rfl) ?_
            obtain ⟨hi_81, hok⟩ := hok
            refine va_iald hx hb hK hP 8 0 rfl rfl hi_81 d_MO_applyDraft_81 ?_
            refine lv_iload_n hx hb d_MO_applyDraft_82 rfl (lv_at hl 1 rfl) ?_
            refine lv_ior hx hb d_MO_applyDraft_83 ?_
            obtain ⟨hi_84, hok⟩ := hok
            refine va_iast hx hb hK hP hD hS 8 0 rfl rfl hi_84 d_MO_applyDraft_84 (fun H locs hP hD hS => ?_)
            have hP : va_P G.1 classes (cM G ad mrf msl mst men mnw mdn mpw mwr mrs mdr mtb mrc mnx mro mit mve mrb mch mva mic (upd mlb (x1 / (8 : Int32)).toNatClampNeg ((mlb (x1 / (8 : Int32)).toNatClampNeg) ||| ((1 : Int32) <<< ((x1 - x1 / (8 : Int32) * (8 : Int32)) &&& 31)))) mrw mnb mlk mnk mmd) H := hP
            have hD : va_D A (cM G ad mrf msl mst men mnw mdn mpw mwr mrs mdr mtb mrc mnx mro mit mve mrb mch mva mic (upd mlb (x1 / (8 : Int32)).toNatClampNeg ((mlb (x1 / (8 : Int32)).toNatClampNeg) ||| ((1 : Int32) <<< ((x1 - x1 / (8 : Int32) * (8 : Int32)) &&& 31)))) mrw mnb mlk mnk mmd) := hD
            refine lv_aload_n hx hb d_MO_applyDraft_85 rfl (lv_at hl 3 rfl) ?_
            refine va_get (D := G.1) (ci := 6) (C := R_MO) (T := F_MO) (N := 26) hx hb ht in_MO hown hK hP 0 rfl rfl 18 (by decide) (ht _ kf_MO_39) (fun _ h9 => h9) rfl d_MO_applyDraft_86 ?_
            refine lv_iload_n hx hb d_MO_applyDraft_89 rfl (lv_at hl 4 rfl) ?_
            refine lv_aload_n hx hb d_MO_applyDraft_90 rfl (lv_at hl 3 rfl) ?_
            refine va_get (D := G.1) (ci := 6) (C := R_MO) (T := F_MO) (N := 26) hx hb ht in_MO hown hK hP 0 rfl rfl 15 (by decide) (ht _ kf_MO_30) (fun _ h9 => h9) rfl d_MO_applyDraft_91 ?_
            refine lv_iload_n hx hb d_MO_applyDraft_94 rfl (lv_at hl 4 rfl) ?_
            obtain ⟨hi_95, hok⟩ := hok
            refine va_iald hx hb hK hP 6 0 rfl rfl hi_95 d_MO_applyDraft_95 ?_
            obtain ⟨hi_96, hok⟩ := hok
            refine va_iast hx hb hK hP hD hS 9 0 rfl rfl hi_96 d_MO_applyDraft_96 (fun H locs hP hD hS => ?_)
            have hP : va_P G.1 classes (cM G ad mrf msl mst men mnw mdn mpw mwr mrs mdr mtb mrc mnx mro mit mve mrb mch mva mic (upd mlb (x1 / (8 : Int32)).toNatClampNeg ((mlb (x1 / (8 : Int32)).toNatClampNeg) ||| ((1 : Int32) <<< ((x1 - x1 / (8 : Int32) * (8 : Int32)) &&& 31)))) (upd mrw x1.toNatClampNeg (mva x1.toNatClampNeg)) mnb mlk mnk mmd) H := hP
            have hD : va_D A (cM G ad mrf msl mst men mnw mdn mpw mwr mrs mdr mtb mrc mnx mro mit mve mrb mch mva mic (upd mlb (x1 / (8 : Int32)).toNatClampNeg ((mlb (x1 / (8 : Int32)).toNatClampNeg) ||| ((1 : Int32) <<< ((x1 - x1 / (8 : Int32) * (8 : Int32)) &&& 31)))) (upd mrw x1.toNatClampNeg (mva x1.toNatClampNeg)) mnb mlk mnk mmd) := hD
            refine lv_goto (tgt := 155) hx hb d_MO_applyDraft_97 (by decide) ?_
            refine lv_iinc (v := x1 + (1 : Int32)) (lv' := [(1, .int (x1 + (1 : Int32))), (4, .int (0 : Int32)), (3, .int ((1 : Int32) <<< ((x1 - x1 / (8 : Int32) * (8 : Int32)) &&& 31))), (2, .int (x1 / (8 : Int32))), (0, .ref (ad 0))]) hx hb d_MO_applyDraft_155 hl (k := 4) rfl rfl (by decide) rfl (fun ls hl => ?_)
            refine lv_goto (tgt := 2) hx hb d_MO_applyDraft_158 (by decide) ?_
            exact ih (x1 + (1 : Int32)) mrc (upd mlb (x1 / (8 : Int32)).toNatClampNeg ((mlb (x1 / (8 : Int32)).toNatClampNeg) ||| ((1 : Int32) <<< ((x1 - x1 / (8 : Int32) * (8 : Int32)) &&& 31)))) (upd mrw x1.toNatClampNeg (mva x1.toNatClampNeg)) _ _ _ hok hres hP hD hS (lv_sub hl [4, 0] rfl)
      · have hres := it_f c_29 hres
        have hok := hok.2 c_29
        refine lv_iconst (v := (1 : Int32)) hx hb d_MO_applyDraft_32 (by decide) ?_
        refine lv_goto (tgt := 37) hx hb d_MO_applyDraft_33 (by decide) ?_
        refine lv_istore (lv' := [(4, .int (1 : Int32)), (3, .int ((1 : Int32) <<< ((x1 - x1 / (8 : Int32) * (8 : Int32)) &&& 31))), (2, .int (x1 / (8 : Int32))), (0, .ref (ad 0)), (1, .int x1)]) hx hb d_MO_applyDraft_37 hl (by decide) rfl (fun ls hl => ?_)
        refine lv_aload_n hx hb d_MO_applyDraft_39 rfl (lv_at hl 3 rfl) ?_
        refine va_get (D := G.1) (ci := 6) (C := R_MO) (T := F_MO) (N := 26) hx hb ht in_MO hown hK hP 0 rfl rfl 14 (by decide) (ht _ kf_MO_27) (fun _ h9 => h9) rfl d_MO_applyDraft_40 ?_
        refine lv_iload_n hx hb d_MO_applyDraft_43 rfl (lv_at hl 4 rfl) ?_
        obtain ⟨hi_44, hok⟩ := hok
        refine va_iald hx hb hK hP 5 0 rfl rfl hi_44 d_MO_applyDraft_44 ?_
        refine lv_iconst (v := (1 : Int32)) hx hb d_MO_applyDraft_45 (by decide) ?_
        refine lv_icmp_ne (tgt := 100) hx hb d_MO_applyDraft_46 (by decide) (fun c_46 => ?_) (fun c_46 => ?_)
        · have hres := it_f c_46 hres
          have hok := hok.2 c_46
          refine lv_aload_n hx hb d_MO_applyDraft_100 rfl (lv_at hl 3 rfl) ?_
          refine va_get (D := G.1) (ci := 6) (C := R_MO) (T := F_MO) (N := 26) hx hb ht in_MO hown hK hP 0 rfl rfl 14 (by decide) (ht _ kf_MO_27) (fun _ h9 => h9) rfl d_MO_applyDraft_101 ?_
          refine lv_iload_n hx hb d_MO_applyDraft_104 rfl (lv_at hl 4 rfl) ?_
          obtain ⟨hi_105, hok⟩ := hok
          refine va_iald hx hb hK hP 5 0 rfl rfl hi_105 d_MO_applyDraft_105 ?_
          refine lv_iconst (v := (2 : Int32)) hx hb d_MO_applyDraft_106 (by decide) ?_
          refine lv_icmp_ne (tgt := 155) hx hb d_MO_applyDraft_107 (by decide) (fun c_107 => ?_) (fun c_107 => ?_)
          · have hres := it_f c_107 hres
            have hok := hok.2 c_107
            refine lv_iinc (v := x1 + (1 : Int32)) (lv' := [(1, .int (x1 + (1 : Int32))), (4, .int (1 : Int32)), (3, .int ((1 : Int32) <<< ((x1 - x1 / (8 : Int32) * (8 : Int32)) &&& 31))), (2, .int (x1 / (8 : Int32))), (0, .ref (ad 0))]) hx hb d_MO_applyDraft_155 hl (k := 4) rfl rfl (by decide) rfl (fun ls hl => ?_)
            refine lv_goto (tgt := 2) hx hb d_MO_applyDraft_158 (by decide) ?_
            exact ih (x1 + (1 : Int32)) mrc mlb mrw _ _ _ hok hres hP hD hS (lv_sub hl [4, 0] rfl)
          · have hres := it_t c_107 hres
            have hok := hok.1 c_107
            refine lv_aload_n hx hb d_MO_applyDraft_110 rfl (lv_at hl 3 rfl) ?_
            refine lv_iload hx hb d_MO_applyDraft_111 (lv_at hl 0 rfl) ?_
            refine lv_if_eq (tgt := 125) hx hb d_MO_applyDraft_113 (by decide) (fun c_113 => ?_) (fun c_113 => ?_)
            · have hres := it_t c_113 hres
              have hok := hok.1 c_113
              refine lv_aload_n hx hb d_MO_applyDraft_125 rfl (lv_at hl 3 rfl) ?_
              refine va_get (D := G.1) (ci := 6) (C := R_MO) (T := F_MO) (N := 26) hx hb ht in_MO hown hK hP 0 rfl rfl 23 (by decide) (ht _ kf_MO_166) (fun _ h9 => h9) rfl d_MO_applyDraft_126 ?_
              refine va_put (D := G.1) (ci := 6) (v := .int mrc) (ty := .int) (C := R_MO) (T := F_MO) (N := 26) hx hb ht in_MO t_MO to_MO nm_MO hown hK hP hD hS 0 rfl rfl 23 (by decide) (ht _ kf_MO_166) (fun _ h9 => h9) rfl (to_MO 23 (by decide)) rfl rfl (Nat.le_of_ble_eq_true rfl) d_MO_applyDraft_129 (fun H locs hP hD hS => ?_)
              have hP : va_P G.1 classes (cM G ad mrf msl mst men mnw mdn mpw mwr mrs mdr mtb mrc mnx mro mit mve mrb mch mva mic mlb mrw mnb mlk mnk mmd) H := hP
              have hD : va_D A (cM G ad mrf msl mst men mnw mdn mpw mwr mrs mdr mtb mrc mnx mro mit mve mrb mch mva mic mlb mrw mnb mlk mnk mmd) := hD
              refine lv_aload_n hx hb d_MO_applyDraft_132 rfl (lv_at hl 3 rfl) ?_
              refine va_get (D := G.1) (ci := 6) (C := R_MO) (T := F_MO) (N := 26) hx hb ht in_MO hown hK hP 0 rfl rfl 17 (by decide) (ht _ kf_MO_36) (fun _ h9 => h9) rfl d_MO_applyDraft_133 ?_
              refine lv_iload_n hx hb d_MO_applyDraft_136 rfl (lv_at hl 2 rfl) ?_
              refine lv_aload_n hx hb d_MO_applyDraft_137 rfl (lv_at hl 3 rfl) ?_
              refine va_get (D := G.1) (ci := 6) (C := R_MO) (T := F_MO) (N := 26) hx hb ht in_MO hown hK hP 0 rfl rfl 17 (by decide) (ht _ kf_MO_36) (fun _ h9 => h9) rfl d_MO_applyDraft_138 ?_
              refine lv_iload_n hx hb d_MO_applyDraft_141 rfl (lv_at hl 2 rfl) ?_
              obtain ⟨hi_142, hok⟩ := hok
              refine va_iald hx hb hK hP 8 0 rfl rfl hi_142 d_MO_applyDraft_142 ?_
              refine lv_iload_n hx hb d_MO_applyDraft_143 rfl (lv_at hl 1 rfl) ?_
              refine lv_iconst (v := (-1 : Int32)) hx hb d_MO_applyDraft_144 (by decide) ?_
              refine lv_ixor hx hb d_MO_applyDraft_145 ?_
              refine lv_iand hx hb d_MO_applyDraft_146 ?_
              obtain ⟨hi_147, hok⟩ := hok
              refine va_iast hx hb hK hP hD hS 8 0 rfl rfl hi_147 d_MO_applyDraft_147 (fun H locs hP hD hS => ?_)
              have hP : va_P G.1 classes (cM G ad mrf msl mst men mnw mdn mpw mwr mrs mdr mtb mrc mnx mro mit mve mrb mch mva mic (upd mlb (x1 / (8 : Int32)).toNatClampNeg ((mlb (x1 / (8 : Int32)).toNatClampNeg) &&& (((1 : Int32) <<< ((x1 - x1 / (8 : Int32) * (8 : Int32)) &&& 31)) ^^^ (-1 : Int32)))) mrw mnb mlk mnk mmd) H := hP
              have hD : va_D A (cM G ad mrf msl mst men mnw mdn mpw mwr mrs mdr mtb mrc mnx mro mit mve mrb mch mva mic (upd mlb (x1 / (8 : Int32)).toNatClampNeg ((mlb (x1 / (8 : Int32)).toNatClampNeg) &&& (((1 : Int32) <<< ((x1 - x1 / (8 : Int32) * (8 : Int32)) &&& 31)) ^^^ (-1 : Int32)))) mrw mnb mlk mnk mmd) := hD
              refine lv_aload_n hx hb d_MO_applyDraft_148 rfl (lv_at hl 3 rfl) ?_
              refine va_get (D := G.1) (ci := 6) (C := R_MO) (T := F_MO) (N := 26) hx hb ht in_MO hown hK hP 0 rfl rfl 18 (by decide) (ht _ kf_MO_39) (fun _ h9 => h9) rfl d_MO_applyDraft_149 ?_
              refine lv_iload_n hx hb d_MO_applyDraft_152 rfl (lv_at hl 4 rfl) ?_
              refine lv_iconst (v := (0 : Int32)) hx hb d_MO_applyDraft_153 (by decide) ?_
              obtain ⟨hi_154, hok⟩ := hok
              refine va_iast hx hb hK hP hD hS 9 0 rfl rfl hi_154 d_MO_applyDraft_154 (fun H locs hP hD hS => ?_)
              have hP : va_P G.1 classes (cM G ad mrf msl mst men mnw mdn mpw mwr mrs mdr mtb mrc mnx mro mit mve mrb mch mva mic (upd mlb (x1 / (8 : Int32)).toNatClampNeg ((mlb (x1 / (8 : Int32)).toNatClampNeg) &&& (((1 : Int32) <<< ((x1 - x1 / (8 : Int32) * (8 : Int32)) &&& 31)) ^^^ (-1 : Int32)))) (upd mrw x1.toNatClampNeg (0 : Int32)) mnb mlk mnk mmd) H := hP
              have hD : va_D A (cM G ad mrf msl mst men mnw mdn mpw mwr mrs mdr mtb mrc mnx mro mit mve mrb mch mva mic (upd mlb (x1 / (8 : Int32)).toNatClampNeg ((mlb (x1 / (8 : Int32)).toNatClampNeg) &&& (((1 : Int32) <<< ((x1 - x1 / (8 : Int32) * (8 : Int32)) &&& 31)) ^^^ (-1 : Int32)))) (upd mrw x1.toNatClampNeg (0 : Int32)) mnb mlk mnk mmd) := hD
              refine lv_iinc (v := x1 + (1 : Int32)) (lv' := [(1, .int (x1 + (1 : Int32))), (4, .int (1 : Int32)), (3, .int ((1 : Int32) <<< ((x1 - x1 / (8 : Int32) * (8 : Int32)) &&& 31))), (2, .int (x1 / (8 : Int32))), (0, .ref (ad 0))]) hx hb d_MO_applyDraft_155 hl (k := 4) rfl rfl (by decide) rfl (fun ls hl => ?_)
              refine lv_goto (tgt := 2) hx hb d_MO_applyDraft_158 (by decide) ?_
              exact ih (x1 + (1 : Int32)) mrc (upd mlb (x1 / (8 : Int32)).toNatClampNeg ((mlb (x1 / (8 : Int32)).toNatClampNeg) &&& (((1 : Int32) <<< ((x1 - x1 / (8 : Int32) * (8 : Int32)) &&& 31)) ^^^ (-1 : Int32)))) (upd mrw x1.toNatClampNeg (0 : Int32)) _ _ _ hok hres hP hD hS (lv_sub hl [4, 0] rfl)
            · have hres := it_f c_113 hres
              have hok := hok.2 c_113
              refine lv_aload_n hx hb d_MO_applyDraft_116 rfl (lv_at hl 3 rfl) ?_
              refine va_get (D := G.1) (ci := 6) (C := R_MO) (T := F_MO) (N := 26) hx hb ht in_MO hown hK hP 0 rfl rfl 23 (by decide) (ht _ kf_MO_166) (fun _ h9 => h9) rfl d_MO_applyDraft_117 ?_
              refine lv_iconst (v := (1 : Int32)) hx hb d_MO_applyDraft_120 (by decide) ?_
              refine lv_isub hx hb d_MO_applyDraft_121 ?_
              refine lv_goto (tgt := 129) hx hb d_MO_applyDraft_122 (by decide) ?_
              refine va_put (D := G.1) (ci := 6) (v := .int (mrc - (1 : Int32))) (ty := .int) (C := R_MO) (T := F_MO) (N := 26) hx hb ht in_MO t_MO to_MO nm_MO hown hK hP hD hS 0 rfl rfl 23 (by decide) (ht _ kf_MO_166) (fun _ h9 => h9) rfl (to_MO 23 (by decide)) rfl rfl (Nat.le_of_ble_eq_true rfl) d_MO_applyDraft_129 (fun H locs hP hD hS => ?_)
              have hP : va_P G.1 classes (cM G ad mrf msl mst men mnw mdn mpw mwr mrs mdr mtb (mrc - (1 : Int32)) mnx mro mit mve mrb mch mva mic mlb mrw mnb mlk mnk mmd) H := hP
              have hD : va_D A (cM G ad mrf msl mst men mnw mdn mpw mwr mrs mdr mtb (mrc - (1 : Int32)) mnx mro mit mve mrb mch mva mic mlb mrw mnb mlk mnk mmd) := hD
              refine lv_aload_n hx hb d_MO_applyDraft_132 rfl (lv_at hl 3 rfl) ?_
              refine va_get (D := G.1) (ci := 6) (C := R_MO) (T := F_MO) (N := 26) hx hb ht in_MO hown hK hP 0 rfl rfl 17 (by decide) (ht _ kf_MO_36) (fun _ h9 => h9) rfl d_MO_applyDraft_133 ?_
              refine lv_iload_n hx hb d_MO_applyDraft_136 rfl (lv_at hl 2 rfl) ?_
              refine lv_aload_n hx hb d_MO_applyDraft_137 rfl (lv_at hl 3 rfl) ?_
              refine va_get (D := G.1) (ci := 6) (C := R_MO) (T := F_MO) (N := 26) hx hb ht in_MO hown hK hP 0 rfl rfl 17 (by decide) (ht _ kf_MO_36) (fun _ h9 => h9) rfl d_MO_applyDraft_138 ?_
              refine lv_iload_n hx hb d_MO_applyDraft_141 rfl (lv_at hl 2 rfl) ?_
              obtain ⟨hi_142, hok⟩ := hok
              refine va_iald hx hb hK hP 8 0 rfl rfl hi_142 d_MO_applyDraft_142 ?_
              refine lv_iload_n hx hb d_MO_applyDraft_143 rfl (lv_at hl 1 rfl) ?_
              refine lv_iconst (v := (-1 : Int32)) hx hb d_MO_applyDraft_144 (by decide) ?_
              refine lv_ixor hx hb d_MO_applyDraft_145 ?_
              refine lv_iand hx hb d_MO_applyDraft_146 ?_
              obtain ⟨hi_147, hok⟩ := hok
              refine va_iast hx hb hK hP hD hS 8 0 rfl rfl hi_147 d_MO_applyDraft_147 (fun H locs hP hD hS => ?_)
              have hP : va_P G.1 classes (cM G ad mrf msl mst men mnw mdn mpw mwr mrs mdr mtb (mrc - (1 : Int32)) mnx mro mit mve mrb mch mva mic (upd mlb (x1 / (8 : Int32)).toNatClampNeg ((mlb (x1 / (8 : Int32)).toNatClampNeg) &&& (((1 : Int32) <<< ((x1 - x1 / (8 : Int32) * (8 : Int32)) &&& 31)) ^^^ (-1 : Int32)))) mrw mnb mlk mnk mmd) H := hP
              have hD : va_D A (cM G ad mrf msl mst men mnw mdn mpw mwr mrs mdr mtb (mrc - (1 : Int32)) mnx mro mit mve mrb mch mva mic (upd mlb (x1 / (8 : Int32)).toNatClampNeg ((mlb (x1 / (8 : Int32)).toNatClampNeg) &&& (((1 : Int32) <<< ((x1 - x1 / (8 : Int32) * (8 : Int32)) &&& 31)) ^^^ (-1 : Int32)))) mrw mnb mlk mnk mmd) := hD
              refine lv_aload_n hx hb d_MO_applyDraft_148 rfl (lv_at hl 3 rfl) ?_
              refine va_get (D := G.1) (ci := 6) (C := R_MO) (T := F_MO) (N := 26) hx hb ht in_MO hown hK hP 0 rfl rfl 18 (by decide) (ht _ kf_MO_39) (fun _ h9 => h9) rfl d_MO_applyDraft_149 ?_
              refine lv_iload_n hx hb d_MO_applyDraft_152 rfl (lv_at hl 4 rfl) ?_
              refine lv_iconst (v := (0 : Int32)) hx hb d_MO_applyDraft_153 (by decide) ?_
              obtain ⟨hi_154, hok⟩ := hok
              refine va_iast hx hb hK hP hD hS 9 0 rfl rfl hi_154 d_MO_applyDraft_154 (fun H locs hP hD hS => ?_)
              have hP : va_P G.1 classes (cM G ad mrf msl mst men mnw mdn mpw mwr mrs mdr mtb (mrc - (1 : Int32)) mnx mro mit mve mrb mch mva mic (upd mlb (x1 / (8 : Int32)).toNatClampNeg ((mlb (x1 / (8 : Int32)).toNatClampNeg) &&& (((1 : Int32) <<< ((x1 - x1 / (8 : Int32) * (8 : Int32)) &&& 31)) ^^^ (-1 : Int32)))) (upd mrw x1.toNatClampNeg (0 : Int32)) mnb mlk mnk mmd) H := hP
              have hD : va_D A (cM G ad mrf msl mst men mnw mdn mpw mwr mrs mdr mtb (mrc - (1 : Int32)) mnx mro mit mve mrb mch mva mic (upd mlb (x1 / (8 : Int32)).toNatClampNeg ((mlb (x1 / (8 : Int32)).toNatClampNeg) &&& (((1 : Int32) <<< ((x1 - x1 / (8 : Int32) * (8 : Int32)) &&& 31)) ^^^ (-1 : Int32)))) (upd mrw x1.toNatClampNeg (0 : Int32)) mnb mlk mnk mmd) := hD
              refine lv_iinc (v := x1 + (1 : Int32)) (lv' := [(1, .int (x1 + (1 : Int32))), (4, .int (1 : Int32)), (3, .int ((1 : Int32) <<< ((x1 - x1 / (8 : Int32) * (8 : Int32)) &&& 31))), (2, .int (x1 / (8 : Int32))), (0, .ref (ad 0))]) hx hb d_MO_applyDraft_155 hl (k := 4) rfl rfl (by decide) rfl (fun ls hl => ?_)
              refine lv_goto (tgt := 2) hx hb d_MO_applyDraft_158 (by decide) ?_
              exact ih (x1 + (1 : Int32)) (mrc - (1 : Int32)) (upd mlb (x1 / (8 : Int32)).toNatClampNeg ((mlb (x1 / (8 : Int32)).toNatClampNeg) &&& (((1 : Int32) <<< ((x1 - x1 / (8 : Int32) * (8 : Int32)) &&& 31)) ^^^ (-1 : Int32)))) (upd mrw x1.toNatClampNeg (0 : Int32)) _ _ _ hok hres hP hD hS (lv_sub hl [4, 0] rfl)
        · have hres := it_t c_46 hres
          have hok := hok.1 c_46
          refine lv_aload_n hx hb d_MO_applyDraft_49 rfl (lv_at hl 3 rfl) ?_
          refine lv_iload hx hb d_MO_applyDraft_50 (lv_at hl 0 rfl) ?_
          refine lv_if_eq (tgt := 62) hx hb d_MO_applyDraft_52 (by decide) (fun c_52 => ?_) (fun c_52 => ?_)
          · have hres := it_t c_52 hres
            have hok := hok.1 c_52
            refine lv_aload_n hx hb d_MO_applyDraft_62 rfl (lv_at hl 3 rfl) ?_
            refine va_get (D := G.1) (ci := 6) (C := R_MO) (T := F_MO) (N := 26) hx hb ht in_MO hown hK hP 0 rfl rfl 23 (by decide) (ht _ kf_MO_166) (fun _ h9 => h9) rfl d_MO_applyDraft_63 ?_
            refine lv_iconst (v := (1 : Int32)) hx hb d_MO_applyDraft_66 (by decide) ?_
            refine lv_iadd hx hb d_MO_applyDraft_67 ?_
            refine va_put (D := G.1) (ci := 6) (v := .int (mrc + (1 : Int32))) (ty := .int) (C := R_MO) (T := F_MO) (N := 26) hx hb ht in_MO t_MO to_MO nm_MO hown hK hP hD hS 0 rfl rfl 23 (by decide) (ht _ kf_MO_166) (fun _ h9 => h9) rfl (to_MO 23 (by decide)) rfl rfl (Nat.le_of_ble_eq_true rfl) d_MO_applyDraft_68 (fun H locs hP hD hS => ?_)
            have hP : va_P G.1 classes (cM G ad mrf msl mst men mnw mdn mpw mwr mrs mdr mtb (mrc + (1 : Int32)) mnx mro mit mve mrb mch mva mic mlb mrw mnb mlk mnk mmd) H := hP
            have hD : va_D A (cM G ad mrf msl mst men mnw mdn mpw mwr mrs mdr mtb (mrc + (1 : Int32)) mnx mro mit mve mrb mch mva mic mlb mrw mnb mlk mnk mmd) := hD
            refine lv_aload_n hx hb d_MO_applyDraft_71 rfl (lv_at hl 3 rfl) ?_
            refine va_get (D := G.1) (ci := 6) (C := R_MO) (T := F_MO) (N := 26) hx hb ht in_MO hown hK hP 0 rfl rfl 17 (by decide) (ht _ kf_MO_36) (fun _ h9 => h9) rfl d_MO_applyDraft_72 ?_
            refine lv_iload_n hx hb d_MO_applyDraft_75 rfl (lv_at hl 2 rfl) ?_
            refine lv_aload_n hx hb d_MO_applyDraft_76 rfl (lv_at hl 3 rfl) ?_
            refine va_get (D := G.1) (ci := 6) (C := R_MO) (T := F_MO) (N := 26) hx hb ht in_MO hown hK hP 0 rfl rfl 17 (by decide) (ht _ kf_MO_36) (fun _ h9 => h9) rfl d_MO_applyDraft_77 ?_
            refine lv_iload_n hx hb d_MO_applyDraft_80 rfl (lv_at hl 2 rfl) ?_
            obtain ⟨hi_81, hok⟩ := hok
            refine va_iald hx hb hK hP 8 0 rfl rfl hi_81 d_MO_applyDraft_81 ?_
            refine lv_iload_n hx hb d_MO_applyDraft_82 rfl (lv_at hl 1 rfl) ?_
            refine lv_ior hx hb d_MO_applyDraft_83 ?_
            obtain ⟨hi_84, hok⟩ := hok
            refine va_iast hx hb hK hP hD hS 8 0 rfl rfl hi_84 d_MO_applyDraft_84 (fun H locs hP hD hS => ?_)
            have hP : va_P G.1 classes (cM G ad mrf msl mst men mnw mdn mpw mwr mrs mdr mtb (mrc + (1 : Int32)) mnx mro mit mve mrb mch mva mic (upd mlb (x1 / (8 : Int32)).toNatClampNeg ((mlb (x1 / (8 : Int32)).toNatClampNeg) ||| ((1 : Int32) <<< ((x1 - x1 / (8 : Int32) * (8 : Int32)) &&& 31)))) mrw mnb mlk mnk mmd) H := hP
            have hD : va_D A (cM G ad mrf msl mst men mnw mdn mpw mwr mrs mdr mtb (mrc + (1 : Int32)) mnx mro mit mve mrb mch mva mic (upd mlb (x1 / (8 : Int32)).toNatClampNeg ((mlb (x1 / (8 : Int32)).toNatClampNeg) ||| ((1 : Int32) <<< ((x1 - x1 / (8 : Int32) * (8 : Int32)) &&& 31)))) mrw mnb mlk mnk mmd) := hD
            refine lv_aload_n hx hb d_MO_applyDraft_85 rfl (lv_at hl 3 rfl) ?_
            refine va_get (D := G.1) (ci := 6) (C := R_MO) (T := F_MO) (N := 26) hx hb ht in_MO hown hK hP 0 rfl rfl 18 (by decide) (ht _ kf_MO_39) (fun _ h9 => h9) rfl d_MO_applyDraft_86 ?_
            refine lv_iload_n hx hb d_MO_applyDraft_89 rfl (lv_at hl 4 rfl) ?_
            refine lv_aload_n hx hb d_MO_applyDraft_90 rfl (lv_at hl 3 rfl) ?_
            refine va_get (D := G.1) (ci := 6) (C := R_MO) (T := F_MO) (N := 26) hx hb ht in_MO hown hK hP 0 rfl rfl 15 (by decide) (ht _ kf_MO_30) (fun _ h9 => h9) rfl d_MO_applyDraft_91 ?_
            refine lv_iload_n hx hb d_MO_applyDraft_94 rfl (lv_at hl 4 rfl) ?_
            obtain ⟨hi_95, hok⟩ := hok
            refine va_iald hx hb hK hP 6 0 rfl rfl hi_95 d_MO_applyDraft_95 ?_
            obtain ⟨hi_96, hok⟩ := hok
            refine va_iast hx hb hK hP hD hS 9 0 rfl rfl hi_96 d_MO_applyDraft_96 (fun H locs hP hD hS => ?_)
            have hP : va_P G.1 classes (cM G ad mrf msl mst men mnw mdn mpw mwr mrs mdr mtb (mrc + (1 : Int32)) mnx mro mit mve mrb mch mva mic (upd mlb (x1 / (8 : Int32)).toNatClampNeg ((mlb (x1 / (8 : Int32)).toNatClampNeg) ||| ((1 : Int32) <<< ((x1 - x1 / (8 : Int32) * (8 : Int32)) &&& 31)))) (upd mrw x1.toNatClampNeg (mva x1.toNatClampNeg)) mnb mlk mnk mmd) H := hP
            have hD : va_D A (cM G ad mrf msl mst men mnw mdn mpw mwr mrs mdr mtb (mrc + (1 : Int32)) mnx mro mit mve mrb mch mva mic (upd mlb (x1 / (8 : Int32)).toNatClampNeg ((mlb (x1 / (8 : Int32)).toNatClampNeg) ||| ((1 : Int32) <<< ((x1 - x1 / (8 : Int32) * (8 : Int32)) &&& 31)))) (upd mrw x1.toNatClampNeg (mva x1.toNatClampNeg)) mnb mlk mnk mmd) := hD
            refine lv_goto (tgt := 155) hx hb d_MO_applyDraft_97 (by decide) ?_
            refine lv_iinc (v := x1 + (1 : Int32)) (lv' := [(1, .int (x1 + (1 : Int32))), (4, .int (1 : Int32)), (3, .int ((1 : Int32) <<< ((x1 - x1 / (8 : Int32) * (8 : Int32)) &&& 31))), (2, .int (x1 / (8 : Int32))), (0, .ref (ad 0))]) hx hb d_MO_applyDraft_155 hl (k := 4) rfl rfl (by decide) rfl (fun ls hl => ?_)
            refine lv_goto (tgt := 2) hx hb d_MO_applyDraft_158 (by decide) ?_
            exact ih (x1 + (1 : Int32)) (mrc + (1 : Int32)) (upd mlb (x1 / (8 : Int32)).toNatClampNeg ((mlb (x1 / (8 : Int32)).toNatClampNeg) ||| ((1 : Int32) <<< ((x1 - x1 / (8 : Int32) * (8 : Int32)) &&& 31)))) (upd mrw x1.toNatClampNeg (mva x1.toNatClampNeg)) _ _ _ hok hres hP hD hS (lv_sub hl [4, 0] rfl)
          · have hres := it_f c_52 hres
            have hok := hok.2 c_52
            refine lv_aload_n hx hb d_MO_applyDraft_55 rfl (lv_at hl 3 rfl) ?_
            refine va_get (D := G.1) (ci := 6) (C := R_MO) (T := F_MO) (N := 26) hx hb ht in_MO hown hK hP 0 rfl rfl 23 (by decide) (ht _ kf_MO_166) (fun _ h9 => h9) rfl d_MO_applyDraft_56 ?_
            refine lv_goto (tgt := 68) hx hb d_MO_applyDraft_59 (by decide) ?_
            refine va_put (D := G.1) (ci := 6) (v := .int mrc) (ty := .int) (C := R_MO) (T := F_MO) (N := 26) hx hb ht in_MO t_MO to_MO nm_MO hown hK hP hD hS 0 rfl rfl 23 (by decide) (ht _ kf_MO_166) (fun _ h9 => h9) rfl (to_MO 23 (by decide)) rfl rfl (Nat.le_of_ble_eq_true rfl) d_MO_applyDraft_68 (fun H locs hP hD hS => ?_)
            have hP : va_P G.1 classes (cM G ad mrf msl mst men mnw mdn mpw mwr mrs mdr mtb mrc mnx mro mit mve mrb mch mva mic mlb mrw mnb mlk mnk mmd) H := hP
            have hD : va_D A (cM G ad mrf msl mst men mnw mdn mpw mwr mrs mdr mtb mrc mnx mro mit mve mrb mch mva mic mlb mrw mnb mlk mnk mmd) := hD
            refine lv_aload_n hx hb d_MO_applyDraft_71 rfl (lv_at hl 3 rfl) ?_
            refine va_get (D := G.1) (ci := 6) (C := R_MO) (T := F_MO) (N := 26) hx hb ht in_MO hown hK hP 0 rfl rfl 17 (by decide) (ht _ kf_MO_36) (fun _ h9 => h9) rfl d_MO_applyDraft_72 ?_
            refine lv_iload_n hx hb d_MO_applyDraft_75 rfl (lv_at hl 2 rfl) ?_
            refine lv_aload_n hx hb d_MO_applyDraft_76 rfl (lv_at hl 3 rfl) ?_
            refine va_get (D := G.1) (ci := 6) (C := R_MO) (T := F_MO) (N := 26) hx hb ht in_MO hown hK hP 0 rfl rfl 17 (by decide) (ht _ kf_MO_36) (fun _ h9 => h9) rfl d_MO_applyDraft_77 ?_
            refine lv_iload_n hx hb d_MO_applyDraft_80 rfl (lv_at hl 2 rfl) ?_
            obtain ⟨hi_81, hok⟩ := hok
            refine va_iald hx hb hK hP 8 0 rfl rfl hi_81 d_MO_applyDraft_81 ?_
            refine lv_iload_n hx hb d_MO_applyDraft_82 rfl (lv_at hl 1 rfl) ?_
            refine lv_ior hx hb d_MO_applyDraft_83 ?_
            obtain ⟨hi_84, hok⟩ := hok
            refine va_iast hx hb hK hP hD hS 8 0 rfl rfl hi_84 d_MO_applyDraft_84 (fun H locs hP hD hS => ?_)
            have hP : va_P G.1 classes (cM G ad mrf msl mst men mnw mdn mpw mwr mrs mdr mtb mrc mnx mro mit mve mrb mch mva mic (upd mlb (x1 / (8 : Int32)).toNatClampNeg ((mlb (x1 / (8 : Int32)).toNatClampNeg) ||| ((1 : Int32) <<< ((x1 - x1 / (8 : Int32) * (8 : Int32)) &&& 31)))) mrw mnb mlk mnk mmd) H := hP
            have hD : va_D A (cM G ad mrf msl mst men mnw mdn mpw mwr mrs mdr mtb mrc mnx mro mit mve mrb mch mva mic (upd mlb (x1 / (8 : Int32)).toNatClampNeg ((mlb (x1 / (8 : Int32)).toNatClampNeg) ||| ((1 : Int32) <<< ((x1 - x1 / (8 : Int32) * (8 : Int32)) &&& 31)))) mrw mnb mlk mnk mmd) := hD
            refine lv_aload_n hx hb d_MO_applyDraft_85 rfl (lv_at hl 3 rfl) ?_
            refine va_get (D := G.1) (ci := 6) (C := R_MO) (T := F_MO) (N := 26) hx hb ht in_MO hown hK hP 0 rfl rfl 18 (by decide) (ht _ kf_MO_39) (fun _ h9 => h9) rfl d_MO_applyDraft_86 ?_
            refine lv_iload_n hx hb d_MO_applyDraft_89 rfl (lv_at hl 4 rfl) ?_
            refine lv_aload_n hx hb d_MO_applyDraft_90 rfl (lv_at hl 3 rfl) ?_
            refine va_get (D := G.1) (ci := 6) (C := R_MO) (T := F_MO) (N := 26) hx hb ht in_MO hown hK hP 0 rfl rfl 15 (by decide) (ht _ kf_MO_30) (fun _ h9 => h9) rfl d_MO_applyDraft_91 ?_
            refine lv_iload_n hx hb d_MO_applyDraft_94 rfl (lv_at hl 4 rfl) ?_
            obtain ⟨hi_95, hok⟩ := hok
            refine va_iald hx hb hK hP 6 0 rfl rfl hi_95 d_MO_applyDraft_95 ?_
            obtain ⟨hi_96, hok⟩ := hok
            refine va_iast hx hb hK hP hD hS 9 0 rfl rfl hi_96 d_MO_applyDraft_96 (fun H locs hP hD hS => ?_)
            have hP : va_P G.1 classes (cM G ad mrf msl mst men mnw mdn mpw mwr mrs mdr mtb mrc mnx mro mit mve mrb mch mva mic (upd mlb (x1 / (8 : Int32)).toNatClampNeg ((mlb (x1 / (8 : Int32)).toNatClampNeg) ||| ((1 : Int32) <<< ((x1 - x1 / (8 : Int32) * (8 : Int32)) &&& 31)))) (upd mrw x1.toNatClampNeg (mva x1.toNatClampNeg)) mnb mlk mnk mmd) H := hP
            have hD : va_D A (cM G ad mrf msl mst men mnw mdn mpw mwr mrs mdr mtb mrc mnx mro mit mve mrb mch mva mic (upd mlb (x1 / (8 : Int32)).toNatClampNeg ((mlb (x1 / (8 : Int32)).toNatClampNeg) ||| ((1 : Int32) <<< ((x1 - x1 / (8 : Int32) * (8 : Int32)) &&& 31)))) (upd mrw x1.toNatClampNeg (mva x1.toNatClampNeg)) mnb mlk mnk mmd) := hD
            refine lv_goto (tgt := 155) hx hb d_MO_applyDraft_97 (by decide) ?_
            refine lv_iinc (v := x1 + (1 : Int32)) (lv' := [(1, .int (x1 + (1 : Int32))), (4, .int (1 : Int32)), (3, .int ((1 : Int32) <<< ((x1 - x1 / (8 : Int32) * (8 : Int32)) &&& 31))), (2, .int (x1 / (8 : Int32))), (0, .ref (ad 0))]) hx hb d_MO_applyDraft_155 hl (k := 4) rfl rfl (by decide) rfl (fun ls hl => ?_)
            refine lv_goto (tgt := 2) hx hb d_MO_applyDraft_158 (by decide) ?_
            exact ih (x1 + (1 : Int32)) mrc (upd mlb (x1 / (8 : Int32)).toNatClampNeg ((mlb (x1 / (8 : Int32)).toNatClampNeg) ||| ((1 : Int32) <<< ((x1 - x1 / (8 : Int32) * (8 : Int32)) &&& 31)))) (upd mrw x1.toNatClampNeg (mva x1.toNatClampNeg)) _ _ _ hok hres hP hD hS (lv_sub hl [4, 0] rfl)
def f_MO_applyDraft  (mrc : Int32) (mch : (Nat → Int32)) (mva : (Nat → Int32)) (mlb : (Nat → Int32)) (mrw : (Nat → Int32)) : Int32 × (Nat → Int32) × (Nat → Int32) := f_MO_applyDraft_2 1024 (0 : Int32) mrc mch mva mlb mrw
def ok_MO_applyDraft  (mrc : Int32) (mch : (Nat → Int32)) (mva : (Nat → Int32)) (mlb : (Nat → Int32)) (mrw : (Nat → Int32)) : Prop := ok_MO_applyDraft_2  1024 (0 : Int32) mrc mch mva mlb mrw
set_option maxHeartbeats 4000000 in
set_option maxRecDepth 100000 in
theorem c_MO_applyDraft {l : Launch} {G : GG} {ad : Nat → Nat} {sz : Nat} {mrf : Int32} {msl : Int32} {mst : Int32} {men : Int32} {mnw : Int32} {mdn : Int32} {mpw : Int32} {mwr : Int32} {mrs : Int32} {mdr : Int32} {mtb : Int32} {mrc : Int32} {mnx : Int32} {mro : (Nat → Int32)} {mit : (Nat → Int32)} {mve : (Nat → Int32)} {mrb : (Nat → Int32)} {mch : (Nat → Int32)} {mva : (Nat → Int32)} {mic : (Nat → Int32)} {mlb : (Nat → Int32)} {mrw : (Nat → Int32)} {mnb : (Nat → Int32)} {mlk : (Nat → Int32)} {mnk : (Nat → Int32)} {mmd : (Nat → Int32)}  (hok : ok_MO_applyDraft mrc mch mva mlb mrw) : CtV l y_MO_applyDraft b_MO_applyDraft 5 none rm_MO_applyDraft G (cM G ad mrf msl mst men mnw mdn mpw mwr mrs mdr mtb mrc mnx mro mit mve mrb mch mva mic mlb mrw mnb mlk mnk mmd) sz [.ref (ad 0)] (eqV (f_MO_applyDraft mrc mch mva mlb mrw)) (fun u : Int32 × (Nat → Int32) × (Nat → Int32) => (cM G ad mrf msl mst men mnw mdn mpw mwr mrs mdr mtb u.1 mnx mro mit mve mrb mch mva mic u.2.1 u.2.2 mnb mlk mnk mmd)) := by
  generalize hres : f_MO_applyDraft mrc mch mva mlb mrw = res
  refine Met_of (Qc := fun A => va_Qv (eqV res) (Wb G A (fun u : Int32 × (Nat → Int32) × (Nat → Int32) => (cM G ad mrf msl mst men mnw mdn mpw mwr mrs mdr mtb u.1 mnx mro mit mve mrb mch mva mic u.2.1 u.2.2 mnb mlk mnk mmd))) A) (by decide) (Nat.le_of_ble_eq_true rfl) ?_
  intro p e s m below meth c hadm hx hb hr hml hown hlocks ht hK A hA hP hD hS ls hl
  have hC : Cx p l e s m (([.ref (ad 0)] : List Value)).toArray meth c y_MO_applyDraft b_MO_applyDraft 5 none "BookTreesModel" G A := ⟨hx, hb, hr, hml, hown, hlocks, ht, hK, hA⟩
  have hown : s.vm.findClass "BookTreesModel" = some m.cls := hown
  have hl : lv_has ls 5 [(0, .ref (ad 0))] := hl
  rw [f_MO_applyDraft] at hres
  rw [ok_MO_applyDraft] at hok
  refine lv_iconst (v := (0 : Int32)) hx hb d_MO_applyDraft_0 (by decide) ?_
  refine lv_istore_n (lv' := [(1, .int (0 : Int32)), (0, .ref (ad 0))]) hx hb d_MO_applyDraft_1 rfl hl (by decide) rfl (fun ls hl => ?_)
  exact w_MO_applyDraft_2 hC 1024 (0 : Int32) mrc mlb mrw _ _ _ hok hres hP hD hS (lv_sub hl [1, 0] rfl)
