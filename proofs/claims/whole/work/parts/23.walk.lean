/-! ===== BookTreesModel.settle()I ===== -/
abbrev rm_MO_settle : Room := { frames := 1, cells := 0, slots := 0, locals := 23 }
def f_MO_settle_12 (K4 : Int32 → Int32 → Int32 → (Nat → Int32) → (Nat → Int32) → (Nat → Int32) → Int32 × Int32 × (Nat → Int32)) : Nat → Int32 → Int32 → Int32 → Int32 → (Nat → Int32) → (Nat → Int32) → (Nat → Int32) → Int32 × Int32 × (Nat → Int32)
  | 0, x1, x2, x3, mtb, mic, mlb, mnb => (0, (mtb, mnb))
  | n + 1, x1, x2, x3, mtb, mic, mlb, mnb => if (8 : Int32) ≤ x3 then bindc (f_MO_isNodeChanged x2 mic) (fun z_103 => if z_103.1 = 0 then K4 x1 (x2 + (1 : Int32)) mtb mic mlb mnb else if (mnb x2.toNatClampNeg) = 0 then (if (mnb x2.toNatClampNeg) = 0 then K4 x1 (x2 + (1 : Int32)) (mtb &&& (((1 : Int32) <<< (x2 &&& 31)) ^^^ (-1 : Int32))) mic mlb mnb else K4 (x1 + (1 : Int32)) (x2 + (1 : Int32)) (mtb &&& (((1 : Int32) <<< (x2 &&& 31)) ^^^ (-1 : Int32))) mic mlb mnb) else if (mnb x2.toNatClampNeg) = 0 then K4 x1 (x2 + (1 : Int32)) (mtb ||| ((1 : Int32) <<< (x2 &&& 31))) mic mlb mnb else K4 (x1 + (1 : Int32)) (x2 + (1 : Int32)) (mtb ||| ((1 : Int32) <<< (x2 &&& 31))) mic mlb mnb) else if (mic (((8 : Int32) * x2) + x3).toNatClampNeg) = 0 then f_MO_settle_12 K4 n x1 x2 (x3 + (1 : Int32)) mtb mic mlb mnb else if (mlb (((8 : Int32) * x2) + x3).toNatClampNeg) = 0 then (if (mlb (((8 : Int32) * x2) + x3).toNatClampNeg) = 0 then f_MO_settle_12 K4 n x1 x2 (x3 + (1 : Int32)) mtb mic mlb (upd mnb x2.toNatClampNeg ((mnb x2.toNatClampNeg) &&& (((1 : Int32) <<< (x3 &&& 31)) ^^^ (-1 : Int32)))) else f_MO_settle_12 K4 n (x1 + (1 : Int32)) x2 (x3 + (1 : Int32)) mtb mic mlb (upd mnb x2.toNatClampNeg ((mnb x2.toNatClampNeg) &&& (((1 : Int32) <<< (x3 &&& 31)) ^^^ (-1 : Int32))))) else if (mlb (((8 : Int32) * x2) + x3).toNatClampNeg) = 0 then f_MO_settle_12 K4 n x1 x2 (x3 + (1 : Int32)) mtb mic mlb (upd mnb x2.toNatClampNeg ((mnb x2.toNatClampNeg) ||| ((1 : Int32) <<< (x3 &&& 31)))) else f_MO_settle_12 K4 n (x1 + (1 : Int32)) x2 (x3 + (1 : Int32)) mtb mic mlb (upd mnb x2.toNatClampNeg ((mnb x2.toNatClampNeg) ||| ((1 : Int32) <<< (x3 &&& 31))))
def ok_MO_settle_12  (O4 : Int32 → Int32 → Int32 → (Nat → Int32) → (Nat → Int32) → (Nat → Int32) → Prop) : Nat → Int32 → Int32 → Int32 → Int32 → (Nat → Int32) → (Nat → Int32) → (Nat → Int32) → Prop
  | 0, _, _, _, _, _, _, _ => False
  | n + 1, x1, x2, x3, mtb, mic, mlb, mnb => ((8 : Int32) ≤ x3 → ok_MO_isNodeChanged x2 mic ∧ bindp (f_MO_isNodeChanged x2 mic) (fun z_103 => (z_103.1 = 0 → O4 x1 (x2 + (1 : Int32)) mtb mic mlb mnb) ∧ (¬ z_103.1 = 0 → vp_in x2 8 ∧ (((mnb x2.toNatClampNeg) = 0 → vp_in x2 8 ∧ (((mnb x2.toNatClampNeg) = 0 → O4 x1 (x2 + (1 : Int32)) (mtb &&& (((1 : Int32) <<< (x2 &&& 31)) ^^^ (-1 : Int32))) mic mlb mnb) ∧ (¬ (mnb x2.toNatClampNeg) = 0 → O4 (x1 + (1 : Int32)) (x2 + (1 : Int32)) (mtb &&& (((1 : Int32) <<< (x2 &&& 31)) ^^^ (-1 : Int32))) mic mlb mnb))) ∧ (¬ (mnb x2.toNatClampNeg) = 0 → vp_in x2 8 ∧ (((mnb x2.toNatClampNeg) = 0 → O4 x1 (x2 + (1 : Int32)) (mtb ||| ((1 : Int32) <<< (x2 &&& 31))) mic mlb mnb) ∧ (¬ (mnb x2.toNatClampNeg) = 0 → O4 (x1 + (1 : Int32)) (x2 + (1 : Int32)) (mtb ||| ((1 : Int32) <<< (x2 &&& 31))) mic mlb mnb))))))) ∧ (¬ (8 : Int32) ≤ x3 → vp_in (((8 : Int32) * x2) + x3) 64 ∧ (((mic (((8 : Int32) * x2) + x3).toNatClampNeg) = 0 → ok_MO_settle_12  O4 n x1 x2 (x3 + (1 : Int32)) mtb mic mlb mnb) ∧ (¬ (mic (((8 : Int32) * x2) + x3).toNatClampNeg) = 0 → vp_in (((8 : Int32) * x2) + x3) 64 ∧ (((mlb (((8 : Int32) * x2) + x3).toNatClampNeg) = 0 → vp_in x2 8 ∧ (vp_in x2 8 ∧ (vp_in (((8 : Int32) * x2) + x3) 64 ∧ (((mlb (((8 : Int32) * x2) + x3).toNatClampNeg) = 0 → ok_MO_settle_12  O4 n x1 x2 (x3 + (1 : Int32)) mtb mic mlb (upd mnb x2.toNatClampNeg ((mnb x2.toNatClampNeg) &&& (((1 : Int32) <<< (x3 &&& 31)) ^^^ (-1 : Int32))))) ∧ (¬ (mlb (((8 : Int32) * x2) + x3).toNatClampNeg) = 0 → ok_MO_settle_12  O4 n (x1 + (1 : Int32)) x2 (x3 + (1 : Int32)) mtb mic mlb (upd mnb x2.toNatClampNeg ((mnb x2.toNatClampNeg) &&& (((1 : Int32) <<< (x3 &&& 31)) ^^^ (-1 : Int32))))))))) ∧ (¬ (mlb (((8 : Int32) * x2) + x3).toNatClampNeg) = 0 → vp_in x2 8 ∧ (vp_in x2 8 ∧ (vp_in (((8 : Int32) * x2) + x3) 64 ∧ (((mlb (((8 : Int32) * x2) + x3).toNatClampNeg) = 0 → ok_MO_settle_12  O4 n x1 x2 (x3 + (1 : Int32)) mtb mic mlb (upd mnb x2.toNatClampNeg ((mnb x2.toNatClampNeg) ||| ((1 : Int32) <<< (x3 &&& 31))))) ∧ (¬ (mlb (((8 : Int32) * x2) + x3).toNatClampNeg) = 0 → ok_MO_settle_12  O4 n (x1 + (1 : Int32)) x2 (x3 + (1 : Int32)) mtb mic mlb (upd mnb x2.toNatClampNeg ((mnb x2.toNatClampNeg) ||| ((1 : Int32) <<< (x3 &&& 31)))))))))))))
set_option maxHeartbeats 4000000 in
set_option maxRecDepth 100000 in
theorem w_MO_settle_12 {p : Program} {l : Launch} {e : Env} {s : State} {m : MethodId} {args : Array Value} {below : List Frame} {meth : Method} {c : Code} {A : Nat → Prop} {G : GG} {ad : Nat → Nat} {mrf : Int32} {msl : Int32} {mst : Int32} {men : Int32} {mnw : Int32} {mdn : Int32} {mpw : Int32} {mwr : Int32} {mrs : Int32} {mdr : Int32} {mrc : Int32} {mnx : Int32} {mro : (Nat → Int32)} {mit : (Nat → Int32)} {mve : (Nat → Int32)} {mrb : (Nat → Int32)} {mch : (Nat → Int32)} {mva : (Nat → Int32)} {mic : (Nat → Int32)} {mlb : (Nat → Int32)} {mrw : (Nat → Int32)} {mlk : (Nat → Int32)} {mnk : (Nat → Int32)} {mmd : (Nat → Int32)} {res : Int32 × Int32 × (Nat → Int32)} (hC : Cx p l e s m args meth c y_MO_settle b_MO_settle 5 (some .int) "BookTreesModel" G A) {K4 : Int32 → Int32 → Int32 → (Nat → Int32) → (Nat → Int32) → (Nat → Int32) → Int32 × Int32 × (Nat → Int32)} {O4 : Int32 → Int32 → Int32 → (Nat → Int32) → (Nat → Int32) → (Nat → Int32) → Prop} (hK4 : ∀ (x1 : Int32) (x2 : Int32) (mtb : Int32) (mnb : (Nat → Int32)) (H : Heap) (locs : List Loc) (ls : Array Slot), O4 x1 x2 mtb mic mlb mnb → K4 x1 x2 mtb mic mlb mnb = res → va_P G.1 classes (cM G ad mrf msl mst men mnw mdn mpw mwr mrs mdr mtb mrc mnx mro mit mve mrb mch mva mic mlb mrw mnb mlk mnk mmd) H → va_D A (cM G ad mrf msl mst men mnw mdn mpw mwr mrs mdr mtb mrc mnx mro mit mve mrb mch mva mic mlb mrw mnb mlk mnk mmd) → va_S A s.heap H locs → lv_has ls 5 [(0, .ref (ad 0)), (1, .int x1), (2, .int x2)] → W p l e rm_MO_settle s m args below meth c H locs 0 0 (MQ below (va_Qi (eqP res) (Wb G A (fun u : Int32 × (Nat → Int32) => (cM G ad mrf msl mst men mnw mdn mpw mwr mrs mdr u.1 mrc mnx mro mit mve mrb mch mva mic mlb mrw u.2 mlk mnk mmd))) A) args s 0 0 A) (F0 m 4 ls [])) : ∀ (n : Nat) (x1 : Int32) (x2 : Int32) (x3 : Int32) (mtb : Int32) (mnb : (Nat → Int32)) (H : Heap) (locs : List Loc) (ls : Array Slot), ok_MO_settle_12 O4 n x1 x2 x3 mtb mic mlb mnb → f_MO_settle_12 K4 n x1 x2 x3 mtb mic mlb mnb = res → va_P G.1 classes (cM G ad mrf msl mst men mnw mdn mpw mwr mrs mdr mtb mrc mnx mro mit mve mrb mch mva mic mlb mrw mnb mlk mnk mmd) H → va_D A (cM G ad mrf msl mst men mnw mdn mpw mwr mrs mdr mtb mrc mnx mro mit mve mrb mch mva mic mlb mrw mnb mlk mnk mmd) → va_S A s.heap H locs → lv_has ls 5 [(0, .ref (ad 0)), (1, .int x1), (2, .int x2), (3, .int x3)] → W p l e rm_MO_settle s m args below meth c H locs 0 0 (MQ below (va_Qi (eqP res) (Wb G A (fun u : Int32 × (Nat → Int32) => (cM G ad mrf msl mst men mnw mdn mpw mwr mrs mdr u.1 mrc mnx mro mit mve mrb mch mva mic mlb mrw u.2 mlk mnk mmd))) A) args s 0 0 A) (F0 m 12 ls []) := by
  obtain ⟨hx, hb, hr, hml, hown, hlocks, ht, hK, hA⟩ := id hC
  intro n
  induction n with
  | zero => intro x1 x2 x3 mtb mnb H locs ls hok; exact hok.elim
  | succ n ih =>
    intro x1 x2 x3 mtb mnb H locs ls hok hres hP hD hS hl
    rw [f_MO_settle_12] at hres
    rw [ok_MO_settle_12] at hok
    refine lv_iload_n hx hb d_MO_settle_12 rfl (lv_at hl 3 rfl) ?_
    refine lv_bipush (v := (8 : Int32)) hx hb d_MO_settle_13 (by decide) ?_
    refine lv_icmp_ge (tgt := 101) hx hb d_MO_settle_15 (by decide) (fun c_15 => ?_) (fun c_15 => ?_)
    · have hres := it_t c_15 hres
      have hok := hok.1 c_15
      refine lv_aload_n hx hb d_MO_settle_101 rfl (lv_at hl 0 rfl) ?_
      refine lv_iload_n hx hb d_MO_settle_102 rfl (lv_at hl 2 rfl) ?_
      obtain ⟨hk_103, hok⟩ := hok
      refine go_iz (run_V hx hb hml hown ht hK hP hD (c_MO_isNodeChanged hk_103) (cw_V ht km_MO_172 ki_MO_isNodeChanged ks_MO_isNodeChanged ini_MO kd_MO_isNodeChanged kh_MO_isNodeChanged ⟨Nat.le_of_ble_eq_true rfl, Nat.le_of_ble_eq_true rfl⟩ rfl rfl) (q0 := 0) (ci := 6) (As := [.int x2]) (rest := []) rfl rfl rfl hl.1 rfl (Nat.le_of_ble_eq_true rfl) d_MO_settle_103 ⟨Nat.zero_le _, Nat.zero_le _⟩) hD hS hA (fun z_103 H locs hz_103 hP hD hS => ?_)
      have hres := bindc_eq hz_103 hres
      have hok := bindp_eq hz_103 hok
      have hP : va_P G.1 classes (cM G ad mrf msl mst men mnw mdn mpw mwr mrs mdr mtb mrc mnx mro mit mve mrb mch mva mic mlb mrw mnb mlk mnk mmd) H := hP
      have hD : va_D A (cM G ad mrf msl mst men mnw mdn mpw mwr mrs mdr mtb mrc mnx mro mit mve mrb mch mva mic mlb mrw mnb mlk mnk mmd) := hD
      refine lv_if_eq (tgt := 160) hx hb d_MO_settle_106 (by decide) (fun c_106 => ?_) (fun c_106 => ?_)
      · have hres := it_t c_106 hres
        have hok := hok.1 c_106
        refine lv_iinc (v := x2 + (1 : Int32)) (lv' := [(2, .int (x2 + (1 : Int32))), (0, .ref (ad 0)), (1, .int x1), (3, .int x3)]) hx hb d_MO_settle_160 hl (k := 2) rfl rfl (by decide) rfl (fun ls hl => ?_)
        refine lv_goto (tgt := 4) hx hb d_MO_settle_163 (by decide) ?_
        exact hK4 x1 (x2 + (1 : Int32)) mtb mnb _ _ _ hok hres hP hD hS (lv_sub hl [1, 2, 0] rfl)
      · have hres := it_f c_106 hres
        have hok := hok.2 c_106
        refine lv_aload_n hx hb d_MO_settle_109 rfl (lv_at hl 0 rfl) ?_
        refine lv_aload_n hx hb d_MO_settle_110 rfl (lv_at hl 0 rfl) ?_
        refine va_get (D := G.1) (ci := 6) (C := R_MO) (T := F_MO) (N := 26) hx hb ht in_MO hown hK hP 0 rfl rfl 19 (by decide) (ht _ kf_MO_42) (fun _ h9 => h9) rfl d_MO_settle_111 ?_
        refine lv_iload_n hx hb d_MO_settle_114 rfl (lv_at hl 2 rfl) ?_
        obtain ⟨hi_115, hok⟩ := hok
        refine va_iald hx hb hK hP 10 0 rfl rfl hi_115 d_MO_settle_115 ?_
        refine lv_if_eq (tgt := 130) hx hb d_MO_settle_116 (by decide) (fun c_116 => ?_) (fun c_116 => ?_)
        · have hres := it_t c_116 hres
          have hok := hok.1 c_116
          refine lv_aload_n hx hb d_MO_settle_130 rfl (lv_at hl 0 rfl) ?_
          refine va_get (D := G.1) (ci := 6) (C := R_MO) (T := F_MO) (N := 26) hx hb ht in_MO hown hK hP 0 rfl rfl 21 (by decide) (ht _ kf_MO_160) (fun _ h9 => h9) rfl d_MO_settle_131 ?_
          refine lv_iconst (v := (1 : Int32)) hx hb d_MO_settle_134 (by decide) ?_
          refine lv_iload_n hx hb d_MO_settle_135 rfl (lv_at hl 2 rfl) ?_
          refine lv_ishl hx hb d_MO_settle_136 ?_
          refine lv_iconst (v := (-1 : Int32)) hx hb d_MO_settle_137 (by decide) ?_
          refine lv_ixor hx hb d_MO_settle_138 ?_
          refine lv_iand hx hb d_MO_settle_139 ?_
          refine va_put (D := G.1) (ci := 6) (v := .int (mtb &&& (((1 : Int32) <<< (x2 &&& 31)) ^^^ (-1 : Int32)))) (ty := .int) (C := R_MO) (T := F_MO) (N := 26) hx hb ht in_MO t_MO to_MO nm_MO hown hK hP hD hS 0 rfl rfl 21 (by decide) (ht _ kf_MO_160) (fun _ h9 => h9) rfl (to_MO 21 (by decide)) rfl rfl (Nat.le_of_ble_eq_true rfl) d_MO_settle_140 (fun H locs hP hD hS => ?_)
          have hP : va_P G.1 classes (cM G ad mrf msl mst men mnw mdn mpw mwr mrs mdr (mtb &&& (((1 : Int32) <<< (x2 &&& 31)) ^^^ (-1 : Int32))) mrc mnx mro mit mve mrb mch mva mic mlb mrw mnb mlk mnk mmd) H := hP
          have hD : va_D A (cM G ad mrf msl mst men mnw mdn mpw mwr mrs mdr (mtb &&& (((1 : Int32) <<< (x2 &&& 31)) ^^^ (-1 : Int32))) mrc mnx mro mit mve mrb mch mva mic mlb mrw mnb mlk mnk mmd) := hD
          refine lv_aload_n hx hb d_MO_settle_143 rfl (lv_at hl 0 rfl) ?_
          refine va_get (D := G.1) (ci := 6) (C := R_MO) (T := F_MO) (N := 26) hx hb ht in_MO hown hK hP 0 rfl rfl 19 (by decide) (ht _ kf_MO_42) (fun _ h9 => h9) rfl d_MO_settle_144 ?_
          refine lv_iload_n hx hb d_MO_settle_147 rfl (lv_at hl 2 rfl) ?_
          obtain ⟨hi_148, hok⟩ := hok
          refine va_iald hx hb hK hP 10 0 rfl rfl hi_148 d_MO_settle_148 ?_
          refine lv_if_eq (tgt := 158) hx hb d_MO_settle_149 (by decide) (fun c_149 => ?_) (fun c_149 => ?_)
          · have hres := it_t c_149 hres
            have hok := hok.1 c_149
            refine lv_iload_n hx hb d_MO_settle_158 rfl (lv_at hl 1 rfl) ?_
            refine lv_istore_n (lv' := [(1, .int x1), (0, .ref (ad 0)), (2, .int x2), (3, .int x3)]) hx hb d_MO_settle_159 rfl hl (by decide) rfl (fun ls hl => ?_)
            refine lv_iinc (v := x2 + (1 : Int32)) (lv' := [(2, .int (x2 + (1 : Int32))), (1, .int x1), (0, .ref (ad 0)), (3, .int x3)]) hx hb d_MO_settle_160 hl (k := 2) rfl rfl (by decide) rfl (fun ls hl => ?_)
            refine lv_goto (tgt := 4) hx hb d_MO_settle_163 (by decide) ?_
            exact hK4 x1 (x2 + (1 : Int32)) (mtb &&& (((1 : Int32) <<< (x2 &&& 31)) ^^^ (-1 : Int32))) mnb _ _ _ hok hres hP hD hS (lv_sub hl [2, 1, 0] rfl)
          · have hres := it_f c_149 hres
            have hok := hok.2 c_149
            refine lv_iload_n hx hb d_MO_settle_152 rfl (lv_at hl 1 rfl) ?_
            refine lv_iconst (v := (1 : Int32)) hx hb d_MO_settle_153 (by decide) ?_
            refine lv_iadd hx hb d_MO_settle_154 ?_
            refine lv_goto (tgt := 159) hx hb d_MO_settle_155 (by decide) ?_
            refine lv_istore_n (lv' := [(1, .int (x1 + (1 : Int32))), (0, .ref (ad 0)), (2, .int x2), (3, .int x3)]) hx hb d_MO_settle_159 rfl hl (by decide) rfl (fun ls hl => ?_)
            refine lv_iinc (v := x2 + (1 : Int32)) (lv' := [(2, .int (x2 + (1 : Int32))), (1, .int (x1 + (1 : Int32))), (0, .ref (ad 0)), (3, .int x3)]) hx hb d_MO_settle_160 hl (k := 2) rfl rfl (by decide) rfl (fun ls hl => ?_)
            refine lv_goto (tgt := 4) hx hb d_MO_settle_163 (by decide) ?_
            exact hK4 (x1 + (1 : Int32)) (x2 + (1 : Int32)) (mtb &&& (((1 : Int32) <<< (x2 &&& 31)) ^^^ (-1 : Int32))) mnb _ _ _ hok hres hP hD hS (lv_sub hl [2, 1, 0] rfl)
        · have hres := it_f c_116 hres
          have hok := hok.2 c_116
          refine lv_aload_n hx hb d_MO_settle_119 rfl (lv_at hl 0 rfl) ?_
          refine va_get (D := G.1) (ci := 6) (C := R_MO) (T := F_MO) (N := 26) hx hb ht in_MO hown hK hP 0 rfl rfl 21 (by decide) (ht _ kf_MO_160) (fun _ h9 => h9) rfl d_MO_settle_120 ?_
          refine lv_iconst (v := (1 : Int32)) hx hb d_MO_settle_123 (by decide) ?_
          refine lv_iload_n hx hb d_MO_settle_124 rfl (lv_at hl 2 rfl) ?_
          refine lv_ishl hx hb d_MO_settle_125 ?_
          refine lv_ior hx hb d_MO_settle_126 ?_
          refine lv_goto (tgt := 140) hx hb d_MO_settle_127 (by decide) ?_
          refine va_put (D := G.1) (ci := 6) (v := .int (mtb ||| ((1 : Int32) <<< (x2 &&& 31)))) (ty := .int) (C := R_MO) (T := F_MO) (N := 26) hx hb ht in_MO t_MO to_MO nm_MO hown hK hP hD hS 0 rfl rfl 21 (by decide) (ht _ kf_MO_160) (fun _ h9 => h9) rfl (to_MO 21 (by decide)) rfl rfl (Nat.le_of_ble_eq_true rfl) d_MO_settle_140 (fun H locs hP hD hS => ?_)
          have hP : va_P G.1 classes (cM G ad mrf msl mst men mnw mdn mpw mwr mrs mdr (mtb ||| ((1 : Int32) <<< (x2 &&& 31))) mrc mnx mro mit mve mrb mch mva mic mlb mrw mnb mlk mnk mmd) H := hP
          have hD : va_D A (cM G ad mrf msl mst men mnw mdn mpw mwr mrs mdr (mtb ||| ((1 : Int32) <<< (x2 &&& 31))) mrc mnx mro mit mve mrb mch mva mic mlb mrw mnb mlk mnk mmd) := hD
          refine lv_aload_n hx hb d_MO_settle_143 rfl (lv_at hl 0 rfl) ?_
          refine va_get (D := G.1) (ci := 6) (C := R_MO) (T := F_MO) (N := 26) hx hb ht in_MO hown hK hP 0 rfl rfl 19 (by decide) (ht _ kf_MO_42) (fun _ h9 => h9) rfl d_MO_settle_144 ?_
          refine lv_iload_n hx hb d_MO_settle_147 rfl (lv_at hl 2 rfl) ?_
          obtain ⟨hi_148, hok⟩ := hok
          refine va_iald hx hb hK hP 10 0 rfl rfl hi_148 d_MO_settle_148 ?_
          refine lv_if_eq (tgt := 158) hx hb d_MO_settle_149 (by decide) (fun c_149 => ?_) (fun c_149 => ?_)
          · have hres := it_t c_149 hres
            have hok := hok.1 c_149
            refine lv_iload_n hx hb d_MO_settle_158 rfl (lv_at hl 1 rfl) ?_
            refine lv_istore_n (lv' := [(1, .int x1), (0, .ref (ad 0)), (2, .int x2), (3, .int x3)]) hx hb d_MO_settle_159 rfl hl (by decide) rfl (fun ls hl => ?_)
            refine lv_iinc (v := x2 + (1 : Int32)) (lv' := [(2, .int (x2 + (1 : Int32))), (1, .int x1), (0, .ref (ad 0)), (3, .int x3)]) hx hb d_MO_settle_160 hl (k := 2) rfl rfl (by decide) rfl (fun ls hl => ?_)
            refine lv_goto (tgt := 4) hx hb d_MO_settle_163 (by decide) ?_
            exact hK4 x1 (x2 + (1 : Int32)) (mtb ||| ((1 : Int32) <<< (x2 &&& 31))) mnb _ _ _ hok hres hP hD hS (lv_sub hl [2, 1, 0] rfl)
          · have hres := it_f c_149 hres
            have hok := hok.2 c_149
            refine lv_iload_n hx hb d_MO_settle_152 rfl (lv_at hl 1 rfl) ?_
            refine lv_iconst (v := (1 : Int32)) hx hb d_MO_settle_153 (by decide) ?_
            refine lv_iadd hx hb d_MO_settle_154 ?_
            refine lv_goto (tgt := 159) hx hb d_MO_settle_155 (by decide) ?_
            refine lv_istore_n (lv' := [(1, .int (x1 + (1 : Int32))), (0, .ref (ad 0)), (2, .int x2), (3, .int x3)]) hx hb d_MO_settle_159 rfl hl (by decide) rfl (fun ls hl => ?_)
            refine lv_iinc (v := x2 + (1 : Int32)) (lv' := [(2, .int (x2 + (1 : Int32))), (1, .int (x1 + (1 : Int32))), (0, .ref (ad 0)), (3, .int x3)]) hx hb d_MO_settle_160 hl (k := 2) rfl rfl (by decide) rfl (fun ls hl => ?_)
            refine lv_goto (tgt := 4) hx hb d_MO_settle_163 (by decide) ?_
            exact hK4 (x1 + (1 : Int32)) (x2 + (1 : Int32)) (mtb ||| ((1 : Int32) <<< (x2 &&& 31))) mnb _ _ _ hok hres hP hD hS (lv_sub hl [2, 1, 0] rfl)
    · have hres := it_f c_15 hres
      have hok := hok.2 c_15
      refine lv_bipush (v := (8 : Int32)) hx hb d_MO_settle_18 (by decide) ?_
      refine lv_iload_n hx hb d_MO_settle_20 rfl (lv_at hl 2 rfl) ?_
      refine lv_imul hx hb d_MO_settle_21 ?_
      refine lv_iload_n hx hb d_MO_settle_22 rfl (lv_at hl 3 rfl) ?_
      refine lv_iadd hx hb d_MO_settle_23 ?_
      refine lv_istore (lv' := [(4, .int (((8 : Int32) * x2) + x3)), (0, .ref (ad 0)), (1, .int x1), (2, .int x2), (3, .int x3)]) hx hb d_MO_settle_24 hl (by decide) rfl (fun ls hl => ?_)
      refine lv_aload_n hx hb d_MO_settle_26 rfl (lv_at hl 1 rfl) ?_
      refine va_get (D := G.1) (ci := 6) (C := R_MO) (T := F_MO) (N := 26) hx hb ht in_MO hown hK hP 0 rfl rfl 16 (by decide) (ht _ kf_MO_33) (fun _ h9 => h9) rfl d_MO_settle_27 ?_
      refine lv_iload hx hb d_MO_settle_30 (lv_at hl 0 rfl) ?_
      obtain ⟨hi_32, hok⟩ := hok
      refine va_zald hx hb hK hP 7 1 rfl rfl hi_32 d_MO_settle_32 ?_
      refine lv_if_eq (tgt := 95) hx hb d_MO_settle_33 (by decide) (fun c_33 => ?_) (fun c_33 => ?_)
      · have hres := it_t c_33 hres
        have hok := hok.1 c_33
        refine lv_iinc (v := x3 + (1 : Int32)) (lv' := [(3, .int (x3 + (1 : Int32))), (4, .int (((8 : Int32) * x2) + x3)), (0, .ref (ad 0)), (1, .int x1), (2, .int x2)]) hx hb d_MO_settle_95 hl (k := 4) rfl rfl (by decide) rfl (fun ls hl => ?_)
        refine lv_goto (tgt := 12) hx hb d_MO_settle_98 (by decide) ?_
        exact ih x1 x2 (x3 + (1 : Int32)) mtb mnb _ _ _ hok hres hP hD hS (lv_sub hl [2, 3, 4, 0] rfl)
      · have hres := it_f c_33 hres
        have hok := hok.2 c_33
        refine lv_aload_n hx hb d_MO_settle_36 rfl (lv_at hl 1 rfl) ?_
        refine va_get (D := G.1) (ci := 6) (C := R_MO) (T := F_MO) (N := 26) hx hb ht in_MO hown hK hP 0 rfl rfl 19 (by decide) (ht _ kf_MO_42) (fun _ h9 => h9) rfl d_MO_settle_37 ?_
        refine lv_iload_n hx hb d_MO_settle_40 rfl (lv_at hl 3 rfl) ?_
        refine lv_aload_n hx hb d_MO_settle_41 rfl (lv_at hl 1 rfl) ?_
        refine va_get (D := G.1) (ci := 6) (C := R_MO) (T := F_MO) (N := 26) hx hb ht in_MO hown hK hP 0 rfl rfl 17 (by decide) (ht _ kf_MO_36) (fun _ h9 => h9) rfl d_MO_settle_42 ?_
        refine lv_iload hx hb d_MO_settle_45 (lv_at hl 0 rfl) ?_
        obtain ⟨hi_47, hok⟩ := hok
        refine va_iald hx hb hK hP 8 0 rfl rfl hi_47 d_MO_settle_47 ?_
        refine lv_if_eq (tgt := 64) hx hb d_MO_settle_48 (by decide) (fun c_48 => ?_) (fun c_48 => ?_)
        · have hres := it_t c_48 hres
          have hok := hok.1 c_48
          refine lv_aload_n hx hb d_MO_settle_64 rfl (lv_at hl 1 rfl) ?_
          refine va_get (D := G.1) (ci := 6) (C := R_MO) (T := F_MO) (N := 26) hx hb ht in_MO hown hK hP 0 rfl rfl 19 (by decide) (ht _ kf_MO_42) (fun _ h9 => h9) rfl d_MO_settle_65 ?_
          refine lv_iload_n hx hb d_MO_settle_68 rfl (lv_at hl 3 rfl) ?_
          obtain ⟨hi_69, hok⟩ := hok
          refine va_iald hx hb hK hP 10 0 rfl rfl hi_69 d_MO_settle_69 ?_
          refine lv_iconst (v := (1 : Int32)) hx hb d_MO_settle_70 (by decide) ?_
          refine lv_iload_n hx hb d_MO_settle_71 rfl (lv_at hl 4 rfl) ?_
          refine lv_ishl hx hb d_MO_settle_72 ?_
          refine lv_iconst (v := (-1 : Int32)) hx hb d_MO_settle_73 (by decide) ?_
          refine lv_ixor hx hb d_MO_settle_74 ?_
          refine lv_iand hx hb d_MO_settle_75 ?_
          obtain ⟨hi_76, hok⟩ := hok
          refine va_iast hx hb hK hP hD hS 10 0 rfl rfl hi_76 d_MO_settle_76 (fun H locs hP hD hS => ?_)
          have hP : va_P G.1 classes (cM G ad mrf msl mst men mnw mdn mpw mwr mrs mdr mtb mrc mnx mro mit mve mrb mch mva mic mlb mrw (upd mnb x2.toNatClampNeg ((mnb x2.toNatClampNeg) &&& (((1 : Int32) <<< (x3 &&& 31)) ^^^ (-1 : Int32)))) mlk mnk mmd) H := hP
          have hD : va_D A (cM G ad mrf msl mst men mnw mdn mpw mwr mrs mdr mtb mrc mnx mro mit mve mrb mch mva mic mlb mrw (upd mnb x2.toNatClampNeg ((mnb x2.toNatClampNeg) &&& (((1 : Int32) <<< (x3 &&& 31)) ^^^ (-1 : Int32)))) mlk mnk mmd) := hD
          refine lv_aload_n hx hb d_MO_settle_77 rfl (lv_at hl 1 rfl) ?_
          refine va_get (D := G.1) (ci := 6) (C := R_MO) (T := F_MO) (N := 26) hx hb ht in_MO hown hK hP 0 rfl rfl 17 (by decide) (ht _ kf_MO_36) (fun _ h9 => h9) rfl d_MO_settle_78 ?_
          refine lv_iload hx hb d_MO_settle_81 (lv_at hl 0 rfl) ?_
          obtain ⟨hi_83, hok⟩ := hok
          refine va_iald hx hb hK hP 8 0 rfl rfl hi_83 d_MO_settle_83 ?_
          refine lv_if_eq (tgt := 93) hx hb d_MO_settle_84 (by decide) (fun c_84 => ?_) (fun c_84 => ?_)
          · have hres := it_t c_84 hres
            have hok := hok.1 c_84
            refine lv_iload_n hx hb d_MO_settle_93 rfl (lv_at hl 2 rfl) ?_
            refine lv_istore_n (lv' := [(1, .int x1), (4, .int (((8 : Int32) * x2) + x3)), (0, .ref (ad 0)), (2, .int x2), (3, .int x3)]) hx hb d_MO_settle_94 rfl hl (by decide) rfl (fun ls hl => ?_)
            refine lv_iinc (v := x3 + (1 : Int32)) (lv' := [(3, .int (x3 + (1 : Int32))), (1, .int x1), (4, .int (((8 : Int32) * x2) + x3)), (0, .ref (ad 0)), (2, .int x2)]) hx hb d_MO_settle_95 hl (k := 4) rfl rfl (by decide) rfl (fun ls hl => ?_)
            refine lv_goto (tgt := 12) hx hb d_MO_settle_98 (by decide) ?_
            exact ih x1 x2 (x3 + (1 : Int32)) mtb (upd mnb x2.toNatClampNeg ((mnb x2.toNatClampNeg) &&& (((1 : Int32) <<< (x3 &&& 31)) ^^^ (-1 : Int32)))) _ _ _ hok hres hP hD hS (lv_sub hl [3, 1, 4, 0] rfl)
          · have hres := it_f c_84 hres
            have hok := hok.2 c_84
            refine lv_iload_n hx hb d_MO_settle_87 rfl (lv_at hl 2 rfl) ?_
            refine lv_iconst (v := (1 : Int32)) hx hb d_MO_settle_88 (by decide) ?_
            refine lv_iadd hx hb d_MO_settle_89 ?_
            refine lv_goto (tgt := 94) hx hb d_MO_settle_90 (by decide) ?_
            refine lv_istore_n (lv' := [(1, .int (x1 + (1 : Int32))), (4, .int (((8 : Int32) * x2) + x3)), (0, .ref (ad 0)), (2, .int x2), (3, .int x3)]) hx hb d_MO_settle_94 rfl hl (by decide) rfl (fun ls hl => ?_)
            refine lv_iinc (v := x3 + (1 : Int32)) (lv' := [(3, .int (x3 + (1 : Int32))), (1, .int (x1 + (1 : Int32))), (4, .int (((8 : Int32) * x2) + x3)), (0, .ref (ad 0)), (2, .int x2)]) hx hb d_MO_settle_95 hl (k := 4) rfl rfl (by decide) rfl (fun ls hl => ?_)
            refine lv_goto (tgt := 12) hx hb d_MO_settle_98 (by decide) ?_
            exact ih (x1 + (1 : Int32)) x2 (x3 + (1 : Int32)) mtb (upd mnb x2.toNatClampNeg ((mnb x2.toNatClampNeg) &&& (((1 : Int32) <<< (x3 &&& 31)) ^^^ (-1 : Int32)))) _ _ _ hok hres hP hD hS (lv_sub hl [3, 1, 4, 0] rfl)
        · have hres := it_f c_48 hres
          have hok := hok.2 c_48
          refine lv_aload_n hx hb d_MO_settle_51 rfl (lv_at hl 1 rfl) ?_
          refine va_get (D := G.1) (ci := 6) (C := R_MO) (T := F_MO) (N := 26) hx hb ht in_MO hown hK hP 0 rfl rfl 19 (by decide) (ht _ kf_MO_42) (fun _ h9 => h9) rfl d_MO_settle_52 ?_
          refine lv_iload_n hx hb d_MO_settle_55 rfl (lv_at hl 3 rfl) ?_
          obtain ⟨hi_56, hok⟩ := hok
          refine va_iald hx hb hK hP 10 0 rfl rfl hi_56 d_MO_settle_56 ?_
          refine lv_iconst (v := (1 : Int32)) hx hb d_MO_settle_57 (by decide) ?_
          refine lv_iload_n hx hb d_MO_settle_58 rfl (lv_at hl 4 rfl) ?_
          refine lv_ishl hx hb d_MO_settle_59 ?_
          refine lv_ior hx hb d_MO_settle_60 ?_
          refine lv_goto (tgt := 76) hx hb d_MO_settle_61 (by decide) ?_
          obtain ⟨hi_76, hok⟩ := hok
          refine va_iast hx hb hK hP hD hS 10 0 rfl rfl hi_76 d_MO_settle_76 (fun H locs hP hD hS => ?_)
          have hP : va_P G.1 classes (cM G ad mrf msl mst men mnw mdn mpw mwr mrs mdr mtb mrc mnx mro mit mve mrb mch mva mic mlb mrw (upd mnb x2.toNatClampNeg ((mnb x2.toNatClampNeg) ||| ((1 : Int32) <<< (x3 &&& 31)))) mlk mnk mmd) H := hP
          have hD : va_D A (cM G ad mrf msl mst men mnw mdn mpw mwr mrs mdr mtb mrc mnx mro mit mve mrb mch mva mic mlb mrw (upd mnb x2.toNatClampNeg ((mnb x2.toNatClampNeg) ||| ((1 : Int32) <<< (x3 &&& 31)))) mlk mnk mmd) := hD
          refine lv_aload_n hx hb d_MO_settle_77 rfl (lv_at hl 1 rfl) ?_
          refine va_get (D := G.1) (ci := 6) (C := R_MO) (T := F_MO) (N := 26) hx hb ht in_MO hown hK hP 0 rfl rfl 17 (by decide) (ht _ kf_MO_36) (fun _ h9 => h9) rfl d_MO_settle_78 ?_
          refine lv_iload hx hb d_MO_settle_81 (lv_at hl 0 rfl) ?_
          obtain ⟨hi_83, hok⟩ := hok
          refine va_iald hx hb hK hP 8 0 rfl rfl hi_83 d_MO_settle_83 ?_
          refine lv_if_eq (tgt := 93) hx hb d_MO_settle_84 (by decide) (fun c_84 => ?_) (fun c_84 => ?_)
          · have hres := it_t c_84 hres
            have hok := hok.1 c_84
            refine lv_iload_n hx hb d_MO_settle_93 rfl (lv_at hl 2 rfl) ?_
            refine lv_istore_n (lv' := [(1, .int x1), (4, .int (((8 : Int32) * x2) + x3)), (0, .ref (ad 0)), (2, .int x2), (3, .int x3)]) hx hb d_MO_settle_94 rfl hl (by decide) rfl (fun ls hl => ?_)
            refine lv_iinc (v := x3 + (1 : Int32)) (lv' := [(3, .int (x3 + (1 : Int32))), (1, .int x1), (4, .int (((8 : Int32) * x2) + x3)), (0, .ref (ad 0)), (2, .int x2)]) hx hb d_MO_settle_95 hl (k := 4) rfl rfl (by decide) rfl (fun ls hl => ?_)
            refine lv_goto (tgt := 12) hx hb d_MO_settle_98 (by decide) ?_
            exact ih x1 x2 (x3 + (1 : Int32)) mtb (upd mnb x2.toNatClampNeg ((mnb x2.toNatClampNeg) ||| ((1 : Int32) <<< (x3 &&& 31)))) _ _ _ hok hres hP hD hS (lv_sub hl [3, 1, 4, 0] rfl)
          · have hres := it_f c_84 hres
            have hok := hok.2 c_84
            refine lv_iload_n hx hb d_MO_settle_87 rfl (lv_at hl 2 rfl) ?_
            refine lv_iconst (v := (1 : Int32)) hx hb d_MO_settle_88 (by decide) ?_
            refine lv_iadd hx hb d_MO_settle_89 ?_
            refine lv_goto (tgt := 94) hx hb d_MO_settle_90 (by decide) ?_
            refine lv_istore_n (lv' := [(1, .int (x1 + (1 : Int32))), (4, .int (((8 : Int32) * x2) + x3)), (0, .ref (ad 0)), (2, .int x2), (3, .int x3)]) hx hb d_MO_settle_94 rfl hl (by decide) rfl (fun ls hl => ?_)
            refine lv_iinc (v := x3 + (1 : Int32)) (lv' := [(3, .int (x3 + (1 : Int32))), (1, .int (x1 + (1 : Int32))), (4, .int (((8 : Int32) * x2) + x3)), (0, .ref (ad 0)), (2, .int x2)]) hx hb d_MO_settle_95 hl (k := 4) rfl rfl (by decide) rfl (fun ls hl => ?_)
            refine lv_goto (tgt := 12) hx hb d_MO_settle_98 (by decide) ?_
            exact ih (x1 + (1 : Int32)) x2 (x3 + (1 : Int32)) mtb (upd mnb x2.toNatClampNeg ((mnb x2.toNatClampNeg) ||| ((1 : Int32) <<< (x3 &&& 31)))) _ _ _ hok hres hP hD hS (lv_sub hl [3, 1, 4, 0] rfl)
def f_MO_settle_4 : Nat → Int32 → Int32 → Int32 → (Nat → Int32) → (Nat → Int32) → (Nat → Int32) → Int32 × Int32 × (Nat → Int32)
  | 0, x1, x2, mtb, mic, mlb, mnb => (0, (mtb, mnb))
  | n + 1, x1, x2, mtb, mic, mlb, mnb => if (8 : Int32) ≤ x2 then (if mtb = 0 then (x1, (mtb, mnb)) else (x1 + (1 : Int32), (mtb, mnb))) else f_MO_settle_12 (f_MO_settle_4 n) 1024 x1 x2 (0 : Int32) mtb mic mlb mnb
def ok_MO_settle_4 : Nat → Int32 → Int32 → Int32 → (Nat → Int32) → (Nat → Int32) → (Nat → Int32) → Prop
  | 0, _, _, _, _, _, _ => False
  | n + 1, x1, x2, mtb, mic, mlb, mnb => ((8 : Int32) ≤ x2 → True) ∧ (¬ (8 : Int32) ≤ x2 → ok_MO_settle_12  (ok_MO_settle_4 n) 1024 x1 x2 (0 : Int32) mtb mic mlb mnb)
set_option maxHeartbeats 4000000 in
set_option maxRecDepth 100000 in
theorem w_MO_settle_4 {p : Program} {l : Launch} {e : Env} {s : State} {m : MethodId} {args : Array Value} {below : List Frame} {meth : Method} {c : Code} {A : Nat → Prop} {G : GG} {ad : Nat → Nat} {mrf : Int32} {msl : Int32} {mst : Int32} {men : Int32} {mnw : Int32} {mdn : Int32} {mpw : Int32} {mwr : Int32} {mrs : Int32} {mdr : Int32} {mrc : Int32} {mnx : Int32} {mro : (Nat → Int32)} {mit : (Nat → Int32)} {mve : (Nat → Int32)} {mrb : (Nat → Int32)} {mch : (Nat → Int32)} {mva : (Nat → Int32)} {mic : (Nat → Int32)} {mlb : (Nat → Int32)} {mrw : (Nat → Int32)} {mlk : (Nat → Int32)} {mnk : (Nat → Int32)} {mmd : (Nat → Int32)} {res : Int32 × Int32 × (Nat → Int32)} (hC : Cx p l e s m args meth c y_MO_settle b_MO_settle 5 (some .int) "BookTreesModel" G A) : ∀ (n : Nat) (x1 : Int32) (x2 : Int32) (mtb : Int32) (mnb : (Nat → Int32)) (H : Heap) (locs : List Loc) (ls : Array Slot), ok_MO_settle_4 n x1 x2 mtb mic mlb mnb → f_MO_settle_4 n x1 x2 mtb mic mlb mnb = res → va_P G.1 classes (cM G ad mrf msl mst men mnw mdn mpw mwr mrs mdr mtb mrc mnx mro mit mve mrb mch mva mic mlb mrw mnb mlk mnk mmd) H → va_D A (cM G ad mrf msl mst men mnw mdn mpw mwr mrs mdr mtb mrc mnx mro mit mve mrb mch mva mic mlb mrw mnb mlk mnk mmd) → va_S A s.heap H locs → lv_has ls 5 [(0, .ref (ad 0)), (1, .int x1), (2, .int x2)] → W p l e rm_MO_settle s m args below meth c H locs 0 0 (MQ below (va_Qi (eqP res) (Wb G A (fun u : Int32 × (Nat → Int32) => (cM G ad mrf msl mst men mnw mdn mpw mwr mrs mdr u.1 mrc mnx mro mit mve mrb mch mva mic mlb mrw u.2 mlk mnk mmd))) A) args s 0 0 A) (F0 m 4 ls []) := by
  obtain ⟨hx, hb, hr, hml, hown, hlocks, ht, hK, hA⟩ := id hC
  intro n
  induction n with
  | zero => intro x1 x2 mtb mnb H locs ls hok; exact hok.elim
  | succ n ih =>
    intro x1 x2 mtb mnb H locs ls hok hres hP hD hS hl
    rw [f_MO_settle_4] at hres
    rw [ok_MO_settle_4] at hok
    refine lv_iload_n hx hb d_MO_settle_4 rfl (lv_at hl 2 rfl) ?_
    refine lv_bipush (v := (8 : Int32)) hx hb d_MO_settle_5 (by decide) ?_
    refine lv_icmp_ge (tgt := 166) hx hb d_MO_settle_7 (by decide) (fun c_7 => ?_) (fun c_7 => ?_)
    · have hres := it_t c_7 hres
      refine lv_aload_n hx hb d_MO_settle_166 rfl (lv_at hl 0 rfl) ?_
      refine va_get (D := G.1) (ci := 6) (C := R_MO) (T := F_MO) (N := 26) hx hb ht in_MO hown hK hP 0 rfl rfl 21 (by decide) (ht _ kf_MO_160) (fun _ h9 => h9) rfl d_MO_settle_167 ?_
      refine lv_if_eq (tgt := 179) hx hb d_MO_settle_170 (by decide) (fun c_170 => ?_) (fun c_170 => ?_)
      · have hres := it_t c_170 hres
        refine lv_iload_n hx hb d_MO_settle_179 rfl (lv_at hl 1 rfl) ?_
        exact en_i (w1 := (fun u : Int32 × (Nat → Int32) => (cM G ad mrf msl mst men mnw mdn mpw mwr mrs mdr u.1 mrc mnx mro mit mve mrb mch mva mic mlb mrw u.2 mlk mnk mmd))) (mtb, mnb) hx hb hr hlocks hK hP hD hS hres d_MO_settle_180
      · have hres := it_f c_170 hres
        refine lv_iload_n hx hb d_MO_settle_173 rfl (lv_at hl 1 rfl) ?_
        refine lv_iconst (v := (1 : Int32)) hx hb d_MO_settle_174 (by decide) ?_
        refine lv_iadd hx hb d_MO_settle_175 ?_
        refine lv_goto (tgt := 180) hx hb d_MO_settle_176 (by decide) ?_
        exact en_i (w1 := (fun u : Int32 × (Nat → Int32) => (cM G ad mrf msl mst men mnw mdn mpw mwr mrs mdr u.1 mrc mnx mro mit mve mrb mch mva mic mlb mrw u.2 mlk mnk mmd))) (mtb, mnb) hx hb hr hlocks hK hP hD hS hres d_MO_settle_180
    · have hres := it_f c_7 hres
      have hok := hok.2 c_7
      refine lv_iconst (v := (0 : Int32)) hx hb d_MO_settle_10 (by decide) ?_
      refine lv_istore_n (lv' := [(3, .int (0 : Int32)), (0, .ref (ad 0)), (1, .int x1), (2, .int x2)]) hx hb d_MO_settle_11 rfl hl (by decide) rfl (fun ls hl => ?_)
      exact w_MO_settle_12 hC ih 1024 x1 x2 (0 : Int32) mtb mnb _ _ _ hok hres hP hD hS (lv_sub hl [1, 2, 3, 0] rfl)
def f_MO_settle  (mtb : Int32) (mic : (Nat → Int32)) (mlb : (Nat → Int32)) (mnb : (Nat → Int32)) : Int32 × Int32 × (Nat → Int32) := f_MO_settle_4 1024 (1 : Int32) (0 : Int32) mtb mic mlb mnb
def ok_MO_settle  (mtb : Int32) (mic : (Nat → Int32)) (mlb : (Nat → Int32)) (mnb : (Nat → Int32)) : Prop := ok_MO_settle_4  1024 (1 : Int32) (0 : Int32) mtb mic mlb mnb
set_option maxHeartbeats 4000000 in
set_option maxRecDepth 100000 in
theorem c_MO_settle {l : Launch} {G : GG} {ad : Nat → Nat} {sz : Nat} {mrf : Int32} {msl : Int32} {mst : Int32} {men : Int32} {mnw : Int32} {mdn : Int32} {mpw : Int32} {mwr : Int32} {mrs : Int32} {mdr : Int32} {mtb : Int32} {mrc : Int32} {mnx : Int32} {mro : (Nat → Int32)} {mit : (Nat → Int32)} {mve : (Nat → Int32)} {mrb : (Nat → Int32)} {mch : (Nat → Int32)} {mva : (Nat → Int32)} {mic : (Nat → Int32)} {mlb : (Nat → Int32)} {mrw : (Nat → Int32)} {mnb : (Nat → Int32)} {mlk : (Nat → Int32)} {mnk : (Nat → Int32)} {mmd : (Nat → Int32)}  (hok : ok_MO_settle mtb mic mlb mnb) : CtI l y_MO_settle b_MO_settle 5 (some .int) rm_MO_settle G (cM G ad mrf msl mst men mnw mdn mpw mwr mrs mdr mtb mrc mnx mro mit mve mrb mch mva mic mlb mrw mnb mlk mnk mmd) sz [.ref (ad 0)] (eqP (f_MO_settle mtb mic mlb mnb)) (fun u : Int32 × (Nat → Int32) => (cM G ad mrf msl mst men mnw mdn mpw mwr mrs mdr u.1 mrc mnx mro mit mve mrb mch mva mic mlb mrw u.2 mlk mnk mmd)) := by
  generalize hres : f_MO_settle mtb mic mlb mnb = res
  refine Met_of (Qc := fun A => va_Qi (eqP res) (Wb G A (fun u : Int32 × (Nat → Int32) => (cM G ad mrf msl mst men mnw mdn mpw mwr mrs mdr u.1 mrc mnx mro mit mve mrb mch mva mic mlb mrw u.2 mlk mnk mmd))) A) (by decide) (Nat.le_of_ble_eq_true rfl) ?_
  intro p e s m below meth c hadm hx hb hr hml hown hlocks ht hK A hA hP hD hS ls hl
  have hC : Cx p l e s m (([.ref (ad 0)] : List Value)).toArray meth c y_MO_settle b_MO_settle 5 (some .int) "BookTreesModel" G A := ⟨hx, hb, hr, hml, hown, hlocks, ht, hK, hA⟩
  have hown : s.vm.findClass "BookTreesModel" = some m.cls := hown
  have hl : lv_has ls 5 [(0, .ref (ad 0))] := hl
  rw [f_MO_settle] at hres
  rw [ok_MO_settle] at hok
  refine lv_iconst (v := (1 : Int32)) hx hb d_MO_settle_0 (by decide) ?_
  refine lv_istore_n (lv' := [(1, .int (1 : Int32)), (0, .ref (ad 0))]) hx hb d_MO_settle_1 rfl hl (by decide) rfl (fun ls hl => ?_)
  refine lv_iconst (v := (0 : Int32)) hx hb d_MO_settle_2 (by decide) ?_
  refine lv_istore_n (lv' := [(2, .int (0 : Int32)), (1, .int (1 : Int32)), (0, .ref (ad 0))]) hx hb d_MO_settle_3 rfl hl (by decide) rfl (fun ls hl => ?_)
  exact w_MO_settle_4 hC 1024 (1 : Int32) (0 : Int32) mtb mnb _ _ _ hok hres hP hD hS (lv_sub hl [2, 1, 0] rfl)
/-! ===== BookTreesModel.putNumber(II)V ===== -/
abbrev rm_MO_putNumber : Room := { frames := 0, cells := 0, slots := 0, locals := 0 }
def f_MO_putNumber_2 : Nat → Int32 → Int32 → Int32 → (Nat → Int32) → (Nat → Int32)
  | 0, x1, x2, x3, mmd => mmd
  | n + 1, x1, x2, x3, mmd => if (4 : Int32) ≤ x3 then mmd else f_MO_putNumber_2 n x1 x2 (x3 + (1 : Int32)) (upd mmd (x1 + x3).toNatClampNeg ((x2 >>> (((24 : Int32) - ((8 : Int32) * x3)) &&& 31)) &&& (255 : Int32)))
def ok_MO_putNumber_2 : Nat → Int32 → Int32 → Int32 → (Nat → Int32) → Prop
  | 0, _, _, _, _ => False
  | n + 1, x1, x2, x3, mmd => ((4 : Int32) ≤ x3 → True) ∧ (¬ (4 : Int32) ≤ x3 → vp_in (x1 + x3) 64 ∧ (ok_MO_putNumber_2  n x1 x2 (x3 + (1 : Int32)) (upd mmd (x1 + x3).toNatClampNeg ((x2 >>> (((24 : Int32) - ((8 : Int32) * x3)) &&& 31)) &&& (255 : Int32)))))
set_option maxHeartbeats 4000000 in
set_option maxRecDepth 100000 in
theorem w_MO_putNumber_2 {p : Program} {l : Launch} {e : Env} {s : State} {m : MethodId} {args : Array Value} {below : List Frame} {meth : Method} {c : Code} {A : Nat → Prop} {G : GG} {ad : Nat → Nat} {mrf : Int32} {msl : Int32} {mst : Int32} {men : Int32} {mnw : Int32} {mdn : Int32} {mpw : Int32} {mwr : Int32} {mrs : Int32} {mdr : Int32} {mtb : Int32} {mrc : Int32} {mnx : Int32} {mro : (Nat → Int32)} {mit : (Nat → Int32)} {mve : (Nat → Int32)} {mrb : (Nat → Int32)} {mch : (Nat → Int32)} {mva : (Nat → Int32)} {mic : (Nat → Int32)} {mlb : (Nat → Int32)} {mrw : (Nat → Int32)} {mnb : (Nat → Int32)} {mlk : (Nat → Int32)} {mnk : (Nat → Int32)} {res : (Nat → Int32)} (hC : Cx p l e s m args meth c y_MO_putNumber b_MO_putNumber 4 none "BookTreesModel" G A) : ∀ (n : Nat) (x1 : Int32) (x2 : Int32) (x3 : Int32) (mmd : (Nat → Int32)) (H : Heap) (locs : List Loc) (ls : Array Slot), ok_MO_putNumber_2 n x1 x2 x3 mmd → f_MO_putNumber_2 n x1 x2 x3 mmd = res → va_P G.1 classes (cM G ad mrf msl mst men mnw mdn mpw mwr mrs mdr mtb mrc mnx mro mit mve mrb mch mva mic mlb mrw mnb mlk mnk mmd) H → va_D A (cM G ad mrf msl mst men mnw mdn mpw mwr mrs mdr mtb mrc mnx mro mit mve mrb mch mva mic mlb mrw mnb mlk mnk mmd) → va_S A s.heap H locs → lv_has ls 4 [(0, .ref (ad 0)), (1, .int x1), (2, .int x2), (3, .int x3)] → W p l e rm_MO_putNumber s m args below meth c H locs 0 0 (MQ below (va_Qv (eqV res) (Wb G A (fun u : (Nat → Int32) => (cM G ad mrf msl mst men mnw mdn mpw mwr mrs mdr mtb mrc mnx mro mit mve mrb mch mva mic mlb mrw mnb mlk mnk u))) A) args s 0 0 A) (F0 m 2 ls []) := by
  obtain ⟨hx, hb, hr, hml, hown, hlocks, ht, hK, hA⟩ := id hC
  intro n
  induction n with
  | zero => intro x1 x2 x3 mmd H locs ls hok; exact hok.elim
  | succ n ih =>
    intro x1 x2 x3 mmd H locs ls hok hres hP hD hS hl
    rw [f_MO_putNumber_2] at hres
    rw [ok_MO_putNumber_2] at hok
    refine lv_iload_n hx hb d_MO_putNumber_2 rfl (lv_at hl 3 rfl) ?_
    refine lv_iconst (v := (4 : Int32)) hx hb d_MO_putNumber_3 (by decide) ?_
    refine lv_icmp_ge (tgt := 34) hx hb d_MO_putNumber_4 (by decide) (fun c_4 => ?_) (fun c_4 => ?_)
    · have hres := it_t c_4 hres
      exact en_v (w1 := (fun u : (Nat → Int32) => (cM G ad mrf msl mst men mnw mdn mpw mwr mrs mdr mtb mrc mnx mro mit mve mrb mch mva mic mlb mrw mnb mlk mnk u))) mmd hx hb hr hlocks hK hP hD hS hres d_MO_putNumber_34
    · have hres := it_f c_4 hres
      have hok := hok.2 c_4
      refine lv_aload_n hx hb d_MO_putNumber_7 rfl (lv_at hl 0 rfl) ?_
      refine va_get (D := G.1) (ci := 6) (C := R_MO) (T := F_MO) (N := 26) hx hb ht in_MO hown hK hP 0 rfl rfl 24 (by decide) (ht _ kf_MO_51) (fun _ h9 => h9) rfl d_MO_putNumber_8 ?_
      refine lv_iload_n hx hb d_MO_putNumber_11 rfl (lv_at hl 1 rfl) ?_
      refine lv_iload_n hx hb d_MO_putNumber_12 rfl (lv_at hl 3 rfl) ?_
      refine lv_iadd hx hb d_MO_putNumber_13 ?_
      refine lv_iload_n hx hb d_MO_putNumber_14 rfl (lv_at hl 2 rfl) ?_
      refine lv_bipush (v := (24 : Int32)) hx hb d_MO_putNumber_15 (by decide) ?_
      refine lv_bipush (v := (8 : Int32)) hx hb d_MO_putNumber_17 (by decide) ?_
      refine lv_iload_n hx hb d_MO_putNumber_19 rfl (lv_at hl 3 rfl) ?_
      refine lv_imul hx hb d_MO_putNumber_20 ?_
      refine lv_isub hx hb d_MO_putNumber_21 ?_
      refine lv_ishr hx hb d_MO_putNumber_22 ?_
      refine lv_sipush (v := (255 : Int32)) hx hb d_MO_putNumber_23 (by decide) ?_
      refine lv_iand hx hb d_MO_putNumber_26 ?_
      obtain ⟨hi_27, hok⟩ := hok
      refine va_iast hx hb hK hP hD hS 13 0 rfl rfl hi_27 d_MO_putNumber_27 (fun H locs hP hD hS => ?_)
      have hP : va_P G.1 classes (cM G ad mrf msl mst men mnw mdn mpw mwr mrs mdr mtb mrc mnx mro mit mve mrb mch mva mic mlb mrw mnb mlk mnk (upd mmd (x1 + x3).toNatClampNeg ((x2 >>> (((24 : Int32) - ((8 : Int32) * x3)) &&& 31)) &&& (255 : Int32)))) H := hP
      have hD : va_D A (cM G ad mrf msl mst men mnw mdn mpw mwr mrs mdr mtb mrc mnx mro mit mve mrb mch mva mic mlb mrw mnb mlk mnk (upd mmd (x1 + x3).toNatClampNeg ((x2 >>> (((24 : Int32) - ((8 : Int32) * x3)) &&& 31)) &&& (255 : Int32)))) := hD
      refine lv_iinc (v := x3 + (1 : Int32)) (lv' := [(3, .int (x3 + (1 : Int32))), (0, .ref (ad 0)), (1, .int x1), (2, .int x2)]) hx hb d_MO_putNumber_28 hl (k := 3) rfl rfl (by decide) rfl (fun ls hl => ?_)
      refine lv_goto (tgt := 2) hx hb d_MO_putNumber_31 (by decide) ?_
      exact ih x1 x2 (x3 + (1 : Int32)) (upd mmd (x1 + x3).toNatClampNeg ((x2 >>> (((24 : Int32) - ((8 : Int32) * x3)) &&& 31)) &&& (255 : Int32))) _ _ _ hok hres hP hD hS (lv_sub hl [1, 2, 3, 0] rfl)
def f_MO_putNumber (p0 : Int32) (p1 : Int32) (mmd : (Nat → Int32)) : (Nat → Int32) := f_MO_putNumber_2 1024 p0 p1 (0 : Int32) mmd
def ok_MO_putNumber (p0 : Int32) (p1 : Int32) (mmd : (Nat → Int32)) : Prop := ok_MO_putNumber_2  1024 p0 p1 (0 : Int32) mmd
set_option maxHeartbeats 4000000 in
set_option maxRecDepth 100000 in
theorem c_MO_putNumber {l : Launch} {G : GG} {ad : Nat → Nat} {sz : Nat} {mrf : Int32} {msl : Int32} {mst : Int32} {men : Int32} {mnw : Int32} {mdn : Int32} {mpw : Int32} {mwr : Int32} {mrs : Int32} {mdr : Int32} {mtb : Int32} {mrc : Int32} {mnx : Int32} {mro : (Nat → Int32)} {mit : (Nat → Int32)} {mve : (Nat → Int32)} {mrb : (Nat → Int32)} {mch : (Nat → Int32)} {mva : (Nat → Int32)} {mic : (Nat → Int32)} {mlb : (Nat → Int32)} {mrw : (Nat → Int32)} {mnb : (Nat → Int32)} {mlk : (Nat → Int32)} {mnk : (Nat → Int32)} {mmd : (Nat → Int32)} {p0 : Int32} {p1 : Int32} (hok : ok_MO_putNumber p0 p1 mmd) : CtV l y_MO_putNumber b_MO_putNumber 4 none rm_MO_putNumber G (cM G ad mrf msl mst men mnw mdn mpw mwr mrs mdr mtb mrc mnx mro mit mve mrb mch mva mic mlb mrw mnb mlk mnk mmd) sz [.ref (ad 0), .int p0, .int p1] (eqV (f_MO_putNumber p0 p1 mmd)) (fun u : (Nat → Int32) => (cM G ad mrf msl mst men mnw mdn mpw mwr mrs mdr mtb mrc mnx mro mit mve mrb mch mva mic mlb mrw mnb mlk mnk u)) := by
  generalize hres : f_MO_putNumber p0 p1 mmd = res
  refine Met_of (Qc := fun A => va_Qv (eqV res) (Wb G A (fun u : (Nat → Int32) => (cM G ad mrf msl mst men mnw mdn mpw mwr mrs mdr mtb mrc mnx mro mit mve mrb mch mva mic mlb mrw mnb mlk mnk u))) A) (by decide) (Nat.le_of_ble_eq_true rfl) ?_
  intro p e s m below meth c hadm hx hb hr hml hown hlocks ht hK A hA hP hD hS ls hl
  have hC : Cx p l e s m (([.ref (ad 0), .int p0, .int p1] : List Value)).toArray meth c y_MO_putNumber b_MO_putNumber 4 none "BookTreesModel" G A := ⟨hx, hb, hr, hml, hown, hlocks, ht, hK, hA⟩
  have hown : s.vm.findClass "BookTreesModel" = some m.cls := hown
  have hl : lv_has ls 4 [(0, .ref (ad 0)), (1, .int p0), (2, .int p1)] := hl
  rw [f_MO_putNumber] at hres
  rw [ok_MO_putNumber] at hok
  refine lv_iconst (v := (0 : Int32)) hx hb d_MO_putNumber_0 (by decide) ?_
  refine lv_istore_n (lv' := [(3, .int (0 : Int32)), (0, .ref (ad 0)), (1, .int p0), (2, .int p1)]) hx hb d_MO_putNumber_1 rfl hl (by decide) rfl (fun ls hl => ?_)
  exact w_MO_putNumber_2 hC 1024 p0 p1 (0 : Int32) mmd _ _ _ hok hres hP hD hS (lv_sub hl [1, 2, 3, 0] rfl)
/-! ===== BookTreesModel.begin(II)V ===== -/
abbrev rm_MO_begin : Room := { frames := 1, cells := 0, slots := 0, locals := 23 }
def f_MO_begin_2 : Nat → Int32 → Int32 → Int32 → Int32 → Int32 → (Nat → Int32) → (Nat → Int32)
  | 0, x1, x2, x3, mnw, mnx, mmd => mmd
  | n + 1, x1, x2, x3, mnw, mnx, mmd => if (64 : Int32) ≤ x3 then bindc (f_MO_putNumber (4 : Int32) (mnw + (1 : Int32)) (upd (upd mmd (0 : Int32).toNatClampNeg x1) (1 : Int32).toNatClampNeg x2)) (fun z_43 => bindc (f_MO_putNumber (40 : Int32) mnx z_43) (fun z_53 => z_53)) else f_MO_begin_2 n x1 x2 (x3 + (1 : Int32)) mnw mnx (upd mmd x3.toNatClampNeg (0 : Int32))
def ok_MO_begin_2 : Nat → Int32 → Int32 → Int32 → Int32 → Int32 → (Nat → Int32) → Prop
  | 0, _, _, _, _, _, _ => False
  | n + 1, x1, x2, x3, mnw, mnx, mmd => ((64 : Int32) ≤ x3 → vp_in (0 : Int32) 64 ∧ (vp_in (1 : Int32) 64 ∧ (ok_MO_putNumber (4 : Int32) (mnw + (1 : Int32)) (upd (upd mmd (0 : Int32).toNatClampNeg x1) (1 : Int32).toNatClampNeg x2) ∧ bindp (f_MO_putNumber (4 : Int32) (mnw + (1 : Int32)) (upd (upd mmd (0 : Int32).toNatClampNeg x1) (1 : Int32).toNatClampNeg x2)) (fun z_43 => ok_MO_putNumber (40 : Int32) mnx z_43)))) ∧ (¬ (64 : Int32) ≤ x3 → vp_in x3 64 ∧ (ok_MO_begin_2  n x1 x2 (x3 + (1 : Int32)) mnw mnx (upd mmd x3.toNatClampNeg (0 : Int32))))
set_option maxHeartbeats 4000000 in
set_option maxRecDepth 100000 in
theorem w_MO_begin_2 {p : Program} {l : Launch} {e : Env} {s : State} {m : MethodId} {args : Array Value} {below : List Frame} {meth : Method} {c : Code} {A : Nat → Prop} {G : GG} {ad : Nat → Nat} {mrf : Int32} {msl : Int32} {mst : Int32} {men : Int32} {mnw : Int32} {mdn : Int32} {mpw : Int32} {mwr : Int32} {mrs : Int32} {mdr : Int32} {mtb : Int32} {mrc : Int32} {mnx : Int32} {mro : (Nat → Int32)} {mit : (Nat → Int32)} {mve : (Nat → Int32)} {mrb : (Nat → Int32)} {mch : (Nat → Int32)} {mva : (Nat → Int32)} {mic : (Nat → Int32)} {mlb : (Nat → Int32)} {mrw : (Nat → Int32)} {mnb : (Nat → Int32)} {mlk : (Nat → Int32)} {mnk : (Nat → Int32)} {res : (Nat → Int32)} (hC : Cx p l e s m args meth c y_MO_begin b_MO_begin 4 none "BookTreesModel" G A) : ∀ (n : Nat) (x1 : Int32) (x2 : Int32) (x3 : Int32) (mmd : (Nat → Int32)) (H : Heap) (locs : List Loc) (ls : Array Slot), ok_MO_begin_2 n x1 x2 x3 mnw mnx mmd → f_MO_begin_2 n x1 x2 x3 mnw mnx mmd = res → va_P G.1 classes (cM G ad mrf msl mst men mnw mdn mpw mwr mrs mdr mtb mrc mnx mro mit mve mrb mch mva mic mlb mrw mnb mlk mnk mmd) H → va_D A (cM G ad mrf msl mst men mnw mdn mpw mwr mrs mdr mtb mrc mnx mro mit mve mrb mch mva mic mlb mrw mnb mlk mnk mmd) → va_S A s.heap H locs → lv_has ls 4 [(0, .ref (ad 0)), (1, .int x1), (2, .int x2), (3, .int x3)] → W p l e rm_MO_begin s m args below meth c H locs 0 0 (MQ below (va_Qv (eqV res) (Wb G A (fun u : (Nat → Int32) => (cM G ad mrf msl mst men mnw mdn mpw mwr mrs mdr mtb mrc mnx mro mit mve mrb mch mva mic mlb mrw mnb mlk mnk u))) A) args s 0 0 A) (F0 m 2 ls []) := by
  obtain ⟨hx, hb, hr, hml, hown, hlocks, ht, hK, hA⟩ := id hC
  intro n
  induction n with
  | zero => intro x1 x2 x3 mmd H locs ls hok; exact hok.elim
  | succ n ih =>
    intro x1 x2 x3 mmd H locs ls hok hres hP hD hS hl
    rw [f_MO_begin_2] at hres
    rw [ok_MO_begin_2] at hok
    refine lv_iload_n hx hb d_MO_begin_2 rfl (lv_at hl 3 rfl) ?_
    refine lv_bipush (v := (64 : Int32)) hx hb d_MO_begin_3 (by decide) ?_
    refine lv_icmp_ge (tgt := 21) hx hb d_MO_begin_5 (by decide) (fun c_5 => ?_) (fun c_5 => ?_)
    · have hres := it_t c_5 hres
      have hok := hok.1 c_5
      refine lv_aload_n hx hb d_MO_begin_21 rfl (lv_at hl 0 rfl) ?_
      refine va_get (D := G.1) (ci := 6) (C := R_MO) (T := F_MO) (N := 26) hx hb ht in_MO hown hK hP 0 rfl rfl 24 (by decide) (ht _ kf_MO_51) (fun _ h9 => h9) rfl d_MO_begin_22 ?_
      refine lv_iconst (v := (0 : Int32)) hx hb d_MO_begin_25 (by decide) ?_
      refine lv_iload_n hx hb d_MO_begin_26 rfl (lv_at hl 1 rfl) ?_
      obtain ⟨hi_27, hok⟩ := hok
      refine va_iast hx hb hK hP hD hS 13 0 rfl rfl hi_27 d_MO_begin_27 (fun H locs hP hD hS => ?_)
      have hP : va_P G.1 classes (cM G ad mrf msl mst men mnw mdn mpw mwr mrs mdr mtb mrc mnx mro mit mve mrb mch mva mic mlb mrw mnb mlk mnk (upd mmd (0 : Int32).toNatClampNeg x1)) H := hP
      have hD : va_D A (cM G ad mrf msl mst men mnw mdn mpw mwr mrs mdr mtb mrc mnx mro mit mve mrb mch mva mic mlb mrw mnb mlk mnk (upd mmd (0 : Int32).toNatClampNeg x1)) := hD
      refine lv_aload_n hx hb d_MO_begin_28 rfl (lv_at hl 0 rfl) ?_
      refine va_get (D := G.1) (ci := 6) (C := R_MO) (T := F_MO) (N := 26) hx hb ht in_MO hown hK hP 0 rfl rfl 24 (by decide) (ht _ kf_MO_51) (fun _ h9 => h9) rfl d_MO_begin_29 ?_
      refine lv_iconst (v := (1 : Int32)) hx hb d_MO_begin_32 (by decide) ?_
      refine lv_iload_n hx hb d_MO_begin_33 rfl (lv_at hl 2 rfl) ?_
      obtain ⟨hi_34, hok⟩ := hok
      refine va_iast hx hb hK hP hD hS 13 0 rfl rfl hi_34 d_MO_begin_34 (fun H locs hP hD hS => ?_)
      have hP : va_P G.1 classes (cM G ad mrf msl mst men mnw mdn mpw mwr mrs mdr mtb mrc mnx mro mit mve mrb mch mva mic mlb mrw mnb mlk mnk (upd (upd mmd (0 : Int32).toNatClampNeg x1) (1 : Int32).toNatClampNeg x2)) H := hP
      have hD : va_D A (cM G ad mrf msl mst men mnw mdn mpw mwr mrs mdr mtb mrc mnx mro mit mve mrb mch mva mic mlb mrw mnb mlk mnk (upd (upd mmd (0 : Int32).toNatClampNeg x1) (1 : Int32).toNatClampNeg x2)) := hD
      refine lv_aload_n hx hb d_MO_begin_35 rfl (lv_at hl 0 rfl) ?_
      refine lv_iconst (v := (4 : Int32)) hx hb d_MO_begin_36 (by decide) ?_
      refine lv_aload_n hx hb d_MO_begin_37 rfl (lv_at hl 0 rfl) ?_
      refine va_get (D := G.1) (ci := 6) (C := R_MO) (T := F_MO) (N := 26) hx hb ht in_MO hown hK hP 0 rfl rfl 6 (by decide) (ht _ kf_MO_137) (fun _ h9 => h9) rfl d_MO_begin_38 ?_
      refine lv_iconst (v := (1 : Int32)) hx hb d_MO_begin_41 (by decide) ?_
      refine lv_iadd hx hb d_MO_begin_42 ?_
      obtain ⟨hk_43, hok⟩ := hok
      refine go_vz (run_V hx hb hml hown ht hK hP hD (c_MO_putNumber hk_43) (cw_V ht km_MO_150 ki_MO_putNumber ks_MO_putNumber ini_MO kd_MO_putNumber kh_MO_putNumber ⟨Nat.le_of_ble_eq_true rfl, Nat.le_of_ble_eq_true rfl⟩ rfl rfl) (q0 := 0) (ci := 6) (As := [.int (4 : Int32), .int (mnw + (1 : Int32))]) (rest := []) rfl rfl rfl hl.1 rfl (Nat.le_of_ble_eq_true rfl) d_MO_begin_43 ⟨Nat.zero_le _, Nat.zero_le _⟩) hD hS hA (fun z_43 H locs hz_43 hP hD hS => ?_)
      have hres := bindc_eq hz_43 hres
      have hok := bindp_eq hz_43 hok
      have hP : va_P G.1 classes (cM G ad mrf msl mst men mnw mdn mpw mwr mrs mdr mtb mrc mnx mro mit mve mrb mch mva mic mlb mrw mnb mlk mnk z_43) H := hP
      have hD : va_D A (cM G ad mrf msl mst men mnw mdn mpw mwr mrs mdr mtb mrc mnx mro mit mve mrb mch mva mic mlb mrw mnb mlk mnk z_43) := hD
      refine lv_aload_n hx hb d_MO_begin_46 rfl (lv_at hl 0 rfl) ?_
      refine lv_bipush (v := (40 : Int32)) hx hb d_MO_begin_47 (by decide) ?_
      refine lv_aload_n hx hb d_MO_begin_49 rfl (lv_at hl 0 rfl) ?_
      refine va_get (D := G.1) (ci := 6) (C := R_MO) (T := F_MO) (N := 26) hx hb ht in_MO hown hK hP 0 rfl rfl 25 (by decide) (ht _ kf_MO_154) (fun _ h9 => h9) rfl d_MO_begin_50 ?_
      have hk_53 := hok
      refine go_vz (run_V hx hb hml hown ht hK hP hD (c_MO_putNumber hk_53) (cw_V ht km_MO_150 ki_MO_putNumber ks_MO_putNumber ini_MO kd_MO_putNumber kh_MO_putNumber ⟨Nat.le_of_ble_eq_true rfl, Nat.le_of_ble_eq_true rfl⟩ rfl rfl) (q0 := 0) (ci := 6) (As := [.int (40 : Int32), .int mnx]) (rest := []) rfl rfl rfl hl.1 rfl (Nat.le_of_ble_eq_true rfl) d_MO_begin_53 ⟨Nat.zero_le _, Nat.zero_le _⟩) hD hS hA (fun z_53 H locs hz_53 hP hD hS => ?_)
      have hres := bindc_eq hz_53 hres
      have hP : va_P G.1 classes (cM G ad mrf msl mst men mnw mdn mpw mwr mrs mdr mtb mrc mnx mro mit mve mrb mch mva mic mlb mrw mnb mlk mnk z_53) H := hP
      have hD : va_D A (cM G ad mrf msl mst men mnw mdn mpw mwr mrs mdr mtb mrc mnx mro mit mve mrb mch mva mic mlb mrw mnb mlk mnk z_53) := hD
      exact en_v (w1 := (fun u : (Nat → Int32) => (cM G ad mrf msl mst men mnw mdn mpw mwr mrs mdr mtb mrc mnx mro mit mve mrb mch mva mic mlb mrw mnb mlk mnk u))) z_53 hx hb hr hlocks hK hP hD hS hres d_MO_begin_56
    · have hres := it_f c_5 hres
      have hok := hok.2 c_5
      refine lv_aload_n hx hb d_MO_begin_8 rfl (lv_at hl 0 rfl) ?_
      refine va_get (D := G.1) (ci := 6) (C := R_MO) (T := F_MO) (N := 26) hx hb ht in_MO hown hK hP 0 rfl rfl 24 (by decide) (ht _ kf_MO_51) (fun _ h9 => h9) rfl d_MO_begin_9 ?_
      refine lv_iload_n hx hb d_MO_begin_12 rfl (lv_at hl 3 rfl) ?_
      refine lv_iconst (v := (0 : Int32)) hx hb d_MO_begin_13 (by decide) ?_
      obtain ⟨hi_14, hok⟩ := hok
      refine va_iast hx hb hK hP hD hS 13 0 rfl rfl hi_14 d_MO_begin_14 (fun H locs hP hD hS => ?_)
      have hP : va_P G.1 classes (cM G ad mrf msl mst men mnw mdn mpw mwr mrs mdr mtb mrc mnx mro mit mve mrb mch mva mic mlb mrw mnb mlk mnk (upd mmd x3.toNatClampNeg (0 : Int32))) H := hP
      have hD : va_D A (cM G ad mrf msl mst men mnw mdn mpw mwr mrs mdr mtb mrc mnx mro mit mve mrb mch mva mic mlb mrw mnb mlk mnk (upd mmd x3.toNatClampNeg (0 : Int32))) := hD
      refine lv_iinc (v := x3 + (1 : Int32)) (lv' := [(3, .int (x3 + (1 : Int32))), (0, .ref (ad 0)), (1, .int x1), (2, .int x2)]) hx hb d_MO_begin_15 hl (k := 3) rfl rfl (by decide) rfl (fun ls hl => ?_)
      refine lv_goto (tgt := 2) hx hb d_MO_begin_18 (by decide) ?_
      exact ih x1 x2 (x3 + (1 : Int32)) (upd mmd x3.toNatClampNeg (0 : Int32)) _ _ _ hok hres hP hD hS (lv_sub hl [1, 2, 3, 0] rfl)
def f_MO_begin (p0 : Int32) (p1 : Int32) (mnw : Int32) (mnx : Int32) (mmd : (Nat → Int32)) : (Nat → Int32) := f_MO_begin_2 1024 p0 p1 (0 : Int32) mnw mnx mmd
def ok_MO_begin (p0 : Int32) (p1 : Int32) (mnw : Int32) (mnx : Int32) (mmd : (Nat → Int32)) : Prop := ok_MO_begin_2  1024 p0 p1 (0 : Int32) mnw mnx mmd
set_option maxHeartbeats 4000000 in
set_option maxRecDepth 100000 in
theorem c_MO_begin {l : Launch} {G : GG} {ad : Nat → Nat} {sz : Nat} {mrf : Int32} {msl : Int32} {mst : Int32} {men : Int32} {mnw : Int32} {mdn : Int32} {mpw : Int32} {mwr : Int32} {mrs : Int32} {mdr : Int32} {mtb : Int32} {mrc : Int32} {mnx : Int32} {mro : (Nat → Int32)} {mit : (Nat → Int32)} {mve : (Nat → Int32)} {mrb : (Nat → Int32)} {mch : (Nat → Int32)} {mva : (Nat → Int32)} {mic : (Nat → Int32)} {mlb : (Nat → Int32)} {mrw : (Nat → Int32)} {mnb : (Nat → Int32)} {mlk : (Nat → Int32)} {mnk : (Nat → Int32)} {mmd : (Nat → Int32)} {p0 : Int32} {p1 : Int32} (hok : ok_MO_begin p0 p1 mnw mnx mmd) : CtV l y_MO_begin b_MO_begin 4 none rm_MO_begin G (cM G ad mrf msl mst men mnw mdn mpw mwr mrs mdr mtb mrc mnx mro mit mve mrb mch mva mic mlb mrw mnb mlk mnk mmd) sz [.ref (ad 0), .int p0, .int p1] (eqV (f_MO_begin p0 p1 mnw mnx mmd)) (fun u : (Nat → Int32) => (cM G ad mrf msl mst men mnw mdn mpw mwr mrs mdr mtb mrc mnx mro mit mve mrb mch mva mic mlb mrw mnb mlk mnk u)) := by
  generalize hres : f_MO_begin p0 p1 mnw mnx mmd = res
  refine Met_of (Qc := fun A => va_Qv (eqV res) (Wb G A (fun u : (Nat → Int32) => (cM G ad mrf msl mst men mnw mdn mpw mwr mrs mdr mtb mrc mnx mro mit mve mrb mch mva mic mlb mrw mnb mlk mnk u))) A) (by decide) (Nat.le_of_ble_eq_true rfl) ?_
  intro p e s m below meth c hadm hx hb hr hml hown hlocks ht hK A hA hP hD hS ls hl
  have hC : Cx p l e s m (([.ref (ad 0), .int p0, .int p1] : List Value)).toArray meth c y_MO_begin b_MO_begin 4 none "BookTreesModel" G A := ⟨hx, hb, hr, hml, hown, hlocks, ht, hK, hA⟩
  have hown : s.vm.findClass "BookTreesModel" = some m.cls := hown
  have hl : lv_has ls 4 [(0, .ref (ad 0)), (1, .int p0), (2, .int p1)] := hl
  rw [f_MO_begin] at hres
  rw [ok_MO_begin] at hok
  refine lv_iconst (v := (0 : Int32)) hx hb d_MO_begin_0 (by decide) ?_
  refine lv_istore_n (lv' := [(3, .int (0 : Int32)), (0, .ref (ad 0)), (1, .int p0), (2, .int p1)]) hx hb d_MO_begin_1 rfl hl (by decide) rfl (fun ls hl => ?_)
  exact w_MO_begin_2 hC 1024 p0 p1 (0 : Int32) mmd _ _ _ hok hres hP hD hS (lv_sub hl [1, 2, 3, 0] rfl)
/-! ===== BookTreesModel.write(II)Z ===== -/
abbrev rm_MO_write : Room := { frames := 0, cells := 0, slots := 0, locals := 0 }
def f_MO_write_38 (y1 : Int32) (mdn : Int32) (mpw : Int32) (mwr : Int32) (mro : (Nat → Int32)) : Int32 × Int32 × Int32 × Int32 × (Nat → Int32) := if y1 = 0 then (if (1 : Int32) = 0 then ((1 : Int32), ((1 : Int32), y1, mwr, mro)) else ((0 : Int32), ((1 : Int32), y1, mwr, mro))) else if (0 : Int32) = 0 then ((1 : Int32), ((0 : Int32), y1, mwr, mro)) else ((0 : Int32), ((0 : Int32), y1, mwr, mro))
def ok_MO_write_38 (y1 : Int32) (mdn : Int32) (mpw : Int32) (mwr : Int32) (mro : (Nat → Int32)) : Prop := True
set_option maxHeartbeats 4000000 in
set_option maxRecDepth 100000 in
theorem w_MO_write_38 {p : Program} {l : Launch} {e : Env} {s : State} {m : MethodId} {args : Array Value} {below : List Frame} {meth : Method} {c : Code} {A : Nat → Prop} {G : GG} {ad : Nat → Nat} {mrf : Int32} {msl : Int32} {mst : Int32} {men : Int32} {mnw : Int32} {mrs : Int32} {mdr : Int32} {mtb : Int32} {mrc : Int32} {mnx : Int32} {mit : (Nat → Int32)} {mve : (Nat → Int32)} {mrb : (Nat → Int32)} {mch : (Nat → Int32)} {mva : (Nat → Int32)} {mic : (Nat → Int32)} {mlb : (Nat → Int32)} {mrw : (Nat → Int32)} {mnb : (Nat → Int32)} {mlk : (Nat → Int32)} {mnk : (Nat → Int32)} {mmd : (Nat → Int32)} {res : Int32 × Int32 × Int32 × Int32 × (Nat → Int32)} (hC : Cx p l e s m args meth c y_MO_write b_MO_write 3 (some .boolean) "BookTreesModel" G A) : ∀ (y1 : Int32) (mdn : Int32) (mpw : Int32) (mwr : Int32) (mro : (Nat → Int32)) (H : Heap) (locs : List Loc) (ls : Array Slot), ok_MO_write_38 y1 mdn mpw mwr mro → f_MO_write_38 y1 mdn mpw mwr mro = res → va_P G.1 classes (cM G ad mrf msl mst men mnw mdn mpw mwr mrs mdr mtb mrc mnx mro mit mve mrb mch mva mic mlb mrw mnb mlk mnk mmd) H → va_D A (cM G ad mrf msl mst men mnw mdn mpw mwr mrs mdr mtb mrc mnx mro mit mve mrb mch mva mic mlb mrw mnb mlk mnk mmd) → va_S A s.heap H locs → lv_has ls 3 [(0, .ref (ad 0))] → W p l e rm_MO_write s m args below meth c H locs 0 0 (MQ below (va_Qi (eqP res) (Wb G A (fun u : Int32 × Int32 × Int32 × (Nat → Int32) => (cM G ad mrf msl mst men mnw u.1 u.2.1 u.2.2.1 mrs mdr mtb mrc mnx u.2.2.2 mit mve mrb mch mva mic mlb mrw mnb mlk mnk mmd))) A) args s 0 0 A) (F0 m 38 ls [.int y1, .ref (ad 0)]) := by
  obtain ⟨hx, hb, hr, hml, hown, hlocks, ht, hK, hA⟩ := id hC
  intro y1 mdn mpw mwr mro H locs ls hok hres hP hD hS hl
  rw [f_MO_write_38] at hres
  rw [ok_MO_write_38] at hok
  refine va_put (D := G.1) (ci := 6) (v := .int y1) (ty := .int) (C := R_MO) (T := F_MO) (N := 26) hx hb ht in_MO t_MO to_MO nm_MO hown hK hP hD hS 0 rfl rfl 8 (by decide) (ht _ kf_MO_17) (fun _ h9 => h9) rfl (to_MO 8 (by decide)) rfl rfl (Nat.le_of_ble_eq_true rfl) d_MO_write_38 (fun H locs hP hD hS => ?_)
  have hP : va_P G.1 classes (cM G ad mrf msl mst men mnw mdn y1 mwr mrs mdr mtb mrc mnx mro mit mve mrb mch mva mic mlb mrw mnb mlk mnk mmd) H := hP
  have hD : va_D A (cM G ad mrf msl mst men mnw mdn y1 mwr mrs mdr mtb mrc mnx mro mit mve mrb mch mva mic mlb mrw mnb mlk mnk mmd) := hD
  refine lv_aload_n hx hb d_MO_write_41 rfl (lv_at hl 0 rfl) ?_
  refine lv_aload_n hx hb d_MO_write_42 rfl (lv_at hl 0 rfl) ?_
  refine va_get (D := G.1) (ci := 6) (C := R_MO) (T := F_MO) (N := 26) hx hb ht in_MO hown hK hP 0 rfl rfl 8 (by decide) (ht _ kf_MO_17) (fun _ h9 => h9) rfl d_MO_write_43 ?_
  refine lv_if_ne (tgt := 53) hx hb d_MO_write_46 (by decide) (fun c_46 => ?_) (fun c_46 => ?_)
  · have hres := it_f c_46 hres
    refine lv_iconst (v := (0 : Int32)) hx hb d_MO_write_53 (by decide) ?_
    refine va_put (D := G.1) (ci := 6) (v := .int (0 : Int32)) (ty := .boolean) (C := R_MO) (T := F_MO) (N := 26) hx hb ht in_MO t_MO to_MO nm_MO hown hK hP hD hS 0 rfl rfl 7 (by decide) (ht _ kf_MO_60) (fun _ h9 => h9) rfl (to_MO 7 (by decide)) rfl rfl (Nat.le_of_ble_eq_true rfl) d_MO_write_54 (fun H locs hP hD hS => ?_)
    have hP : va_P G.1 classes (cM G ad mrf msl mst men mnw (0 : Int32) y1 mwr mrs mdr mtb mrc mnx mro mit mve mrb mch mva mic mlb mrw mnb mlk mnk mmd) H := hP
    have hD : va_D A (cM G ad mrf msl mst men mnw (0 : Int32) y1 mwr mrs mdr mtb mrc mnx mro mit mve mrb mch mva mic mlb mrw mnb mlk mnk mmd) := hD
    refine lv_aload_n hx hb d_MO_write_57 rfl (lv_at hl 0 rfl) ?_
    refine va_get (D := G.1) (ci := 6) (C := R_MO) (T := F_MO) (N := 26) hx hb ht in_MO hown hK hP 0 rfl rfl 7 (by decide) (ht _ kf_MO_60) (fun _ h9 => h9) rfl d_MO_write_58 ?_
    refine lv_if_ne (tgt := 68) hx hb d_MO_write_61 (by decide) (fun c_61 => ?_) (fun c_61 => ?_)
    · have hres := it_f c_61 hres
      refine lv_iconst (v := (0 : Int32)) hx hb d_MO_write_68 (by decide) ?_
      exact en_z (w1 := (fun u : Int32 × Int32 × Int32 × (Nat → Int32) => (cM G ad mrf msl mst men mnw u.1 u.2.1 u.2.2.1 mrs mdr mtb mrc mnx u.2.2.2 mit mve mrb mch mva mic mlb mrw mnb mlk mnk mmd))) ((0 : Int32), y1, mwr, mro) hx hb hr hlocks hK hP hD hS hres isB_0 d_MO_write_69
    · have hres := it_t c_61 hres
      refine lv_iconst (v := (1 : Int32)) hx hb d_MO_write_64 (by decide) ?_
      refine lv_goto (tgt := 69) hx hb d_MO_write_65 (by decide) ?_
      exact en_z (w1 := (fun u : Int32 × Int32 × Int32 × (Nat → Int32) => (cM G ad mrf msl mst men mnw u.1 u.2.1 u.2.2.1 mrs mdr mtb mrc mnx u.2.2.2 mit mve mrb mch mva mic mlb mrw mnb mlk mnk mmd))) ((0 : Int32), y1, mwr, mro) hx hb hr hlocks hK hP hD hS hres isB_1 d_MO_write_69
  · have hres := it_t c_46 hres
    refine lv_iconst (v := (1 : Int32)) hx hb d_MO_write_49 (by decide) ?_
    refine lv_goto (tgt := 54) hx hb d_MO_write_50 (by decide) ?_
    refine va_put (D := G.1) (ci := 6) (v := .int (1 : Int32)) (ty := .boolean) (C := R_MO) (T := F_MO) (N := 26) hx hb ht in_MO t_MO to_MO nm_MO hown hK hP hD hS 0 rfl rfl 7 (by decide) (ht _ kf_MO_60) (fun _ h9 => h9) rfl (to_MO 7 (by decide)) rfl rfl (Nat.le_of_ble_eq_true rfl) d_MO_write_54 (fun H locs hP hD hS => ?_)
    have hP : va_P G.1 classes (cM G ad mrf msl mst men mnw (1 : Int32) y1 mwr mrs mdr mtb mrc mnx mro mit mve mrb mch mva mic mlb mrw mnb mlk mnk mmd) H := hP
    have hD : va_D A (cM G ad mrf msl mst men mnw (1 : Int32) y1 mwr mrs mdr mtb mrc mnx mro mit mve mrb mch mva mic mlb mrw mnb mlk mnk mmd) := hD
    refine lv_aload_n hx hb d_MO_write_57 rfl (lv_at hl 0 rfl) ?_
    refine va_get (D := G.1) (ci := 6) (C := R_MO) (T := F_MO) (N := 26) hx hb ht in_MO hown hK hP 0 rfl rfl 7 (by decide) (ht _ kf_MO_60) (fun _ h9 => h9) rfl d_MO_write_58 ?_
    refine lv_if_ne (tgt := 68) hx hb d_MO_write_61 (by decide) (fun c_61 => ?_) (fun c_61 => ?_)
    · have hres := it_f c_61 hres
      refine lv_iconst (v := (0 : Int32)) hx hb d_MO_write_68 (by decide) ?_
      exact en_z (w1 := (fun u : Int32 × Int32 × Int32 × (Nat → Int32) => (cM G ad mrf msl mst men mnw u.1 u.2.1 u.2.2.1 mrs mdr mtb mrc mnx u.2.2.2 mit mve mrb mch mva mic mlb mrw mnb mlk mnk mmd))) ((1 : Int32), y1, mwr, mro) hx hb hr hlocks hK hP hD hS hres isB_0 d_MO_write_69
    · have hres := it_t c_61 hres
      refine lv_iconst (v := (1 : Int32)) hx hb d_MO_write_64 (by decide) ?_
      refine lv_goto (tgt := 69) hx hb d_MO_write_65 (by decide) ?_
      exact en_z (w1 := (fun u : Int32 × Int32 × Int32 × (Nat → Int32) => (cM G ad mrf msl mst men mnw u.1 u.2.1 u.2.2.1 mrs mdr mtb mrc mnx u.2.2.2 mit mve mrb mch mva mic mlb mrw mnb mlk mnk mmd))) ((1 : Int32), y1, mwr, mro) hx hb hr hlocks hK hP hD hS hres isB_1 d_MO_write_69
def f_MO_write (p0 : Int32) (p1 : Int32) (mdn : Int32) (mpw : Int32) (mwr : Int32) (mro : (Nat → Int32)) : Int32 × Int32 × Int32 × Int32 × (Nat → Int32) := if mpw ≤ 0 then f_MO_write_38 mpw mdn mpw (mwr + (1 : Int32)) (upd mro p0.toNatClampNeg p1) else f_MO_write_38 (mpw - (1 : Int32)) mdn mpw (mwr + (1 : Int32)) (upd mro p0.toNatClampNeg p1)
def ok_MO_write (p0 : Int32) (p1 : Int32) (mdn : Int32) (mpw : Int32) (mwr : Int32) (mro : (Nat → Int32)) : Prop := vp_in p0 12800 ∧ ((mpw ≤ 0 → ok_MO_write_38  mpw mdn mpw (mwr + (1 : Int32)) (upd mro p0.toNatClampNeg p1)) ∧ (¬ mpw ≤ 0 → ok_MO_write_38  (mpw - (1 : Int32)) mdn mpw (mwr + (1 : Int32)) (upd mro p0.toNatClampNeg p1)))
set_option maxHeartbeats 4000000 in
set_option maxRecDepth 100000 in
theorem c_MO_write {l : Launch} {G : GG} {ad : Nat → Nat} {sz : Nat} {mrf : Int32} {msl : Int32} {mst : Int32} {men : Int32} {mnw : Int32} {mdn : Int32} {mpw : Int32} {mwr : Int32} {mrs : Int32} {mdr : Int32} {mtb : Int32} {mrc : Int32} {mnx : Int32} {mro : (Nat → Int32)} {mit : (Nat → Int32)} {mve : (Nat → Int32)} {mrb : (Nat → Int32)} {mch : (Nat → Int32)} {mva : (Nat → Int32)} {mic : (Nat → Int32)} {mlb : (Nat → Int32)} {mrw : (Nat → Int32)} {mnb : (Nat → Int32)} {mlk : (Nat → Int32)} {mnk : (Nat → Int32)} {mmd : (Nat → Int32)} {p0 : Int32} {p1 : Int32} (hok : ok_MO_write p0 p1 mdn mpw mwr mro) : CtI l y_MO_write b_MO_write 3 (some .boolean) rm_MO_write G (cM G ad mrf msl mst men mnw mdn mpw mwr mrs mdr mtb mrc mnx mro mit mve mrb mch mva mic mlb mrw mnb mlk mnk mmd) sz [.ref (ad 0), .int p0, .int p1] (eqP (f_MO_write p0 p1 mdn mpw mwr mro)) (fun u : Int32 × Int32 × Int32 × (Nat → Int32) => (cM G ad mrf msl mst men mnw u.1 u.2.1 u.2.2.1 mrs mdr mtb mrc mnx u.2.2.2 mit mve mrb mch mva mic mlb mrw mnb mlk mnk mmd)) := by
  generalize hres : f_MO_write p0 p1 mdn mpw mwr mro = res
  refine Met_of (Qc := fun A => va_Qi (eqP res) (Wb G A (fun u : Int32 × Int32 × Int32 × (Nat → Int32) => (cM G ad mrf msl mst men mnw u.1 u.2.1 u.2.2.1 mrs mdr mtb mrc mnx u.2.2.2 mit mve mrb mch mva mic mlb mrw mnb mlk mnk mmd))) A) (by decide) (Nat.le_of_ble_eq_true rfl) ?_
  intro p e s m below meth c hadm hx hb hr hml hown hlocks ht hK A hA hP hD hS ls hl
  have hC : Cx p l e s m (([.ref (ad 0), .int p0, .int p1] : List Value)).toArray meth c y_MO_write b_MO_write 3 (some .boolean) "BookTreesModel" G A := ⟨hx, hb, hr, hml, hown, hlocks, ht, hK, hA⟩
  have hown : s.vm.findClass "BookTreesModel" = some m.cls := hown
  have hl : lv_has ls 3 [(0, .ref (ad 0)), (1, .int p0), (2, .int p1)] := hl
  rw [f_MO_write] at hres
  rw [ok_MO_write] at hok
  refine lv_aload_n hx hb d_MO_write_0 rfl (lv_at hl 0 rfl) ?_
  refine va_get (D := G.1) (ci := 6) (C := R_MO) (T := F_MO) (N := 26) hx hb ht in_MO hown hK hP 0 rfl rfl 2 (by decide) (ht _ kf_MO_7) (fun _ h9 => h9) rfl d_MO_write_1 ?_
  refine lv_iload_n hx hb d_MO_write_4 rfl (lv_at hl 1 rfl) ?_
  refine lv_iload_n hx hb d_MO_write_5 rfl (lv_at hl 2 rfl) ?_
  obtain ⟨hi_6, hok⟩ := hok
  refine va_iast hx hb hK hP hD hS 1 0 rfl rfl hi_6 d_MO_write_6 (fun H locs hP hD hS => ?_)
  have hP : va_P G.1 classes (cM G ad mrf msl mst men mnw mdn mpw mwr mrs mdr mtb mrc mnx (upd mro p0.toNatClampNeg p1) mit mve mrb mch mva mic mlb mrw mnb mlk mnk mmd) H := hP
  have hD : va_D A (cM G ad mrf msl mst men mnw mdn mpw mwr mrs mdr mtb mrc mnx (upd mro p0.toNatClampNeg p1) mit mve mrb mch mva mic mlb mrw mnb mlk mnk mmd) := hD
  refine lv_aload_n hx hb d_MO_write_7 rfl (lv_at hl 0 rfl) ?_
  refine lv_dup hx hb d_MO_write_8 rfl ?_
  refine va_get (D := G.1) (ci := 6) (C := R_MO) (T := F_MO) (N := 26) hx hb ht in_MO hown hK hP 0 rfl rfl 9 (by decide) (ht _ kf_MO_147) (fun _ h9 => h9) rfl d_MO_write_9 ?_
  refine lv_iconst (v := (1 : Int32)) hx hb d_MO_write_12 (by decide) ?_
  refine lv_iadd hx hb d_MO_write_13 ?_
  refine va_put (D := G.1) (ci := 6) (v := .int (mwr + (1 : Int32))) (ty := .int) (C := R_MO) (T := F_MO) (N := 26) hx hb ht in_MO t_MO to_MO nm_MO hown hK hP hD hS 0 rfl rfl 9 (by decide) (ht _ kf_MO_147) (fun _ h9 => h9) rfl (to_MO 9 (by decide)) rfl rfl (Nat.le_of_ble_eq_true rfl) d_MO_write_14 (fun H locs hP hD hS => ?_)
  have hP : va_P G.1 classes (cM G ad mrf msl mst men mnw mdn mpw (mwr + (1 : Int32)) mrs mdr mtb mrc mnx (upd mro p0.toNatClampNeg p1) mit mve mrb mch mva mic mlb mrw mnb mlk mnk mmd) H := hP
  have hD : va_D A (cM G ad mrf msl mst men mnw mdn mpw (mwr + (1 : Int32)) mrs mdr mtb mrc mnx (upd mro p0.toNatClampNeg p1) mit mve mrb mch mva mic mlb mrw mnb mlk mnk mmd) := hD
  refine lv_aload_n hx hb d_MO_write_17 rfl (lv_at hl 0 rfl) ?_
  refine lv_aload_n hx hb d_MO_write_18 rfl (lv_at hl 0 rfl) ?_
  refine va_get (D := G.1) (ci := 6) (C := R_MO) (T := F_MO) (N := 26) hx hb ht in_MO hown hK hP 0 rfl rfl 8 (by decide) (ht _ kf_MO_17) (fun _ h9 => h9) rfl d_MO_write_19 ?_
  refine lv_if_le (tgt := 34) hx hb d_MO_write_22 (by decide) (fun c_22 => ?_) (fun c_22 => ?_)
  · have hres := it_t c_22 hres
    have hok := hok.1 c_22
    refine lv_aload_n hx hb d_MO_write_34 rfl (lv_at hl 0 rfl) ?_
    refine va_get (D := G.1) (ci := 6) (C := R_MO) (T := F_MO) (N := 26) hx hb ht in_MO hown hK hP 0 rfl rfl 8 (by decide) (ht _ kf_MO_17) (fun _ h9 => h9) rfl d_MO_write_35 ?_
    exact w_MO_write_38 hC mpw mdn mpw (mwr + (1 : Int32)) (upd mro p0.toNatClampNeg p1) _ _ _ hok hres hP hD hS (lv_sub hl [0] rfl)
  · have hres := it_f c_22 hres
    have hok := hok.2 c_22
    refine lv_aload_n hx hb d_MO_write_25 rfl (lv_at hl 0 rfl) ?_
    refine va_get (D := G.1) (ci := 6) (C := R_MO) (T := F_MO) (N := 26) hx hb ht in_MO hown hK hP 0 rfl rfl 8 (by decide) (ht _ kf_MO_17) (fun _ h9 => h9) rfl d_MO_write_26 ?_
    refine lv_iconst (v := (1 : Int32)) hx hb d_MO_write_29 (by decide) ?_
    refine lv_isub hx hb d_MO_write_30 ?_
    refine lv_goto (tgt := 38) hx hb d_MO_write_31 (by decide) ?_
    exact w_MO_write_38 hC (mpw - (1 : Int32)) mdn mpw (mwr + (1 : Int32)) (upd mro p0.toNatClampNeg p1) _ _ _ hok hres hP hD hS (lv_sub hl [0] rfl)
/-! ===== BookTreesModel.finish()Z ===== -/
abbrev rm_MO_finish : Room := { frames := 1, cells := 0, slots := 0, locals := 24 }
def f_MO_finish_79 : Nat → Int32 → Int32 → Int32 → Int32 → Int32 → Int32 → Int32 → Int32 → (Nat → Int32) → (Nat → Int32) → (Nat → Int32) → Int32 × Int32 × Int32 × Int32 × Int32 × (Nat → Int32) × (Nat → Int32) × (Nat → Int32)
  | 0, x3, x4, x5, msl, mdn, mpw, mwr, mnx, mro, mit, mmd => (0, (mdn, mpw, mwr, mnx, mro, mit, mmd))
  | n + 1, x3, x4, x5, msl, mdn, mpw, mwr, mnx, mro, mit, mmd => if (64 : Int32) ≤ x5 then (x4, (mdn, mpw, mwr, mnx + (1 : Int32), mro, mit, mmd)) else if x4 = 0 then (x4, (mdn, mpw, mwr, mnx + (1 : Int32), mro, mit, mmd)) else bindc (f_MO_write (x3 + x5) (mmd x5.toNatClampNeg) mdn mpw mwr mro) (fun z_103 => if (63 : Int32) ≤ x5 then f_MO_finish_79 n x3 z_103.1 (x5 + (1 : Int32)) msl z_103.2.1 z_103.2.2.1 z_103.2.2.2.1 mnx z_103.2.2.2.2 (upd mit (x3 / (64 : Int32)).toNatClampNeg (vp_nar .boolean (0 : Int32))) mmd else f_MO_finish_79 n x3 z_103.1 (x5 + (1 : Int32)) msl z_103.2.1 z_103.2.2.1 z_103.2.2.2.1 mnx z_103.2.2.2.2 (upd mit (x3 / (64 : Int32)).toNatClampNeg (vp_nar .boolean (1 : Int32))) mmd)
def ok_MO_finish_79 : Nat → Int32 → Int32 → Int32 → Int32 → Int32 → Int32 → Int32 → Int32 → (Nat → Int32) → (Nat → Int32) → (Nat → Int32) → Prop
  | 0, _, _, _, _, _, _, _, _, _, _, _ => False
  | n + 1, x3, x4, x5, msl, mdn, mpw, mwr, mnx, mro, mit, mmd => ((64 : Int32) ≤ x5 → isB x4) ∧ (¬ (64 : Int32) ≤ x5 → (x4 = 0 → isB x4) ∧ (¬ x4 = 0 → vp_in x5 64 ∧ (ok_MO_write (x3 + x5) (mmd x5.toNatClampNeg) mdn mpw mwr mro ∧ bindp (f_MO_write (x3 + x5) (mmd x5.toNatClampNeg) mdn mpw mwr mro) (fun z_103 => ((63 : Int32) ≤ x5 → vp_in (x3 / (64 : Int32)) 200 ∧ (ok_MO_finish_79  n x3 z_103.1 (x5 + (1 : Int32)) msl z_103.2.1 z_103.2.2.1 z_103.2.2.2.1 mnx z_103.2.2.2.2 (upd mit (x3 / (64 : Int32)).toNatClampNeg (vp_nar .boolean (0 : Int32))) mmd)) ∧ (¬ (63 : Int32) ≤ x5 → vp_in (x3 / (64 : Int32)) 200 ∧ (ok_MO_finish_79  n x3 z_103.1 (x5 + (1 : Int32)) msl z_103.2.1 z_103.2.2.1 z_103.2.2.2.1 mnx z_103.2.2.2.2 (upd mit (x3 / (64 : Int32)).toNatClampNeg (vp_nar .boolean (1 : Int32))) mmd))))))
set_option maxHeartbeats 4000000 in
set_option maxRecDepth 100000 in
theorem w_MO_finish_79 {p : Program} {l : Launch} {e : Env} {s : State} {m : MethodId} {args : Array Value} {below : List Frame} {meth : Method} {c : Code} {A : Nat → Prop} {G : GG} {ad : Nat → Nat} {mrf : Int32} {msl : Int32} {mst : Int32} {men : Int32} {mnw : Int32} {mrs : Int32} {mdr : Int32} {mtb : Int32} {mrc : Int32} {mve : (Nat → Int32)} {mrb : (Nat → Int32)} {mch : (Nat → Int32)} {mva : (Nat → Int32)} {mic : (Nat → Int32)} {mlb : (Nat → Int32)} {mrw : (Nat → Int32)} {mnb : (Nat → Int32)} {mlk : (Nat → Int32)} {mnk : (Nat → Int32)} {res : Int32 × Int32 × Int32 × Int32 × Int32 × (Nat → Int32) × (Nat → Int32) × (Nat → Int32)} (hC : Cx p l e s m args meth c y_MO_finish b_MO_finish 6 (some .boolean) "BookTreesModel" G A) : ∀ (n : Nat) (x3 : Int32) (x4 : Int32) (x5 : Int32) (mdn : Int32) (mpw : Int32) (mwr : Int32) (mnx : Int32) (mro : (Nat → Int32)) (mit : (Nat → Int32)) (mmd : (Nat → Int32)) (H : Heap) (locs : List Loc) (ls : Array Slot), ok_MO_finish_79 n x3 x4 x5 msl mdn mpw mwr mnx mro mit mmd → f_MO_finish_79 n x3 x4 x5 msl mdn mpw mwr mnx mro mit mmd = res → va_P G.1 classes (cM G ad mrf msl mst men mnw mdn mpw mwr mrs mdr mtb mrc mnx mro mit mve mrb mch mva mic mlb mrw mnb mlk mnk mmd) H → va_D A (cM G ad mrf msl mst men mnw mdn mpw mwr mrs mdr mtb mrc mnx mro mit mve mrb mch mva mic mlb mrw mnb mlk mnk mmd) → va_S A s.heap H locs → lv_has ls 6 [(0, .ref (ad 0)), (3, .int x3), (4, .int x4), (5, .int x5)] → W p l e rm_MO_finish s m args below meth c H locs 0 0 (MQ below (va_Qi (eqP res) (Wb G A (fun u : Int32 × Int32 × Int32 × Int32 × (Nat → Int32) × (Nat → Int32) × (Nat → Int32) => (cM G ad mrf msl mst men mnw u.1 u.2.1 u.2.2.1 mrs mdr mtb mrc u.2.2.2.1 u.2.2.2.2.1 u.2.2.2.2.2.1 mve mrb mch mva mic mlb mrw mnb mlk mnk u.2.2.2.2.2.2))) A) args s 0 0 A) (F0 m 79 ls []) := by
  obtain ⟨hx, hb, hr, hml, hown, hlocks, ht, hK, hA⟩ := id hC
  intro n
  induction n with
  | zero => intro x3 x4 x5 mdn mpw mwr mnx mro mit mmd H locs ls hok; exact hok.elim
  | succ n ih =>
    intro x3 x4 x5 mdn mpw mwr mnx mro mit mmd H locs ls hok hres hP hD hS hl
    rw [f_MO_finish_79] at hres
    rw [ok_MO_finish_79] at hok
    refine lv_iload hx hb d_MO_finish_79 (lv_at hl 3 rfl) ?_
    refine lv_bipush (v := (64 : Int32)) hx hb d_MO_finish_81 (by decide) ?_
    refine lv_icmp_ge (tgt := 135) hx hb d_MO_finish_83 (by decide) (fun c_83 => ?_) (fun c_83 => ?_)
    · have hres := it_t c_83 hres
      have hok := hok.1 c_83
      refine lv_aload_n hx hb d_MO_finish_135 rfl (lv_at hl 0 rfl) ?_
      refine lv_dup hx hb d_MO_finish_136 rfl ?_
      refine va_get (D := G.1) (ci := 6) (C := R_MO) (T := F_MO) (N := 26) hx hb ht in_MO hown hK hP 0 rfl rfl 25 (by decide) (ht _ kf_MO_154) (fun _ h9 => h9) rfl d_MO_finish_137 ?_
      refine lv_iconst (v := (1 : Int32)) hx hb d_MO_finish_140 (by decide) ?_
      refine lv_iadd hx hb d_MO_finish_141 ?_
      refine va_put (D := G.1) (ci := 6) (v := .int (mnx + (1 : Int32))) (ty := .int) (C := R_MO) (T := F_MO) (N := 26) hx hb ht in_MO t_MO to_MO nm_MO hown hK hP hD hS 0 rfl rfl 25 (by decide) (ht _ kf_MO_154) (fun _ h9 => h9) rfl (to_MO 25 (by decide)) rfl rfl (Nat.le_of_ble_eq_true rfl) d_MO_finish_142 (fun H locs hP hD hS => ?_)
      have hP : va_P G.1 classes (cM G ad mrf msl mst men mnw mdn mpw mwr mrs mdr mtb mrc (mnx + (1 : Int32)) mro mit mve mrb mch mva mic mlb mrw mnb mlk mnk mmd) H := hP
      have hD : va_D A (cM G ad mrf msl mst men mnw mdn mpw mwr mrs mdr mtb mrc (mnx + (1 : Int32)) mro mit mve mrb mch mva mic mlb mrw mnb mlk mnk mmd) := hD
      refine lv_iload hx hb d_MO_finish_145 (lv_at hl 2 rfl) ?_
      exact en_z (w1 := (fun u : Int32 × Int32 × Int32 × Int32 × (Nat → Int32) × (Nat → Int32) × (Nat → Int32) => (cM G ad mrf msl mst men mnw u.1 u.2.1 u.2.2.1 mrs mdr mtb mrc u.2.2.2.1 u.2.2.2.2.1 u.2.2.2.2.2.1 mve mrb mch mva mic mlb mrw mnb mlk mnk u.2.2.2.2.2.2))) (mdn, mpw, mwr, mnx + (1 : Int32), mro, mit, mmd) hx hb hr hlocks hK hP hD hS hres hok d_MO_finish_147
    · have hres := it_f c_83 hres
      have hok := hok.2 c_83
      refine lv_iload hx hb d_MO_finish_86 (lv_at hl 2 rfl) ?_
      refine lv_if_eq (tgt := 135) hx hb d_MO_finish_88 (by decide) (fun c_88 => ?_) (fun c_88 => ?_)
      · have hres := it_t c_88 hres
        have hok := hok.1 c_88
        refine lv_aload_n hx hb d_MO_finish_135 rfl (lv_at hl 0 rfl) ?_
        refine lv_dup hx hb d_MO_finish_136 rfl ?_
        refine va_get (D := G.1) (ci := 6) (C := R_MO) (T := F_MO) (N := 26) hx hb ht in_MO hown hK hP 0 rfl rfl 25 (by decide) (ht _ kf_MO_154) (fun _ h9 => h9) rfl d_MO_finish_137 ?_
        refine lv_iconst (v := (1 : Int32)) hx hb d_MO_finish_140 (by decide) ?_
        refine lv_iadd hx hb d_MO_finish_141 ?_
        refine va_put (D := G.1) (ci := 6) (v := .int (mnx + (1 : Int32))) (ty := .int) (C := R_MO) (T := F_MO) (N := 26) hx hb ht in_MO t_MO to_MO nm_MO hown hK hP hD hS 0 rfl rfl 25 (by decide) (ht _ kf_MO_154) (fun _ h9 => h9) rfl (to_MO 25 (by decide)) rfl rfl (Nat.le_of_ble_eq_true rfl) d_MO_finish_142 (fun H locs hP hD hS => ?_)
        have hP : va_P G.1 classes (cM G ad mrf msl mst men mnw mdn mpw mwr mrs mdr mtb mrc (mnx + (1 : Int32)) mro mit mve mrb mch mva mic mlb mrw mnb mlk mnk mmd) H := hP
        have hD : va_D A (cM G ad mrf msl mst men mnw mdn mpw mwr mrs mdr mtb mrc (mnx + (1 : Int32)) mro mit mve mrb mch mva mic mlb mrw mnb mlk mnk mmd) := hD
        refine lv_iload hx hb d_MO_finish_145 (lv_at hl 2 rfl) ?_
        exact en_z (w1 := (fun u : Int32 × Int32 × Int32 × Int32 × (Nat → Int32) × (Nat → Int32) × (Nat → Int32) => (cM G ad mrf msl mst men mnw u.1 u.2.1 u.2.2.1 mrs mdr mtb mrc u.2.2.2.1 u.2.2.2.2.1 u.2.2.2.2.2.1 mve mrb mch mva mic mlb mrw mnb mlk mnk u.2.2.2.2.2.2))) (mdn, mpw, mwr, mnx + (1 : Int32), mro, mit, mmd) hx hb hr hlocks hK hP hD hS hres hok d_MO_finish_147
      · have hres := it_f c_88 hres
        have hok := hok.2 c_88
        refine lv_aload_n hx hb d_MO_finish_91 rfl (lv_at hl 0 rfl) ?_
        refine lv_iload_n hx hb d_MO_finish_92 rfl (lv_at hl 1 rfl) ?_
        refine lv_iload hx hb d_MO_finish_93 (lv_at hl 3 rfl) ?_
        refine lv_iadd hx hb d_MO_finish_95 ?_
        refine lv_aload_n hx hb d_MO_finish_96 rfl (lv_at hl 0 rfl) ?_
        refine va_get (D := G.1) (ci := 6) (C := R_MO) (T := F_MO) (N := 26) hx hb ht in_MO hown hK hP 0 rfl rfl 24 (by decide) (ht _ kf_MO_51) (fun _ h9 => h9) rfl d_MO_finish_97 ?_
        refine lv_iload hx hb d_MO_finish_100 (lv_at hl 3 rfl) ?_
        obtain ⟨hi_102, hok⟩ := hok
        refine va_iald hx hb hK hP 13 0 rfl rfl hi_102 d_MO_finish_102 ?_
        obtain ⟨hk_103, hok⟩ := hok
        refine go_iz (run_V hx hb hml hown ht hK hP hD (c_MO_write hk_103) (cw_V ht km_MO_157 ki_MO_write ks_MO_write ini_MO kd_MO_write kh_MO_write ⟨Nat.le_of_ble_eq_true rfl, Nat.le_of_ble_eq_true rfl⟩ rfl rfl) (q0 := 0) (ci := 6) (As := [.int (x3 + x5), .int (mmd x5.toNatClampNeg)]) (rest := []) rfl rfl rfl hl.1 rfl (Nat.le_of_ble_eq_true rfl) d_MO_finish_103 ⟨Nat.zero_le _, Nat.zero_le _⟩) hD hS hA (fun z_103 H locs hz_103 hP hD hS => ?_)
        have hres := bindc_eq hz_103 hres
        have hok := bindp_eq hz_103 hok
        have hP : va_P G.1 classes (cM G ad mrf msl mst men mnw z_103.2.1 z_103.2.2.1 z_103.2.2.2.1 mrs mdr mtb mrc mnx z_103.2.2.2.2 mit mve mrb mch mva mic mlb mrw mnb mlk mnk mmd) H := hP
        have hD : va_D A (cM G ad mrf msl mst men mnw z_103.2.1 z_103.2.2.1 z_103.2.2.2.1 mrs mdr mtb mrc mnx z_103.2.2.2.2 mit mve mrb mch mva mic mlb mrw mnb mlk mnk mmd) := hD
        refine lv_istore (lv' := [(4, .int z_103.1), (0, .ref (ad 0)), (3, .int x3), (5, .int x5)]) hx hb d_MO_finish_106 hl (by decide) rfl (fun ls hl => ?_)
        refine lv_aload_n hx hb d_MO_finish_108 rfl (lv_at hl 1 rfl) ?_
        refine va_get (D := G.1) (ci := 6) (C := R_MO) (T := F_MO) (N := 26) hx hb ht in_MO hown hK hP 0 rfl rfl 3 (by decide) (ht _ kf_MO_13) (fun _ h9 => h9) rfl d_MO_finish_109 ?_
        refine lv_iload_n hx hb d_MO_finish_112 rfl (lv_at hl 2 rfl) ?_
        refine lv_bipush (v := (64 : Int32)) hx hb d_MO_finish_113 (by decide) ?_
        refine lv_idiv hx hb d_MO_finish_115 (by decide) ?_
        refine lv_iload hx hb d_MO_finish_116 (lv_at hl 3 rfl) ?_
        refine lv_bipush (v := (63 : Int32)) hx hb d_MO_finish_118 (by decide) ?_
        refine lv_icmp_ge (tgt := 127) hx hb d_MO_finish_120 (by decide) (fun c_120 => ?_) (fun c_120 => ?_)
        · have hres := it_t c_120 hres
          have hok := hok.1 c_120
          refine lv_iconst (v := (0 : Int32)) hx hb d_MO_finish_127 (by decide) ?_
          obtain ⟨hi_128, hok⟩ := hok
          refine va_zast hx hb hK hP hD hS 2 1 rfl rfl hi_128 d_MO_finish_128 (fun H locs hP hD hS => ?_)
          have hP : va_P G.1 classes (cM G ad mrf msl mst men mnw z_103.2.1 z_103.2.2.1 z_103.2.2.2.1 mrs mdr mtb mrc mnx z_103.2.2.2.2 (upd mit (x3 / (64 : Int32)).toNatClampNeg (vp_nar .boolean (0 : Int32))) mve mrb mch mva mic mlb mrw mnb mlk mnk mmd) H := hP
          have hD : va_D A (cM G ad mrf msl mst men mnw z_103.2.1 z_103.2.2.1 z_103.2.2.2.1 mrs mdr mtb mrc mnx z_103.2.2.2.2 (upd mit (x3 / (64 : Int32)).toNatClampNeg (vp_nar .boolean (0 : Int32))) mve mrb mch mva mic mlb mrw mnb mlk mnk mmd) := hD
          refine lv_iinc (v := x5 + (1 : Int32)) (lv' := [(5, .int (x5 + (1 : Int32))), (4, .int z_103.1), (0, .ref (ad 0)), (3, .int x3)]) hx hb d_MO_finish_129 hl (k := 3) rfl rfl (by decide) rfl (fun ls hl => ?_)
          refine lv_goto (tgt := 79) hx hb d_MO_finish_132 (by decide) ?_
          exact ih x3 z_103.1 (x5 + (1 : Int32)) z_103.2.1 z_103.2.2.1 z_103.2.2.2.1 mnx z_103.2.2.2.2 (upd mit (x3 / (64 : Int32)).toNatClampNeg (vp_nar .boolean (0 : Int32))) mmd _ _ _ hok hres hP hD hS (lv_sub hl [2, 3, 1, 0] rfl)
        · have hres := it_f c_120 hres
          have hok := hok.2 c_120
          refine lv_iconst (v := (1 : Int32)) hx hb d_MO_finish_123 (by decide) ?_
          refine lv_goto (tgt := 128) hx hb d_MO_finish_124 (by decide) ?_
          obtain ⟨hi_128, hok⟩ := hok
          refine va_zast hx hb hK hP hD hS 2 1 rfl rfl hi_128 d_MO_finish_128 (fun H locs hP hD hS => ?_)
          have hP : va_P G.1 classes (cM G ad mrf msl mst men mnw z_103.2.1 z_103.2.2.1 z_103.2.2.2.1 mrs mdr mtb mrc mnx z_103.2.2.2.2 (upd mit (x3 / (64 : Int32)).toNatClampNeg (vp_nar .boolean (1 : Int32))) mve mrb mch mva mic mlb mrw mnb mlk mnk mmd) H := hP
          have hD : va_D A (cM G ad mrf msl mst men mnw z_103.2.1 z_103.2.2.1 z_103.2.2.2.1 mrs mdr mtb mrc mnx z_103.2.2.2.2 (upd mit (x3 / (64 : Int32)).toNatClampNeg (vp_nar .boolean (1 : Int32))) mve mrb mch mva mic mlb mrw mnb mlk mnk mmd) := hD
          refine lv_iinc (v := x5 + (1 : Int32)) (lv' := [(5, .int (x5 + (1 : Int32))), (4, .int z_103.1), (0, .ref (ad 0)), (3, .int x3)]) hx hb d_MO_finish_129 hl (k := 3) rfl rfl (by decide) rfl (fun ls hl => ?_)
          refine lv_goto (tgt := 79) hx hb d_MO_finish_132 (by decide) ?_
          exact ih x3 z_103.1 (x5 + (1 : Int32)) z_103.2.1 z_103.2.2.1 z_103.2.2.2.1 mnx z_103.2.2.2.2 (upd mit (x3 / (64 : Int32)).toNatClampNeg (vp_nar .boolean (1 : Int32))) mmd _ _ _ hok hres hP hD hS (lv_sub hl [2, 3, 1, 0] rfl)
def f_MO_finish_29 : Nat → Int64 → Int32 → Int32 → Int32 → Int32 → Int32 → Int32 → (Nat → Int32) → (Nat → Int32) → (Nat → Int32) → Int32 × Int32 × Int32 × Int32 × Int32 × (Nat → Int32) × (Nat → Int32) × (Nat → Int32)
  | 0, x1, x3, msl, mdn, mpw, mwr, mnx, mro, mit, mmd => (0, (mdn, mpw, mwr, mnx, mro, mit, mmd))
  | n + 1, x1, x3, msl, mdn, mpw, mwr, mnx, mro, mit, mmd => if (8 : Int32) ≤ x3 then bindc (f_MO_placeOf mnx msl) (fun z_69 => f_MO_finish_79 1024 z_69.1 (1 : Int32) (0 : Int32) msl mdn mpw mwr mnx mro mit mmd) else f_MO_finish_29 n x1 (x3 + (1 : Int32)) msl mdn mpw mwr mnx mro mit (upd mmd ((56 : Int32) + x3).toNatClampNeg ((((x1.toUInt64 >>> (((56 : Int32) - ((8 : Int32) * x3)).toInt64.toUInt64 &&& Int64.toUInt64 63)).toInt64) &&& (255 : Int64)).toInt32))
def ok_MO_finish_29 : Nat → Int64 → Int32 → Int32 → Int32 → Int32 → Int32 → Int32 → (Nat → Int32) → (Nat → Int32) → (Nat → Int32) → Prop
  | 0, _, _, _, _, _, _, _, _, _, _ => False
  | n + 1, x1, x3, msl, mdn, mpw, mwr, mnx, mro, mit, mmd => ((8 : Int32) ≤ x3 → ok_MO_placeOf mnx msl ∧ bindp (f_MO_placeOf mnx msl) (fun z_69 => ok_MO_finish_79  1024 z_69.1 (1 : Int32) (0 : Int32) msl mdn mpw mwr mnx mro mit mmd)) ∧ (¬ (8 : Int32) ≤ x3 → vp_in ((56 : Int32) + x3) 64 ∧ (ok_MO_finish_29  n x1 (x3 + (1 : Int32)) msl mdn mpw mwr mnx mro mit (upd mmd ((56 : Int32) + x3).toNatClampNeg ((((x1.toUInt64 >>> (((56 : Int32) - ((8 : Int32) * x3)).toInt64.toUInt64 &&& Int64.toUInt64 63)).toInt64) &&& (255 : Int64)).toInt32))))
set_option maxHeartbeats 4000000 in
set_option maxRecDepth 100000 in
theorem w_MO_finish_29 {p : Program} {l : Launch} {e : Env} {s : State} {m : MethodId} {args : Array Value} {below : List Frame} {meth : Method} {c : Code} {A : Nat → Prop} {G : GG} {ad : Nat → Nat} {mrf : Int32} {msl : Int32} {mst : Int32} {men : Int32} {mnw : Int32} {mrs : Int32} {mdr : Int32} {mtb : Int32} {mrc : Int32} {mve : (Nat → Int32)} {mrb : (Nat → Int32)} {mch : (Nat → Int32)} {mva : (Nat → Int32)} {mic : (Nat → Int32)} {mlb : (Nat → Int32)} {mrw : (Nat → Int32)} {mnb : (Nat → Int32)} {mlk : (Nat → Int32)} {mnk : (Nat → Int32)} {res : Int32 × Int32 × Int32 × Int32 × Int32 × (Nat → Int32) × (Nat → Int32) × (Nat → Int32)} (hC : Cx p l e s m args meth c y_MO_finish b_MO_finish 6 (some .boolean) "BookTreesModel" G A) : ∀ (n : Nat) (x1 : Int64) (x3 : Int32) (mdn : Int32) (mpw : Int32) (mwr : Int32) (mnx : Int32) (mro : (Nat → Int32)) (mit : (Nat → Int32)) (mmd : (Nat → Int32)) (H : Heap) (locs : List Loc) (ls : Array Slot), ok_MO_finish_29 n x1 x3 msl mdn mpw mwr mnx mro mit mmd → f_MO_finish_29 n x1 x3 msl mdn mpw mwr mnx mro mit mmd = res → va_P G.1 classes (cM G ad mrf msl mst men mnw mdn mpw mwr mrs mdr mtb mrc mnx mro mit mve mrb mch mva mic mlb mrw mnb mlk mnk mmd) H → va_D A (cM G ad mrf msl mst men mnw mdn mpw mwr mrs mdr mtb mrc mnx mro mit mve mrb mch mva mic mlb mrw mnb mlk mnk mmd) → va_S A s.heap H locs → lv_has ls 6 [(0, .ref (ad 0)), (1, .long x1), (3, .int x3)] → W p l e rm_MO_finish s m args below meth c H locs 0 0 (MQ below (va_Qi (eqP res) (Wb G A (fun u : Int32 × Int32 × Int32 × Int32 × (Nat → Int32) × (Nat → Int32) × (Nat → Int32) => (cM G ad mrf msl mst men mnw u.1 u.2.1 u.2.2.1 mrs mdr mtb mrc u.2.2.2.1 u.2.2.2.2.1 u.2.2.2.2.2.1 mve mrb mch mva mic mlb mrw mnb mlk mnk u.2.2.2.2.2.2))) A) args s 0 0 A) (F0 m 29 ls []) := by
  obtain ⟨hx, hb, hr, hml, hown, hlocks, ht, hK, hA⟩ := id hC
  intro n
  induction n with
  | zero => intro x1 x3 mdn mpw mwr mnx mro mit mmd H locs ls hok; exact hok.elim
  | succ n ih =>
    intro x1 x3 mdn mpw mwr mnx mro mit mmd H locs ls hok hres hP hD hS hl
    rw [f_MO_finish_29] at hres
    rw [ok_MO_finish_29] at hok
    refine lv_iload_n hx hb d_MO_finish_29 rfl (lv_at hl 2 rfl) ?_
    refine lv_bipush (v := (8 : Int32)) hx hb d_MO_finish_30 (by decide) ?_
    refine lv_icmp_ge (tgt := 64) hx hb d_MO_finish_32 (by decide) (fun c_32 => ?_) (fun c_32 => ?_)
    · have hres := it_t c_32 hres
      have hok := hok.1 c_32
      refine lv_aload_n hx hb d_MO_finish_64 rfl (lv_at hl 0 rfl) ?_
      refine lv_aload_n hx hb d_MO_finish_65 rfl (lv_at hl 0 rfl) ?_
      refine va_get (D := G.1) (ci := 6) (C := R_MO) (T := F_MO) (N := 26) hx hb ht in_MO hown hK hP 0 rfl rfl 25 (by decide) (ht _ kf_MO_154) (fun _ h9 => h9) rfl d_MO_finish_66 ?_
      obtain ⟨hk_69, hok⟩ := hok
      refine go_iz (run_V hx hb hml hown ht hK hP hD (c_MO_placeOf hk_69) (cw_V ht km_MO_82 ki_MO_placeOf ks_MO_placeOf ini_MO kd_MO_placeOf kh_MO_placeOf ⟨Nat.le_of_ble_eq_true rfl, Nat.le_of_ble_eq_true rfl⟩ rfl rfl) (q0 := 0) (ci := 6) (As := [.int mnx]) (rest := []) rfl rfl rfl hl.1 rfl (Nat.le_of_ble_eq_true rfl) d_MO_finish_69 ⟨Nat.zero_le _, Nat.zero_le _⟩) hD hS hA (fun z_69 H locs hz_69 hP hD hS => ?_)
      have hres := bindc_eq hz_69 hres
      have hok := bindp_eq hz_69 hok
      have hP : va_P G.1 classes (cM G ad mrf msl mst men mnw mdn mpw mwr mrs mdr mtb mrc mnx mro mit mve mrb mch mva mic mlb mrw mnb mlk mnk mmd) H := hP
      have hD : va_D A (cM G ad mrf msl mst men mnw mdn mpw mwr mrs mdr mtb mrc mnx mro mit mve mrb mch mva mic mlb mrw mnb mlk mnk mmd) := hD
      refine lv_istore_n (lv' := [(3, .int z_69.1), (0, .ref (ad 0)), (1, .long x1)]) hx hb d_MO_finish_72 rfl hl (by decide) rfl (fun ls hl => ?_)
      refine lv_iconst (v := (1 : Int32)) hx hb d_MO_finish_73 (by decide) ?_
      refine lv_istore (lv' := [(4, .int (1 : Int32)), (3, .int z_69.1), (0, .ref (ad 0)), (1, .long x1)]) hx hb d_MO_finish_74 hl (by decide) rfl (fun ls hl => ?_)
      refine lv_iconst (v := (0 : Int32)) hx hb d_MO_finish_76 (by decide) ?_
      refine lv_istore (lv' := [(5, .int (0 : Int32)), (4, .int (1 : Int32)), (3, .int z_69.1), (0, .ref (ad 0)), (1, .long x1)]) hx hb d_MO_finish_77 hl (by decide) rfl (fun ls hl => ?_)
      exact w_MO_finish_79 hC 1024 z_69.1 (1 : Int32) (0 : Int32) mdn mpw mwr mnx mro mit mmd _ _ _ hok hres hP hD hS (lv_sub hl [3, 2, 1, 0] rfl)
    · have hres := it_f c_32 hres
      have hok := hok.2 c_32
      refine lv_aload_n hx hb d_MO_finish_35 rfl (lv_at hl 0 rfl) ?_
      refine va_get (D := G.1) (ci := 6) (C := R_MO) (T := F_MO) (N := 26) hx hb ht in_MO hown hK hP 0 rfl rfl 24 (by decide) (ht _ kf_MO_51) (fun _ h9 => h9) rfl d_MO_finish_36 ?_
      refine lv_bipush (v := (56 : Int32)) hx hb d_MO_finish_39 (by decide) ?_
      refine lv_iload_n hx hb d_MO_finish_41 rfl (lv_at hl 2 rfl) ?_
      refine lv_iadd hx hb d_MO_finish_42 ?_
      refine lv_lload_n hx hb d_MO_finish_43 rfl (lv_at hl 1 rfl) ?_
      refine lv_bipush (v := (56 : Int32)) hx hb d_MO_finish_44 (by decide) ?_
      refine lv_bipush (v := (8 : Int32)) hx hb d_MO_finish_46 (by decide) ?_
      refine lv_iload_n hx hb d_MO_finish_48 rfl (lv_at hl 2 rfl) ?_
      refine lv_imul hx hb d_MO_finish_49 ?_
      refine lv_isub hx hb d_MO_finish_50 ?_
      refine lv_lushr hx hb d_MO_finish_51 rfl ?_
      refine lv_ldc2 hx hb hown (ht _ kl_MO_76) d_MO_finish_52 ?_
      refine lv_land hx hb d_MO_finish_55 ?_
      refine lv_l2i hx hb d_MO_finish_56 rfl ?_
      obtain ⟨hi_57, hok⟩ := hok
      refine va_iast hx hb hK hP hD hS 13 0 rfl rfl hi_57 d_MO_finish_57 (fun H locs hP hD hS => ?_)
      have hP : va_P G.1 classes (cM G ad mrf msl mst men mnw mdn mpw mwr mrs mdr mtb mrc mnx mro mit mve mrb mch mva mic mlb mrw mnb mlk mnk (upd mmd ((56 : Int32) + x3).toNatClampNeg ((((x1.toUInt64 >>> (((56 : Int32) - ((8 : Int32) * x3)).toInt64.toUInt64 &&& Int64.toUInt64 63)).toInt64) &&& (255 : Int64)).toInt32))) H := hP
      have hD : va_D A (cM G ad mrf msl mst men mnw mdn mpw mwr mrs mdr mtb mrc mnx mro mit mve mrb mch mva mic mlb mrw mnb mlk mnk (upd mmd ((56 : Int32) + x3).toNatClampNeg ((((x1.toUInt64 >>> (((56 : Int32) - ((8 : Int32) * x3)).toInt64.toUInt64 &&& Int64.toUInt64 63)).toInt64) &&& (255 : Int64)).toInt32))) := hD
      refine lv_iinc (v := x3 + (1 : Int32)) (lv' := [(3, .int (x3 + (1 : Int32))), (0, .ref (ad 0)), (1, .long x1)]) hx hb d_MO_finish_58 hl (k := 2) rfl rfl (by decide) rfl (fun ls hl => ?_)
      refine lv_goto (tgt := 29) hx hb d_MO_finish_61 (by decide) ?_
      exact ih x1 (x3 + (1 : Int32)) mdn mpw mwr mnx mro mit (upd mmd ((56 : Int32) + x3).toNatClampNeg ((((x1.toUInt64 >>> (((56 : Int32) - ((8 : Int32) * x3)).toInt64.toUInt64 &&& Int64.toUInt64 63)).toInt64) &&& (255 : Int64)).toInt32)) _ _ _ hok hres hP hD hS (lv_sub hl [1, 2, 0] rfl)
def f_MO_finish_4 : Nat → Int64 → Int32 → Int32 → Int32 → Int32 → Int32 → Int32 → (Nat → Int32) → (Nat → Int32) → (Nat → Int32) → Int32 × Int32 × Int32 × Int32 × Int32 × (Nat → Int32) × (Nat → Int32) × (Nat → Int32)
  | 0, x1, x3, msl, mdn, mpw, mwr, mnx, mro, mit, mmd => (0, (mdn, mpw, mwr, mnx, mro, mit, mmd))
  | n + 1, x1, x3, msl, mdn, mpw, mwr, mnx, mro, mit, mmd => if (56 : Int32) ≤ x3 then f_MO_finish_29 1024 x1 (0 : Int32) msl mdn mpw mwr mnx mro mit mmd else bindc (f_MO_mixed x1 (mmd x3.toNatClampNeg)) (fun z_17 => f_MO_finish_4 n z_17.1 (x3 + (1 : Int32)) msl mdn mpw mwr mnx mro mit mmd)
def ok_MO_finish_4 : Nat → Int64 → Int32 → Int32 → Int32 → Int32 → Int32 → Int32 → (Nat → Int32) → (Nat → Int32) → (Nat → Int32) → Prop
  | 0, _, _, _, _, _, _, _, _, _, _ => False
  | n + 1, x1, x3, msl, mdn, mpw, mwr, mnx, mro, mit, mmd => ((56 : Int32) ≤ x3 → ok_MO_finish_29  1024 x1 (0 : Int32) msl mdn mpw mwr mnx mro mit mmd) ∧ (¬ (56 : Int32) ≤ x3 → vp_in x3 64 ∧ (bindp (f_MO_mixed x1 (mmd x3.toNatClampNeg)) (fun z_17 => ok_MO_finish_4  n z_17.1 (x3 + (1 : Int32)) msl mdn mpw mwr mnx mro mit mmd)))
set_option maxHeartbeats 4000000 in
set_option maxRecDepth 100000 in
theorem w_MO_finish_4 {p : Program} {l : Launch} {e : Env} {s : State} {m : MethodId} {args : Array Value} {below : List Frame} {meth : Method} {c : Code} {A : Nat → Prop} {G : GG} {ad : Nat → Nat} {mrf : Int32} {msl : Int32} {mst : Int32} {men : Int32} {mnw : Int32} {mrs : Int32} {mdr : Int32} {mtb : Int32} {mrc : Int32} {mve : (Nat → Int32)} {mrb : (Nat → Int32)} {mch : (Nat → Int32)} {mva : (Nat → Int32)} {mic : (Nat → Int32)} {mlb : (Nat → Int32)} {mrw : (Nat → Int32)} {mnb : (Nat → Int32)} {mlk : (Nat → Int32)} {mnk : (Nat → Int32)} {res : Int32 × Int32 × Int32 × Int32 × Int32 × (Nat → Int32) × (Nat → Int32) × (Nat → Int32)} (hC : Cx p l e s m args meth c y_MO_finish b_MO_finish 6 (some .boolean) "BookTreesModel" G A) : ∀ (n : Nat) (x1 : Int64) (x3 : Int32) (mdn : Int32) (mpw : Int32) (mwr : Int32) (mnx : Int32) (mro : (Nat → Int32)) (mit : (Nat → Int32)) (mmd : (Nat → Int32)) (H : Heap) (locs : List Loc) (ls : Array Slot), ok_MO_finish_4 n x1 x3 msl mdn mpw mwr mnx mro mit mmd → f_MO_finish_4 n x1 x3 msl mdn mpw mwr mnx mro mit mmd = res → va_P G.1 classes (cM G ad mrf msl mst men mnw mdn mpw mwr mrs mdr mtb mrc mnx mro mit mve mrb mch mva mic mlb mrw mnb mlk mnk mmd) H → va_D A (cM G ad mrf msl mst men mnw mdn mpw mwr mrs mdr mtb mrc mnx mro mit mve mrb mch mva mic mlb mrw mnb mlk mnk mmd) → va_S A s.heap H locs → lv_has ls 6 [(0, .ref (ad 0)), (1, .long x1), (3, .int x3)] → W p l e rm_MO_finish s m args below meth c H locs 0 0 (MQ below (va_Qi (eqP res) (Wb G A (fun u : Int32 × Int32 × Int32 × Int32 × (Nat → Int32) × (Nat → Int32) × (Nat → Int32) => (cM G ad mrf msl mst men mnw u.1 u.2.1 u.2.2.1 mrs mdr mtb mrc u.2.2.2.1 u.2.2.2.2.1 u.2.2.2.2.2.1 mve mrb mch mva mic mlb mrw mnb mlk mnk u.2.2.2.2.2.2))) A) args s 0 0 A) (F0 m 4 ls []) := by
  obtain ⟨hx, hb, hr, hml, hown, hlocks, ht, hK, hA⟩ := id hC
  intro n
  induction n with
  | zero => intro x1 x3 mdn mpw mwr mnx mro mit mmd H locs ls hok; exact hok.elim
  | succ n ih =>
    intro x1 x3 mdn mpw mwr mnx mro mit mmd H locs ls hok hres hP hD hS hl
    rw [f_MO_finish_4] at hres
    rw [ok_MO_finish_4] at hok
    refine lv_iload_n hx hb d_MO_finish_4 rfl (lv_at hl 2 rfl) ?_
    refine lv_bipush (v := (56 : Int32)) hx hb d_MO_finish_5 (by decide) ?_
    refine lv_icmp_ge (tgt := 27) hx hb d_MO_finish_7 (by decide) (fun c_7 => ?_) (fun c_7 => ?_)
    · have hres := it_t c_7 hres
      have hok := hok.1 c_7
      refine lv_iconst (v := (0 : Int32)) hx hb d_MO_finish_27 (by decide) ?_
      refine lv_istore_n (lv' := [(3, .int (0 : Int32)), (0, .ref (ad 0)), (1, .long x1)]) hx hb d_MO_finish_28 rfl hl (by decide) rfl (fun ls hl => ?_)
      exact w_MO_finish_29 hC 1024 x1 (0 : Int32) mdn mpw mwr mnx mro mit mmd _ _ _ hok hres hP hD hS (lv_sub hl [1, 2, 0] rfl)
    · have hres := it_f c_7 hres
      have hok := hok.2 c_7
      refine lv_lload_n hx hb d_MO_finish_10 rfl (lv_at hl 1 rfl) ?_
      refine lv_aload_n hx hb d_MO_finish_11 rfl (lv_at hl 0 rfl) ?_
      refine va_get (D := G.1) (ci := 6) (C := R_MO) (T := F_MO) (N := 26) hx hb ht in_MO hown hK hP 0 rfl rfl 24 (by decide) (ht _ kf_MO_51) (fun _ h9 => h9) rfl d_MO_finish_12 ?_
      refine lv_iload_n hx hb d_MO_finish_15 rfl (lv_at hl 2 rfl) ?_
      obtain ⟨hi_16, hok⟩ := hok
      refine va_iald hx hb hK hP 13 0 rfl rfl hi_16 d_MO_finish_16 ?_
      refine go_lz (run_S hx hb hml hown ht hK hP hD (c_MO_mixed) (cw_S ht km_MO_72 kt_MO_mixed ini_MO kd_MO_mixed kh_MO_mixed ⟨Nat.le_of_ble_eq_true rfl, Nat.le_of_ble_eq_true rfl⟩ rfl rfl) (As := [.long x1, .int (mmd x3.toNatClampNeg)]) (rest := []) rfl hl.1 rfl (Nat.le_of_ble_eq_true rfl) d_MO_finish_17 ⟨Nat.zero_le _, Nat.zero_le _⟩) hD hS hA (fun z_17 H locs hz_17 hP hD hS => ?_)
      have hres := bindc_eq hz_17 hres
      have hok := bindp_eq hz_17 hok
      have hP : va_P G.1 classes (cM G ad mrf msl mst men mnw mdn mpw mwr mrs mdr mtb mrc mnx mro mit mve mrb mch mva mic mlb mrw mnb mlk mnk mmd) H := hP
      have hD : va_D A (cM G ad mrf msl mst men mnw mdn mpw mwr mrs mdr mtb mrc mnx mro mit mve mrb mch mva mic mlb mrw mnb mlk mnk mmd) := hD
      refine lv_lstore_n (lv' := [(1, .long z_17.1), (0, .ref (ad 0)), (3, .int x3)]) hx hb d_MO_finish_20 rfl hl (by decide) rfl (fun ls hl => ?_)
      refine lv_iinc (v := x3 + (1 : Int32)) (lv' := [(3, .int (x3 + (1 : Int32))), (1, .long z_17.1), (0, .ref (ad 0))]) hx hb d_MO_finish_21 hl (k := 2) rfl rfl (by decide) rfl (fun ls hl => ?_)
      refine lv_goto (tgt := 4) hx hb d_MO_finish_24 (by decide) ?_
      exact ih z_17.1 (x3 + (1 : Int32)) mdn mpw mwr mnx mro mit mmd _ _ _ hok hres hP hD hS (lv_sub hl [2, 1, 0] rfl)
def f_MO_finish  (msl : Int32) (mdn : Int32) (mpw : Int32) (mwr : Int32) (mnx : Int32) (mro : (Nat → Int32)) (mit : (Nat → Int32)) (mmd : (Nat → Int32)) : Int32 × Int32 × Int32 × Int32 × Int32 × (Nat → Int32) × (Nat → Int32) × (Nat → Int32) := f_MO_finish_4 1024 (0 : Int64) (0 : Int32) msl mdn mpw mwr mnx mro mit mmd
def ok_MO_finish  (msl : Int32) (mdn : Int32) (mpw : Int32) (mwr : Int32) (mnx : Int32) (mro : (Nat → Int32)) (mit : (Nat → Int32)) (mmd : (Nat → Int32)) : Prop := ok_MO_finish_4  1024 (0 : Int64) (0 : Int32) msl mdn mpw mwr mnx mro mit mmd
set_option maxHeartbeats 4000000 in
set_option maxRecDepth 100000 in
theorem c_MO_finish {l : Launch} {G : GG} {ad : Nat → Nat} {sz : Nat} {mrf : Int32} {msl : Int32} {mst : Int32} {men : Int32} {mnw : Int32} {mdn : Int32} {mpw : Int32} {mwr : Int32} {mrs : Int32} {mdr : Int32} {mtb : Int32} {mrc : Int32} {mnx : Int32} {mro : (Nat → Int32)} {mit : (Nat → Int32)} {mve : (Nat → Int32)} {mrb : (Nat → Int32)} {mch : (Nat → Int32)} {mva : (Nat → Int32)} {mic : (Nat → Int32)} {mlb : (Nat → Int32)} {mrw : (Nat → Int32)} {mnb : (Nat → Int32)} {mlk : (Nat → Int32)} {mnk : (Nat → Int32)} {mmd : (Nat → Int32)}  (hok : ok_MO_finish msl mdn mpw mwr mnx mro mit mmd) : CtI l y_MO_finish b_MO_finish 6 (some .boolean) rm_MO_finish G (cM G ad mrf msl mst men mnw mdn mpw mwr mrs mdr mtb mrc mnx mro mit mve mrb mch mva mic mlb mrw mnb mlk mnk mmd) sz [.ref (ad 0)] (eqP (f_MO_finish msl mdn mpw mwr mnx mro mit mmd)) (fun u : Int32 × Int32 × Int32 × Int32 × (Nat → Int32) × (Nat → Int32) × (Nat → Int32) => (cM G ad mrf msl mst men mnw u.1 u.2.1 u.2.2.1 mrs mdr mtb mrc u.2.2.2.1 u.2.2.2.2.1 u.2.2.2.2.2.1 mve mrb mch mva mic mlb mrw mnb mlk mnk u.2.2.2.2.2.2)) := by
  generalize hres : f_MO_finish msl mdn mpw mwr mnx mro mit mmd = res
  refine Met_of (Qc := fun A => va_Qi (eqP res) (Wb G A (fun u : Int32 × Int32 × Int32 × Int32 × (Nat → Int32) × (Nat → Int32) × (Nat → Int32) => (cM G ad mrf msl mst men mnw u.1 u.2.1 u.2.2.1 mrs mdr mtb mrc u.2.2.2.1 u.2.2.2.2.1 u.2.2.2.2.2.1 mve mrb mch mva mic mlb mrw mnb mlk mnk u.2.2.2.2.2.2))) A) (by decide) (Nat.le_of_ble_eq_true rfl) ?_
  intro p e s m below meth c hadm hx hb hr hml hown hlocks ht hK A hA hP hD hS ls hl
  have hC : Cx p l e s m (([.ref (ad 0)] : List Value)).toArray meth c y_MO_finish b_MO_finish 6 (some .boolean) "BookTreesModel" G A := ⟨hx, hb, hr, hml, hown, hlocks, ht, hK, hA⟩
  have hown : s.vm.findClass "BookTreesModel" = some m.cls := hown
  have hl : lv_has ls 6 [(0, .ref (ad 0))] := hl
  rw [f_MO_finish] at hres
  rw [ok_MO_finish] at hok
  refine lv_lconst (v := (0 : Int64)) hx hb d_MO_finish_0 (by decide) ?_
  refine lv_lstore_n (lv' := [(1, .long (0 : Int64)), (0, .ref (ad 0))]) hx hb d_MO_finish_1 rfl hl (by decide) rfl (fun ls hl => ?_)
  refine lv_iconst (v := (0 : Int32)) hx hb d_MO_finish_2 (by decide) ?_
  refine lv_istore_n (lv' := [(3, .int (0 : Int32)), (1, .long (0 : Int64)), (0, .ref (ad 0))]) hx hb d_MO_finish_3 rfl hl (by decide) rfl (fun ls hl => ?_)
  exact w_MO_finish_4 hC 1024 (0 : Int64) (0 : Int32) mdn mpw mwr mnx mro mit mmd _ _ _ hok hres hP hD hS (lv_sub hl [2, 1, 0] rfl)
/-! ===== BookTreesModel.writeLeaf(I)Z ===== -/
abbrev rm_MO_writeLeaf : Room := { frames := 2, cells := 0, slots := 0, locals := 49 }
def f_MO_writeLeaf_23 : Nat → Int32 → Int32 → Int32 → Int32 → Int32 → Int32 → Int32 → Int32 → (Nat → Int32) → (Nat → Int32) → (Nat → Int32) → (Nat → Int32) → (Nat → Int32) → (Nat → Int32) → Int32 × Int32 × Int32 × Int32 × Int32 × (Nat → Int32) × (Nat → Int32) × (Nat → Int32) × (Nat → Int32)
  | 0, x1, x2, msl, mnw, mdn, mpw, mwr, mnx, mro, mit, mlb, mrw, mlk, mmd => (0, (mdn, mpw, mwr, mnx, mro, mit, mlk, mmd))
  | n + 1, x1, x2, msl, mnw, mdn, mpw, mwr, mnx, mro, mit, mlb, mrw, mlk, mmd => if (8 : Int32) ≤ x2 then bindc (f_MO_finish msl mdn mpw mwr mnx mro mit mmd) (fun z_75 => (z_75.1, (z_75.2.1, z_75.2.2.1, z_75.2.2.2.1, z_75.2.2.2.2.1, z_75.2.2.2.2.2.1, z_75.2.2.2.2.2.2.1, mlk, z_75.2.2.2.2.2.2.2))) else if (((mlb x1.toNatClampNeg) >>> (x2 &&& 31)) &&& (1 : Int32)) = (1 : Int32) then bindc (f_MO_putNumber ((8 : Int32) + ((4 : Int32) * x2)) (mrw (((8 : Int32) * x1) + x2).toNatClampNeg) mmd) (fun z_65 => f_MO_writeLeaf_23 n x1 (x2 + (1 : Int32)) msl mnw mdn mpw mwr mnx mro mit mlb mrw mlk z_65) else bindc (f_MO_putNumber ((8 : Int32) + ((4 : Int32) * x2)) (0 : Int32) mmd) (fun z_65 => f_MO_writeLeaf_23 n x1 (x2 + (1 : Int32)) msl mnw mdn mpw mwr mnx mro mit mlb mrw mlk z_65)
def ok_MO_writeLeaf_23 : Nat → Int32 → Int32 → Int32 → Int32 → Int32 → Int32 → Int32 → Int32 → (Nat → Int32) → (Nat → Int32) → (Nat → Int32) → (Nat → Int32) → (Nat → Int32) → (Nat → Int32) → Prop
  | 0, _, _, _, _, _, _, _, _, _, _, _, _, _, _ => False
  | n + 1, x1, x2, msl, mnw, mdn, mpw, mwr, mnx, mro, mit, mlb, mrw, mlk, mmd => ((8 : Int32) ≤ x2 → ok_MO_finish msl mdn mpw mwr mnx mro mit mmd ∧ bindp (f_MO_finish msl mdn mpw mwr mnx mro mit mmd) (fun z_75 => isB z_75.1)) ∧ (¬ (8 : Int32) ≤ x2 → vp_in x1 64 ∧ (((((mlb x1.toNatClampNeg) >>> (x2 &&& 31)) &&& (1 : Int32)) = (1 : Int32) → vp_in (((8 : Int32) * x1) + x2) 512 ∧ (ok_MO_putNumber ((8 : Int32) + ((4 : Int32) * x2)) (mrw (((8 : Int32) * x1) + x2).toNatClampNeg) mmd ∧ bindp (f_MO_putNumber ((8 : Int32) + ((4 : Int32) * x2)) (mrw (((8 : Int32) * x1) + x2).toNatClampNeg) mmd) (fun z_65 => ok_MO_writeLeaf_23  n x1 (x2 + (1 : Int32)) msl mnw mdn mpw mwr mnx mro mit mlb mrw mlk z_65))) ∧ (¬ (((mlb x1.toNatClampNeg) >>> (x2 &&& 31)) &&& (1 : Int32)) = (1 : Int32) → ok_MO_putNumber ((8 : Int32) + ((4 : Int32) * x2)) (0 : Int32) mmd ∧ bindp (f_MO_putNumber ((8 : Int32) + ((4 : Int32) * x2)) (0 : Int32) mmd) (fun z_65 => ok_MO_writeLeaf_23  n x1 (x2 + (1 : Int32)) msl mnw mdn mpw mwr mnx mro mit mlb mrw mlk z_65))))
set_option maxHeartbeats 4000000 in
set_option maxRecDepth 100000 in
theorem w_MO_writeLeaf_23 {p : Program} {l : Launch} {e : Env} {s : State} {m : MethodId} {args : Array Value} {below : List Frame} {meth : Method} {c : Code} {A : Nat → Prop} {G : GG} {ad : Nat → Nat} {mrf : Int32} {msl : Int32} {mst : Int32} {men : Int32} {mnw : Int32} {mrs : Int32} {mdr : Int32} {mtb : Int32} {mrc : Int32} {mve : (Nat → Int32)} {mrb : (Nat → Int32)} {mch : (Nat → Int32)} {mva : (Nat → Int32)} {mic : (Nat → Int32)} {mlb : (Nat → Int32)} {mrw : (Nat → Int32)} {mnb : (Nat → Int32)} {mnk : (Nat → Int32)} {res : Int32 × Int32 × Int32 × Int32 × Int32 × (Nat → Int32) × (Nat → Int32) × (Nat → Int32) × (Nat → Int32)} (hC : Cx p l e s m args meth c y_MO_writeLeaf b_MO_writeLeaf 3 (some .boolean) "BookTreesModel" G A) : ∀ (n : Nat) (x1 : Int32) (x2 : Int32) (mdn : Int32) (mpw : Int32) (mwr : Int32) (mnx : Int32) (mro : (Nat → Int32)) (mit : (Nat → Int32)) (mlk : (Nat → Int32)) (mmd : (Nat → Int32)) (H : Heap) (locs : List Loc) (ls : Array Slot), ok_MO_writeLeaf_23 n x1 x2 msl mnw mdn mpw mwr mnx mro mit mlb mrw mlk mmd → f_MO_writeLeaf_23 n x1 x2 msl mnw mdn mpw mwr mnx mro mit mlb mrw mlk mmd = res → va_P G.1 classes (cM G ad mrf msl mst men mnw mdn mpw mwr mrs mdr mtb mrc mnx mro mit mve mrb mch mva mic mlb mrw mnb mlk mnk mmd) H → va_D A (cM G ad mrf msl mst men mnw mdn mpw mwr mrs mdr mtb mrc mnx mro mit mve mrb mch mva mic mlb mrw mnb mlk mnk mmd) → va_S A s.heap H locs → lv_has ls 3 [(0, .ref (ad 0)), (1, .int x1), (2, .int x2)] → W p l e rm_MO_writeLeaf s m args below meth c H locs 0 0 (MQ below (va_Qi (eqP res) (Wb G A (fun u : Int32 × Int32 × Int32 × Int32 × (Nat → Int32) × (Nat → Int32) × (Nat → Int32) × (Nat → Int32) => (cM G ad mrf msl mst men mnw u.1 u.2.1 u.2.2.1 mrs mdr mtb mrc u.2.2.2.1 u.2.2.2.2.1 u.2.2.2.2.2.1 mve mrb mch mva mic mlb mrw mnb u.2.2.2.2.2.2.1 mnk u.2.2.2.2.2.2.2))) A) args s 0 0 A) (F0 m 23 ls []) := by
  obtain ⟨hx, hb, hr, hml, hown, hlocks, ht, hK, hA⟩ := id hC
  intro n
  induction n with
  | zero => intro x1 x2 mdn mpw mwr mnx mro mit mlk mmd H locs ls hok; exact hok.elim
  | succ n ih =>
    intro x1 x2 mdn mpw mwr mnx mro mit mlk mmd H locs ls hok hres hP hD hS hl
    rw [f_MO_writeLeaf_23] at hres
    rw [ok_MO_writeLeaf_23] at hok
    refine lv_iload_n hx hb d_MO_writeLeaf_23 rfl (lv_at hl 2 rfl) ?_
    refine lv_bipush (v := (8 : Int32)) hx hb d_MO_writeLeaf_24 (by decide) ?_
    refine lv_icmp_ge (tgt := 74) hx hb d_MO_writeLeaf_26 (by decide) (fun c_26 => ?_) (fun c_26 => ?_)
    · have hres := it_t c_26 hres
      have hok := hok.1 c_26
      refine lv_aload_n hx hb d_MO_writeLeaf_74 rfl (lv_at hl 0 rfl) ?_
      obtain ⟨hk_75, hok⟩ := hok
      refine go_iz (run_V hx hb hml hown ht hK hP hD (c_MO_finish hk_75) (cw_V ht km_MO_181 ki_MO_finish ks_MO_finish ini_MO kd_MO_finish kh_MO_finish ⟨Nat.le_of_ble_eq_true rfl, Nat.le_of_ble_eq_true rfl⟩ rfl rfl) (q0 := 0) (ci := 6) (As := []) (rest := []) rfl rfl rfl hl.1 rfl (Nat.le_of_ble_eq_true rfl) d_MO_writeLeaf_75 ⟨Nat.zero_le _, Nat.zero_le _⟩) hD hS hA (fun z_75 H locs hz_75 hP hD hS => ?_)
      have hres := bindc_eq hz_75 hres
      have hok := bindp_eq hz_75 hok
      have hP : va_P G.1 classes (cM G ad mrf msl mst men mnw z_75.2.1 z_75.2.2.1 z_75.2.2.2.1 mrs mdr mtb mrc z_75.2.2.2.2.1 z_75.2.2.2.2.2.1 z_75.2.2.2.2.2.2.1 mve mrb mch mva mic mlb mrw mnb mlk mnk z_75.2.2.2.2.2.2.2) H := hP
      have hD : va_D A (cM G ad mrf msl mst men mnw z_75.2.1 z_75.2.2.1 z_75.2.2.2.1 mrs mdr mtb mrc z_75.2.2.2.2.1 z_75.2.2.2.2.2.1 z_75.2.2.2.2.2.2.1 mve mrb mch mva mic mlb mrw mnb mlk mnk z_75.2.2.2.2.2.2.2) := hD
      exact en_z (w1 := (fun u : Int32 × Int32 × Int32 × Int32 × (Nat → Int32) × (Nat → Int32) × (Nat → Int32) × (Nat → Int32) => (cM G ad mrf msl mst men mnw u.1 u.2.1 u.2.2.1 mrs mdr mtb mrc u.2.2.2.1 u.2.2.2.2.1 u.2.2.2.2.2.1 mve mrb mch mva mic mlb mrw mnb u.2.2.2.2.2.2.1 mnk u.2.2.2.2.2.2.2))) (z_75.2.1, z_75.2.2.1, z_75.2.2.2.1, z_75.2.2.2.2.1, z_75.2.2.2.2.2.1, z_75.2.2.2.2.2.2.1, mlk, z_75.2.2.2.2.2.2.2) hx hb hr hlocks hK hP hD hS hres hok d_MO_writeLeaf_78
    · have hres := it_f c_26 hres
      have hok := hok.2 c_26
      refine lv_aload_n hx hb d_MO_writeLeaf_29 rfl (lv_at hl 0 rfl) ?_
      refine lv_bipush (v := (8 : Int32)) hx hb d_MO_writeLeaf_30 (by decide) ?_
      refine lv_iconst (v := (4 : Int32)) hx hb d_MO_writeLeaf_32 (by decide) ?_
      refine lv_iload_n hx hb d_MO_writeLeaf_33 rfl (lv_at hl 2 rfl) ?_
      refine lv_imul hx hb d_MO_writeLeaf_34 ?_
      refine lv_iadd hx hb d_MO_writeLeaf_35 ?_
      refine lv_aload_n hx hb d_MO_writeLeaf_36 rfl (lv_at hl 0 rfl) ?_
      refine va_get (D := G.1) (ci := 6) (C := R_MO) (T := F_MO) (N := 26) hx hb ht in_MO hown hK hP 0 rfl rfl 17 (by decide) (ht _ kf_MO_36) (fun _ h9 => h9) rfl d_MO_writeLeaf_37 ?_
      refine lv_iload_n hx hb d_MO_writeLeaf_40 rfl (lv_at hl 1 rfl) ?_
      obtain ⟨hi_41, hok⟩ := hok
      refine va_iald hx hb hK hP 8 0 rfl rfl hi_41 d_MO_writeLeaf_41 ?_
      refine lv_iload_n hx hb d_MO_writeLeaf_42 rfl (lv_at hl 2 rfl) ?_
      refine lv_ishr hx hb d_MO_writeLeaf_43 ?_
      refine lv_iconst (v := (1 : Int32)) hx hb d_MO_writeLeaf_44 (by decide) ?_
      refine lv_iand hx hb d_MO_writeLeaf_45 ?_
      refine lv_iconst (v := (1 : Int32)) hx hb d_MO_writeLeaf_46 (by decide) ?_
      refine lv_icmp_ne (tgt := 64) hx hb d_MO_writeLeaf_47 (by decide) (fun c_47 => ?_) (fun c_47 => ?_)
      · have hres := it_f c_47 hres
        have hok := hok.2 c_47
        refine lv_iconst (v := (0 : Int32)) hx hb d_MO_writeLeaf_64 (by decide) ?_
        obtain ⟨hk_65, hok⟩ := hok
        refine go_vz (run_V hx hb hml hown ht hK hP hD (c_MO_putNumber hk_65) (cw_V ht km_MO_150 ki_MO_putNumber ks_MO_putNumber ini_MO kd_MO_putNumber kh_MO_putNumber ⟨Nat.le_of_ble_eq_true rfl, Nat.le_of_ble_eq_true rfl⟩ rfl rfl) (q0 := 0) (ci := 6) (As := [.int ((8 : Int32) + ((4 : Int32) * x2)), .int (0 : Int32)]) (rest := []) rfl rfl rfl hl.1 rfl (Nat.le_of_ble_eq_true rfl) d_MO_writeLeaf_65 ⟨Nat.zero_le _, Nat.zero_le _⟩) hD hS hA (fun z_65 H locs hz_65 hP hD hS => ?_)
        have hres := bindc_eq hz_65 hres
        have hok := bindp_eq hz_65 hok
        have hP : va_P G.1 classes (cM G ad mrf msl mst men mnw mdn mpw mwr mrs mdr mtb mrc mnx mro mit mve mrb mch mva mic mlb mrw mnb mlk mnk z_65) H := hP
        have hD : va_D A (cM G ad mrf msl mst men mnw mdn mpw mwr mrs mdr mtb mrc mnx mro mit mve mrb mch mva mic mlb mrw mnb mlk mnk z_65) := hD
        refine lv_iinc (v := x2 + (1 : Int32)) (lv' := [(2, .int (x2 + (1 : Int32))), (0, .ref (ad 0)), (1, .int x1)]) hx hb d_MO_writeLeaf_68 hl (k := 2) rfl rfl (by decide) rfl (fun ls hl => ?_)
        refine lv_goto (tgt := 23) hx hb d_MO_writeLeaf_71 (by decide) ?_
        exact ih x1 (x2 + (1 : Int32)) mdn mpw mwr mnx mro mit mlk z_65 _ _ _ hok hres hP hD hS (lv_sub hl [1, 2, 0] rfl)
      · have hres := it_t c_47 hres
        have hok := hok.1 c_47
        refine lv_aload_n hx hb d_MO_writeLeaf_50 rfl (lv_at hl 0 rfl) ?_
        refine va_get (D := G.1) (ci := 6) (C := R_MO) (T := F_MO) (N := 26) hx hb ht in_MO hown hK hP 0 rfl rfl 18 (by decide) (ht _ kf_MO_39) (fun _ h9 => h9) rfl d_MO_writeLeaf_51 ?_
        refine lv_bipush (v := (8 : Int32)) hx hb d_MO_writeLeaf_54 (by decide) ?_
        refine lv_iload_n hx hb d_MO_writeLeaf_56 rfl (lv_at hl 1 rfl) ?_
        refine lv_imul hx hb d_MO_writeLeaf_57 ?_
        refine lv_iload_n hx hb d_MO_writeLeaf_58 rfl (lv_at hl 2 rfl) ?_
        refine lv_iadd hx hb d_MO_writeLeaf_59 ?_
        obtain ⟨hi_60, hok⟩ := hok
        refine va_iald hx hb hK hP 9 0 rfl rfl hi_60 d_MO_writeLeaf_60 ?_
        refine lv_goto (tgt := 65) hx hb d_MO_writeLeaf_61 (by decide) ?_
        obtain ⟨hk_65, hok⟩ := hok
        refine go_vz (run_V hx hb hml hown ht hK hP hD (c_MO_putNumber hk_65) (cw_V ht km_MO_150 ki_MO_putNumber ks_MO_putNumber ini_MO kd_MO_putNumber kh_MO_putNumber ⟨Nat.le_of_ble_eq_true rfl, Nat.le_of_ble_eq_true rfl⟩ rfl rfl) (q0 := 0) (ci := 6) (As := [.int ((8 : Int32) + ((4 : Int32) * x2)), .int (mrw (((8 : Int32) * x1) + x2).toNatClampNeg)]) (rest := []) rfl rfl rfl hl.1 rfl (Nat.le_of_ble_eq_true rfl) d_MO_writeLeaf_65 ⟨Nat.zero_le _, Nat.zero_le _⟩) hD hS hA (fun z_65 H locs hz_65 hP hD hS => ?_)
        have hres := bindc_eq hz_65 hres
        have hok := bindp_eq hz_65 hok
        have hP : va_P G.1 classes (cM G ad mrf msl mst men mnw mdn mpw mwr mrs mdr mtb mrc mnx mro mit mve mrb mch mva mic mlb mrw mnb mlk mnk z_65) H := hP
        have hD : va_D A (cM G ad mrf msl mst men mnw mdn mpw mwr mrs mdr mtb mrc mnx mro mit mve mrb mch mva mic mlb mrw mnb mlk mnk z_65) := hD
        refine lv_iinc (v := x2 + (1 : Int32)) (lv' := [(2, .int (x2 + (1 : Int32))), (0, .ref (ad 0)), (1, .int x1)]) hx hb d_MO_writeLeaf_68 hl (k := 2) rfl rfl (by decide) rfl (fun ls hl => ?_)
        refine lv_goto (tgt := 23) hx hb d_MO_writeLeaf_71 (by decide) ?_
        exact ih x1 (x2 + (1 : Int32)) mdn mpw mwr mnx mro mit mlk z_65 _ _ _ hok hres hP hD hS (lv_sub hl [1, 2, 0] rfl)
def f_MO_writeLeaf (p0 : Int32) (msl : Int32) (mnw : Int32) (mdn : Int32) (mpw : Int32) (mwr : Int32) (mnx : Int32) (mro : (Nat → Int32)) (mit : (Nat → Int32)) (mlb : (Nat → Int32)) (mrw : (Nat → Int32)) (mlk : (Nat → Int32)) (mmd : (Nat → Int32)) : Int32 × Int32 × Int32 × Int32 × Int32 × (Nat → Int32) × (Nat → Int32) × (Nat → Int32) × (Nat → Int32) := bindc (f_MO_begin (1 : Int32) (mlb p0.toNatClampNeg) mnw mnx mmd) (fun z_18 => f_MO_writeLeaf_23 1024 p0 (0 : Int32) msl mnw mdn mpw mwr mnx mro mit mlb mrw (upd mlk p0.toNatClampNeg mnx) z_18)
def ok_MO_writeLeaf (p0 : Int32) (msl : Int32) (mnw : Int32) (mdn : Int32) (mpw : Int32) (mwr : Int32) (mnx : Int32) (mro : (Nat → Int32)) (mit : (Nat → Int32)) (mlb : (Nat → Int32)) (mrw : (Nat → Int32)) (mlk : (Nat → Int32)) (mmd : (Nat → Int32)) : Prop := vp_in p0 64 ∧ (vp_in p0 64 ∧ (ok_MO_begin (1 : Int32) (mlb p0.toNatClampNeg) mnw mnx mmd ∧ bindp (f_MO_begin (1 : Int32) (mlb p0.toNatClampNeg) mnw mnx mmd) (fun z_18 => ok_MO_writeLeaf_23  1024 p0 (0 : Int32) msl mnw mdn mpw mwr mnx mro mit mlb mrw (upd mlk p0.toNatClampNeg mnx) z_18)))
set_option maxHeartbeats 4000000 in
set_option maxRecDepth 100000 in
theorem c_MO_writeLeaf {l : Launch} {G : GG} {ad : Nat → Nat} {sz : Nat} {mrf : Int32} {msl : Int32} {mst : Int32} {men : Int32} {mnw : Int32} {mdn : Int32} {mpw : Int32} {mwr : Int32} {mrs : Int32} {mdr : Int32} {mtb : Int32} {mrc : Int32} {mnx : Int32} {mro : (Nat → Int32)} {mit : (Nat → Int32)} {mve : (Nat → Int32)} {mrb : (Nat → Int32)} {mch : (Nat → Int32)} {mva : (Nat → Int32)} {mic : (Nat → Int32)} {mlb : (Nat → Int32)} {mrw : (Nat → Int32)} {mnb : (Nat → Int32)} {mlk : (Nat → Int32)} {mnk : (Nat → Int32)} {mmd : (Nat → Int32)} {p0 : Int32} (hok : ok_MO_writeLeaf p0 msl mnw mdn mpw mwr mnx mro mit mlb mrw mlk mmd) : CtI l y_MO_writeLeaf b_MO_writeLeaf 3 (some .boolean) rm_MO_writeLeaf G (cM G ad mrf msl mst men mnw mdn mpw mwr mrs mdr mtb mrc mnx mro mit mve mrb mch mva mic mlb mrw mnb mlk mnk mmd) sz [.ref (ad 0), .int p0] (eqP (f_MO_writeLeaf p0 msl mnw mdn mpw mwr mnx mro mit mlb mrw mlk mmd)) (fun u : Int32 × Int32 × Int32 × Int32 × (Nat → Int32) × (Nat → Int32) × (Nat → Int32) × (Nat → Int32) => (cM G ad mrf msl mst men mnw u.1 u.2.1 u.2.2.1 mrs mdr mtb mrc u.2.2.2.1 u.2.2.2.2.1 u.2.2.2.2.2.1 mve mrb mch mva mic mlb mrw mnb u.2.2.2.2.2.2.1 mnk u.2.2.2.2.2.2.2)) := by
  generalize hres : f_MO_writeLeaf p0 msl mnw mdn mpw mwr mnx mro mit mlb mrw mlk mmd = res
  refine Met_of (Qc := fun A => va_Qi (eqP res) (Wb G A (fun u : Int32 × Int32 × Int32 × Int32 × (Nat → Int32) × (Nat → Int32) × (Nat → Int32) × (Nat → Int32) => (cM G ad mrf msl mst men mnw u.1 u.2.1 u.2.2.1 mrs mdr mtb mrc u.2.2.2.1 u.2.2.2.2.1 u.2.2.2.2.2.1 mve mrb mch mva mic mlb mrw mnb u.2.2.2.2.2.2.1 mnk u.2.2.2.2.2.2.2))) A) (by decide) (Nat.le_of_ble_eq_true rfl) ?_
  intro p e s m below meth c hadm hx hb hr hml hown hlocks ht hK A hA hP hD hS ls hl
  have hC : Cx p l e s m (([.ref (ad 0), .int p0] : List Value)).toArray meth c y_MO_writeLeaf b_MO_writeLeaf 3 (some .boolean) "BookTreesModel" G A := ⟨hx, hb, hr, hml, hown, hlocks, ht, hK, hA⟩
  have hown : s.vm.findClass "BookTreesModel" = some m.cls := hown
  have hl : lv_has ls 3 [(0, .ref (ad 0)), (1, .int p0)] := hl
  rw [f_MO_writeLeaf] at hres
  rw [ok_MO_writeLeaf] at hok
  refine lv_aload_n hx hb d_MO_writeLeaf_0 rfl (lv_at hl 0 rfl) ?_
  refine va_get (D := G.1) (ci := 6) (C := R_MO) (T := F_MO) (N := 26) hx hb ht in_MO hown hK hP 0 rfl rfl 20 (by decide) (ht _ kf_MO_45) (fun _ h9 => h9) rfl d_MO_writeLeaf_1 ?_
  refine lv_iload_n hx hb d_MO_writeLeaf_4 rfl (lv_at hl 1 rfl) ?_
  refine lv_aload_n hx hb d_MO_writeLeaf_5 rfl (lv_at hl 0 rfl) ?_
  refine va_get (D := G.1) (ci := 6) (C := R_MO) (T := F_MO) (N := 26) hx hb ht in_MO hown hK hP 0 rfl rfl 25 (by decide) (ht _ kf_MO_154) (fun _ h9 => h9) rfl d_MO_writeLeaf_6 ?_
  obtain ⟨hi_9, hok⟩ := hok
  refine va_iast hx hb hK hP hD hS 11 0 rfl rfl hi_9 d_MO_writeLeaf_9 (fun H locs hP hD hS => ?_)
  have hP : va_P G.1 classes (cM G ad mrf msl mst men mnw mdn mpw mwr mrs mdr mtb mrc mnx mro mit mve mrb mch mva mic mlb mrw mnb (upd mlk p0.toNatClampNeg mnx) mnk mmd) H := hP
  have hD : va_D A (cM G ad mrf msl mst men mnw mdn mpw mwr mrs mdr mtb mrc mnx mro mit mve mrb mch mva mic mlb mrw mnb (upd mlk p0.toNatClampNeg mnx) mnk mmd) := hD
  refine lv_aload_n hx hb d_MO_writeLeaf_10 rfl (lv_at hl 0 rfl) ?_
  refine lv_iconst (v := (1 : Int32)) hx hb d_MO_writeLeaf_11 (by decide) ?_
  refine lv_aload_n hx hb d_MO_writeLeaf_12 rfl (lv_at hl 0 rfl) ?_
  refine va_get (D := G.1) (ci := 6) (C := R_MO) (T := F_MO) (N := 26) hx hb ht in_MO hown hK hP 0 rfl rfl 17 (by decide) (ht _ kf_MO_36) (fun _ h9 => h9) rfl d_MO_writeLeaf_13 ?_
  refine lv_iload_n hx hb d_MO_writeLeaf_16 rfl (lv_at hl 1 rfl) ?_
  obtain ⟨hi_17, hok⟩ := hok
  refine va_iald hx hb hK hP 8 0 rfl rfl hi_17 d_MO_writeLeaf_17 ?_
  obtain ⟨hk_18, hok⟩ := hok
  refine go_vz (run_V hx hb hml hown ht hK hP hD (c_MO_begin hk_18) (cw_V ht km_MO_178 ki_MO_begin ks_MO_begin ini_MO kd_MO_begin kh_MO_begin ⟨Nat.le_of_ble_eq_true rfl, Nat.le_of_ble_eq_true rfl⟩ rfl rfl) (q0 := 0) (ci := 6) (As := [.int (1 : Int32), .int (mlb p0.toNatClampNeg)]) (rest := []) rfl rfl rfl hl.1 rfl (Nat.le_of_ble_eq_true rfl) d_MO_writeLeaf_18 ⟨Nat.zero_le _, Nat.zero_le _⟩) hD hS hA (fun z_18 H locs hz_18 hP hD hS => ?_)
  have hres := bindc_eq hz_18 hres
  have hok := bindp_eq hz_18 hok
  have hP : va_P G.1 classes (cM G ad mrf msl mst men mnw mdn mpw mwr mrs mdr mtb mrc mnx mro mit mve mrb mch mva mic mlb mrw mnb (upd mlk p0.toNatClampNeg mnx) mnk z_18) H := hP
  have hD : va_D A (cM G ad mrf msl mst men mnw mdn mpw mwr mrs mdr mtb mrc mnx mro mit mve mrb mch mva mic mlb mrw mnb (upd mlk p0.toNatClampNeg mnx) mnk z_18) := hD
  refine lv_iconst (v := (0 : Int32)) hx hb d_MO_writeLeaf_21 (by decide) ?_
  refine lv_istore_n (lv' := [(2, .int (0 : Int32)), (0, .ref (ad 0)), (1, .int p0)]) hx hb d_MO_writeLeaf_22 rfl hl (by decide) rfl (fun ls hl => ?_)
  exact w_MO_writeLeaf_23 hC 1024 p0 (0 : Int32) mdn mpw mwr mnx mro mit (upd mlk p0.toNatClampNeg mnx) z_18 _ _ _ hok hres hP hD hS (lv_sub hl [1, 2, 0] rfl)
/-! ===== BookTreesModel.writeNode(I)Z ===== -/
abbrev rm_MO_writeNode : Room := { frames := 2, cells := 0, slots := 0, locals := 49 }
def f_MO_writeNode_23 : Nat → Int32 → Int32 → Int32 → Int32 → Int32 → Int32 → Int32 → Int32 → (Nat → Int32) → (Nat → Int32) → (Nat → Int32) → (Nat → Int32) → (Nat → Int32) → (Nat → Int32) → Int32 × Int32 × Int32 × Int32 × Int32 × (Nat → Int32) × (Nat → Int32) × (Nat → Int32) × (Nat → Int32)
  | 0, x1, x2, msl, mnw, mdn, mpw, mwr, mnx, mro, mit, mnb, mlk, mnk, mmd => (0, (mdn, mpw, mwr, mnx, mro, mit, mnk, mmd))
  | n + 1, x1, x2, msl, mnw, mdn, mpw, mwr, mnx, mro, mit, mnb, mlk, mnk, mmd => if (8 : Int32) ≤ x2 then bindc (f_MO_finish msl mdn mpw mwr mnx mro mit mmd) (fun z_75 => (z_75.1, (z_75.2.1, z_75.2.2.1, z_75.2.2.2.1, z_75.2.2.2.2.1, z_75.2.2.2.2.2.1, z_75.2.2.2.2.2.2.1, mnk, z_75.2.2.2.2.2.2.2))) else if (((mnb x1.toNatClampNeg) >>> (x2 &&& 31)) &&& (1 : Int32)) = (1 : Int32) then bindc (f_MO_putNumber ((8 : Int32) + ((4 : Int32) * x2)) (mlk (((8 : Int32) * x1) + x2).toNatClampNeg) mmd) (fun z_65 => f_MO_writeNode_23 n x1 (x2 + (1 : Int32)) msl mnw mdn mpw mwr mnx mro mit mnb mlk mnk z_65) else bindc (f_MO_putNumber ((8 : Int32) + ((4 : Int32) * x2)) (0 : Int32) mmd) (fun z_65 => f_MO_writeNode_23 n x1 (x2 + (1 : Int32)) msl mnw mdn mpw mwr mnx mro mit mnb mlk mnk z_65)
def ok_MO_writeNode_23 : Nat → Int32 → Int32 → Int32 → Int32 → Int32 → Int32 → Int32 → Int32 → (Nat → Int32) → (Nat → Int32) → (Nat → Int32) → (Nat → Int32) → (Nat → Int32) → (Nat → Int32) → Prop
  | 0, _, _, _, _, _, _, _, _, _, _, _, _, _, _ => False
  | n + 1, x1, x2, msl, mnw, mdn, mpw, mwr, mnx, mro, mit, mnb, mlk, mnk, mmd => ((8 : Int32) ≤ x2 → ok_MO_finish msl mdn mpw mwr mnx mro mit mmd ∧ bindp (f_MO_finish msl mdn mpw mwr mnx mro mit mmd) (fun z_75 => isB z_75.1)) ∧ (¬ (8 : Int32) ≤ x2 → vp_in x1 8 ∧ (((((mnb x1.toNatClampNeg) >>> (x2 &&& 31)) &&& (1 : Int32)) = (1 : Int32) → vp_in (((8 : Int32) * x1) + x2) 64 ∧ (ok_MO_putNumber ((8 : Int32) + ((4 : Int32) * x2)) (mlk (((8 : Int32) * x1) + x2).toNatClampNeg) mmd ∧ bindp (f_MO_putNumber ((8 : Int32) + ((4 : Int32) * x2)) (mlk (((8 : Int32) * x1) + x2).toNatClampNeg) mmd) (fun z_65 => ok_MO_writeNode_23  n x1 (x2 + (1 : Int32)) msl mnw mdn mpw mwr mnx mro mit mnb mlk mnk z_65))) ∧ (¬ (((mnb x1.toNatClampNeg) >>> (x2 &&& 31)) &&& (1 : Int32)) = (1 : Int32) → ok_MO_putNumber ((8 : Int32) + ((4 : Int32) * x2)) (0 : Int32) mmd ∧ bindp (f_MO_putNumber ((8 : Int32) + ((4 : Int32) * x2)) (0 : Int32) mmd) (fun z_65 => ok_MO_writeNode_23  n x1 (x2 + (1 : Int32)) msl mnw mdn mpw mwr mnx mro mit mnb mlk mnk z_65))))
set_option maxHeartbeats 4000000 in
set_option maxRecDepth 100000 in
theorem w_MO_writeNode_23 {p : Program} {l : Launch} {e : Env} {s : State} {m : MethodId} {args : Array Value} {below : List Frame} {meth : Method} {c : Code} {A : Nat → Prop} {G : GG} {ad : Nat → Nat} {mrf : Int32} {msl : Int32} {mst : Int32} {men : Int32} {mnw : Int32} {mrs : Int32} {mdr : Int32} {mtb : Int32} {mrc : Int32} {mve : (Nat → Int32)} {mrb : (Nat → Int32)} {mch : (Nat → Int32)} {mva : (Nat → Int32)} {mic : (Nat → Int32)} {mlb : (Nat → Int32)} {mrw : (Nat → Int32)} {mnb : (Nat → Int32)} {mlk : (Nat → Int32)} {res : Int32 × Int32 × Int32 × Int32 × Int32 × (Nat → Int32) × (Nat → Int32) × (Nat → Int32) × (Nat → Int32)} (hC : Cx p l e s m args meth c y_MO_writeNode b_MO_writeNode 3 (some .boolean) "BookTreesModel" G A) : ∀ (n : Nat) (x1 : Int32) (x2 : Int32) (mdn : Int32) (mpw : Int32) (mwr : Int32) (mnx : Int32) (mro : (Nat → Int32)) (mit : (Nat → Int32)) (mnk : (Nat → Int32)) (mmd : (Nat → Int32)) (H : Heap) (locs : List Loc) (ls : Array Slot), ok_MO_writeNode_23 n x1 x2 msl mnw mdn mpw mwr mnx mro mit mnb mlk mnk mmd → f_MO_writeNode_23 n x1 x2 msl mnw mdn mpw mwr mnx mro mit mnb mlk mnk mmd = res → va_P G.1 classes (cM G ad mrf msl mst men mnw mdn mpw mwr mrs mdr mtb mrc mnx mro mit mve mrb mch mva mic mlb mrw mnb mlk mnk mmd) H → va_D A (cM G ad mrf msl mst men mnw mdn mpw mwr mrs mdr mtb mrc mnx mro mit mve mrb mch mva mic mlb mrw mnb mlk mnk mmd) → va_S A s.heap H locs → lv_has ls 3 [(0, .ref (ad 0)), (1, .int x1), (2, .int x2)] → W p l e rm_MO_writeNode s m args below meth c H locs 0 0 (MQ below (va_Qi (eqP res) (Wb G A (fun u : Int32 × Int32 × Int32 × Int32 × (Nat → Int32) × (Nat → Int32) × (Nat → Int32) × (Nat → Int32) => (cM G ad mrf msl mst men mnw u.1 u.2.1 u.2.2.1 mrs mdr mtb mrc u.2.2.2.1 u.2.2.2.2.1 u.2.2.2.2.2.1 mve mrb mch mva mic mlb mrw mnb mlk u.2.2.2.2.2.2.1 u.2.2.2.2.2.2.2))) A) args s 0 0 A) (F0 m 23 ls []) := by
  obtain ⟨hx, hb, hr, hml, hown, hlocks, ht, hK, hA⟩ := id hC
  intro n
  induction n with
  | zero => intro x1 x2 mdn mpw mwr mnx mro mit mnk mmd H locs ls hok; exact hok.elim
  | succ n ih =>
    intro x1 x2 mdn mpw mwr mnx mro mit mnk mmd H locs ls hok hres hP hD hS hl
    rw [f_MO_writeNode_23] at hres
    rw [ok_MO_writeNode_23] at hok
    refine lv_iload_n hx hb d_MO_writeNode_23 rfl (lv_at hl 2 rfl) ?_
    refine lv_bipush (v := (8 : Int32)) hx hb d_MO_writeNode_24 (by decide) ?_
    refine lv_icmp_ge (tgt := 74) hx hb d_MO_writeNode_26 (by decide) (fun c_26 => ?_) (fun c_26 => ?_)
    · have hres := it_t c_26 hres
      have hok := hok.1 c_26
      refine lv_aload_n hx hb d_MO_writeNode_74 rfl (lv_at hl 0 rfl) ?_
      obtain ⟨hk_75, hok⟩ := hok
      refine go_iz (run_V hx hb hml hown ht hK hP hD (c_MO_finish hk_75) (cw_V ht km_MO_181 ki_MO_finish ks_MO_finish ini_MO kd_MO_finish kh_MO_finish ⟨Nat.le_of_ble_eq_true rfl, Nat.le_of_ble_eq_true rfl⟩ rfl rfl) (q0 := 0) (ci := 6) (As := []) (rest := []) rfl rfl rfl hl.1 rfl (Nat.le_of_ble_eq_true rfl) d_MO_writeNode_75 ⟨Nat.zero_le _, Nat.zero_le _⟩) hD hS hA (fun z_75 H locs hz_75 hP hD hS => ?_)
      have hres := bindc_eq hz_75 hres
      have hok := bindp_eq hz_75 hok
      have hP : va_P G.1 classes (cM G ad mrf msl mst men mnw z_75.2.1 z_75.2.2.1 z_75.2.2.2.1 mrs mdr mtb mrc z_75.2.2.2.2.1 z_75.2.2.2.2.2.1 z_75.2.2.2.2.2.2.1 mve mrb mch mva mic mlb mrw mnb mlk mnk z_75.2.2.2.2.2.2.2) H := hP
      have hD : va_D A (cM G ad mrf msl mst men mnw z_75.2.1 z_75.2.2.1 z_75.2.2.2.1 mrs mdr mtb mrc z_75.2.2.2.2.1 z_75.2.2.2.2.2.1 z_75.2.2.2.2.2.2.1 mve mrb mch mva mic mlb mrw mnb mlk mnk z_75.2.2.2.2.2.2.2) := hD
      exact en_z (w1 := (fun u : Int32 × Int32 × Int32 × Int32 × (Nat → Int32) × (Nat → Int32) × (Nat → Int32) × (Nat → Int32) => (cM G ad mrf msl mst men mnw u.1 u.2.1 u.2.2.1 mrs mdr mtb mrc u.2.2.2.1 u.2.2.2.2.1 u.2.2.2.2.2.1 mve mrb mch mva mic mlb mrw mnb mlk u.2.2.2.2.2.2.1 u.2.2.2.2.2.2.2))) (z_75.2.1, z_75.2.2.1, z_75.2.2.2.1, z_75.2.2.2.2.1, z_75.2.2.2.2.2.1, z_75.2.2.2.2.2.2.1, mnk, z_75.2.2.2.2.2.2.2) hx hb hr hlocks hK hP hD hS hres hok d_MO_writeNode_78
    · have hres := it_f c_26 hres
      have hok := hok.2 c_26
      refine lv_aload_n hx hb d_MO_writeNode_29 rfl (lv_at hl 0 rfl) ?_
      refine lv_bipush (v := (8 : Int32)) hx hb d_MO_writeNode_30 (by decide) ?_
      refine lv_iconst (v := (4 : Int32)) hx hb d_MO_writeNode_32 (by decide) ?_
      refine lv_iload_n hx hb d_MO_writeNode_33 rfl (lv_at hl 2 rfl) ?_
      refine lv_imul hx hb d_MO_writeNode_34 ?_
      refine lv_iadd hx hb d_MO_writeNode_35 ?_
      refine lv_aload_n hx hb d_MO_writeNode_36 rfl (lv_at hl 0 rfl) ?_
      refine va_get (D := G.1) (ci := 6) (C := R_MO) (T := F_MO) (N := 26) hx hb ht in_MO hown hK hP 0 rfl rfl 19 (by decide) (ht _ kf_MO_42) (fun _ h9 => h9) rfl d_MO_writeNode_37 ?_
      refine lv_iload_n hx hb d_MO_writeNode_40 rfl (lv_at hl 1 rfl) ?_
      obtain ⟨hi_41, hok⟩ := hok
      refine va_iald hx hb hK hP 10 0 rfl rfl hi_41 d_MO_writeNode_41 ?_
      refine lv_iload_n hx hb d_MO_writeNode_42 rfl (lv_at hl 2 rfl) ?_
      refine lv_ishr hx hb d_MO_writeNode_43 ?_
      refine lv_iconst (v := (1 : Int32)) hx hb d_MO_writeNode_44 (by decide) ?_
      refine lv_iand hx hb d_MO_writeNode_45 ?_
      refine lv_iconst (v := (1 : Int32)) hx hb d_MO_writeNode_46 (by decide) ?_
      refine lv_icmp_ne (tgt := 64) hx hb d_MO_writeNode_47 (by decide) (fun c_47 => ?_) (fun c_47 => ?_)
      · have hres := it_f c_47 hres
        have hok := hok.2 c_47
        refine lv_iconst (v := (0 : Int32)) hx hb d_MO_writeNode_64 (by decide) ?_
        obtain ⟨hk_65, hok⟩ := hok
        refine go_vz (run_V hx hb hml hown ht hK hP hD (c_MO_putNumber hk_65) (cw_V ht km_MO_150 ki_MO_putNumber ks_MO_putNumber ini_MO kd_MO_putNumber kh_MO_putNumber ⟨Nat.le_of_ble_eq_true rfl, Nat.le_of_ble_eq_true rfl⟩ rfl rfl) (q0 := 0) (ci := 6) (As := [.int ((8 : Int32) + ((4 : Int32) * x2)), .int (0 : Int32)]) (rest := []) rfl rfl rfl hl.1 rfl (Nat.le_of_ble_eq_true rfl) d_MO_writeNode_65 ⟨Nat.zero_le _, Nat.zero_le _⟩) hD hS hA (fun z_65 H locs hz_65 hP hD hS => ?_)
        have hres := bindc_eq hz_65 hres
        have hok := bindp_eq hz_65 hok
        have hP : va_P G.1 classes (cM G ad mrf msl mst men mnw mdn mpw mwr mrs mdr mtb mrc mnx mro mit mve mrb mch mva mic mlb mrw mnb mlk mnk z_65) H := hP
        have hD : va_D A (cM G ad mrf msl mst men mnw mdn mpw mwr mrs mdr mtb mrc mnx mro mit mve mrb mch mva mic mlb mrw mnb mlk mnk z_65) := hD
        refine lv_iinc (v := x2 + (1 : Int32)) (lv' := [(2, .int (x2 + (1 : Int32))), (0, .ref (ad 0)), (1, .int x1)]) hx hb d_MO_writeNode_68 hl (k := 2) rfl rfl (by decide) rfl (fun ls hl => ?_)
        refine lv_goto (tgt := 23) hx hb d_MO_writeNode_71 (by decide) ?_
        exact ih x1 (x2 + (1 : Int32)) mdn mpw mwr mnx mro mit mnk z_65 _ _ _ hok hres hP hD hS (lv_sub hl [1, 2, 0] rfl)
      · have hres := it_t c_47 hres
        have hok := hok.1 c_47
        refine lv_aload_n hx hb d_MO_writeNode_50 rfl (lv_at hl 0 rfl) ?_
        refine va_get (D := G.1) (ci := 6) (C := R_MO) (T := F_MO) (N := 26) hx hb ht in_MO hown hK hP 0 rfl rfl 20 (by decide) (ht _ kf_MO_45) (fun _ h9 => h9) rfl d_MO_writeNode_51 ?_
        refine lv_bipush (v := (8 : Int32)) hx hb d_MO_writeNode_54 (by decide) ?_
        refine lv_iload_n hx hb d_MO_writeNode_56 rfl (lv_at hl 1 rfl) ?_
        refine lv_imul hx hb d_MO_writeNode_57 ?_
        refine lv_iload_n hx hb d_MO_writeNode_58 rfl (lv_at hl 2 rfl) ?_
        refine lv_iadd hx hb d_MO_writeNode_59 ?_
        obtain ⟨hi_60, hok⟩ := hok
        refine va_iald hx hb hK hP 11 0 rfl rfl hi_60 d_MO_writeNode_60 ?_
        refine lv_goto (tgt := 65) hx hb d_MO_writeNode_61 (by decide) ?_
        obtain ⟨hk_65, hok⟩ := hok
        refine go_vz (run_V hx hb hml hown ht hK hP hD (c_MO_putNumber hk_65) (cw_V ht km_MO_150 ki_MO_putNumber ks_MO_putNumber ini_MO kd_MO_putNumber kh_MO_putNumber ⟨Nat.le_of_ble_eq_true rfl, Nat.le_of_ble_eq_true rfl⟩ rfl rfl) (q0 := 0) (ci := 6) (As := [.int ((8 : Int32) + ((4 : Int32) * x2)), .int (mlk (((8 : Int32) * x1) + x2).toNatClampNeg)]) (rest := []) rfl rfl rfl hl.1 rfl (Nat.le_of_ble_eq_true rfl) d_MO_writeNode_65 ⟨Nat.zero_le _, Nat.zero_le _⟩) hD hS hA (fun z_65 H locs hz_65 hP hD hS => ?_)
        have hres := bindc_eq hz_65 hres
        have hok := bindp_eq hz_65 hok
        have hP : va_P G.1 classes (cM G ad mrf msl mst men mnw mdn mpw mwr mrs mdr mtb mrc mnx mro mit mve mrb mch mva mic mlb mrw mnb mlk mnk z_65) H := hP
        have hD : va_D A (cM G ad mrf msl mst men mnw mdn mpw mwr mrs mdr mtb mrc mnx mro mit mve mrb mch mva mic mlb mrw mnb mlk mnk z_65) := hD
        refine lv_iinc (v := x2 + (1 : Int32)) (lv' := [(2, .int (x2 + (1 : Int32))), (0, .ref (ad 0)), (1, .int x1)]) hx hb d_MO_writeNode_68 hl (k := 2) rfl rfl (by decide) rfl (fun ls hl => ?_)
        refine lv_goto (tgt := 23) hx hb d_MO_writeNode_71 (by decide) ?_
        exact ih x1 (x2 + (1 : Int32)) mdn mpw mwr mnx mro mit mnk z_65 _ _ _ hok hres hP hD hS (lv_sub hl [1, 2, 0] rfl)
def f_MO_writeNode (p0 : Int32) (msl : Int32) (mnw : Int32) (mdn : Int32) (mpw : Int32) (mwr : Int32) (mnx : Int32) (mro : (Nat → Int32)) (mit : (Nat → Int32)) (mnb : (Nat → Int32)) (mlk : (Nat → Int32)) (mnk : (Nat → Int32)) (mmd : (Nat → Int32)) : Int32 × Int32 × Int32 × Int32 × Int32 × (Nat → Int32) × (Nat → Int32) × (Nat → Int32) × (Nat → Int32) := bindc (f_MO_begin (2 : Int32) (mnb p0.toNatClampNeg) mnw mnx mmd) (fun z_18 => f_MO_writeNode_23 1024 p0 (0 : Int32) msl mnw mdn mpw mwr mnx mro mit mnb mlk (upd mnk p0.toNatClampNeg mnx) z_18)
def ok_MO_writeNode (p0 : Int32) (msl : Int32) (mnw : Int32) (mdn : Int32) (mpw : Int32) (mwr : Int32) (mnx : Int32) (mro : (Nat → Int32)) (mit : (Nat → Int32)) (mnb : (Nat → Int32)) (mlk : (Nat → Int32)) (mnk : (Nat → Int32)) (mmd : (Nat → Int32)) : Prop := vp_in p0 8 ∧ (vp_in p0 8 ∧ (ok_MO_begin (2 : Int32) (mnb p0.toNatClampNeg) mnw mnx mmd ∧ bindp (f_MO_begin (2 : Int32) (mnb p0.toNatClampNeg) mnw mnx mmd) (fun z_18 => ok_MO_writeNode_23  1024 p0 (0 : Int32) msl mnw mdn mpw mwr mnx mro mit mnb mlk (upd mnk p0.toNatClampNeg mnx) z_18)))
set_option maxHeartbeats 4000000 in
set_option maxRecDepth 100000 in
theorem c_MO_writeNode {l : Launch} {G : GG} {ad : Nat → Nat} {sz : Nat} {mrf : Int32} {msl : Int32} {mst : Int32} {men : Int32} {mnw : Int32} {mdn : Int32} {mpw : Int32} {mwr : Int32} {mrs : Int32} {mdr : Int32} {mtb : Int32} {mrc : Int32} {mnx : Int32} {mro : (Nat → Int32)} {mit : (Nat → Int32)} {mve : (Nat → Int32)} {mrb : (Nat → Int32)} {mch : (Nat → Int32)} {mva : (Nat → Int32)} {mic : (Nat → Int32)} {mlb : (Nat → Int32)} {mrw : (Nat → Int32)} {mnb : (Nat → Int32)} {mlk : (Nat → Int32)} {mnk : (Nat → Int32)} {mmd : (Nat → Int32)} {p0 : Int32} (hok : ok_MO_writeNode p0 msl mnw mdn mpw mwr mnx mro mit mnb mlk mnk mmd) : CtI l y_MO_writeNode b_MO_writeNode 3 (some .boolean) rm_MO_writeNode G (cM G ad mrf msl mst men mnw mdn mpw mwr mrs mdr mtb mrc mnx mro mit mve mrb mch mva mic mlb mrw mnb mlk mnk mmd) sz [.ref (ad 0), .int p0] (eqP (f_MO_writeNode p0 msl mnw mdn mpw mwr mnx mro mit mnb mlk mnk mmd)) (fun u : Int32 × Int32 × Int32 × Int32 × (Nat → Int32) × (Nat → Int32) × (Nat → Int32) × (Nat → Int32) => (cM G ad mrf msl mst men mnw u.1 u.2.1 u.2.2.1 mrs mdr mtb mrc u.2.2.2.1 u.2.2.2.2.1 u.2.2.2.2.2.1 mve mrb mch mva mic mlb mrw mnb mlk u.2.2.2.2.2.2.1 u.2.2.2.2.2.2.2)) := by
  generalize hres : f_MO_writeNode p0 msl mnw mdn mpw mwr mnx mro mit mnb mlk mnk mmd = res
  refine Met_of (Qc := fun A => va_Qi (eqP res) (Wb G A (fun u : Int32 × Int32 × Int32 × Int32 × (Nat → Int32) × (Nat → Int32) × (Nat → Int32) × (Nat → Int32) => (cM G ad mrf msl mst men mnw u.1 u.2.1 u.2.2.1 mrs mdr mtb mrc u.2.2.2.1 u.2.2.2.2.1 u.2.2.2.2.2.1 mve mrb mch mva mic mlb mrw mnb mlk u.2.2.2.2.2.2.1 u.2.2.2.2.2.2.2))) A) (by decide) (Nat.le_of_ble_eq_true rfl) ?_
  intro p e s m below meth c hadm hx hb hr hml hown hlocks ht hK A hA hP hD hS ls hl
  have hC : Cx p l e s m (([.ref (ad 0), .int p0] : List Value)).toArray meth c y_MO_writeNode b_MO_writeNode 3 (some .boolean) "BookTreesModel" G A := ⟨hx, hb, hr, hml, hown, hlocks, ht, hK, hA⟩
  have hown : s.vm.findClass "BookTreesModel" = some m.cls := hown
  have hl : lv_has ls 3 [(0, .ref (ad 0)), (1, .int p0)] := hl
  rw [f_MO_writeNode] at hres
  rw [ok_MO_writeNode] at hok
  refine lv_aload_n hx hb d_MO_writeNode_0 rfl (lv_at hl 0 rfl) ?_
  refine va_get (D := G.1) (ci := 6) (C := R_MO) (T := F_MO) (N := 26) hx hb ht in_MO hown hK hP 0 rfl rfl 22 (by decide) (ht _ kf_MO_48) (fun _ h9 => h9) rfl d_MO_writeNode_1 ?_
  refine lv_iload_n hx hb d_MO_writeNode_4 rfl (lv_at hl 1 rfl) ?_
  refine lv_aload_n hx hb d_MO_writeNode_5 rfl (lv_at hl 0 rfl) ?_
  refine va_get (D := G.1) (ci := 6) (C := R_MO) (T := F_MO) (N := 26) hx hb ht in_MO hown hK hP 0 rfl rfl 25 (by decide) (ht _ kf_MO_154) (fun _ h9 => h9) rfl d_MO_writeNode_6 ?_
  obtain ⟨hi_9, hok⟩ := hok
  refine va_iast hx hb hK hP hD hS 12 0 rfl rfl hi_9 d_MO_writeNode_9 (fun H locs hP hD hS => ?_)
  have hP : va_P G.1 classes (cM G ad mrf msl mst men mnw mdn mpw mwr mrs mdr mtb mrc mnx mro mit mve mrb mch mva mic mlb mrw mnb mlk (upd mnk p0.toNatClampNeg mnx) mmd) H := hP
  have hD : va_D A (cM G ad mrf msl mst men mnw mdn mpw mwr mrs mdr mtb mrc mnx mro mit mve mrb mch mva mic mlb mrw mnb mlk (upd mnk p0.toNatClampNeg mnx) mmd) := hD
  refine lv_aload_n hx hb d_MO_writeNode_10 rfl (lv_at hl 0 rfl) ?_
  refine lv_iconst (v := (2 : Int32)) hx hb d_MO_writeNode_11 (by decide) ?_
  refine lv_aload_n hx hb d_MO_writeNode_12 rfl (lv_at hl 0 rfl) ?_
  refine va_get (D := G.1) (ci := 6) (C := R_MO) (T := F_MO) (N := 26) hx hb ht in_MO hown hK hP 0 rfl rfl 19 (by decide) (ht _ kf_MO_42) (fun _ h9 => h9) rfl d_MO_writeNode_13 ?_
  refine lv_iload_n hx hb d_MO_writeNode_16 rfl (lv_at hl 1 rfl) ?_
  obtain ⟨hi_17, hok⟩ := hok
  refine va_iald hx hb hK hP 10 0 rfl rfl hi_17 d_MO_writeNode_17 ?_
  obtain ⟨hk_18, hok⟩ := hok
  refine go_vz (run_V hx hb hml hown ht hK hP hD (c_MO_begin hk_18) (cw_V ht km_MO_178 ki_MO_begin ks_MO_begin ini_MO kd_MO_begin kh_MO_begin ⟨Nat.le_of_ble_eq_true rfl, Nat.le_of_ble_eq_true rfl⟩ rfl rfl) (q0 := 0) (ci := 6) (As := [.int (2 : Int32), .int (mnb p0.toNatClampNeg)]) (rest := []) rfl rfl rfl hl.1 rfl (Nat.le_of_ble_eq_true rfl) d_MO_writeNode_18 ⟨Nat.zero_le _, Nat.zero_le _⟩) hD hS hA (fun z_18 H locs hz_18 hP hD hS => ?_)
  have hres := bindc_eq hz_18 hres
  have hok := bindp_eq hz_18 hok
  have hP : va_P G.1 classes (cM G ad mrf msl mst men mnw mdn mpw mwr mrs mdr mtb mrc mnx mro mit mve mrb mch mva mic mlb mrw mnb mlk (upd mnk p0.toNatClampNeg mnx) z_18) H := hP
  have hD : va_D A (cM G ad mrf msl mst men mnw mdn mpw mwr mrs mdr mtb mrc mnx mro mit mve mrb mch mva mic mlb mrw mnb mlk (upd mnk p0.toNatClampNeg mnx) z_18) := hD
  refine lv_iconst (v := (0 : Int32)) hx hb d_MO_writeNode_21 (by decide) ?_
  refine lv_istore_n (lv' := [(2, .int (0 : Int32)), (0, .ref (ad 0)), (1, .int p0)]) hx hb d_MO_writeNode_22 rfl hl (by decide) rfl (fun ls hl => ?_)
  exact w_MO_writeNode_23 hC 1024 p0 (0 : Int32) mdn mpw mwr mnx mro mit (upd mnk p0.toNatClampNeg mnx) z_18 _ _ _ hok hres hP hD hS (lv_sub hl [1, 2, 0] rfl)
