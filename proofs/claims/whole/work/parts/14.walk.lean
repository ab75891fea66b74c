/-! ===== BookTrees$Roll.use(II)V ===== -/
abbrev rm_RL_use : Room := { frames := 0, cells := 0, slots := 0, locals := 0 }
def f_RL_use (p0 : Int32) (p1 : Int32) (cst : Int32) (cen : Int32) : Int32 × Int32 := (p0, p1)
set_option maxHeartbeats 4000000 in
set_option maxRecDepth 100000 in
theorem c_RL_use {l : Launch} {G : GG} {ad : Nat → Nat} {nb : Nat} {nt : Nat} {sz : Nat} {cfa : Int32} {cle : Int32} {cwr : Int32} {csl : Int32} {cst : Int32} {cen : Int32} {cby : (Nat → Int32)} {cto : (Nat → Int32)} {csh : (Nat → Int32)} {cdz : Int32} {cch : (Nat → Int32)} {cva : (Nat → Int32)} {css : Int32} {cve : (Nat → Int32)} {cro : (Nat → Int32)} {crc : Int32} {cma : (Nat → Int32)} {cbi : (Nat → Int32)} {ces : (Nat → Int32)} {cbl : (Nat → Int32)} {crt : (Nat → Int32)} {p0 : Int32} {p1 : Int32} : CtV l y_RL_use b_RL_use 3 none rm_RL_use G (cC G ad nb nt cfa cle cwr csl cst cen cby cto csh cdz cch cva css cve cro crc cma cbi ces cbl crt) sz [.ref (ad 2), .int p0, .int p1] (eqV (f_RL_use p0 p1 cst cen)) (fun u : Int32 × Int32 => (cC G ad nb nt cfa cle cwr csl u.1 u.2 cby cto csh cdz cch cva css cve cro crc cma cbi ces cbl crt)) := by
  generalize hres : f_RL_use p0 p1 cst cen = res
  refine Met_of (Qc := fun A => va_Qv (eqV res) (Wb G A (fun u : Int32 × Int32 => (cC G ad nb nt cfa cle cwr csl u.1 u.2 cby cto csh cdz cch cva css cve cro crc cma cbi ces cbl crt))) A) (by decide) (Nat.le_of_ble_eq_true rfl) ?_
  intro p e s m below meth c hadm hx hb hr hml hown hlocks ht hK A hA hP hD hS ls hl
  have hC : Cx p l e s m (([.ref (ad 2), .int p0, .int p1] : List Value)).toArray meth c y_RL_use b_RL_use 3 none "BookTrees$Roll" G A := ⟨hx, hb, hr, hml, hown, hlocks, ht, hK, hA⟩
  have hown : s.vm.findClass "BookTrees$Roll" = some m.cls := hown
  have hl : lv_has ls 3 [(0, .ref (ad 2)), (1, .int p0), (2, .int p1)] := hl
  rw [f_RL_use] at hres
  refine lv_aload_n hx hb d_RL_use_0 rfl (lv_at hl 0 rfl) ?_
  refine lv_iload_n hx hb d_RL_use_1 rfl (lv_at hl 1 rfl) ?_
  refine va_put (D := G.1) (ci := 2) (v := .int p0) (ty := .int) (C := R_RL) (T := F_RL) (N := 7) hx hb ht in_RL t_RL to_RL nm_RL hown hK hP hD hS 2 rfl rfl 5 (by decide) (ht _ kf_RL_39) (fun _ h9 => h9) rfl (to_RL 5 (by decide)) rfl rfl (Nat.le_of_ble_eq_true rfl) d_RL_use_2 (fun H locs hP hD hS => ?_)
  have hP : va_P G.1 classes (cC G ad nb nt cfa cle cwr csl p0 cen cby cto csh cdz cch cva css cve cro crc cma cbi ces cbl crt) H := hP
  have hD : va_D A (cC G ad nb nt cfa cle cwr csl p0 cen cby cto csh cdz cch cva css cve cro crc cma cbi ces cbl crt) := hD
  refine lv_aload_n hx hb d_RL_use_5 rfl (lv_at hl 0 rfl) ?_
  refine lv_iload_n hx hb d_RL_use_6 rfl (lv_at hl 2 rfl) ?_
  refine va_put (D := G.1) (ci := 2) (v := .int p1) (ty := .int) (C := R_RL) (T := F_RL) (N := 7) hx hb ht in_RL t_RL to_RL nm_RL hown hK hP hD hS 2 rfl rfl 6 (by decide) (ht _ kf_RL_42) (fun _ h9 => h9) rfl (to_RL 6 (by decide)) rfl rfl (Nat.le_of_ble_eq_true rfl) d_RL_use_7 (fun H locs hP hD hS => ?_)
  have hP : va_P G.1 classes (cC G ad nb nt cfa cle cwr csl p0 p1 cby cto csh cdz cch cva css cve cro crc cma cbi ces cbl crt) H := hP
  have hD : va_D A (cC G ad nb nt cfa cle cwr csl p0 p1 cby cto csh cdz cch cva css cve cro crc cma cbi ces cbl crt) := hD
  exact en_v (w1 := (fun u : Int32 × Int32 => (cC G ad nb nt cfa cle cwr csl u.1 u.2 cby cto csh cdz cch cva css cve cro crc cma cbi ces cbl crt))) (p0, p1) hx hb hr hlocks hK hP hD hS hres d_RL_use_10
/-! ===== BookTrees$Shelf.clear()V ===== -/
abbrev rm_SH_clear : Room := { frames := 0, cells := 0, slots := 0, locals := 0 }
def f_SH_clear  (css : Int32) : Int32 := (0 : Int32)
set_option maxHeartbeats 4000000 in
set_option maxRecDepth 100000 in
theorem c_SH_clear {l : Launch} {G : GG} {ad : Nat → Nat} {nb : Nat} {nt : Nat} {sz : Nat} {cfa : Int32} {cle : Int32} {cwr : Int32} {csl : Int32} {cst : Int32} {cen : Int32} {cby : (Nat → Int32)} {cto : (Nat → Int32)} {csh : (Nat → Int32)} {cdz : Int32} {cch : (Nat → Int32)} {cva : (Nat → Int32)} {css : Int32} {cve : (Nat → Int32)} {cro : (Nat → Int32)} {crc : Int32} {cma : (Nat → Int32)} {cbi : (Nat → Int32)} {ces : (Nat → Int32)} {cbl : (Nat → Int32)} {crt : (Nat → Int32)}  : CtV l y_SH_clear b_SH_clear 1 none rm_SH_clear G (cC G ad nb nt cfa cle cwr csl cst cen cby cto csh cdz cch cva css cve cro crc cma cbi ces cbl crt) sz [.ref (ad 9)] (eqV (f_SH_clear css)) (fun u : Int32 => (cC G ad nb nt cfa cle cwr csl cst cen cby cto csh cdz cch cva u cve cro crc cma cbi ces cbl crt)) := by
  generalize hres : f_SH_clear css = res
  refine Met_of (Qc := fun A => va_Qv (eqV res) (Wb G A (fun u : Int32 => (cC G ad nb nt cfa cle cwr csl cst cen cby cto csh cdz cch cva u cve cro crc cma cbi ces cbl crt))) A) (by decide) (Nat.le_of_ble_eq_true rfl) ?_
  intro p e s m below meth c hadm hx hb hr hml hown hlocks ht hK A hA hP hD hS ls hl
  have hC : Cx p l e s m (([.ref (ad 9)] : List Value)).toArray meth c y_SH_clear b_SH_clear 1 none "BookTrees$Shelf" G A := ⟨hx, hb, hr, hml, hown, hlocks, ht, hK, hA⟩
  have hown : s.vm.findClass "BookTrees$Shelf" = some m.cls := hown
  have hl : lv_has ls 1 [(0, .ref (ad 9))] := hl
  rw [f_SH_clear] at hres
  refine lv_aload_n hx hb d_SH_clear_0 rfl (lv_at hl 0 rfl) ?_
  refine lv_iconst (v := (0 : Int32)) hx hb d_SH_clear_1 (by decide) ?_
  refine va_put (D := G.1) (ci := 4) (v := .int (0 : Int32)) (ty := .int) (C := R_SH) (T := F_SH) (N := 3) hx hb ht in_SH t_SH to_SH nm_SH hown hK hP hD hS 9 rfl rfl 2 (by decide) (ht _ kf_SH_20) (fun _ h9 => h9) rfl (to_SH 2 (by decide)) rfl rfl (Nat.le_of_ble_eq_true rfl) d_SH_clear_2 (fun H locs hP hD hS => ?_)
  have hP : va_P G.1 classes (cC G ad nb nt cfa cle cwr csl cst cen cby cto csh cdz cch cva (0 : Int32) cve cro crc cma cbi ces cbl crt) H := hP
  have hD : va_D A (cC G ad nb nt cfa cle cwr csl cst cen cby cto csh cdz cch cva (0 : Int32) cve cro crc cma cbi ces cbl crt) := hD
  exact en_v (w1 := (fun u : Int32 => (cC G ad nb nt cfa cle cwr csl cst cen cby cto csh cdz cch cva u cve cro crc cma cbi ces cbl crt))) (0 : Int32) hx hb hr hlocks hK hP hD hS hres d_SH_clear_5
/-! ===== BookTrees$Shelf.insert(III)V ===== -/
abbrev rm_SH_insert : Room := { frames := 0, cells := 0, slots := 0, locals := 0 }
def f_SH_insert_6 : Nat → Int32 → Int32 → Int32 → Int32 → Int32 → (Nat → Int32) → (Nat → Int32) → Int32 × (Nat → Int32) × (Nat → Int32)
  | 0, x1, x2, x3, x4, css, cve, cro => (css, cve, cro)
  | n + 1, x1, x2, x3, x4, css, cve, cro => if x4 ≤ x1 then (css + (1 : Int32), upd cve x1.toNatClampNeg x2, upd cro x1.toNatClampNeg x3) else f_SH_insert_6 n x1 x2 x3 (x4 + (-1 : Int32)) css (upd cve x4.toNatClampNeg (cve (x4 - (1 : Int32)).toNatClampNeg)) (upd cro x4.toNatClampNeg (cro (x4 - (1 : Int32)).toNatClampNeg))
def ok_SH_insert_6 (nb : Nat) (nt : Nat) : Nat → Int32 → Int32 → Int32 → Int32 → Int32 → (Nat → Int32) → (Nat → Int32) → Prop
  | 0, _, _, _, _, _, _, _ => False
  | n + 1, x1, x2, x3, x4, css, cve, cro => (x4 ≤ x1 → vp_in x1 200 ∧ (vp_in x1 200)) ∧ (¬ x4 ≤ x1 → vp_in (x4 - (1 : Int32)) 200 ∧ (vp_in x4 200 ∧ (vp_in (x4 - (1 : Int32)) 200 ∧ (vp_in x4 200 ∧ (ok_SH_insert_6 nb nt  n x1 x2 x3 (x4 + (-1 : Int32)) css (upd cve x4.toNatClampNeg (cve (x4 - (1 : Int32)).toNatClampNeg)) (upd cro x4.toNatClampNeg (cro (x4 - (1 : Int32)).toNatClampNeg)))))))
set_option maxHeartbeats 4000000 in
set_option maxRecDepth 100000 in
theorem w_SH_insert_6 {p : Program} {l : Launch} {e : Env} {s : State} {m : MethodId} {args : Array Value} {below : List Frame} {meth : Method} {c : Code} {A : Nat → Prop} {G : GG} {ad : Nat → Nat} {nb : Nat} {nt : Nat} {cfa : Int32} {cle : Int32} {cwr : Int32} {csl : Int32} {cst : Int32} {cen : Int32} {cby : (Nat → Int32)} {cto : (Nat → Int32)} {csh : (Nat → Int32)} {cdz : Int32} {cch : (Nat → Int32)} {cva : (Nat → Int32)} {crc : Int32} {cma : (Nat → Int32)} {cbi : (Nat → Int32)} {ces : (Nat → Int32)} {cbl : (Nat → Int32)} {crt : (Nat → Int32)} {res : Int32 × (Nat → Int32) × (Nat → Int32)} (hC : Cx p l e s m args meth c y_SH_insert b_SH_insert 5 none "BookTrees$Shelf" G A) : ∀ (n : Nat) (x1 : Int32) (x2 : Int32) (x3 : Int32) (x4 : Int32) (css : Int32) (cve : (Nat → Int32)) (cro : (Nat → Int32)) (H : Heap) (locs : List Loc) (ls : Array Slot), ok_SH_insert_6 nb nt n x1 x2 x3 x4 css cve cro → f_SH_insert_6 n x1 x2 x3 x4 css cve cro = res → va_P G.1 classes (cC G ad nb nt cfa cle cwr csl cst cen cby cto csh cdz cch cva css cve cro crc cma cbi ces cbl crt) H → va_D A (cC G ad nb nt cfa cle cwr csl cst cen cby cto csh cdz cch cva css cve cro crc cma cbi ces cbl crt) → va_S A s.heap H locs → lv_has ls 5 [(0, .ref (ad 9)), (1, .int x1), (2, .int x2), (3, .int x3), (4, .int x4)] → W p l e rm_SH_insert s m args below meth c H locs 0 0 (MQ below (va_Qv (eqV res) (Wb G A (fun u : Int32 × (Nat → Int32) × (Nat → Int32) => (cC G ad nb nt cfa cle cwr csl cst cen cby cto csh cdz cch cva u.1 u.2.1 u.2.2 crc cma cbi ces cbl crt))) A) args s 0 0 A) (F0 m 6 ls []) := by
  obtain ⟨hx, hb, hr, hml, hown, hlocks, ht, hK, hA⟩ := id hC
  intro n
  induction n with
  | zero => intro x1 x2 x3 x4 css cve cro H locs ls hok; exact hok.elim
  | succ n ih =>
    intro x1 x2 x3 x4 css cve cro H locs ls hok hres hP hD hS hl
    rw [f_SH_insert_6] at hres
    rw [ok_SH_insert_6] at hok
    refine lv_iload hx hb d_SH_insert_6 (lv_at hl 4 rfl) ?_
    refine lv_iload_n hx hb d_SH_insert_8 rfl (lv_at hl 1 rfl) ?_
    refine lv_icmp_le (tgt := 50) hx hb d_SH_insert_9 (by decide) (fun c_9 => ?_) (fun c_9 => ?_)
    · have hres := it_t c_9 hres
      have hok := hok.1 c_9
      refine lv_aload_n hx hb d_SH_insert_50 rfl (lv_at hl 0 rfl) ?_
      refine va_get (D := G.1) (ci := 4) (C := R_SH) (T := F_SH) (N := 3) hx hb ht in_SH hown hK hP 9 rfl rfl 0 (by decide) (ht _ kf_SH_11) (fun _ h9 => h9) rfl d_SH_insert_51 ?_
      refine lv_iload_n hx hb d_SH_insert_54 rfl (lv_at hl 1 rfl) ?_
      refine lv_iload_n hx hb d_SH_insert_55 rfl (lv_at hl 2 rfl) ?_
      obtain ⟨hi_56, hok⟩ := hok
      refine va_iast hx hb hK hP hD hS 10 0 rfl rfl hi_56 d_SH_insert_56 (fun H locs hP hD hS => ?_)
      have hP : va_P G.1 classes (cC G ad nb nt cfa cle cwr csl cst cen cby cto csh cdz cch cva css (upd cve x1.toNatClampNeg x2) cro crc cma cbi ces cbl crt) H := hP
      have hD : va_D A (cC G ad nb nt cfa cle cwr csl cst cen cby cto csh cdz cch cva css (upd cve x1.toNatClampNeg x2) cro crc cma cbi ces cbl crt) := hD
      refine lv_aload_n hx hb d_SH_insert_57 rfl (lv_at hl 0 rfl) ?_
      refine va_get (D := G.1) (ci := 4) (C := R_SH) (T := F_SH) (N := 3) hx hb ht in_SH hown hK hP 9 rfl rfl 1 (by decide) (ht _ kf_SH_17) (fun _ h9 => h9) rfl d_SH_insert_58 ?_
      refine lv_iload_n hx hb d_SH_insert_61 rfl (lv_at hl 1 rfl) ?_
      refine lv_iload_n hx hb d_SH_insert_62 rfl (lv_at hl 3 rfl) ?_
      have hi_63 := hok
      refine va_iast hx hb hK hP hD hS 11 0 rfl rfl hi_63 d_SH_insert_63 (fun H locs hP hD hS => ?_)
      have hP : va_P G.1 classes (cC G ad nb nt cfa cle cwr csl cst cen cby cto csh cdz cch cva css (upd cve x1.toNatClampNeg x2) (upd cro x1.toNatClampNeg x3) crc cma cbi ces cbl crt) H := hP
      have hD : va_D A (cC G ad nb nt cfa cle cwr csl cst cen cby cto csh cdz cch cva css (upd cve x1.toNatClampNeg x2) (upd cro x1.toNatClampNeg x3) crc cma cbi ces cbl crt) := hD
      refine lv_aload_n hx hb d_SH_insert_64 rfl (lv_at hl 0 rfl) ?_
      refine lv_dup hx hb d_SH_insert_65 rfl ?_
      refine va_get (D := G.1) (ci := 4) (C := R_SH) (T := F_SH) (N := 3) hx hb ht in_SH hown hK hP 9 rfl rfl 2 (by decide) (ht _ kf_SH_20) (fun _ h9 => h9) rfl d_SH_insert_66 ?_
      refine lv_iconst (v := (1 : Int32)) hx hb d_SH_insert_69 (by decide) ?_
      refine lv_iadd hx hb d_SH_insert_70 ?_
      refine va_put (D := G.1) (ci := 4) (v := .int (css + (1 : Int32))) (ty := .int) (C := R_SH) (T := F_SH) (N := 3) hx hb ht in_SH t_SH to_SH nm_SH hown hK hP hD hS 9 rfl rfl 2 (by decide) (ht _ kf_SH_20) (fun _ h9 => h9) rfl (to_SH 2 (by decide)) rfl rfl (Nat.le_of_ble_eq_true rfl) d_SH_insert_71 (fun H locs hP hD hS => ?_)
      have hP : va_P G.1 classes (cC G ad nb nt cfa cle cwr csl cst cen cby cto csh cdz cch cva (css + (1 : Int32)) (upd cve x1.toNatClampNeg x2) (upd cro x1.toNatClampNeg x3) crc cma cbi ces cbl crt) H := hP
      have hD : va_D A (cC G ad nb nt cfa cle cwr csl cst cen cby cto csh cdz cch cva (css + (1 : Int32)) (upd cve x1.toNatClampNeg x2) (upd cro x1.toNatClampNeg x3) crc cma cbi ces cbl crt) := hD
      exact en_v (w1 := (fun u : Int32 × (Nat → Int32) × (Nat → Int32) => (cC G ad nb nt cfa cle cwr csl cst cen cby cto csh cdz cch cva u.1 u.2.1 u.2.2 crc cma cbi ces cbl crt))) (css + (1 : Int32), upd cve x1.toNatClampNeg x2, upd cro x1.toNatClampNeg x3) hx hb hr hlocks hK hP hD hS hres d_SH_insert_74
    · have hres := it_f c_9 hres
      have hok := hok.2 c_9
      refine lv_aload_n hx hb d_SH_insert_12 rfl (lv_at hl 0 rfl) ?_
      refine va_get (D := G.1) (ci := 4) (C := R_SH) (T := F_SH) (N := 3) hx hb ht in_SH hown hK hP 9 rfl rfl 0 (by decide) (ht _ kf_SH_11) (fun _ h9 => h9) rfl d_SH_insert_13 ?_
      refine lv_iload hx hb d_SH_insert_16 (lv_at hl 4 rfl) ?_
      refine lv_aload_n hx hb d_SH_insert_18 rfl (lv_at hl 0 rfl) ?_
      refine va_get (D := G.1) (ci := 4) (C := R_SH) (T := F_SH) (N := 3) hx hb ht in_SH hown hK hP 9 rfl rfl 0 (by decide) (ht _ kf_SH_11) (fun _ h9 => h9) rfl d_SH_insert_19 ?_
      refine lv_iload hx hb d_SH_insert_22 (lv_at hl 4 rfl) ?_
      refine lv_iconst (v := (1 : Int32)) hx hb d_SH_insert_24 (by decide) ?_
      refine lv_isub hx hb d_SH_insert_25 ?_
      obtain ⟨hi_26, hok⟩ := hok
      refine va_iald hx hb hK hP 10 0 rfl rfl hi_26 d_SH_insert_26 ?_
      obtain ⟨hi_27, hok⟩ := hok
      refine va_iast hx hb hK hP hD hS 10 0 rfl rfl hi_27 d_SH_insert_27 (fun H locs hP hD hS => ?_)
      have hP : va_P G.1 classes (cC G ad nb nt cfa cle cwr csl cst cen cby cto csh cdz cch cva css (upd cve x4.toNatClampNeg (cve (x4 - (1 : Int32)).toNatClampNeg)) cro crc cma cbi ces cbl crt) H := hP
      have hD : va_D A (cC G ad nb nt cfa cle cwr csl cst cen cby cto csh cdz cch cva css (upd cve x4.toNatClampNeg (cve (x4 - (1 : Int32)).toNatClampNeg)) cro crc cma cbi ces cbl crt) := hD
      refine lv_aload_n hx hb d_SH_insert_28 rfl (lv_at hl 0 rfl) ?_
      refine va_get (D := G.1) (ci := 4) (C := R_SH) (T := F_SH) (N := 3) hx hb ht in_SH hown hK hP 9 rfl rfl 1 (by decide) (ht _ kf_SH_17) (fun _ h9 => h9) rfl d_SH_insert_29 ?_
      refine lv_iload hx hb d_SH_insert_32 (lv_at hl 4 rfl) ?_
      refine lv_aload_n hx hb d_SH_insert_34 rfl (lv_at hl 0 rfl) ?_
      refine va_get (D := G.1) (ci := 4) (C := R_SH) (T := F_SH) (N := 3) hx hb ht in_SH hown hK hP 9 rfl rfl 1 (by decide) (ht _ kf_SH_17) (fun _ h9 => h9) rfl d_SH_insert_35 ?_
      refine lv_iload hx hb d_SH_insert_38 (lv_at hl 4 rfl) ?_
      refine lv_iconst (v := (1 : Int32)) hx hb d_SH_insert_40 (by decide) ?_
      refine lv_isub hx hb d_SH_insert_41 ?_
      obtain ⟨hi_42, hok⟩ := hok
      refine va_iald hx hb hK hP 11 0 rfl rfl hi_42 d_SH_insert_42 ?_
      obtain ⟨hi_43, hok⟩ := hok
      refine va_iast hx hb hK hP hD hS 11 0 rfl rfl hi_43 d_SH_insert_43 (fun H locs hP hD hS => ?_)
      have hP : va_P G.1 classes (cC G ad nb nt cfa cle cwr csl cst cen cby cto csh cdz cch cva css (upd cve x4.toNatClampNeg (cve (x4 - (1 : Int32)).toNatClampNeg)) (upd cro x4.toNatClampNeg (cro (x4 - (1 : Int32)).toNatClampNeg)) crc cma cbi ces cbl crt) H := hP
      have hD : va_D A (cC G ad nb nt cfa cle cwr csl cst cen cby cto csh cdz cch cva css (upd cve x4.toNatClampNeg (cve (x4 - (1 : Int32)).toNatClampNeg)) (upd cro x4.toNatClampNeg (cro (x4 - (1 : Int32)).toNatClampNeg)) crc cma cbi ces cbl crt) := hD
      refine lv_iinc (v := x4 + (-1 : Int32)) (lv' := [(4, .int (x4 + (-1 : Int32))), (0, .ref (ad 9)), (1, .int x1), (2, .int x2), (3, .int x3)]) hx hb d_SH_insert_44 hl (k := 4) rfl rfl (by decide) rfl (fun ls hl => ?_)
      refine lv_goto (tgt := 6) hx hb d_SH_insert_47 (by decide) ?_
      exact ih x1 x2 x3 (x4 + (-1 : Int32)) css (upd cve x4.toNatClampNeg (cve (x4 - (1 : Int32)).toNatClampNeg)) (upd cro x4.toNatClampNeg (cro (x4 - (1 : Int32)).toNatClampNeg)) _ _ _ hok hres hP hD hS (lv_sub hl [1, 2, 3, 4, 0] rfl)
def f_SH_insert (p0 : Int32) (p1 : Int32) (p2 : Int32) (css : Int32) (cve : (Nat → Int32)) (cro : (Nat → Int32)) : Int32 × (Nat → Int32) × (Nat → Int32) := f_SH_insert_6 1024 p0 p1 p2 css css cve cro
def ok_SH_insert (nb : Nat) (nt : Nat) (p0 : Int32) (p1 : Int32) (p2 : Int32) (css : Int32) (cve : (Nat → Int32)) (cro : (Nat → Int32)) : Prop := ok_SH_insert_6 nb nt  1024 p0 p1 p2 css css cve cro
set_option maxHeartbeats 4000000 in
set_option maxRecDepth 100000 in
theorem c_SH_insert {l : Launch} {G : GG} {ad : Nat → Nat} {nb : Nat} {nt : Nat} {sz : Nat} {cfa : Int32} {cle : Int32} {cwr : Int32} {csl : Int32} {cst : Int32} {cen : Int32} {cby : (Nat → Int32)} {cto : (Nat → Int32)} {csh : (Nat → Int32)} {cdz : Int32} {cch : (Nat → Int32)} {cva : (Nat → Int32)} {css : Int32} {cve : (Nat → Int32)} {cro : (Nat → Int32)} {crc : Int32} {cma : (Nat → Int32)} {cbi : (Nat → Int32)} {ces : (Nat → Int32)} {cbl : (Nat → Int32)} {crt : (Nat → Int32)} {p0 : Int32} {p1 : Int32} {p2 : Int32} (hok : ok_SH_insert nb nt p0 p1 p2 css cve cro) : CtV l y_SH_insert b_SH_insert 5 none rm_SH_insert G (cC G ad nb nt cfa cle cwr csl cst cen cby cto csh cdz cch cva css cve cro crc cma cbi ces cbl crt) sz [.ref (ad 9), .int p0, .int p1, .int p2] (eqV (f_SH_insert p0 p1 p2 css cve cro)) (fun u : Int32 × (Nat → Int32) × (Nat → Int32) => (cC G ad nb nt cfa cle cwr csl cst cen cby cto csh cdz cch cva u.1 u.2.1 u.2.2 crc cma cbi ces cbl crt)) := by
  generalize hres : f_SH_insert p0 p1 p2 css cve cro = res
  refine Met_of (Qc := fun A => va_Qv (eqV res) (Wb G A (fun u : Int32 × (Nat → Int32) × (Nat → Int32) => (cC G ad nb nt cfa cle cwr csl cst cen cby cto csh cdz cch cva u.1 u.2.1 u.2.2 crc cma cbi ces cbl crt))) A) (by decide) (Nat.le_of_ble_eq_true rfl) ?_
  intro p e s m below meth c hadm hx hb hr hml hown hlocks ht hK A hA hP hD hS ls hl
  have hC : Cx p l e s m (([.ref (ad 9), .int p0, .int p1, .int p2] : List Value)).toArray meth c y_SH_insert b_SH_insert 5 none "BookTrees$Shelf" G A := ⟨hx, hb, hr, hml, hown, hlocks, ht, hK, hA⟩
  have hown : s.vm.findClass "BookTrees$Shelf" = some m.cls := hown
  have hl : lv_has ls 5 [(0, .ref (ad 9)), (1, .int p0), (2, .int p1), (3, .int p2)] := hl
  rw [f_SH_insert] at hres
  rw [ok_SH_insert] at hok
  refine lv_aload_n hx hb d_SH_insert_0 rfl (lv_at hl 0 rfl) ?_
  refine va_get (D := G.1) (ci := 4) (C := R_SH) (T := F_SH) (N := 3) hx hb ht in_SH hown hK hP 9 rfl rfl 2 (by decide) (ht _ kf_SH_20) (fun _ h9 => h9) rfl d_SH_insert_1 ?_
  refine lv_istore (lv' := [(4, .int css), (0, .ref (ad 9)), (1, .int p0), (2, .int p1), (3, .int p2)]) hx hb d_SH_insert_4 hl (by decide) rfl (fun ls hl => ?_)
  exact w_SH_insert_6 hC 1024 p0 p1 p2 css css cve cro _ _ _ hok hres hP hD hS (lv_sub hl [1, 2, 3, 4, 0] rfl)
/-! ===== BookTrees$Shelf.add(II)V ===== -/
abbrev rm_SH_add : Room := { frames := 1, cells := 0, slots := 0, locals := 24 }
def f_SH_add_27 (x1 : Int32) (x2 : Int32) (x3 : Int32) (css : Int32) (cve : (Nat → Int32)) (cro : (Nat → Int32)) : Int32 × (Nat → Int32) × (Nat → Int32) := if x3 ≤ 0 then (if (200 : Int32) ≤ css then (css, cve, cro) else bindc (f_SH_insert x3 x1 x2 css cve cro) (fun z_82 => (z_82.1, z_82.2.1, z_82.2.2))) else if (cve (x3 - (1 : Int32)).toNatClampNeg) = x1 then (css, cve, upd cro (x3 - (1 : Int32)).toNatClampNeg (if (cro (x3 - (1 : Int32)).toNatClampNeg) < x2 then x2 else (cro (x3 - (1 : Int32)).toNatClampNeg))) else if (200 : Int32) ≤ css then (css, cve, cro) else bindc (f_SH_insert x3 x1 x2 css cve cro) (fun z_82 => (z_82.1, z_82.2.1, z_82.2.2))
def ok_SH_add_27 (nb : Nat) (nt : Nat) (x1 : Int32) (x2 : Int32) (x3 : Int32) (css : Int32) (cve : (Nat → Int32)) (cro : (Nat → Int32)) : Prop := (x3 ≤ 0 → ((200 : Int32) ≤ css → True) ∧ (¬ (200 : Int32) ≤ css → ok_SH_insert nb nt x3 x1 x2 css cve cro)) ∧ (¬ x3 ≤ 0 → vp_in (x3 - (1 : Int32)) 200 ∧ (((cve (x3 - (1 : Int32)).toNatClampNeg) = x1 → vp_in (x3 - (1 : Int32)) 200 ∧ (vp_in (x3 - (1 : Int32)) 200)) ∧ (¬ (cve (x3 - (1 : Int32)).toNatClampNeg) = x1 → ((200 : Int32) ≤ css → True) ∧ (¬ (200 : Int32) ≤ css → ok_SH_insert nb nt x3 x1 x2 css cve cro))))
set_option maxHeartbeats 4000000 in
set_option maxRecDepth 100000 in
theorem w_SH_add_27 {p : Program} {l : Launch} {e : Env} {s : State} {m : MethodId} {args : Array Value} {below : List Frame} {meth : Method} {c : Code} {A : Nat → Prop} {G : GG} {ad : Nat → Nat} {nb : Nat} {nt : Nat} {cfa : Int32} {cle : Int32} {cwr : Int32} {csl : Int32} {cst : Int32} {cen : Int32} {cby : (Nat → Int32)} {cto : (Nat → Int32)} {csh : (Nat → Int32)} {cdz : Int32} {cch : (Nat → Int32)} {cva : (Nat → Int32)} {crc : Int32} {cma : (Nat → Int32)} {cbi : (Nat → Int32)} {ces : (Nat → Int32)} {cbl : (Nat → Int32)} {crt : (Nat → Int32)} {res : Int32 × (Nat → Int32) × (Nat → Int32)} (hC : Cx p l e s m args meth c y_SH_add b_SH_add 4 none "BookTrees$Shelf" G A) : ∀ (x1 : Int32) (x2 : Int32) (x3 : Int32) (css : Int32) (cve : (Nat → Int32)) (cro : (Nat → Int32)) (H : Heap) (locs : List Loc) (ls : Array Slot), ok_SH_add_27 nb nt x1 x2 x3 css cve cro → f_SH_add_27 x1 x2 x3 css cve cro = res → va_P G.1 classes (cC G ad nb nt cfa cle cwr csl cst cen cby cto csh cdz cch cva css cve cro crc cma cbi ces cbl crt) H → va_D A (cC G ad nb nt cfa cle cwr csl cst cen cby cto csh cdz cch cva css cve cro crc cma cbi ces cbl crt) → va_S A s.heap H locs → lv_has ls 4 [(0, .ref (ad 9)), (1, .int x1), (2, .int x2), (3, .int x3)] → W p l e rm_SH_add s m args below meth c H locs 0 0 (MQ below (va_Qv (eqV res) (Wb G A (fun u : Int32 × (Nat → Int32) × (Nat → Int32) => (cC G ad nb nt cfa cle cwr csl cst cen cby cto csh cdz cch cva u.1 u.2.1 u.2.2 crc cma cbi ces cbl crt))) A) args s 0 0 A) (F0 m 27 ls []) := by
  obtain ⟨hx, hb, hr, hml, hown, hlocks, ht, hK, hA⟩ := id hC
  intro x1 x2 x3 css cve cro H locs ls hok hres hP hD hS hl
  rw [f_SH_add_27] at hres
  rw [ok_SH_add_27] at hok
  refine lv_iload_n hx hb d_SH_add_27 rfl (lv_at hl 3 rfl) ?_
  refine lv_if_le (tgt := 66) hx hb d_SH_add_28 (by decide) (fun c_28 => ?_) (fun c_28 => ?_)
  · have hres := it_t c_28 hres
    have hok := hok.1 c_28
    refine lv_aload_n hx hb d_SH_add_66 rfl (lv_at hl 0 rfl) ?_
    refine va_get (D := G.1) (ci := 4) (C := R_SH) (T := F_SH) (N := 3) hx hb ht in_SH hown hK hP 9 rfl rfl 2 (by decide) (ht _ kf_SH_20) (fun _ h9 => h9) rfl d_SH_add_67 ?_
    refine lv_aload_n hx hb d_SH_add_70 rfl (lv_at hl 0 rfl) ?_
    refine va_get (D := G.1) (ci := 4) (C := R_SH) (T := F_SH) (N := 3) hx hb ht in_SH hown hK hP 9 rfl rfl 0 (by decide) (ht _ kf_SH_11) (fun _ h9 => h9) rfl d_SH_add_71 ?_
    refine va_alen (v := (200 : Int32)) hx hb hK hP 10 0 rfl rfl rfl d_SH_add_74 ?_
    refine lv_icmp_ge (tgt := 85) hx hb d_SH_add_75 (by decide) (fun c_75 => ?_) (fun c_75 => ?_)
    · have hres := it_t c_75 hres
      exact en_v (w1 := (fun u : Int32 × (Nat → Int32) × (Nat → Int32) => (cC G ad nb nt cfa cle cwr csl cst cen cby cto csh cdz cch cva u.1 u.2.1 u.2.2 crc cma cbi ces cbl crt))) (css, cve, cro) hx hb hr hlocks hK hP hD hS hres d_SH_add_85
    · have hres := it_f c_75 hres
      have hok := hok.2 c_75
      refine lv_aload_n hx hb d_SH_add_78 rfl (lv_at hl 0 rfl) ?_
      refine lv_iload_n hx hb d_SH_add_79 rfl (lv_at hl 3 rfl) ?_
      refine lv_iload_n hx hb d_SH_add_80 rfl (lv_at hl 1 rfl) ?_
      refine lv_iload_n hx hb d_SH_add_81 rfl (lv_at hl 2 rfl) ?_
      have hk_82 := hok
      refine go_vz (run_V hx hb hml hown ht hK hP hD (c_SH_insert hk_82) (cw_V ht km_SH_30 ki_SH_insert ks_SH_insert ini_SH kd_SH_insert kh_SH_insert ⟨Nat.le_of_ble_eq_true rfl, Nat.le_of_ble_eq_true rfl⟩ rfl rfl) (q0 := 9) (ci := 4) (As := [.int x3, .int x1, .int x2]) (rest := []) rfl rfl rfl hl.1 rfl (Nat.le_of_ble_eq_true rfl) d_SH_add_82 ⟨Nat.zero_le _, Nat.zero_le _⟩) hD hS hA (fun z_82 H locs hz_82 hP hD hS => ?_)
      have hres := bindc_eq hz_82 hres
      have hP : va_P G.1 classes (cC G ad nb nt cfa cle cwr csl cst cen cby cto csh cdz cch cva z_82.1 z_82.2.1 z_82.2.2 crc cma cbi ces cbl crt) H := hP
      have hD : va_D A (cC G ad nb nt cfa cle cwr csl cst cen cby cto csh cdz cch cva z_82.1 z_82.2.1 z_82.2.2 crc cma cbi ces cbl crt) := hD
      exact en_v (w1 := (fun u : Int32 × (Nat → Int32) × (Nat → Int32) => (cC G ad nb nt cfa cle cwr csl cst cen cby cto csh cdz cch cva u.1 u.2.1 u.2.2 crc cma cbi ces cbl crt))) (z_82.1, z_82.2.1, z_82.2.2) hx hb hr hlocks hK hP hD hS hres d_SH_add_85
  · have hres := it_f c_28 hres
    have hok := hok.2 c_28
    refine lv_aload_n hx hb d_SH_add_31 rfl (lv_at hl 0 rfl) ?_
    refine va_get (D := G.1) (ci := 4) (C := R_SH) (T := F_SH) (N := 3) hx hb ht in_SH hown hK hP 9 rfl rfl 0 (by decide) (ht _ kf_SH_11) (fun _ h9 => h9) rfl d_SH_add_32 ?_
    refine lv_iload_n hx hb d_SH_add_35 rfl (lv_at hl 3 rfl) ?_
    refine lv_iconst (v := (1 : Int32)) hx hb d_SH_add_36 (by decide) ?_
    refine lv_isub hx hb d_SH_add_37 ?_
    obtain ⟨hi_38, hok⟩ := hok
    refine va_iald hx hb hK hP 10 0 rfl rfl hi_38 d_SH_add_38 ?_
    refine lv_iload_n hx hb d_SH_add_39 rfl (lv_at hl 1 rfl) ?_
    refine lv_icmp_ne (tgt := 66) hx hb d_SH_add_40 (by decide) (fun c_40 => ?_) (fun c_40 => ?_)
    · have hres := it_f c_40 hres
      have hok := hok.2 c_40
      refine lv_aload_n hx hb d_SH_add_66 rfl (lv_at hl 0 rfl) ?_
      refine va_get (D := G.1) (ci := 4) (C := R_SH) (T := F_SH) (N := 3) hx hb ht in_SH hown hK hP 9 rfl rfl 2 (by decide) (ht _ kf_SH_20) (fun _ h9 => h9) rfl d_SH_add_67 ?_
      refine lv_aload_n hx hb d_SH_add_70 rfl (lv_at hl 0 rfl) ?_
      refine va_get (D := G.1) (ci := 4) (C := R_SH) (T := F_SH) (N := 3) hx hb ht in_SH hown hK hP 9 rfl rfl 0 (by decide) (ht _ kf_SH_11) (fun _ h9 => h9) rfl d_SH_add_71 ?_
      refine va_alen (v := (200 : Int32)) hx hb hK hP 10 0 rfl rfl rfl d_SH_add_74 ?_
      refine lv_icmp_ge (tgt := 85) hx hb d_SH_add_75 (by decide) (fun c_75 => ?_) (fun c_75 => ?_)
      · have hres := it_t c_75 hres
        exact en_v (w1 := (fun u : Int32 × (Nat → Int32) × (Nat → Int32) => (cC G ad nb nt cfa cle cwr csl cst cen cby cto csh cdz cch cva u.1 u.2.1 u.2.2 crc cma cbi ces cbl crt))) (css, cve, cro) hx hb hr hlocks hK hP hD hS hres d_SH_add_85
      · have hres := it_f c_75 hres
        have hok := hok.2 c_75
        refine lv_aload_n hx hb d_SH_add_78 rfl (lv_at hl 0 rfl) ?_
        refine lv_iload_n hx hb d_SH_add_79 rfl (lv_at hl 3 rfl) ?_
        refine lv_iload_n hx hb d_SH_add_80 rfl (lv_at hl 1 rfl) ?_
        refine lv_iload_n hx hb d_SH_add_81 rfl (lv_at hl 2 rfl) ?_
        have hk_82 := hok
        refine go_vz (run_V hx hb hml hown ht hK hP hD (c_SH_insert hk_82) (cw_V ht km_SH_30 ki_SH_insert ks_SH_insert ini_SH kd_SH_insert kh_SH_insert ⟨Nat.le_of_ble_eq_true rfl, Nat.le_of_ble_eq_true rfl⟩ rfl rfl) (q0 := 9) (ci := 4) (As := [.int x3, .int x1, .int x2]) (rest := []) rfl rfl rfl hl.1 rfl (Nat.le_of_ble_eq_true rfl) d_SH_add_82 ⟨Nat.zero_le _, Nat.zero_le _⟩) hD hS hA (fun z_82 H locs hz_82 hP hD hS => ?_)
        have hres := bindc_eq hz_82 hres
        have hP : va_P G.1 classes (cC G ad nb nt cfa cle cwr csl cst cen cby cto csh cdz cch cva z_82.1 z_82.2.1 z_82.2.2 crc cma cbi ces cbl crt) H := hP
        have hD : va_D A (cC G ad nb nt cfa cle cwr csl cst cen cby cto csh cdz cch cva z_82.1 z_82.2.1 z_82.2.2 crc cma cbi ces cbl crt) := hD
        exact en_v (w1 := (fun u : Int32 × (Nat → Int32) × (Nat → Int32) => (cC G ad nb nt cfa cle cwr csl cst cen cby cto csh cdz cch cva u.1 u.2.1 u.2.2 crc cma cbi ces cbl crt))) (z_82.1, z_82.2.1, z_82.2.2) hx hb hr hlocks hK hP hD hS hres d_SH_add_85
    · have hres := it_t c_40 hres
      have hok := hok.1 c_40
      refine lv_aload_n hx hb d_SH_add_43 rfl (lv_at hl 0 rfl) ?_
      refine va_get (D := G.1) (ci := 4) (C := R_SH) (T := F_SH) (N := 3) hx hb ht in_SH hown hK hP 9 rfl rfl 1 (by decide) (ht _ kf_SH_17) (fun _ h9 => h9) rfl d_SH_add_44 ?_
      refine lv_iload_n hx hb d_SH_add_47 rfl (lv_at hl 3 rfl) ?_
      refine lv_iconst (v := (1 : Int32)) hx hb d_SH_add_48 (by decide) ?_
      refine lv_isub hx hb d_SH_add_49 ?_
      refine lv_aload_n hx hb d_SH_add_50 rfl (lv_at hl 0 rfl) ?_
      refine va_get (D := G.1) (ci := 4) (C := R_SH) (T := F_SH) (N := 3) hx hb ht in_SH hown hK hP 9 rfl rfl 1 (by decide) (ht _ kf_SH_17) (fun _ h9 => h9) rfl d_SH_add_51 ?_
      refine lv_iload_n hx hb d_SH_add_54 rfl (lv_at hl 3 rfl) ?_
      refine lv_iconst (v := (1 : Int32)) hx hb d_SH_add_55 (by decide) ?_
      refine lv_isub hx hb d_SH_add_56 ?_
      obtain ⟨hi_57, hok⟩ := hok
      refine va_iald hx hb hK hP 11 0 rfl rfl hi_57 d_SH_add_57 ?_
      refine lv_iload_n hx hb d_SH_add_58 rfl (lv_at hl 2 rfl) ?_
      refine va_mmax hx hb (hml.trans hl.1.symm) hown (ht _ km_SH_24) (ht _ kt_JM_max) (ht _ ini_JM) (ht _ kd_JM_max) (Nat.le_of_ble_eq_true rfl) (Nat.le_of_ble_eq_true rfl) (Nat.zero_le _) (Nat.zero_le _) d_SH_add_59 ?_
      have hi_62 := hok
      refine va_iast hx hb hK hP hD hS 11 0 rfl rfl hi_62 d_SH_add_62 (fun H locs hP hD hS => ?_)
      have hP : va_P G.1 classes (cC G ad nb nt cfa cle cwr csl cst cen cby cto csh cdz cch cva css cve (upd cro (x3 - (1 : Int32)).toNatClampNeg (if (cro (x3 - (1 : Int32)).toNatClampNeg) < x2 then x2 else (cro (x3 - (1 : Int32)).toNatClampNeg))) crc cma cbi ces cbl crt) H := hP
      have hD : va_D A (cC G ad nb nt cfa cle cwr csl cst cen cby cto csh cdz cch cva css cve (upd cro (x3 - (1 : Int32)).toNatClampNeg (if (cro (x3 - (1 : Int32)).toNatClampNeg) < x2 then x2 else (cro (x3 - (1 : Int32)).toNatClampNeg))) crc cma cbi ces cbl crt) := hD
      refine lv_goto (tgt := 85) hx hb d_SH_add_63 (by decide) ?_
      exact en_v (w1 := (fun u : Int32 × (Nat → Int32) × (Nat → Int32) => (cC G ad nb nt cfa cle cwr csl cst cen cby cto csh cdz cch cva u.1 u.2.1 u.2.2 crc cma cbi ces cbl crt))) (css, cve, upd cro (x3 - (1 : Int32)).toNatClampNeg (if (cro (x3 - (1 : Int32)).toNatClampNeg) < x2 then x2 else (cro (x3 - (1 : Int32)).toNatClampNeg))) hx hb hr hlocks hK hP hD hS hres d_SH_add_85
def f_SH_add_5 : Nat → Int32 → Int32 → Int32 → Int32 → (Nat → Int32) → (Nat → Int32) → Int32 × (Nat → Int32) × (Nat → Int32)
  | 0, x1, x2, x3, css, cve, cro => (css, cve, cro)
  | n + 1, x1, x2, x3, css, cve, cro => if x3 ≤ 0 then f_SH_add_27 x1 x2 x3 css cve cro else if (cve (x3 - (1 : Int32)).toNatClampNeg) ≤ x1 then f_SH_add_27 x1 x2 x3 css cve cro else f_SH_add_5 n x1 x2 (x3 + (-1 : Int32)) css cve cro
def ok_SH_add_5 (nb : Nat) (nt : Nat) : Nat → Int32 → Int32 → Int32 → Int32 → (Nat → Int32) → (Nat → Int32) → Prop
  | 0, _, _, _, _, _, _ => False
  | n + 1, x1, x2, x3, css, cve, cro => (x3 ≤ 0 → ok_SH_add_27 nb nt  x1 x2 x3 css cve cro) ∧ (¬ x3 ≤ 0 → vp_in (x3 - (1 : Int32)) 200 ∧ (((cve (x3 - (1 : Int32)).toNatClampNeg) ≤ x1 → ok_SH_add_27 nb nt  x1 x2 x3 css cve cro) ∧ (¬ (cve (x3 - (1 : Int32)).toNatClampNeg) ≤ x1 → ok_SH_add_5 nb nt  n x1 x2 (x3 + (-1 : Int32)) css cve cro)))
set_option maxHeartbeats 4000000 in
set_option maxRecDepth 100000 in
theorem w_SH_add_5 {p : Program} {l : Launch} {e : Env} {s : State} {m : MethodId} {args : Array Value} {below : List Frame} {meth : Method} {c : Code} {A : Nat → Prop} {G : GG} {ad : Nat → Nat} {nb : Nat} {nt : Nat} {cfa : Int32} {cle : Int32} {cwr : Int32} {csl : Int32} {cst : Int32} {cen : Int32} {cby : (Nat → Int32)} {cto : (Nat → Int32)} {csh : (Nat → Int32)} {cdz : Int32} {cch : (Nat → Int32)} {cva : (Nat → Int32)} {crc : Int32} {cma : (Nat → Int32)} {cbi : (Nat → Int32)} {ces : (Nat → Int32)} {cbl : (Nat → Int32)} {crt : (Nat → Int32)} {res : Int32 × (Nat → Int32) × (Nat → Int32)} (hC : Cx p l e s m args meth c y_SH_add b_SH_add 4 none "BookTrees$Shelf" G A) : ∀ (n : Nat) (x1 : Int32) (x2 : Int32) (x3 : Int32) (css : Int32) (cve : (Nat → Int32)) (cro : (Nat → Int32)) (H : Heap) (locs : List Loc) (ls : Array Slot), ok_SH_add_5 nb nt n x1 x2 x3 css cve cro → f_SH_add_5 n x1 x2 x3 css cve cro = res → va_P G.1 classes (cC G ad nb nt cfa cle cwr csl cst cen cby cto csh cdz cch cva css cve cro crc cma cbi ces cbl crt) H → va_D A (cC G ad nb nt cfa cle cwr csl cst cen cby cto csh cdz cch cva css cve cro crc cma cbi ces cbl crt) → va_S A s.heap H locs → lv_has ls 4 [(0, .ref (ad 9)), (1, .int x1), (2, .int x2), (3, .int x3)] → W p l e rm_SH_add s m args below meth c H locs 0 0 (MQ below (va_Qv (eqV res) (Wb G A (fun u : Int32 × (Nat → Int32) × (Nat → Int32) => (cC G ad nb nt cfa cle cwr csl cst cen cby cto csh cdz cch cva u.1 u.2.1 u.2.2 crc cma cbi ces cbl crt))) A) args s 0 0 A) (F0 m 5 ls []) := by
  obtain ⟨hx, hb, hr, hml, hown, hlocks, ht, hK, hA⟩ := id hC
  intro n
  induction n with
  | zero => intro x1 x2 x3 css cve cro H locs ls hok; exact hok.elim
  | succ n ih =>
    intro x1 x2 x3 css cve cro H locs ls hok hres hP hD hS hl
    rw [f_SH_add_5] at hres
    rw [ok_SH_add_5] at hok
    refine lv_iload_n hx hb d_SH_add_5 rfl (lv_at hl 3 rfl) ?_
    refine lv_if_le (tgt := 27) hx hb d_SH_add_6 (by decide) (fun c_6 => ?_) (fun c_6 => ?_)
    · have hres := it_t c_6 hres
      have hok := hok.1 c_6
      exact w_SH_add_27 hC x1 x2 x3 css cve cro _ _ _ hok hres hP hD hS (lv_sub hl [0, 1, 2, 3] rfl)
    · have hres := it_f c_6 hres
      have hok := hok.2 c_6
      refine lv_aload_n hx hb d_SH_add_9 rfl (lv_at hl 0 rfl) ?_
      refine va_get (D := G.1) (ci := 4) (C := R_SH) (T := F_SH) (N := 3) hx hb ht in_SH hown hK hP 9 rfl rfl 0 (by decide) (ht _ kf_SH_11) (fun _ h9 => h9) rfl d_SH_add_10 ?_
      refine lv_iload_n hx hb d_SH_add_13 rfl (lv_at hl 3 rfl) ?_
      refine lv_iconst (v := (1 : Int32)) hx hb d_SH_add_14 (by decide) ?_
      refine lv_isub hx hb d_SH_add_15 ?_
      obtain ⟨hi_16, hok⟩ := hok
      refine va_iald hx hb hK hP 10 0 rfl rfl hi_16 d_SH_add_16 ?_
      refine lv_iload_n hx hb d_SH_add_17 rfl (lv_at hl 1 rfl) ?_
      refine lv_icmp_le (tgt := 27) hx hb d_SH_add_18 (by decide) (fun c_18 => ?_) (fun c_18 => ?_)
      · have hres := it_t c_18 hres
        have hok := hok.1 c_18
        exact w_SH_add_27 hC x1 x2 x3 css cve cro _ _ _ hok hres hP hD hS (lv_sub hl [0, 1, 2, 3] rfl)
      · have hres := it_f c_18 hres
        have hok := hok.2 c_18
        refine lv_iinc (v := x3 + (-1 : Int32)) (lv' := [(3, .int (x3 + (-1 : Int32))), (0, .ref (ad 9)), (1, .int x1), (2, .int x2)]) hx hb d_SH_add_21 hl (k := 3) rfl rfl (by decide) rfl (fun ls hl => ?_)
        refine lv_goto (tgt := 5) hx hb d_SH_add_24 (by decide) ?_
        exact ih x1 x2 (x3 + (-1 : Int32)) css cve cro _ _ _ hok hres hP hD hS (lv_sub hl [1, 2, 3, 0] rfl)
def f_SH_add (p0 : Int32) (p1 : Int32) (css : Int32) (cve : (Nat → Int32)) (cro : (Nat → Int32)) : Int32 × (Nat → Int32) × (Nat → Int32) := f_SH_add_5 1024 p0 p1 css css cve cro
def ok_SH_add (nb : Nat) (nt : Nat) (p0 : Int32) (p1 : Int32) (css : Int32) (cve : (Nat → Int32)) (cro : (Nat → Int32)) : Prop := ok_SH_add_5 nb nt  1024 p0 p1 css css cve cro
set_option maxHeartbeats 4000000 in
set_option maxRecDepth 100000 in
theorem c_SH_add {l : Launch} {G : GG} {ad : Nat → Nat} {nb : Nat} {nt : Nat} {sz : Nat} {cfa : Int32} {cle : Int32} {cwr : Int32} {csl : Int32} {cst : Int32} {cen : Int32} {cby : (Nat → Int32)} {cto : (Nat → Int32)} {csh : (Nat → Int32)} {cdz : Int32} {cch : (Nat → Int32)} {cva : (Nat → Int32)} {css : Int32} {cve : (Nat → Int32)} {cro : (Nat → Int32)} {crc : Int32} {cma : (Nat → Int32)} {cbi : (Nat → Int32)} {ces : (Nat → Int32)} {cbl : (Nat → Int32)} {crt : (Nat → Int32)} {p0 : Int32} {p1 : Int32} (hok : ok_SH_add nb nt p0 p1 css cve cro) : CtV l y_SH_add b_SH_add 4 none rm_SH_add G (cC G ad nb nt cfa cle cwr csl cst cen cby cto csh cdz cch cva css cve cro crc cma cbi ces cbl crt) sz [.ref (ad 9), .int p0, .int p1] (eqV (f_SH_add p0 p1 css cve cro)) (fun u : Int32 × (Nat → Int32) × (Nat → Int32) => (cC G ad nb nt cfa cle cwr csl cst cen cby cto csh cdz cch cva u.1 u.2.1 u.2.2 crc cma cbi ces cbl crt)) := by
  generalize hres : f_SH_add p0 p1 css cve cro = res
  refine Met_of (Qc := fun A => va_Qv (eqV res) (Wb G A (fun u : Int32 × (Nat → Int32) × (Nat → Int32) => (cC G ad nb nt cfa cle cwr csl cst cen cby cto csh cdz cch cva u.1 u.2.1 u.2.2 crc cma cbi ces cbl crt))) A) (by decide) (Nat.le_of_ble_eq_true rfl) ?_
  intro p e s m below meth c hadm hx hb hr hml hown hlocks ht hK A hA hP hD hS ls hl
  have hC : Cx p l e s m (([.ref (ad 9), .int p0, .int p1] : List Value)).toArray meth c y_SH_add b_SH_add 4 none "BookTrees$Shelf" G A := ⟨hx, hb, hr, hml, hown, hlocks, ht, hK, hA⟩
  have hown : s.vm.findClass "BookTrees$Shelf" = some m.cls := hown
  have hl : lv_has ls 4 [(0, .ref (ad 9)), (1, .int p0), (2, .int p1)] := hl
  rw [f_SH_add] at hres
  rw [ok_SH_add] at hok
  refine lv_aload_n hx hb d_SH_add_0 rfl (lv_at hl 0 rfl) ?_
  refine va_get (D := G.1) (ci := 4) (C := R_SH) (T := F_SH) (N := 3) hx hb ht in_SH hown hK hP 9 rfl rfl 2 (by decide) (ht _ kf_SH_20) (fun _ h9 => h9) rfl d_SH_add_1 ?_
  refine lv_istore_n (lv' := [(3, .int css), (0, .ref (ad 9)), (1, .int p0), (2, .int p1)]) hx hb d_SH_add_4 rfl hl (by decide) rfl (fun ls hl => ?_)
  exact w_SH_add_5 hC 1024 p0 p1 css css cve cro _ _ _ hok hres hP hD hS (lv_sub hl [1, 2, 3, 0] rfl)
/-! ===== BookTrees$Roll.start()I ===== -/
abbrev rm_RL_start : Room := { frames := 0, cells := 0, slots := 0, locals := 0 }
def f_RL_start  (cst : Int32) : Int32 × Unit := (cst, ())
set_option maxHeartbeats 4000000 in
set_option maxRecDepth 100000 in
theorem c_RL_start {l : Launch} {G : GG} {ad : Nat → Nat} {nb : Nat} {nt : Nat} {sz : Nat} {cfa : Int32} {cle : Int32} {cwr : Int32} {csl : Int32} {cst : Int32} {cen : Int32} {cby : (Nat → Int32)} {cto : (Nat → Int32)} {csh : (Nat → Int32)} {cdz : Int32} {cch : (Nat → Int32)} {cva : (Nat → Int32)} {css : Int32} {cve : (Nat → Int32)} {cro : (Nat → Int32)} {crc : Int32} {cma : (Nat → Int32)} {cbi : (Nat → Int32)} {ces : (Nat → Int32)} {cbl : (Nat → Int32)} {crt : (Nat → Int32)}  : CtI l y_RL_start b_RL_start 1 (some .int) rm_RL_start G (cC G ad nb nt cfa cle cwr csl cst cen cby cto csh cdz cch cva css cve cro crc cma cbi ces cbl crt) sz [.ref (ad 2)] (eqP (f_RL_start cst)) (fun _ : Unit => (cC G ad nb nt cfa cle cwr csl cst cen cby cto csh cdz cch cva css cve cro crc cma cbi ces cbl crt)) := by
  generalize hres : f_RL_start cst = res
  refine Met_of (Qc := fun A => va_Qi (eqP res) (Wb G A (fun _ : Unit => (cC G ad nb nt cfa cle cwr csl cst cen cby cto csh cdz cch cva css cve cro crc cma cbi ces cbl crt))) A) (by decide) (Nat.le_of_ble_eq_true rfl) ?_
  intro p e s m below meth c hadm hx hb hr hml hown hlocks ht hK A hA hP hD hS ls hl
  have hC : Cx p l e s m (([.ref (ad 2)] : List Value)).toArray meth c y_RL_start b_RL_start 1 (some .int) "BookTrees$Roll" G A := ⟨hx, hb, hr, hml, hown, hlocks, ht, hK, hA⟩
  have hown : s.vm.findClass "BookTrees$Roll" = some m.cls := hown
  have hl : lv_has ls 1 [(0, .ref (ad 2))] := hl
  rw [f_RL_start] at hres
  refine lv_aload_n hx hb d_RL_start_0 rfl (lv_at hl 0 rfl) ?_
  refine va_get (D := G.1) (ci := 2) (C := R_RL) (T := F_RL) (N := 7) hx hb ht in_RL hown hK hP 2 rfl rfl 5 (by decide) (ht _ kf_RL_39) (fun _ h9 => h9) rfl d_RL_start_1 ?_
  exact en_i (w1 := (fun _ : Unit => (cC G ad nb nt cfa cle cwr csl cst cen cby cto csh cdz cch cva css cve cro crc cma cbi ces cbl crt))) () hx hb hr hlocks hK hP hD hS hres d_RL_start_4
/-! ===== BookTrees.appendVersion(Z)I ===== -/
abbrev rm_BT_appendVersion : Room := { frames := 4, cells := 0, slots := 0, locals := 112 }
def f_BT_appendVersion_61 (x1 : Int32) (x3 : Int32) (x4 : Int32) (y0 : Int32) (cfa : Int32) (cle : Int32) (cwr : Int32) (csl : Int32) (cst : Int32) (cen : Int32) (cby : (Nat → Int32)) (cto : (Nat → Int32)) (csh : (Nat → Int32)) (css : Int32) (cve : (Nat → Int32)) (cro : (Nat → Int32)) (crc : Int32) (cma : (Nat → Int32)) (cbi : (Nat → Int32)) (ces : (Nat → Int32)) (cbl : (Nat → Int32)) (crt : (Nat → Int32)) : Int32 × Int32 × Int32 × Int32 × Int32 × Int32 × (Nat → Int32) × (Nat → Int32) × (Nat → Int32) × Int32 × (Nat → Int32) × (Nat → Int32) × (Nat → Int32) × (Nat → Int32) × (Nat → Int32) × (Nat → Int32) := bindc (f_PG_writeTree x4 cfa cle cwr csl cby cto csh cma cbi ces cbl) (fun z_73 => if z_73.1 = 0 then ((-4 : Int32), (z_73.2.1, z_73.2.2.1, z_73.2.2.2.1, cst, cen, z_73.2.2.2.2.1, z_73.2.2.2.2.2.1, z_73.2.2.2.2.2.2, css, cve, cro, cbi, ces, cbl, crt)) else bindc (f_PG_writeRoot x4 x3 y0 z_73.2.1 z_73.2.2.1 z_73.2.2.2.1 csl z_73.2.2.2.2.1 z_73.2.2.2.2.2.1 z_73.2.2.2.2.2.2 crc cbi cbl crt) (fun z_92 => if z_92.1 = 0 then ((-4 : Int32), (z_92.2.1, z_92.2.2.1, z_92.2.2.2.1, cst, cen, z_92.2.2.2.2.1, z_92.2.2.2.2.2.1, z_92.2.2.2.2.2.2.1, css, cve, cro, cbi, ces, cbl, z_92.2.2.2.2.2.2.2)) else bindc (f_RL_use y0 (x3 + (1 : Int32)) cst cen) (fun z_110 => if x1 = 0 then bindc (f_SH_add x4 x3 css cve cro) (fun z_131 => (x4, (z_92.2.1, z_92.2.2.1, z_92.2.2.2.1, z_110.1, z_110.2, z_92.2.2.2.2.1, z_92.2.2.2.2.2.1, z_92.2.2.2.2.2.2.1, z_131.1, z_131.2.1, z_131.2.2, cbi, ces, cbl, z_92.2.2.2.2.2.2.2))) else bindc (f_SH_clear css) (fun z_121 => bindc (f_SH_add x4 x3 z_121 cve cro) (fun z_131 => (x4, (z_92.2.1, z_92.2.2.1, z_92.2.2.2.1, z_110.1, z_110.2, z_92.2.2.2.2.1, z_92.2.2.2.2.2.1, z_92.2.2.2.2.2.2.1, z_131.1, z_131.2.1, z_131.2.2, cbi, ces, cbl, z_92.2.2.2.2.2.2.2)))))))
def ok_BT_appendVersion_61 (nb : Nat) (nt : Nat) (x1 : Int32) (x3 : Int32) (x4 : Int32) (y0 : Int32) (cfa : Int32) (cle : Int32) (cwr : Int32) (csl : Int32) (cst : Int32) (cen : Int32) (cby : (Nat → Int32)) (cto : (Nat → Int32)) (csh : (Nat → Int32)) (css : Int32) (cve : (Nat → Int32)) (cro : (Nat → Int32)) (crc : Int32) (cma : (Nat → Int32)) (cbi : (Nat → Int32)) (ces : (Nat → Int32)) (cbl : (Nat → Int32)) (crt : (Nat → Int32)) : Prop := ok_PG_writeTree nb nt x4 cfa cle cwr csl cby cto csh cma cbi ces cbl ∧ bindp (f_PG_writeTree x4 cfa cle cwr csl cby cto csh cma cbi ces cbl) (fun z_73 => (z_73.1 = 0 → True) ∧ (¬ z_73.1 = 0 → ok_PG_writeRoot nb nt x4 x3 y0 z_73.2.1 z_73.2.2.1 z_73.2.2.2.1 csl z_73.2.2.2.2.1 z_73.2.2.2.2.2.1 z_73.2.2.2.2.2.2 crc cbi cbl crt ∧ bindp (f_PG_writeRoot x4 x3 y0 z_73.2.1 z_73.2.2.1 z_73.2.2.2.1 csl z_73.2.2.2.2.1 z_73.2.2.2.2.2.1 z_73.2.2.2.2.2.2 crc cbi cbl crt) (fun z_92 => (z_92.1 = 0 → True) ∧ (¬ z_92.1 = 0 → bindp (f_RL_use y0 (x3 + (1 : Int32)) cst cen) (fun z_110 => (x1 = 0 → ok_SH_add nb nt x4 x3 css cve cro) ∧ (¬ x1 = 0 → bindp (f_SH_clear css) (fun z_121 => ok_SH_add nb nt x4 x3 z_121 cve cro)))))))
set_option maxHeartbeats 4000000 in
set_option maxRecDepth 100000 in
theorem w_BT_appendVersion_61 {p : Program} {l : Launch} {e : Env} {s : State} {m : MethodId} {args : Array Value} {below : List Frame} {meth : Method} {c : Code} {A : Nat → Prop} {G : GG} {ad : Nat → Nat} {nb : Nat} {nt : Nat} {csl : Int32} {cdz : Int32} {cch : (Nat → Int32)} {cva : (Nat → Int32)} {crc : Int32} {cma : (Nat → Int32)} {res : Int32 × Int32 × Int32 × Int32 × Int32 × Int32 × (Nat → Int32) × (Nat → Int32) × (Nat → Int32) × Int32 × (Nat → Int32) × (Nat → Int32) × (Nat → Int32) × (Nat → Int32) × (Nat → Int32) × (Nat → Int32)} (hC : Cx p l e s m args meth c y_BT_appendVersion b_BT_appendVersion 6 (some .int) "BookTrees" G A) : ∀ (x1 : Int32) (x3 : Int32) (x4 : Int32) (y0 : Int32) (cfa : Int32) (cle : Int32) (cwr : Int32) (cst : Int32) (cen : Int32) (cby : (Nat → Int32)) (cto : (Nat → Int32)) (csh : (Nat → Int32)) (css : Int32) (cve : (Nat → Int32)) (cro : (Nat → Int32)) (cbi : (Nat → Int32)) (ces : (Nat → Int32)) (cbl : (Nat → Int32)) (crt : (Nat → Int32)) (H : Heap) (locs : List Loc) (ls : Array Slot), ok_BT_appendVersion_61 nb nt x1 x3 x4 y0 cfa cle cwr csl cst cen cby cto csh css cve cro crc cma cbi ces cbl crt → f_BT_appendVersion_61 x1 x3 x4 y0 cfa cle cwr csl cst cen cby cto csh css cve cro crc cma cbi ces cbl crt = res → va_P G.1 classes (cC G ad nb nt cfa cle cwr csl cst cen cby cto csh cdz cch cva css cve cro crc cma cbi ces cbl crt) H → va_D A (cC G ad nb nt cfa cle cwr csl cst cen cby cto csh cdz cch cva css cve cro crc cma cbi ces cbl crt) → va_S A s.heap H locs → lv_has ls 6 [(0, .ref (ad 0)), (1, .int x1), (3, .int x3), (4, .int x4)] → W p l e rm_BT_appendVersion s m args below meth c H locs 0 0 (MQ below (va_Qi (eqP res) (Wb G A (fun u : Int32 × Int32 × Int32 × Int32 × Int32 × (Nat → Int32) × (Nat → Int32) × (Nat → Int32) × Int32 × (Nat → Int32) × (Nat → Int32) × (Nat → Int32) × (Nat → Int32) × (Nat → Int32) × (Nat → Int32) => (cC G ad nb nt u.1 u.2.1 u.2.2.1 csl u.2.2.2.1 u.2.2.2.2.1 u.2.2.2.2.2.1 u.2.2.2.2.2.2.1 u.2.2.2.2.2.2.2.1 cdz cch cva u.2.2.2.2.2.2.2.2.1 u.2.2.2.2.2.2.2.2.2.1 u.2.2.2.2.2.2.2.2.2.2.1 crc cma u.2.2.2.2.2.2.2.2.2.2.2.1 u.2.2.2.2.2.2.2.2.2.2.2.2.1 u.2.2.2.2.2.2.2.2.2.2.2.2.2.1 u.2.2.2.2.2.2.2.2.2.2.2.2.2.2))) A) args s 0 0 A) (F0 m 61 ls [.int y0]) := by
  obtain ⟨hx, hb, hr, hml, hown, hlocks, ht, hK, hA⟩ := id hC
  intro x1 x3 x4 y0 cfa cle cwr cst cen cby cto csh css cve cro cbi ces cbl crt H locs ls hok hres hP hD hS hl
  rw [f_BT_appendVersion_61] at hres
  rw [ok_BT_appendVersion_61] at hok
  refine lv_istore (lv' := [(5, .int y0), (0, .ref (ad 0)), (1, .int x1), (3, .int x3), (4, .int x4)]) hx hb d_BT_appendVersion_61 hl (by decide) rfl (fun ls hl => ?_)
  refine lv_aload_n hx hb d_BT_appendVersion_63 rfl (lv_at hl 1 rfl) ?_
  refine va_get (D := G.1) (ci := 0) (C := R_BT) (T := F_BT) (N := 5) hx hb ht in_BT hown hK hP 0 rfl rfl 4 (by decide) (ht _ kf_BT_42) (fun _ h9 => h9) rfl d_BT_appendVersion_64 ?_
  refine lv_aload_n hx hb d_BT_appendVersion_67 rfl (lv_at hl 1 rfl) ?_
  refine va_get (D := G.1) (ci := 0) (C := R_BT) (T := F_BT) (N := 5) hx hb ht in_BT hown hK hP 0 rfl rfl 1 (by decide) (ht _ kf_BT_21) (fun _ h9 => h9) rfl d_BT_appendVersion_68 ?_
  refine lv_iload hx hb d_BT_appendVersion_71 (lv_at hl 4 rfl) ?_
  obtain ⟨hk_73, hok⟩ := hok
  refine go_iz (run_V hx hb hml hown ht hK hP hD (c_PG_writeTree hk_73) (cw_V ht km_BT_222 ki_PG_writeTree ks_PG_writeTree ini_PG kd_PG_writeTree kh_PG_writeTree ⟨Nat.le_of_ble_eq_true rfl, Nat.le_of_ble_eq_true rfl⟩ rfl rfl) (q0 := 12) (ci := 5) (As := [.ref (ad 2), .int x4]) (rest := []) rfl rfl rfl hl.1 rfl (Nat.le_of_ble_eq_true rfl) d_BT_appendVersion_73 ⟨Nat.zero_le _, Nat.zero_le _⟩) hD hS hA (fun z_73 H locs hz_73 hP hD hS => ?_)
  have hres := bindc_eq hz_73 hres
  have hok := bindp_eq hz_73 hok
  have hP : va_P G.1 classes (cC G ad nb nt z_73.2.1 z_73.2.2.1 z_73.2.2.2.1 csl cst cen z_73.2.2.2.2.1 z_73.2.2.2.2.2.1 z_73.2.2.2.2.2.2 cdz cch cva css cve cro crc cma cbi ces cbl crt) H := hP
  have hD : va_D A (cC G ad nb nt z_73.2.1 z_73.2.2.1 z_73.2.2.2.1 csl cst cen z_73.2.2.2.2.1 z_73.2.2.2.2.2.1 z_73.2.2.2.2.2.2 cdz cch cva css cve cro crc cma cbi ces cbl crt) := hD
  refine lv_if_eq (tgt := 98) hx hb d_BT_appendVersion_76 (by decide) (fun c_76 => ?_) (fun c_76 => ?_)
  · have hres := it_t c_76 hres
    refine lv_bipush (v := (-4 : Int32)) hx hb d_BT_appendVersion_98 (by decide) ?_
    exact en_i (w1 := (fun u : Int32 × Int32 × Int32 × Int32 × Int32 × (Nat → Int32) × (Nat → Int32) × (Nat → Int32) × Int32 × (Nat → Int32) × (Nat → Int32) × (Nat → Int32) × (Nat → Int32) × (Nat → Int32) × (Nat → Int32) => (cC G ad nb nt u.1 u.2.1 u.2.2.1 csl u.2.2.2.1 u.2.2.2.2.1 u.2.2.2.2.2.1 u.2.2.2.2.2.2.1 u.2.2.2.2.2.2.2.1 cdz cch cva u.2.2.2.2.2.2.2.2.1 u.2.2.2.2.2.2.2.2.2.1 u.2.2.2.2.2.2.2.2.2.2.1 crc cma u.2.2.2.2.2.2.2.2.2.2.2.1 u.2.2.2.2.2.2.2.2.2.2.2.2.1 u.2.2.2.2.2.2.2.2.2.2.2.2.2.1 u.2.2.2.2.2.2.2.2.2.2.2.2.2.2))) (z_73.2.1, z_73.2.2.1, z_73.2.2.2.1, cst, cen, z_73.2.2.2.2.1, z_73.2.2.2.2.2.1, z_73.2.2.2.2.2.2, css, cve, cro, cbi, ces, cbl, crt) hx hb hr hlocks hK hP hD hS hres d_BT_appendVersion_100
  · have hres := it_f c_76 hres
    have hok := hok.2 c_76
    refine lv_aload_n hx hb d_BT_appendVersion_79 rfl (lv_at hl 1 rfl) ?_
    refine va_get (D := G.1) (ci := 0) (C := R_BT) (T := F_BT) (N := 5) hx hb ht in_BT hown hK hP 0 rfl rfl 4 (by decide) (ht _ kf_BT_42) (fun _ h9 => h9) rfl d_BT_appendVersion_80 ?_
    refine lv_aload_n hx hb d_BT_appendVersion_83 rfl (lv_at hl 1 rfl) ?_
    refine va_get (D := G.1) (ci := 0) (C := R_BT) (T := F_BT) (N := 5) hx hb ht in_BT hown hK hP 0 rfl rfl 1 (by decide) (ht _ kf_BT_21) (fun _ h9 => h9) rfl d_BT_appendVersion_84 ?_
    refine lv_iload hx hb d_BT_appendVersion_87 (lv_at hl 4 rfl) ?_
    refine lv_iload_n hx hb d_BT_appendVersion_89 rfl (lv_at hl 3 rfl) ?_
    refine lv_iload hx hb d_BT_appendVersion_90 (lv_at hl 0 rfl) ?_
    obtain ⟨hk_92, hok⟩ := hok
    refine go_iz (run_V hx hb hml hown ht hK hP hD (c_PG_writeRoot hk_92) (cw_V ht km_BT_225 ki_PG_writeRoot ks_PG_writeRoot ini_PG kd_PG_writeRoot kh_PG_writeRoot ⟨Nat.le_of_ble_eq_true rfl, Nat.le_of_ble_eq_true rfl⟩ rfl rfl) (q0 := 12) (ci := 5) (As := [.ref (ad 2), .int x4, .int x3, .int y0]) (rest := []) rfl rfl rfl hl.1 rfl (Nat.le_of_ble_eq_true rfl) d_BT_appendVersion_92 ⟨Nat.zero_le _, Nat.zero_le _⟩) hD hS hA (fun z_92 H locs hz_92 hP hD hS => ?_)
    have hres := bindc_eq hz_92 hres
    have hok := bindp_eq hz_92 hok
    have hP : va_P G.1 classes (cC G ad nb nt z_92.2.1 z_92.2.2.1 z_92.2.2.2.1 csl cst cen z_92.2.2.2.2.1 z_92.2.2.2.2.2.1 z_92.2.2.2.2.2.2.1 cdz cch cva css cve cro crc cma cbi ces cbl z_92.2.2.2.2.2.2.2) H := hP
    have hD : va_D A (cC G ad nb nt z_92.2.1 z_92.2.2.1 z_92.2.2.2.1 csl cst cen z_92.2.2.2.2.1 z_92.2.2.2.2.2.1 z_92.2.2.2.2.2.2.1 cdz cch cva css cve cro crc cma cbi ces cbl z_92.2.2.2.2.2.2.2) := hD
    refine lv_if_ne (tgt := 101) hx hb d_BT_appendVersion_95 (by decide) (fun c_95 => ?_) (fun c_95 => ?_)
    · have hres := it_f c_95 hres
      have hok := hok.2 c_95
      refine lv_aload_n hx hb d_BT_appendVersion_101 rfl (lv_at hl 1 rfl) ?_
      refine va_get (D := G.1) (ci := 0) (C := R_BT) (T := F_BT) (N := 5) hx hb ht in_BT hown hK hP 0 rfl rfl 1 (by decide) (ht _ kf_BT_21) (fun _ h9 => h9) rfl d_BT_appendVersion_102 ?_
      refine lv_iload hx hb d_BT_appendVersion_105 (lv_at hl 0 rfl) ?_
      refine lv_iload_n hx hb d_BT_appendVersion_107 rfl (lv_at hl 3 rfl) ?_
      refine lv_iconst (v := (1 : Int32)) hx hb d_BT_appendVersion_108 (by decide) ?_
      refine lv_iadd hx hb d_BT_appendVersion_109 ?_
      refine go_vz (run_V hx hb hml hown ht hK hP hD (c_RL_use) (cw_V ht km_BT_148 ki_RL_use ks_RL_use ini_RL kd_RL_use kh_RL_use ⟨Nat.le_of_ble_eq_true rfl, Nat.le_of_ble_eq_true rfl⟩ rfl rfl) (q0 := 2) (ci := 2) (As := [.int y0, .int (x3 + (1 : Int32))]) (rest := []) rfl rfl rfl hl.1 rfl (Nat.le_of_ble_eq_true rfl) d_BT_appendVersion_110 ⟨Nat.zero_le _, Nat.zero_le _⟩) hD hS hA (fun z_110 H locs hz_110 hP hD hS => ?_)
      have hres := bindc_eq hz_110 hres
      have hok := bindp_eq hz_110 hok
      have hP : va_P G.1 classes (cC G ad nb nt z_92.2.1 z_92.2.2.1 z_92.2.2.2.1 csl z_110.1 z_110.2 z_92.2.2.2.2.1 z_92.2.2.2.2.2.1 z_92.2.2.2.2.2.2.1 cdz cch cva css cve cro crc cma cbi ces cbl z_92.2.2.2.2.2.2.2) H := hP
      have hD : va_D A (cC G ad nb nt z_92.2.1 z_92.2.2.1 z_92.2.2.2.1 csl z_110.1 z_110.2 z_92.2.2.2.2.1 z_92.2.2.2.2.2.1 z_92.2.2.2.2.2.2.1 cdz cch cva css cve cro crc cma cbi ces cbl z_92.2.2.2.2.2.2.2) := hD
      refine lv_iload_n hx hb d_BT_appendVersion_113 rfl (lv_at hl 2 rfl) ?_
      refine lv_if_eq (tgt := 124) hx hb d_BT_appendVersion_114 (by decide) (fun c_114 => ?_) (fun c_114 => ?_)
      · have hres := it_t c_114 hres
        have hok := hok.1 c_114
        refine lv_aload_n hx hb d_BT_appendVersion_124 rfl (lv_at hl 1 rfl) ?_
        refine va_get (D := G.1) (ci := 0) (C := R_BT) (T := F_BT) (N := 5) hx hb ht in_BT hown hK hP 0 rfl rfl 3 (by decide) (ht _ kf_BT_35) (fun _ h9 => h9) rfl d_BT_appendVersion_125 ?_
        refine lv_iload hx hb d_BT_appendVersion_128 (lv_at hl 4 rfl) ?_
        refine lv_iload_n hx hb d_BT_appendVersion_130 rfl (lv_at hl 3 rfl) ?_
        have hk_131 := hok
        refine go_vz (run_V hx hb hml hown ht hK hP hD (c_SH_add hk_131) (cw_V ht km_BT_166 ki_SH_add ks_SH_add ini_SH kd_SH_add kh_SH_add ⟨Nat.le_of_ble_eq_true rfl, Nat.le_of_ble_eq_true rfl⟩ rfl rfl) (q0 := 9) (ci := 4) (As := [.int x4, .int x3]) (rest := []) rfl rfl rfl hl.1 rfl (Nat.le_of_ble_eq_true rfl) d_BT_appendVersion_131 ⟨Nat.zero_le _, Nat.zero_le _⟩) hD hS hA (fun z_131 H locs hz_131 hP hD hS => ?_)
        have hres := bindc_eq hz_131 hres
        have hP : va_P G.1 classes (cC G ad nb nt z_92.2.1 z_92.2.2.1 z_92.2.2.2.1 csl z_110.1 z_110.2 z_92.2.2.2.2.1 z_92.2.2.2.2.2.1 z_92.2.2.2.2.2.2.1 cdz cch cva z_131.1 z_131.2.1 z_131.2.2 crc cma cbi ces cbl z_92.2.2.2.2.2.2.2) H := hP
        have hD : va_D A (cC G ad nb nt z_92.2.1 z_92.2.2.1 z_92.2.2.2.1 csl z_110.1 z_110.2 z_92.2.2.2.2.1 z_92.2.2.2.2.2.1 z_92.2.2.2.2.2.2.1 cdz cch cva z_131.1 z_131.2.1 z_131.2.2 crc cma cbi ces cbl z_92.2.2.2.2.2.2.2) := hD
        refine lv_iload hx hb d_BT_appendVersion_134 (lv_at hl 4 rfl) ?_
        exact en_i (w1 := (fun u : Int32 × Int32 × Int32 × Int32 × Int32 × (Nat → Int32) × (Nat → Int32) × (Nat → Int32) × Int32 × (Nat → Int32) × (Nat → Int32) × (Nat → Int32) × (Nat → Int32) × (Nat → Int32) × (Nat → Int32) => (cC G ad nb nt u.1 u.2.1 u.2.2.1 csl u.2.2.2.1 u.2.2.2.2.1 u.2.2.2.2.2.1 u.2.2.2.2.2.2.1 u.2.2.2.2.2.2.2.1 cdz cch cva u.2.2.2.2.2.2.2.2.1 u.2.2.2.2.2.2.2.2.2.1 u.2.2.2.2.2.2.2.2.2.2.1 crc cma u.2.2.2.2.2.2.2.2.2.2.2.1 u.2.2.2.2.2.2.2.2.2.2.2.2.1 u.2.2.2.2.2.2.2.2.2.2.2.2.2.1 u.2.2.2.2.2.2.2.2.2.2.2.2.2.2))) (z_92.2.1, z_92.2.2.1, z_92.2.2.2.1, z_110.1, z_110.2, z_92.2.2.2.2.1, z_92.2.2.2.2.2.1, z_92.2.2.2.2.2.2.1, z_131.1, z_131.2.1, z_131.2.2, cbi, ces, cbl, z_92.2.2.2.2.2.2.2) hx hb hr hlocks hK hP hD hS hres d_BT_appendVersion_136
      · have hres := it_f c_114 hres
        have hok := hok.2 c_114
        refine lv_aload_n hx hb d_BT_appendVersion_117 rfl (lv_at hl 1 rfl) ?_
        refine va_get (D := G.1) (ci := 0) (C := R_BT) (T := F_BT) (N := 5) hx hb ht in_BT hown hK hP 0 rfl rfl 3 (by decide) (ht _ kf_BT_35) (fun _ h9 => h9) rfl d_BT_appendVersion_118 ?_
        refine go_vz (run_V hx hb hml hown ht hK hP hD (c_SH_clear) (cw_V ht km_BT_144 ki_SH_clear ks_SH_clear ini_SH kd_SH_clear kh_SH_clear ⟨Nat.le_of_ble_eq_true rfl, Nat.le_of_ble_eq_true rfl⟩ rfl rfl) (q0 := 9) (ci := 4) (As := []) (rest := []) rfl rfl rfl hl.1 rfl (Nat.le_of_ble_eq_true rfl) d_BT_appendVersion_121 ⟨Nat.zero_le _, Nat.zero_le _⟩) hD hS hA (fun z_121 H locs hz_121 hP hD hS => ?_)
        have hres := bindc_eq hz_121 hres
        have hok := bindp_eq hz_121 hok
        have hP : va_P G.1 classes (cC G ad nb nt z_92.2.1 z_92.2.2.1 z_92.2.2.2.1 csl z_110.1 z_110.2 z_92.2.2.2.2.1 z_92.2.2.2.2.2.1 z_92.2.2.2.2.2.2.1 cdz cch cva z_121 cve cro crc cma cbi ces cbl z_92.2.2.2.2.2.2.2) H := hP
        have hD : va_D A (cC G ad nb nt z_92.2.1 z_92.2.2.1 z_92.2.2.2.1 csl z_110.1 z_110.2 z_92.2.2.2.2.1 z_92.2.2.2.2.2.1 z_92.2.2.2.2.2.2.1 cdz cch cva z_121 cve cro crc cma cbi ces cbl z_92.2.2.2.2.2.2.2) := hD
        refine lv_aload_n hx hb d_BT_appendVersion_124 rfl (lv_at hl 1 rfl) ?_
        refine va_get (D := G.1) (ci := 0) (C := R_BT) (T := F_BT) (N := 5) hx hb ht in_BT hown hK hP 0 rfl rfl 3 (by decide) (ht _ kf_BT_35) (fun _ h9 => h9) rfl d_BT_appendVersion_125 ?_
        refine lv_iload hx hb d_BT_appendVersion_128 (lv_at hl 4 rfl) ?_
        refine lv_iload_n hx hb d_BT_appendVersion_130 rfl (lv_at hl 3 rfl) ?_
        have hk_131 := hok
        refine go_vz (run_V hx hb hml hown ht hK hP hD (c_SH_add hk_131) (cw_V ht km_BT_166 ki_SH_add ks_SH_add ini_SH kd_SH_add kh_SH_add ⟨Nat.le_of_ble_eq_true rfl, Nat.le_of_ble_eq_true rfl⟩ rfl rfl) (q0 := 9) (ci := 4) (As := [.int x4, .int x3]) (rest := []) rfl rfl rfl hl.1 rfl (Nat.le_of_ble_eq_true rfl) d_BT_appendVersion_131 ⟨Nat.zero_le _, Nat.zero_le _⟩) hD hS hA (fun z_131 H locs hz_131 hP hD hS => ?_)
        have hres := bindc_eq hz_131 hres
        have hP : va_P G.1 classes (cC G ad nb nt z_92.2.1 z_92.2.2.1 z_92.2.2.2.1 csl z_110.1 z_110.2 z_92.2.2.2.2.1 z_92.2.2.2.2.2.1 z_92.2.2.2.2.2.2.1 cdz cch cva z_131.1 z_131.2.1 z_131.2.2 crc cma cbi ces cbl z_92.2.2.2.2.2.2.2) H := hP
        have hD : va_D A (cC G ad nb nt z_92.2.1 z_92.2.2.1 z_92.2.2.2.1 csl z_110.1 z_110.2 z_92.2.2.2.2.1 z_92.2.2.2.2.2.1 z_92.2.2.2.2.2.2.1 cdz cch cva z_131.1 z_131.2.1 z_131.2.2 crc cma cbi ces cbl z_92.2.2.2.2.2.2.2) := hD
        refine lv_iload hx hb d_BT_appendVersion_134 (lv_at hl 4 rfl) ?_
        exact en_i (w1 := (fun u : Int32 × Int32 × Int32 × Int32 × Int32 × (Nat → Int32) × (Nat → Int32) × (Nat → Int32) × Int32 × (Nat → Int32) × (Nat → Int32) × (Nat → Int32) × (Nat → Int32) × (Nat → Int32) × (Nat → Int32) => (cC G ad nb nt u.1 u.2.1 u.2.2.1 csl u.2.2.2.1 u.2.2.2.2.1 u.2.2.2.2.2.1 u.2.2.2.2.2.2.1 u.2.2.2.2.2.2.2.1 cdz cch cva u.2.2.2.2.2.2.2.2.1 u.2.2.2.2.2.2.2.2.2.1 u.2.2.2.2.2.2.2.2.2.2.1 crc cma u.2.2.2.2.2.2.2.2.2.2.2.1 u.2.2.2.2.2.2.2.2.2.2.2.2.1 u.2.2.2.2.2.2.2.2.2.2.2.2.2.1 u.2.2.2.2.2.2.2.2.2.2.2.2.2.2))) (z_92.2.1, z_92.2.2.1, z_92.2.2.2.1, z_110.1, z_110.2, z_92.2.2.2.2.1, z_92.2.2.2.2.2.1, z_92.2.2.2.2.2.2.1, z_131.1, z_131.2.1, z_131.2.2, cbi, ces, cbl, z_92.2.2.2.2.2.2.2) hx hb hr hlocks hK hP hD hS hres d_BT_appendVersion_136
    · have hres := it_t c_95 hres
      refine lv_bipush (v := (-4 : Int32)) hx hb d_BT_appendVersion_98 (by decide) ?_
      exact en_i (w1 := (fun u : Int32 × Int32 × Int32 × Int32 × Int32 × (Nat → Int32) × (Nat → Int32) × (Nat → Int32) × Int32 × (Nat → Int32) × (Nat → Int32) × (Nat → Int32) × (Nat → Int32) × (Nat → Int32) × (Nat → Int32) => (cC G ad nb nt u.1 u.2.1 u.2.2.1 csl u.2.2.2.1 u.2.2.2.2.1 u.2.2.2.2.2.1 u.2.2.2.2.2.2.1 u.2.2.2.2.2.2.2.1 cdz cch cva u.2.2.2.2.2.2.2.2.1 u.2.2.2.2.2.2.2.2.2.1 u.2.2.2.2.2.2.2.2.2.2.1 crc cma u.2.2.2.2.2.2.2.2.2.2.2.1 u.2.2.2.2.2.2.2.2.2.2.2.2.1 u.2.2.2.2.2.2.2.2.2.2.2.2.2.1 u.2.2.2.2.2.2.2.2.2.2.2.2.2.2))) (z_92.2.1, z_92.2.2.1, z_92.2.2.2.1, cst, cen, z_92.2.2.2.2.1, z_92.2.2.2.2.2.1, z_92.2.2.2.2.2.2.1, css, cve, cro, cbi, ces, cbl, z_92.2.2.2.2.2.2.2) hx hb hr hlocks hK hP hD hS hres d_BT_appendVersion_100
def f_BT_appendVersion (p0 : Int32) (cfa : Int32) (cle : Int32) (cwr : Int32) (csl : Int32) (cst : Int32) (cen : Int32) (cby : (Nat → Int32)) (cto : (Nat → Int32)) (csh : (Nat → Int32)) (css : Int32) (cve : (Nat → Int32)) (cro : (Nat → Int32)) (crc : Int32) (cma : (Nat → Int32)) (cbi : (Nat → Int32)) (ces : (Nat → Int32)) (cbl : (Nat → Int32)) (crt : (Nat → Int32)) : Int32 × Int32 × Int32 × Int32 × Int32 × Int32 × (Nat → Int32) × (Nat → Int32) × (Nat → Int32) × Int32 × (Nat → Int32) × (Nat → Int32) × (Nat → Int32) × (Nat → Int32) × (Nat → Int32) × (Nat → Int32) := bindc (f_RL_end cen) (fun z_4 => bindc (f_PG_place z_4.1 cma cbi ces cbl) (fun z_13 => bindc (f_RL_hasRoom ((z_13.1 + (1 : Int32)) - z_4.1) csl cst cen) (fun z_26 => if z_26.1 = 0 then ((-3 : Int32), (cfa, cle, cwr, cst, cen, cby, cto, csh, css, cve, cro, z_13.2.1, z_13.2.2.1, z_13.2.2.2, crt)) else bindc (f_SH_newest css cve) (fun z_39 => if p0 = 0 then bindc (f_RL_start cst) (fun z_58 => f_BT_appendVersion_61 p0 z_13.1 (z_39.1 + (1 : Int32)) z_58.1 cfa cle cwr csl cst cen cby cto csh css cve cro crc cma z_13.2.1 z_13.2.2.1 z_13.2.2.2 crt) else f_BT_appendVersion_61 p0 z_13.1 (z_39.1 + (1 : Int32)) z_4.1 cfa cle cwr csl cst cen cby cto csh css cve cro crc cma z_13.2.1 z_13.2.2.1 z_13.2.2.2 crt))))
def ok_BT_appendVersion (nb : Nat) (nt : Nat) (p0 : Int32) (cfa : Int32) (cle : Int32) (cwr : Int32) (csl : Int32) (cst : Int32) (cen : Int32) (cby : (Nat → Int32)) (cto : (Nat → Int32)) (csh : (Nat → Int32)) (css : Int32) (cve : (Nat → Int32)) (cro : (Nat → Int32)) (crc : Int32) (cma : (Nat → Int32)) (cbi : (Nat → Int32)) (ces : (Nat → Int32)) (cbl : (Nat → Int32)) (crt : (Nat → Int32)) : Prop := bindp (f_RL_end cen) (fun z_4 => ok_PG_place nb nt z_4.1 cma cbi ces cbl ∧ bindp (f_PG_place z_4.1 cma cbi ces cbl) (fun z_13 => bindp (f_RL_hasRoom ((z_13.1 + (1 : Int32)) - z_4.1) csl cst cen) (fun z_26 => (z_26.1 = 0 → True) ∧ (¬ z_26.1 = 0 → ok_SH_newest nb nt css cve ∧ bindp (f_SH_newest css cve) (fun z_39 => (p0 = 0 → bindp (f_RL_start cst) (fun z_58 => ok_BT_appendVersion_61 nb nt  p0 z_13.1 (z_39.1 + (1 : Int32)) z_58.1 cfa cle cwr csl cst cen cby cto csh css cve cro crc cma z_13.2.1 z_13.2.2.1 z_13.2.2.2 crt)) ∧ (¬ p0 = 0 → ok_BT_appendVersion_61 nb nt  p0 z_13.1 (z_39.1 + (1 : Int32)) z_4.1 cfa cle cwr csl cst cen cby cto csh css cve cro crc cma z_13.2.1 z_13.2.2.1 z_13.2.2.2 crt))))))
set_option maxHeartbeats 4000000 in
set_option maxRecDepth 100000 in
theorem c_BT_appendVersion {l : Launch} {G : GG} {ad : Nat → Nat} {nb : Nat} {nt : Nat} {sz : Nat} {cfa : Int32} {cle : Int32} {cwr : Int32} {csl : Int32} {cst : Int32} {cen : Int32} {cby : (Nat → Int32)} {cto : (Nat → Int32)} {csh : (Nat → Int32)} {cdz : Int32} {cch : (Nat → Int32)} {cva : (Nat → Int32)} {css : Int32} {cve : (Nat → Int32)} {cro : (Nat → Int32)} {crc : Int32} {cma : (Nat → Int32)} {cbi : (Nat → Int32)} {ces : (Nat → Int32)} {cbl : (Nat → Int32)} {crt : (Nat → Int32)} {p0 : Int32} (hok : ok_BT_appendVersion nb nt p0 cfa cle cwr csl cst cen cby cto csh css cve cro crc cma cbi ces cbl crt) : CtI l y_BT_appendVersion b_BT_appendVersion 6 (some .int) rm_BT_appendVersion G (cC G ad nb nt cfa cle cwr csl cst cen cby cto csh cdz cch cva css cve cro crc cma cbi ces cbl crt) sz [.ref (ad 0), .int p0] (eqP (f_BT_appendVersion p0 cfa cle cwr csl cst cen cby cto csh css cve cro crc cma cbi ces cbl crt)) (fun u : Int32 × Int32 × Int32 × Int32 × Int32 × (Nat → Int32) × (Nat → Int32) × (Nat → Int32) × Int32 × (Nat → Int32) × (Nat → Int32) × (Nat → Int32) × (Nat → Int32) × (Nat → Int32) × (Nat → Int32) => (cC G ad nb nt u.1 u.2.1 u.2.2.1 csl u.2.2.2.1 u.2.2.2.2.1 u.2.2.2.2.2.1 u.2.2.2.2.2.2.1 u.2.2.2.2.2.2.2.1 cdz cch cva u.2.2.2.2.2.2.2.2.1 u.2.2.2.2.2.2.2.2.2.1 u.2.2.2.2.2.2.2.2.2.2.1 crc cma u.2.2.2.2.2.2.2.2.2.2.2.1 u.2.2.2.2.2.2.2.2.2.2.2.2.1 u.2.2.2.2.2.2.2.2.2.2.2.2.2.1 u.2.2.2.2.2.2.2.2.2.2.2.2.2.2)) := by
  generalize hres : f_BT_appendVersion p0 cfa cle cwr csl cst cen cby cto csh css cve cro crc cma cbi ces cbl crt = res
  refine Met_of (Qc := fun A => va_Qi (eqP res) (Wb G A (fun u : Int32 × Int32 × Int32 × Int32 × Int32 × (Nat → Int32) × (Nat → Int32) × (Nat → Int32) × Int32 × (Nat → Int32) × (Nat → Int32) × (Nat → Int32) × (Nat → Int32) × (Nat → Int32) × (Nat → Int32) => (cC G ad nb nt u.1 u.2.1 u.2.2.1 csl u.2.2.2.1 u.2.2.2.2.1 u.2.2.2.2.2.1 u.2.2.2.2.2.2.1 u.2.2.2.2.2.2.2.1 cdz cch cva u.2.2.2.2.2.2.2.2.1 u.2.2.2.2.2.2.2.2.2.1 u.2.2.2.2.2.2.2.2.2.2.1 crc cma u.2.2.2.2.2.2.2.2.2.2.2.1 u.2.2.2.2.2.2.2.2.2.2.2.2.1 u.2.2.2.2.2.2.2.2.2.2.2.2.2.1 u.2.2.2.2.2.2.2.2.2.2.2.2.2.2))) A) (by decide) (Nat.le_of_ble_eq_true rfl) ?_
  intro p e s m below meth c hadm hx hb hr hml hown hlocks ht hK A hA hP hD hS ls hl
  have hC : Cx p l e s m (([.ref (ad 0), .int p0] : List Value)).toArray meth c y_BT_appendVersion b_BT_appendVersion 6 (some .int) "BookTrees" G A := ⟨hx, hb, hr, hml, hown, hlocks, ht, hK, hA⟩
  have hown : s.vm.findClass "BookTrees" = some m.cls := hown
  have hl : lv_has ls 6 [(0, .ref (ad 0)), (1, .int p0)] := hl
  rw [f_BT_appendVersion] at hres
  rw [ok_BT_appendVersion] at hok
  refine lv_aload_n hx hb d_BT_appendVersion_0 rfl (lv_at hl 0 rfl) ?_
  refine va_get (D := G.1) (ci := 0) (C := R_BT) (T := F_BT) (N := 5) hx hb ht in_BT hown hK hP 0 rfl rfl 1 (by decide) (ht _ kf_BT_21) (fun _ h9 => h9) rfl d_BT_appendVersion_1 ?_
  refine go_iz (run_V hx hb hml hown ht hK hP hD (c_RL_end) (cw_V ht km_BT_186 ki_RL_end ks_RL_end ini_RL kd_RL_end kh_RL_end ⟨Nat.le_of_ble_eq_true rfl, Nat.le_of_ble_eq_true rfl⟩ rfl rfl) (q0 := 2) (ci := 2) (As := []) (rest := []) rfl rfl rfl hl.1 rfl (Nat.le_of_ble_eq_true rfl) d_BT_appendVersion_4 ⟨Nat.zero_le _, Nat.zero_le _⟩) hD hS hA (fun z_4 H locs hz_4 hP hD hS => ?_)
  have hres := bindc_eq hz_4 hres
  have hok := bindp_eq hz_4 hok
  have hP : va_P G.1 classes (cC G ad nb nt cfa cle cwr csl cst cen cby cto csh cdz cch cva css cve cro crc cma cbi ces cbl crt) H := hP
  have hD : va_D A (cC G ad nb nt cfa cle cwr csl cst cen cby cto csh cdz cch cva css cve cro crc cma cbi ces cbl crt) := hD
  refine lv_istore_n (lv' := [(2, .int z_4.1), (0, .ref (ad 0)), (1, .int p0)]) hx hb d_BT_appendVersion_7 rfl hl (by decide) rfl (fun ls hl => ?_)
  refine lv_aload_n hx hb d_BT_appendVersion_8 rfl (lv_at hl 1 rfl) ?_
  refine va_get (D := G.1) (ci := 0) (C := R_BT) (T := F_BT) (N := 5) hx hb ht in_BT hown hK hP 0 rfl rfl 4 (by decide) (ht _ kf_BT_42) (fun _ h9 => h9) rfl d_BT_appendVersion_9 ?_
  refine lv_iload_n hx hb d_BT_appendVersion_12 rfl (lv_at hl 0 rfl) ?_
  obtain ⟨hk_13, hok⟩ := hok
  refine go_iz (run_V hx hb hml hown ht hK hP hD (c_PG_place hk_13) (cw_V ht km_BT_216 ki_PG_place ks_PG_place ini_PG kd_PG_place kh_PG_place ⟨Nat.le_of_ble_eq_true rfl, Nat.le_of_ble_eq_true rfl⟩ rfl rfl) (q0 := 12) (ci := 5) (As := [.int z_4.1]) (rest := []) rfl rfl rfl hl.1 rfl (Nat.le_of_ble_eq_true rfl) d_BT_appendVersion_13 ⟨Nat.zero_le _, Nat.zero_le _⟩) hD hS hA (fun z_13 H locs hz_13 hP hD hS => ?_)
  have hres := bindc_eq hz_13 hres
  have hok := bindp_eq hz_13 hok
  have hP : va_P G.1 classes (cC G ad nb nt cfa cle cwr csl cst cen cby cto csh cdz cch cva css cve cro crc cma z_13.2.1 z_13.2.2.1 z_13.2.2.2 crt) H := hP
  have hD : va_D A (cC G ad nb nt cfa cle cwr csl cst cen cby cto csh cdz cch cva css cve cro crc cma z_13.2.1 z_13.2.2.1 z_13.2.2.2 crt) := hD
  refine lv_istore_n (lv' := [(3, .int z_13.1), (2, .int z_4.1), (0, .ref (ad 0)), (1, .int p0)]) hx hb d_BT_appendVersion_16 rfl hl (by decide) rfl (fun ls hl => ?_)
  refine lv_aload_n hx hb d_BT_appendVersion_17 rfl (lv_at hl 2 rfl) ?_
  refine va_get (D := G.1) (ci := 0) (C := R_BT) (T := F_BT) (N := 5) hx hb ht in_BT hown hK hP 0 rfl rfl 1 (by decide) (ht _ kf_BT_21) (fun _ h9 => h9) rfl d_BT_appendVersion_18 ?_
  refine lv_iload_n hx hb d_BT_appendVersion_21 rfl (lv_at hl 0 rfl) ?_
  refine lv_iconst (v := (1 : Int32)) hx hb d_BT_appendVersion_22 (by decide) ?_
  refine lv_iadd hx hb d_BT_appendVersion_23 ?_
  refine lv_iload_n hx hb d_BT_appendVersion_24 rfl (lv_at hl 1 rfl) ?_
  refine lv_isub hx hb d_BT_appendVersion_25 ?_
  refine go_iz (run_V hx hb hml hown ht hK hP hD (c_RL_hasRoom) (cw_V ht km_BT_219 ki_RL_hasRoom ks_RL_hasRoom ini_RL kd_RL_hasRoom kh_RL_hasRoom ⟨Nat.le_of_ble_eq_true rfl, Nat.le_of_ble_eq_true rfl⟩ rfl rfl) (q0 := 2) (ci := 2) (As := [.int ((z_13.1 + (1 : Int32)) - z_4.1)]) (rest := []) rfl rfl rfl hl.1 rfl (Nat.le_of_ble_eq_true rfl) d_BT_appendVersion_26 ⟨Nat.zero_le _, Nat.zero_le _⟩) hD hS hA (fun z_26 H locs hz_26 hP hD hS => ?_)
  have hres := bindc_eq hz_26 hres
  have hok := bindp_eq hz_26 hok
  have hP : va_P G.1 classes (cC G ad nb nt cfa cle cwr csl cst cen cby cto csh cdz cch cva css cve cro crc cma z_13.2.1 z_13.2.2.1 z_13.2.2.2 crt) H := hP
  have hD : va_D A (cC G ad nb nt cfa cle cwr csl cst cen cby cto csh cdz cch cva css cve cro crc cma z_13.2.1 z_13.2.2.1 z_13.2.2.2 crt) := hD
  refine lv_if_ne (tgt := 35) hx hb d_BT_appendVersion_29 (by decide) (fun c_29 => ?_) (fun c_29 => ?_)
  · have hres := it_f c_29 hres
    have hok := hok.2 c_29
    refine lv_aload_n hx hb d_BT_appendVersion_35 rfl (lv_at hl 2 rfl) ?_
    refine va_get (D := G.1) (ci := 0) (C := R_BT) (T := F_BT) (N := 5) hx hb ht in_BT hown hK hP 0 rfl rfl 3 (by decide) (ht _ kf_BT_35) (fun _ h9 => h9) rfl d_BT_appendVersion_36 ?_
    obtain ⟨hk_39, hok⟩ := hok
    refine go_iz (run_V hx hb hml hown ht hK hP hD (c_SH_newest hk_39) (cw_V ht km_BT_91 ki_SH_newest ks_SH_newest ini_SH kd_SH_newest kh_SH_newest ⟨Nat.le_of_ble_eq_true rfl, Nat.le_of_ble_eq_true rfl⟩ rfl rfl) (q0 := 9) (ci := 4) (As := []) (rest := []) rfl rfl rfl hl.1 rfl (Nat.le_of_ble_eq_true rfl) d_BT_appendVersion_39 ⟨Nat.zero_le _, Nat.zero_le _⟩) hD hS hA (fun z_39 H locs hz_39 hP hD hS => ?_)
    have hres := bindc_eq hz_39 hres
    have hok := bindp_eq hz_39 hok
    have hP : va_P G.1 classes (cC G ad nb nt cfa cle cwr csl cst cen cby cto csh cdz cch cva css cve cro crc cma z_13.2.1 z_13.2.2.1 z_13.2.2.2 crt) H := hP
    have hD : va_D A (cC G ad nb nt cfa cle cwr csl cst cen cby cto csh cdz cch cva css cve cro crc cma z_13.2.1 z_13.2.2.1 z_13.2.2.2 crt) := hD
    refine lv_iconst (v := (1 : Int32)) hx hb d_BT_appendVersion_42 (by decide) ?_
    refine lv_iadd hx hb d_BT_appendVersion_43 ?_
    refine lv_istore (lv' := [(4, .int (z_39.1 + (1 : Int32))), (3, .int z_13.1), (2, .int z_4.1), (0, .ref (ad 0)), (1, .int p0)]) hx hb d_BT_appendVersion_44 hl (by decide) rfl (fun ls hl => ?_)
    refine lv_iload_n hx hb d_BT_appendVersion_46 rfl (lv_at hl 4 rfl) ?_
    refine lv_if_eq (tgt := 54) hx hb d_BT_appendVersion_47 (by decide) (fun c_47 => ?_) (fun c_47 => ?_)
    · have hres := it_t c_47 hres
      have hok := hok.1 c_47
      refine lv_aload_n hx hb d_BT_appendVersion_54 rfl (lv_at hl 3 rfl) ?_
      refine va_get (D := G.1) (ci := 0) (C := R_BT) (T := F_BT) (N := 5) hx hb ht in_BT hown hK hP 0 rfl rfl 1 (by decide) (ht _ kf_BT_21) (fun _ h9 => h9) rfl d_BT_appendVersion_55 ?_
      refine go_iz (run_V hx hb hml hown ht hK hP hD (c_RL_start) (cw_V ht km_BT_183 ki_RL_start ks_RL_start ini_RL kd_RL_start kh_RL_start ⟨Nat.le_of_ble_eq_true rfl, Nat.le_of_ble_eq_true rfl⟩ rfl rfl) (q0 := 2) (ci := 2) (As := []) (rest := []) rfl rfl rfl hl.1 rfl (Nat.le_of_ble_eq_true rfl) d_BT_appendVersion_58 ⟨Nat.zero_le _, Nat.zero_le _⟩) hD hS hA (fun z_58 H locs hz_58 hP hD hS => ?_)
      have hres := bindc_eq hz_58 hres
      have hok := bindp_eq hz_58 hok
      have hP : va_P G.1 classes (cC G ad nb nt cfa cle cwr csl cst cen cby cto csh cdz cch cva css cve cro crc cma z_13.2.1 z_13.2.2.1 z_13.2.2.2 crt) H := hP
      have hD : va_D A (cC G ad nb nt cfa cle cwr csl cst cen cby cto csh cdz cch cva css cve cro crc cma z_13.2.1 z_13.2.2.1 z_13.2.2.2 crt) := hD
      exact w_BT_appendVersion_61 hC p0 z_13.1 (z_39.1 + (1 : Int32)) z_58.1 cfa cle cwr cst cen cby cto csh css cve cro z_13.2.1 z_13.2.2.1 z_13.2.2.2 crt _ _ _ hok hres hP hD hS (lv_sub hl [3, 4, 1, 0] rfl)
    · have hres := it_f c_47 hres
      have hok := hok.2 c_47
      refine lv_iload_n hx hb d_BT_appendVersion_50 rfl (lv_at hl 2 rfl) ?_
      refine lv_goto (tgt := 61) hx hb d_BT_appendVersion_51 (by decide) ?_
      exact w_BT_appendVersion_61 hC p0 z_13.1 (z_39.1 + (1 : Int32)) z_4.1 cfa cle cwr cst cen cby cto csh css cve cro z_13.2.1 z_13.2.2.1 z_13.2.2.2 crt _ _ _ hok hres hP hD hS (lv_sub hl [3, 4, 1, 0] rfl)
  · have hres := it_t c_29 hres
    refine lv_bipush (v := (-3 : Int32)) hx hb d_BT_appendVersion_32 (by decide) ?_
    exact en_i (w1 := (fun u : Int32 × Int32 × Int32 × Int32 × Int32 × (Nat → Int32) × (Nat → Int32) × (Nat → Int32) × Int32 × (Nat → Int32) × (Nat → Int32) × (Nat → Int32) × (Nat → Int32) × (Nat → Int32) × (Nat → Int32) => (cC G ad nb nt u.1 u.2.1 u.2.2.1 csl u.2.2.2.1 u.2.2.2.2.1 u.2.2.2.2.2.1 u.2.2.2.2.2.2.1 u.2.2.2.2.2.2.2.1 cdz cch cva u.2.2.2.2.2.2.2.2.1 u.2.2.2.2.2.2.2.2.2.1 u.2.2.2.2.2.2.2.2.2.2.1 crc cma u.2.2.2.2.2.2.2.2.2.2.2.1 u.2.2.2.2.2.2.2.2.2.2.2.2.1 u.2.2.2.2.2.2.2.2.2.2.2.2.2.1 u.2.2.2.2.2.2.2.2.2.2.2.2.2.2))) (cfa, cle, cwr, cst, cen, cby, cto, csh, css, cve, cro, z_13.2.1, z_13.2.2.1, z_13.2.2.2, crt) hx hb hr hlocks hK hP hD hS hres d_BT_appendVersion_34
/-! ===== BookTrees.commit()I ===== -/
abbrev rm_BT_commit : Room := { frames := 6, cells := 0, slots := 0, locals := 140 }
def f_BT_commit  (cfa : Int32) (cle : Int32) (cwr : Int32) (csl : Int32) (cst : Int32) (cen : Int32) (cby : (Nat → Int32)) (cto : (Nat → Int32)) (csh : (Nat → Int32)) (cdz : Int32) (cch : (Nat → Int32)) (cva : (Nat → Int32)) (css : Int32) (cve : (Nat → Int32)) (cro : (Nat → Int32)) (crc : Int32) (cma : (Nat → Int32)) (cbi : (Nat → Int32)) (ces : (Nat → Int32)) (cbl : (Nat → Int32)) (crt : (Nat → Int32)) : Int32 × Int32 × Int32 × Int32 × Int32 × Int32 × (Nat → Int32) × (Nat → Int32) × (Nat → Int32) × Int32 × (Nat → Int32) × Int32 × (Nat → Int32) × (Nat → Int32) × Int32 × (Nat → Int32) × (Nat → Int32) × (Nat → Int32) × (Nat → Int32) × (Nat → Int32) := bindc (f_BT_requirePower cfa) (fun z_1 => bindc (f_DR_size cdz) (fun z_8 => if z_8.1 = 0 then bindc (f_SH_newest css cve) (fun z_18 => (z_18.1, (cfa, cle, cwr, cst, cen, cby, cto, csh, cdz, cch, css, cve, cro, crc, cma, cbi, ces, cbl, crt))) else bindc (f_PG_clear crc cma cbi ces) (fun z_26 => bindc (f_PG_markKeysOf cch z_26.2.1) (fun z_37 => bindc (f_SH_newestRoot css cro) (fun z_52 => bindc (f_PG_readTree z_52.1 csl cst cen cby cto z_26.1 z_37 z_26.2.2.1 z_26.2.2.2) (fun z_55 => if z_55.1 = 0 then ((-2 : Int32), (cfa, cle, cwr, cst, cen, cby, cto, csh, cdz, cch, css, cve, cro, z_55.2.1, z_37, z_55.2.2.1, z_55.2.2.2, cbl, crt)) else bindc (f_PG_change cch cva z_55.2.1 z_55.2.2.1 z_55.2.2.2) (fun z_72 => bindc (f_BT_appendVersion (0 : Int32) cfa cle cwr csl cst cen cby cto csh css cve cro z_72.1 z_37 z_72.2.1 z_72.2.2 cbl crt) (fun z_77 => if z_77.1 ≤ 0 then (z_77.1, (z_77.2.1, z_77.2.2.1, z_77.2.2.2.1, z_77.2.2.2.2.1, z_77.2.2.2.2.2.1, z_77.2.2.2.2.2.2.1, z_77.2.2.2.2.2.2.2.1, z_77.2.2.2.2.2.2.2.2.1, cdz, cch, z_77.2.2.2.2.2.2.2.2.2.1, z_77.2.2.2.2.2.2.2.2.2.2.1, z_77.2.2.2.2.2.2.2.2.2.2.2.1, z_72.1, z_37, z_77.2.2.2.2.2.2.2.2.2.2.2.2.1, z_77.2.2.2.2.2.2.2.2.2.2.2.2.2.1, z_77.2.2.2.2.2.2.2.2.2.2.2.2.2.2.1, z_77.2.2.2.2.2.2.2.2.2.2.2.2.2.2.2)) else bindc (f_DR_clear cdz cch) (fun z_89 => (z_77.1, (z_77.2.1, z_77.2.2.1, z_77.2.2.2.1, z_77.2.2.2.2.1, z_77.2.2.2.2.2.1, z_77.2.2.2.2.2.2.1, z_77.2.2.2.2.2.2.2.1, z_77.2.2.2.2.2.2.2.2.1, z_89.1, z_89.2, z_77.2.2.2.2.2.2.2.2.2.1, z_77.2.2.2.2.2.2.2.2.2.2.1, z_77.2.2.2.2.2.2.2.2.2.2.2.1, z_72.1, z_37, z_77.2.2.2.2.2.2.2.2.2.2.2.2.1, z_77.2.2.2.2.2.2.2.2.2.2.2.2.2.1, z_77.2.2.2.2.2.2.2.2.2.2.2.2.2.2.1, z_77.2.2.2.2.2.2.2.2.2.2.2.2.2.2.2)))))))))))
def ok_BT_commit (nb : Nat) (nt : Nat)  (cfa : Int32) (cle : Int32) (cwr : Int32) (csl : Int32) (cst : Int32) (cen : Int32) (cby : (Nat → Int32)) (cto : (Nat → Int32)) (csh : (Nat → Int32)) (cdz : Int32) (cch : (Nat → Int32)) (cva : (Nat → Int32)) (css : Int32) (cve : (Nat → Int32)) (cro : (Nat → Int32)) (crc : Int32) (cma : (Nat → Int32)) (cbi : (Nat → Int32)) (ces : (Nat → Int32)) (cbl : (Nat → Int32)) (crt : (Nat → Int32)) : Prop := ok_BT_requirePower nb nt cfa ∧ bindp (f_BT_requirePower cfa) (fun z_1 => bindp (f_DR_size cdz) (fun z_8 => (z_8.1 = 0 → ok_SH_newest nb nt css cve) ∧ (¬ z_8.1 = 0 → ok_PG_clear nb nt crc cma cbi ces ∧ bindp (f_PG_clear crc cma cbi ces) (fun z_26 => ok_PG_markKeysOf nb nt cch z_26.2.1 ∧ bindp (f_PG_markKeysOf cch z_26.2.1) (fun z_37 => ok_SH_newestRoot nb nt css cro ∧ bindp (f_SH_newestRoot css cro) (fun z_52 => ok_PG_readTree nb nt z_52.1 csl cst cen cby cto z_26.1 z_37 z_26.2.2.1 z_26.2.2.2 ∧ bindp (f_PG_readTree z_52.1 csl cst cen cby cto z_26.1 z_37 z_26.2.2.1 z_26.2.2.2) (fun z_55 => (z_55.1 = 0 → True) ∧ (¬ z_55.1 = 0 → ok_PG_change nb nt cch cva z_55.2.1 z_55.2.2.1 z_55.2.2.2 ∧ bindp (f_PG_change cch cva z_55.2.1 z_55.2.2.1 z_55.2.2.2) (fun z_72 => ok_BT_appendVersion nb nt (0 : Int32) cfa cle cwr csl cst cen cby cto csh css cve cro z_72.1 z_37 z_72.2.1 z_72.2.2 cbl crt ∧ bindp (f_BT_appendVersion (0 : Int32) cfa cle cwr csl cst cen cby cto csh css cve cro z_72.1 z_37 z_72.2.1 z_72.2.2 cbl crt) (fun z_77 => (z_77.1 ≤ 0 → True) ∧ (¬ z_77.1 ≤ 0 → ok_DR_clear nb nt cdz cch)))))))))))
set_option maxHeartbeats 4000000 in
set_option maxRecDepth 100000 in
theorem c_BT_commit {l : Launch} {G : GG} {ad : Nat → Nat} {nb : Nat} {nt : Nat} {sz : Nat} {cfa : Int32} {cle : Int32} {cwr : Int32} {csl : Int32} {cst : Int32} {cen : Int32} {cby : (Nat → Int32)} {cto : (Nat → Int32)} {csh : (Nat → Int32)} {cdz : Int32} {cch : (Nat → Int32)} {cva : (Nat → Int32)} {css : Int32} {cve : (Nat → Int32)} {cro : (Nat → Int32)} {crc : Int32} {cma : (Nat → Int32)} {cbi : (Nat → Int32)} {ces : (Nat → Int32)} {cbl : (Nat → Int32)} {crt : (Nat → Int32)}  (hok : ok_BT_commit nb nt cfa cle cwr csl cst cen cby cto csh cdz cch cva css cve cro crc cma cbi ces cbl crt) : CtI l y_BT_commit b_BT_commit 2 (some .int) rm_BT_commit G (cC G ad nb nt cfa cle cwr csl cst cen cby cto csh cdz cch cva css cve cro crc cma cbi ces cbl crt) sz [.ref (ad 0)] (eqP (f_BT_commit cfa cle cwr csl cst cen cby cto csh cdz cch cva css cve cro crc cma cbi ces cbl crt)) (fun u : Int32 × Int32 × Int32 × Int32 × Int32 × (Nat → Int32) × (Nat → Int32) × (Nat → Int32) × Int32 × (Nat → Int32) × Int32 × (Nat → Int32) × (Nat → Int32) × Int32 × (Nat → Int32) × (Nat → Int32) × (Nat → Int32) × (Nat → Int32) × (Nat → Int32) => (cC G ad nb nt u.1 u.2.1 u.2.2.1 csl u.2.2.2.1 u.2.2.2.2.1 u.2.2.2.2.2.1 u.2.2.2.2.2.2.1 u.2.2.2.2.2.2.2.1 u.2.2.2.2.2.2.2.2.1 u.2.2.2.2.2.2.2.2.2.1 cva u.2.2.2.2.2.2.2.2.2.2.1 u.2.2.2.2.2.2.2.2.2.2.2.1 u.2.2.2.2.2.2.2.2.2.2.2.2.1 u.2.2.2.2.2.2.2.2.2.2.2.2.2.1 u.2.2.2.2.2.2.2.2.2.2.2.2.2.2.1 u.2.2.2.2.2.2.2.2.2.2.2.2.2.2.2.1 u.2.2.2.2.2.2.2.2.2.2.2.2.2.2.2.2.1 u.2.2.2.2.2.2.2.2.2.2.2.2.2.2.2.2.2.1 u.2.2.2.2.2.2.2.2.2.2.2.2.2.2.2.2.2.2)) := by
  generalize hres : f_BT_commit cfa cle cwr csl cst cen cby cto csh cdz cch cva css cve cro crc cma cbi ces cbl crt = res
  refine Met_of (Qc := fun A => va_Qi (eqP res) (Wb G A (fun u : Int32 × Int32 × Int32 × Int32 × Int32 × (Nat → Int32) × (Nat → Int32) × (Nat → Int32) × Int32 × (Nat → Int32) × Int32 × (Nat → Int32) × (Nat → Int32) × Int32 × (Nat → Int32) × (Nat → Int32) × (Nat → Int32) × (Nat → Int32) × (Nat → Int32) => (cC G ad nb nt u.1 u.2.1 u.2.2.1 csl u.2.2.2.1 u.2.2.2.2.1 u.2.2.2.2.2.1 u.2.2.2.2.2.2.1 u.2.2.2.2.2.2.2.1 u.2.2.2.2.2.2.2.2.1 u.2.2.2.2.2.2.2.2.2.1 cva u.2.2.2.2.2.2.2.2.2.2.1 u.2.2.2.2.2.2.2.2.2.2.2.1 u.2.2.2.2.2.2.2.2.2.2.2.2.1 u.2.2.2.2.2.2.2.2.2.2.2.2.2.1 u.2.2.2.2.2.2.2.2.2.2.2.2.2.2.1 u.2.2.2.2.2.2.2.2.2.2.2.2.2.2.2.1 u.2.2.2.2.2.2.2.2.2.2.2.2.2.2.2.2.1 u.2.2.2.2.2.2.2.2.2.2.2.2.2.2.2.2.2.1 u.2.2.2.2.2.2.2.2.2.2.2.2.2.2.2.2.2.2))) A) (by decide) (Nat.le_of_ble_eq_true rfl) ?_
  intro p e s m below meth c hadm hx hb hr hml hown hlocks ht hK A hA hP hD hS ls hl
  have hC : Cx p l e s m (([.ref (ad 0)] : List Value)).toArray meth c y_BT_commit b_BT_commit 2 (some .int) "BookTrees" G A := ⟨hx, hb, hr, hml, hown, hlocks, ht, hK, hA⟩
  have hown : s.vm.findClass "BookTrees" = some m.cls := hown
  have hl : lv_has ls 2 [(0, .ref (ad 0))] := hl
  rw [f_BT_commit] at hres
  rw [ok_BT_commit] at hok
  refine lv_aload_n hx hb d_BT_commit_0 rfl (lv_at hl 0 rfl) ?_
  obtain ⟨hk_1, hok⟩ := hok
  refine go_vz (run_V hx hb hml hown ht hK hP hD (c_BT_requirePower hk_1) (cw_V ht km_BT_54 ki_BT_requirePower ks_BT_requirePower ini_BT kd_BT_requirePower kh_BT_requirePower ⟨Nat.le_of_ble_eq_true rfl, Nat.le_of_ble_eq_true rfl⟩ rfl rfl) (q0 := 0) (ci := 0) (As := []) (rest := []) rfl rfl rfl hl.1 rfl (Nat.le_of_ble_eq_true rfl) d_BT_commit_1 ⟨Nat.zero_le _, Nat.zero_le _⟩) hD hS hA (fun z_1 H locs hz_1 hP hD hS => ?_)
  have hres := bindc_eq hz_1 hres
  have hok := bindp_eq hz_1 hok
  have hP : va_P G.1 classes (cC G ad nb nt cfa cle cwr csl cst cen cby cto csh cdz cch cva css cve cro crc cma cbi ces cbl crt) H := hP
  have hD : va_D A (cC G ad nb nt cfa cle cwr csl cst cen cby cto csh cdz cch cva css cve cro crc cma cbi ces cbl crt) := hD
  refine lv_aload_n hx hb d_BT_commit_4 rfl (lv_at hl 0 rfl) ?_
  refine va_get (D := G.1) (ci := 0) (C := R_BT) (T := F_BT) (N := 5) hx hb ht in_BT hown hK hP 0 rfl rfl 2 (by decide) (ht _ kf_BT_28) (fun _ h9 => h9) rfl d_BT_commit_5 ?_
  refine go_iz (run_V hx hb hml hown ht hK hP hD (c_DR_size) (cw_V ht km_BT_61 ki_DR_size ks_DR_size ini_DR kd_DR_size kh_DR_size ⟨Nat.le_of_ble_eq_true rfl, Nat.le_of_ble_eq_true rfl⟩ rfl rfl) (q0 := 6) (ci := 3) (As := []) (rest := []) rfl rfl rfl hl.1 rfl (Nat.le_of_ble_eq_true rfl) d_BT_commit_8 ⟨Nat.zero_le _, Nat.zero_le _⟩) hD hS hA (fun z_8 H locs hz_8 hP hD hS => ?_)
  have hres := bindc_eq hz_8 hres
  have hok := bindp_eq hz_8 hok
  have hP : va_P G.1 classes (cC G ad nb nt cfa cle cwr csl cst cen cby cto csh cdz cch cva css cve cro crc cma cbi ces cbl crt) H := hP
  have hD : va_D A (cC G ad nb nt cfa cle cwr csl cst cen cby cto csh cdz cch cva css cve cro crc cma cbi ces cbl crt) := hD
  refine lv_if_ne (tgt := 22) hx hb d_BT_commit_11 (by decide) (fun c_11 => ?_) (fun c_11 => ?_)
  · have hres := it_f c_11 hres
    have hok := hok.2 c_11
    refine lv_aload_n hx hb d_BT_commit_22 rfl (lv_at hl 0 rfl) ?_
    refine va_get (D := G.1) (ci := 0) (C := R_BT) (T := F_BT) (N := 5) hx hb ht in_BT hown hK hP 0 rfl rfl 4 (by decide) (ht _ kf_BT_42) (fun _ h9 => h9) rfl d_BT_commit_23 ?_
    obtain ⟨hk_26, hok⟩ := hok
    refine go_vz (run_V hx hb hml hown ht hK hP hD (c_PG_clear hk_26) (cw_V ht km_BT_94 ki_PG_clear ks_PG_clear ini_PG kd_PG_clear kh_PG_clear ⟨Nat.le_of_ble_eq_true rfl, Nat.le_of_ble_eq_true rfl⟩ rfl rfl) (q0 := 12) (ci := 5) (As := []) (rest := []) rfl rfl rfl hl.1 rfl (Nat.le_of_ble_eq_true rfl) d_BT_commit_26 ⟨Nat.zero_le _, Nat.zero_le _⟩) hD hS hA (fun z_26 H locs hz_26 hP hD hS => ?_)
    have hres := bindc_eq hz_26 hres
    have hok := bindp_eq hz_26 hok
    have hP : va_P G.1 classes (cC G ad nb nt cfa cle cwr csl cst cen cby cto csh cdz cch cva css cve cro z_26.1 z_26.2.1 z_26.2.2.1 z_26.2.2.2 cbl crt) H := hP
    have hD : va_D A (cC G ad nb nt cfa cle cwr csl cst cen cby cto csh cdz cch cva css cve cro z_26.1 z_26.2.1 z_26.2.2.1 z_26.2.2.2 cbl crt) := hD
    refine lv_aload_n hx hb d_BT_commit_29 rfl (lv_at hl 0 rfl) ?_
    refine va_get (D := G.1) (ci := 0) (C := R_BT) (T := F_BT) (N := 5) hx hb ht in_BT hown hK hP 0 rfl rfl 4 (by decide) (ht _ kf_BT_42) (fun _ h9 => h9) rfl d_BT_commit_30 ?_
    refine lv_aload_n hx hb d_BT_commit_33 rfl (lv_at hl 0 rfl) ?_
    refine va_get (D := G.1) (ci := 0) (C := R_BT) (T := F_BT) (N := 5) hx hb ht in_BT hown hK hP 0 rfl rfl 2 (by decide) (ht _ kf_BT_28) (fun _ h9 => h9) rfl d_BT_commit_34 ?_
    obtain ⟨hk_37, hok⟩ := hok
    refine go_vz (run_V hx hb hml hown ht hK hP hD (c_PG_markKeysOf hk_37) (cw_V ht km_BT_95 ki_PG_markKeysOf ks_PG_markKeysOf ini_PG kd_PG_markKeysOf kh_PG_markKeysOf ⟨Nat.le_of_ble_eq_true rfl, Nat.le_of_ble_eq_true rfl⟩ rfl rfl) (q0 := 12) (ci := 5) (As := [.ref (ad 6)]) (rest := []) rfl rfl rfl hl.1 rfl (Nat.le_of_ble_eq_true rfl) d_BT_commit_37 ⟨Nat.zero_le _, Nat.zero_le _⟩) hD hS hA (fun z_37 H locs hz_37 hP hD hS => ?_)
    have hres := bindc_eq hz_37 hres
    have hok := bindp_eq hz_37 hok
    have hP : va_P G.1 classes (cC G ad nb nt cfa cle cwr csl cst cen cby cto csh cdz cch cva css cve cro z_26.1 z_37 z_26.2.2.1 z_26.2.2.2 cbl crt) H := hP
    have hD : va_D A (cC G ad nb nt cfa cle cwr csl cst cen cby cto csh cdz cch cva css cve cro z_26.1 z_37 z_26.2.2.1 z_26.2.2.2 cbl crt) := hD
    refine lv_aload_n hx hb d_BT_commit_40 rfl (lv_at hl 0 rfl) ?_
    refine va_get (D := G.1) (ci := 0) (C := R_BT) (T := F_BT) (N := 5) hx hb ht in_BT hown hK hP 0 rfl rfl 4 (by decide) (ht _ kf_BT_42) (fun _ h9 => h9) rfl d_BT_commit_41 ?_
    refine lv_aload_n hx hb d_BT_commit_44 rfl (lv_at hl 0 rfl) ?_
    refine va_get (D := G.1) (ci := 0) (C := R_BT) (T := F_BT) (N := 5) hx hb ht in_BT hown hK hP 0 rfl rfl 1 (by decide) (ht _ kf_BT_21) (fun _ h9 => h9) rfl d_BT_commit_45 ?_
    refine lv_aload_n hx hb d_BT_commit_48 rfl (lv_at hl 0 rfl) ?_
    refine va_get (D := G.1) (ci := 0) (C := R_BT) (T := F_BT) (N := 5) hx hb ht in_BT hown hK hP 0 rfl rfl 3 (by decide) (ht _ kf_BT_35) (fun _ h9 => h9) rfl d_BT_commit_49 ?_
    obtain ⟨hk_52, hok⟩ := hok
    refine go_iz (run_V hx hb hml hown ht hK hP hD (c_SH_newestRoot hk_52) (cw_V ht km_BT_84 ki_SH_newestRoot ks_SH_newestRoot ini_SH kd_SH_newestRoot kh_SH_newestRoot ⟨Nat.le_of_ble_eq_true rfl, Nat.le_of_ble_eq_true rfl⟩ rfl rfl) (q0 := 9) (ci := 4) (As := []) (rest := [.ref (ad 2), .ref (ad 12)]) rfl rfl rfl hl.1 rfl (Nat.le_of_ble_eq_true rfl) d_BT_commit_52 ⟨Nat.zero_le _, Nat.zero_le _⟩) hD hS hA (fun z_52 H locs hz_52 hP hD hS => ?_)
    have hres := bindc_eq hz_52 hres
    have hok := bindp_eq hz_52 hok
    have hP : va_P G.1 classes (cC G ad nb nt cfa cle cwr csl cst cen cby cto csh cdz cch cva css cve cro z_26.1 z_37 z_26.2.2.1 z_26.2.2.2 cbl crt) H := hP
    have hD : va_D A (cC G ad nb nt cfa cle cwr csl cst cen cby cto csh cdz cch cva css cve cro z_26.1 z_37 z_26.2.2.1 z_26.2.2.2 cbl crt) := hD
    obtain ⟨hk_55, hok⟩ := hok
    refine go_iz (run_V hx hb hml hown ht hK hP hD (c_PG_readTree hk_55) (cw_V ht km_BT_99 ki_PG_readTree ks_PG_readTree ini_PG kd_PG_readTree kh_PG_readTree ⟨Nat.le_of_ble_eq_true rfl, Nat.le_of_ble_eq_true rfl⟩ rfl rfl) (q0 := 12) (ci := 5) (As := [.ref (ad 2), .int z_52.1]) (rest := []) rfl rfl rfl hl.1 rfl (Nat.le_of_ble_eq_true rfl) d_BT_commit_55 ⟨Nat.zero_le _, Nat.zero_le _⟩) hD hS hA (fun z_55 H locs hz_55 hP hD hS => ?_)
    have hres := bindc_eq hz_55 hres
    have hok := bindp_eq hz_55 hok
    have hP : va_P G.1 classes (cC G ad nb nt cfa cle cwr csl cst cen cby cto csh cdz cch cva css cve cro z_55.2.1 z_37 z_55.2.2.1 z_55.2.2.2 cbl crt) H := hP
    have hD : va_D A (cC G ad nb nt cfa cle cwr csl cst cen cby cto csh cdz cch cva css cve cro z_55.2.1 z_37 z_55.2.2.1 z_55.2.2.2 cbl crt) := hD
    refine lv_if_ne (tgt := 64) hx hb d_BT_commit_58 (by decide) (fun c_58 => ?_) (fun c_58 => ?_)
    · have hres := it_f c_58 hres
      have hok := hok.2 c_58
      refine lv_aload_n hx hb d_BT_commit_64 rfl (lv_at hl 0 rfl) ?_
      refine va_get (D := G.1) (ci := 0) (C := R_BT) (T := F_BT) (N := 5) hx hb ht in_BT hown hK hP 0 rfl rfl 4 (by decide) (ht _ kf_BT_42) (fun _ h9 => h9) rfl d_BT_commit_65 ?_
      refine lv_aload_n hx hb d_BT_commit_68 rfl (lv_at hl 0 rfl) ?_
      refine va_get (D := G.1) (ci := 0) (C := R_BT) (T := F_BT) (N := 5) hx hb ht in_BT hown hK hP 0 rfl rfl 2 (by decide) (ht _ kf_BT_28) (fun _ h9 => h9) rfl d_BT_commit_69 ?_
      obtain ⟨hk_72, hok⟩ := hok
      refine go_vz (run_V hx hb hml hown ht hK hP hD (c_PG_change hk_72) (cw_V ht km_BT_103 ki_PG_change ks_PG_change ini_PG kd_PG_change kh_PG_change ⟨Nat.le_of_ble_eq_true rfl, Nat.le_of_ble_eq_true rfl⟩ rfl rfl) (q0 := 12) (ci := 5) (As := [.ref (ad 6)]) (rest := []) rfl rfl rfl hl.1 rfl (Nat.le_of_ble_eq_true rfl) d_BT_commit_72 ⟨Nat.zero_le _, Nat.zero_le _⟩) hD hS hA (fun z_72 H locs hz_72 hP hD hS => ?_)
      have hres := bindc_eq hz_72 hres
      have hok := bindp_eq hz_72 hok
      have hP : va_P G.1 classes (cC G ad nb nt cfa cle cwr csl cst cen cby cto csh cdz cch cva css cve cro z_72.1 z_37 z_72.2.1 z_72.2.2 cbl crt) H := hP
      have hD : va_D A (cC G ad nb nt cfa cle cwr csl cst cen cby cto csh cdz cch cva css cve cro z_72.1 z_37 z_72.2.1 z_72.2.2 cbl crt) := hD
      refine lv_aload_n hx hb d_BT_commit_75 rfl (lv_at hl 0 rfl) ?_
      refine lv_iconst (v := (0 : Int32)) hx hb d_BT_commit_76 (by decide) ?_
      obtain ⟨hk_77, hok⟩ := hok
      refine go_iz (run_V hx hb hml hown ht hK hP hD (c_BT_appendVersion hk_77) (cw_V ht km_BT_106 ki_BT_appendVersion ks_BT_appendVersion ini_BT kd_BT_appendVersion kh_BT_appendVersion ⟨Nat.le_of_ble_eq_true rfl, Nat.le_of_ble_eq_true rfl⟩ rfl rfl) (q0 := 0) (ci := 0) (As := [.int (0 : Int32)]) (rest := []) rfl rfl rfl hl.1 rfl (Nat.le_of_ble_eq_true rfl) d_BT_commit_77 ⟨Nat.zero_le _, Nat.zero_le _⟩) hD hS hA (fun z_77 H locs hz_77 hP hD hS => ?_)
      have hres := bindc_eq hz_77 hres
      have hok := bindp_eq hz_77 hok
      have hP : va_P G.1 classes (cC G ad nb nt z_77.2.1 z_77.2.2.1 z_77.2.2.2.1 csl z_77.2.2.2.2.1 z_77.2.2.2.2.2.1 z_77.2.2.2.2.2.2.1 z_77.2.2.2.2.2.2.2.1 z_77.2.2.2.2.2.2.2.2.1 cdz cch cva z_77.2.2.2.2.2.2.2.2.2.1 z_77.2.2.2.2.2.2.2.2.2.2.1 z_77.2.2.2.2.2.2.2.2.2.2.2.1 z_72.1 z_37 z_77.2.2.2.2.2.2.2.2.2.2.2.2.1 z_77.2.2.2.2.2.2.2.2.2.2.2.2.2.1 z_77.2.2.2.2.2.2.2.2.2.2.2.2.2.2.1 z_77.2.2.2.2.2.2.2.2.2.2.2.2.2.2.2) H := hP
      have hD : va_D A (cC G ad nb nt z_77.2.1 z_77.2.2.1 z_77.2.2.2.1 csl z_77.2.2.2.2.1 z_77.2.2.2.2.2.1 z_77.2.2.2.2.2.2.1 z_77.2.2.2.2.2.2.2.1 z_77.2.2.2.2.2.2.2.2.1 cdz cch cva z_77.2.2.2.2.2.2.2.2.2.1 z_77.2.2.2.2.2.2.2.2.2.2.1 z_77.2.2.2.2.2.2.2.2.2.2.2.1 z_72.1 z_37 z_77.2.2.2.2.2.2.2.2.2.2.2.2.1 z_77.2.2.2.2.2.2.2.2.2.2.2.2.2.1 z_77.2.2.2.2.2.2.2.2.2.2.2.2.2.2.1 z_77.2.2.2.2.2.2.2.2.2.2.2.2.2.2.2) := hD
      refine lv_istore_n (lv' := [(1, .int z_77.1), (0, .ref (ad 0))]) hx hb d_BT_commit_80 rfl hl (by decide) rfl (fun ls hl => ?_)
      refine lv_iload_n hx hb d_BT_commit_81 rfl (lv_at hl 0 rfl) ?_
      refine lv_if_le (tgt := 92) hx hb d_BT_commit_82 (by decide) (fun c_82 => ?_) (fun c_82 => ?_)
      · have hres := it_t c_82 hres
        refine lv_iload_n hx hb d_BT_commit_92 rfl (lv_at hl 0 rfl) ?_
        exact en_i (w1 := (fun u : Int32 × Int32 × Int32 × Int32 × Int32 × (Nat → Int32) × (Nat → Int32) × (Nat → Int32) × Int32 × (Nat → Int32) × Int32 × (Nat → Int32) × (Nat → Int32) × Int32 × (Nat → Int32) × (Nat → Int32) × (Nat → Int32) × (Nat → Int32) × (Nat → Int32) => (cC G ad nb nt u.1 u.2.1 u.2.2.1 csl u.2.2.2.1 u.2.2.2.2.1 u.2.2.2.2.2.1 u.2.2.2.2.2.2.1 u.2.2.2.2.2.2.2.1 u.2.2.2.2.2.2.2.2.1 u.2.2.2.2.2.2.2.2.2.1 cva u.2.2.2.2.2.2.2.2.2.2.1 u.2.2.2.2.2.2.2.2.2.2.2.1 u.2.2.2.2.2.2.2.2.2.2.2.2.1 u.2.2.2.2.2.2.2.2.2.2.2.2.2.1 u.2.2.2.2.2.2.2.2.2.2.2.2.2.2.1 u.2.2.2.2.2.2.2.2.2.2.2.2.2.2.2.1 u.2.2.2.2.2.2.2.2.2.2.2.2.2.2.2.2.1 u.2.2.2.2.2.2.2.2.2.2.2.2.2.2.2.2.2.1 u.2.2.2.2.2.2.2.2.2.2.2.2.2.2.2.2.2.2))) (z_77.2.1, z_77.2.2.1, z_77.2.2.2.1, z_77.2.2.2.2.1, z_77.2.2.2.2.2.1, z_77.2.2.2.2.2.2.1, z_77.2.2.2.2.2.2.2.1, z_77.2.2.2.2.2.2.2.2.1, cdz, cch, z_77.2.2.2.2.2.2.2.2.2.1, z_77.2.2.2.2.2.2.2.2.2.2.1, z_77.2.2.2.2.2.2.2.2.2.2.2.1, z_72.1, z_37, z_77.2.2.2.2.2.2.2.2.2.2.2.2.1, z_77.2.2.2.2.2.2.2.2.2.2.2.2.2.1, z_77.2.2.2.2.2.2.2.2.2.2.2.2.2.2.1, z_77.2.2.2.2.2.2.2.2.2.2.2.2.2.2.2) hx hb hr hlocks hK hP hD hS hres d_BT_commit_93
      · have hres := it_f c_82 hres
        have hok := hok.2 c_82
        refine lv_aload_n hx hb d_BT_commit_85 rfl (lv_at hl 1 rfl) ?_
        refine va_get (D := G.1) (ci := 0) (C := R_BT) (T := F_BT) (N := 5) hx hb ht in_BT hown hK hP 0 rfl rfl 2 (by decide) (ht _ kf_BT_28) (fun _ h9 => h9) rfl d_BT_commit_86 ?_
        have hk_89 := hok
        refine go_vz (run_V hx hb hml hown ht hK hP hD (c_DR_clear hk_89) (cw_V ht km_BT_69 ki_DR_clear ks_DR_clear ini_DR kd_DR_clear kh_DR_clear ⟨Nat.le_of_ble_eq_true rfl, Nat.le_of_ble_eq_true rfl⟩ rfl rfl) (q0 := 6) (ci := 3) (As := []) (rest := []) rfl rfl rfl hl.1 rfl (Nat.le_of_ble_eq_true rfl) d_BT_commit_89 ⟨Nat.zero_le _, Nat.zero_le _⟩) hD hS hA (fun z_89 H locs hz_89 hP hD hS => ?_)
        have hres := bindc_eq hz_89 hres
        have hP : va_P G.1 classes (cC G ad nb nt z_77.2.1 z_77.2.2.1 z_77.2.2.2.1 csl z_77.2.2.2.2.1 z_77.2.2.2.2.2.1 z_77.2.2.2.2.2.2.1 z_77.2.2.2.2.2.2.2.1 z_77.2.2.2.2.2.2.2.2.1 z_89.1 z_89.2 cva z_77.2.2.2.2.2.2.2.2.2.1 z_77.2.2.2.2.2.2.2.2.2.2.1 z_77.2.2.2.2.2.2.2.2.2.2.2.1 z_72.1 z_37 z_77.2.2.2.2.2.2.2.2.2.2.2.2.1 z_77.2.2.2.2.2.2.2.2.2.2.2.2.2.1 z_77.2.2.2.2.2.2.2.2.2.2.2.2.2.2.1 z_77.2.2.2.2.2.2.2.2.2.2.2.2.2.2.2) H := hP
        have hD : va_D A (cC G ad nb nt z_77.2.1 z_77.2.2.1 z_77.2.2.2.1 csl z_77.2.2.2.2.1 z_77.2.2.2.2.2.1 z_77.2.2.2.2.2.2.1 z_77.2.2.2.2.2.2.2.1 z_77.2.2.2.2.2.2.2.2.1 z_89.1 z_89.2 cva z_77.2.2.2.2.2.2.2.2.2.1 z_77.2.2.2.2.2.2.2.2.2.2.1 z_77.2.2.2.2.2.2.2.2.2.2.2.1 z_72.1 z_37 z_77.2.2.2.2.2.2.2.2.2.2.2.2.1 z_77.2.2.2.2.2.2.2.2.2.2.2.2.2.1 z_77.2.2.2.2.2.2.2.2.2.2.2.2.2.2.1 z_77.2.2.2.2.2.2.2.2.2.2.2.2.2.2.2) := hD
        refine lv_iload_n hx hb d_BT_commit_92 rfl (lv_at hl 0 rfl) ?_
        exact en_i (w1 := (fun u : Int32 × Int32 × Int32 × Int32 × Int32 × (Nat → Int32) × (Nat → Int32) × (Nat → Int32) × Int32 × (Nat → Int32) × Int32 × (Nat → Int32) × (Nat → Int32) × Int32 × (Nat → Int32) × (Nat → Int32) × (Nat → Int32) × (Nat → Int32) × (Nat → Int32) => (cC G ad nb nt u.1 u.2.1 u.2.2.1 csl u.2.2.2.1 u.2.2.2.2.1 u.2.2.2.2.2.1 u.2.2.2.2.2.2.1 u.2.2.2.2.2.2.2.1 u.2.2.2.2.2.2.2.2.1 u.2.2.2.2.2.2.2.2.2.1 cva u.2.2.2.2.2.2.2.2.2.2.1 u.2.2.2.2.2.2.2.2.2.2.2.1 u.2.2.2.2.2.2.2.2.2.2.2.2.1 u.2.2.2.2.2.2.2.2.2.2.2.2.2.1 u.2.2.2.2.2.2.2.2.2.2.2.2.2.2.1 u.2.2.2.2.2.2.2.2.2.2.2.2.2.2.2.1 u.2.2.2.2.2.2.2.2.2.2.2.2.2.2.2.2.1 u.2.2.2.2.2.2.2.2.2.2.2.2.2.2.2.2.2.1 u.2.2.2.2.2.2.2.2.2.2.2.2.2.2.2.2.2.2))) (z_77.2.1, z_77.2.2.1, z_77.2.2.2.1, z_77.2.2.2.2.1, z_77.2.2.2.2.2.1, z_77.2.2.2.2.2.2.1, z_77.2.2.2.2.2.2.2.1, z_77.2.2.2.2.2.2.2.2.1, z_89.1, z_89.2, z_77.2.2.2.2.2.2.2.2.2.1, z_77.2.2.2.2.2.2.2.2.2.2.1, z_77.2.2.2.2.2.2.2.2.2.2.2.1, z_72.1, z_37, z_77.2.2.2.2.2.2.2.2.2.2.2.2.1, z_77.2.2.2.2.2.2.2.2.2.2.2.2.2.1, z_77.2.2.2.2.2.2.2.2.2.2.2.2.2.2.1, z_77.2.2.2.2.2.2.2.2.2.2.2.2.2.2.2) hx hb hr hlocks hK hP hD hS hres d_BT_commit_93
    · have hres := it_t c_58 hres
      refine lv_bipush (v := (-2 : Int32)) hx hb d_BT_commit_61 (by decide) ?_
      exact en_i (w1 := (fun u : Int32 × Int32 × Int32 × Int32 × Int32 × (Nat → Int32) × (Nat → Int32) × (Nat → Int32) × Int32 × (Nat → Int32) × Int32 × (Nat → Int32) × (Nat → Int32) × Int32 × (Nat → Int32) × (Nat → Int32) × (Nat → Int32) × (Nat → Int32) × (Nat → Int32) => (cC G ad nb nt u.1 u.2.1 u.2.2.1 csl u.2.2.2.1 u.2.2.2.2.1 u.2.2.2.2.2.1 u.2.2.2.2.2.2.1 u.2.2.2.2.2.2.2.1 u.2.2.2.2.2.2.2.2.1 u.2.2.2.2.2.2.2.2.2.1 cva u.2.2.2.2.2.2.2.2.2.2.1 u.2.2.2.2.2.2.2.2.2.2.2.1 u.2.2.2.2.2.2.2.2.2.2.2.2.1 u.2.2.2.2.2.2.2.2.2.2.2.2.2.1 u.2.2.2.2.2.2.2.2.2.2.2.2.2.2.1 u.2.2.2.2.2.2.2.2.2.2.2.2.2.2.2.1 u.2.2.2.2.2.2.2.2.2.2.2.2.2.2.2.2.1 u.2.2.2.2.2.2.2.2.2.2.2.2.2.2.2.2.2.1 u.2.2.2.2.2.2.2.2.2.2.2.2.2.2.2.2.2.2))) (cfa, cle, cwr, cst, cen, cby, cto, csh, cdz, cch, css, cve, cro, z_55.2.1, z_37, z_55.2.2.1, z_55.2.2.2, cbl, crt) hx hb hr hlocks hK hP hD hS hres d_BT_commit_63
  · have hres := it_t c_11 hres
    have hok := hok.1 c_11
    refine lv_aload_n hx hb d_BT_commit_14 rfl (lv_at hl 0 rfl) ?_
    refine va_get (D := G.1) (ci := 0) (C := R_BT) (T := F_BT) (N := 5) hx hb ht in_BT hown hK hP 0 rfl rfl 3 (by decide) (ht _ kf_BT_35) (fun _ h9 => h9) rfl d_BT_commit_15 ?_
    have hk_18 := hok
    refine go_iz (run_V hx hb hml hown ht hK hP hD (c_SH_newest hk_18) (cw_V ht km_BT_91 ki_SH_newest ks_SH_newest ini_SH kd_SH_newest kh_SH_newest ⟨Nat.le_of_ble_eq_true rfl, Nat.le_of_ble_eq_true rfl⟩ rfl rfl) (q0 := 9) (ci := 4) (As := []) (rest := []) rfl rfl rfl hl.1 rfl (Nat.le_of_ble_eq_true rfl) d_BT_commit_18 ⟨Nat.zero_le _, Nat.zero_le _⟩) hD hS hA (fun z_18 H locs hz_18 hP hD hS => ?_)
    have hres := bindc_eq hz_18 hres
    have hP : va_P G.1 classes (cC G ad nb nt cfa cle cwr csl cst cen cby cto csh cdz cch cva css cve cro crc cma cbi ces cbl crt) H := hP
    have hD : va_D A (cC G ad nb nt cfa cle cwr csl cst cen cby cto csh cdz cch cva css cve cro crc cma cbi ces cbl crt) := hD
    exact en_i (w1 := (fun u : Int32 × Int32 × Int32 × Int32 × Int32 × (Nat → Int32) × (Nat → Int32) × (Nat → Int32) × Int32 × (Nat → Int32) × Int32 × (Nat → Int32) × (Nat → Int32) × Int32 × (Nat → Int32) × (Nat → Int32) × (Nat → Int32) × (Nat → Int32) × (Nat → Int32) => (cC G ad nb nt u.1 u.2.1 u.2.2.1 csl u.2.2.2.1 u.2.2.2.2.1 u.2.2.2.2.2.1 u.2.2.2.2.2.2.1 u.2.2.2.2.2.2.2.1 u.2.2.2.2.2.2.2.2.1 u.2.2.2.2.2.2.2.2.2.1 cva u.2.2.2.2.2.2.2.2.2.2.1 u.2.2.2.2.2.2.2.2.2.2.2.1 u.2.2.2.2.2.2.2.2.2.2.2.2.1 u.2.2.2.2.2.2.2.2.2.2.2.2.2.1 u.2.2.2.2.2.2.2.2.2.2.2.2.2.2.1 u.2.2.2.2.2.2.2.2.2.2.2.2.2.2.2.1 u.2.2.2.2.2.2.2.2.2.2.2.2.2.2.2.2.1 u.2.2.2.2.2.2.2.2.2.2.2.2.2.2.2.2.2.1 u.2.2.2.2.2.2.2.2.2.2.2.2.2.2.2.2.2.2))) (cfa, cle, cwr, cst, cen, cby, cto, csh, cdz, cch, css, cve, cro, crc, cma, cbi, ces, cbl, crt) hx hb hr hlocks hK hP hD hS hres d_BT_commit_21
/-! ===== BookTrees$Pages.markAll()V ===== -/
abbrev rm_PG_markAll : Room := { frames := 0, cells := 0, slots := 0, locals := 0 }
def f_PG_markAll_2 : Nat → Int32 → (Nat → Int32) → (Nat → Int32)
  | 0, x1, cma => cma
  | n + 1, x1, cma => if (73 : Int32) ≤ x1 then cma else f_PG_markAll_2 n (x1 + (1 : Int32)) (upd cma x1.toNatClampNeg (vp_nar .boolean (1 : Int32)))
def ok_PG_markAll_2 (nb : Nat) (nt : Nat) : Nat → Int32 → (Nat → Int32) → Prop
  | 0, _, _ => False
  | n + 1, x1, cma => ((73 : Int32) ≤ x1 → True) ∧ (¬ (73 : Int32) ≤ x1 → vp_in x1 73 ∧ (ok_PG_markAll_2 nb nt  n (x1 + (1 : Int32)) (upd cma x1.toNatClampNeg (vp_nar .boolean (1 : Int32)))))
set_option maxHeartbeats 4000000 in
set_option maxRecDepth 100000 in
theorem w_PG_markAll_2 {p : Program} {l : Launch} {e : Env} {s : State} {m : MethodId} {args : Array Value} {below : List Frame} {meth : Method} {c : Code} {A : Nat → Prop} {G : GG} {ad : Nat → Nat} {nb : Nat} {nt : Nat} {cfa : Int32} {cle : Int32} {cwr : Int32} {csl : Int32} {cst : Int32} {cen : Int32} {cby : (Nat → Int32)} {cto : (Nat → Int32)} {csh : (Nat → Int32)} {cdz : Int32} {cch : (Nat → Int32)} {cva : (Nat → Int32)} {css : Int32} {cve : (Nat → Int32)} {cro : (Nat → Int32)} {crc : Int32} {cbi : (Nat → Int32)} {ces : (Nat → Int32)} {cbl : (Nat → Int32)} {crt : (Nat → Int32)} {res : (Nat → Int32)} (hC : Cx p l e s m args meth c y_PG_markAll b_PG_markAll 2 none "BookTrees$Pages" G A) : ∀ (n : Nat) (x1 : Int32) (cma : (Nat → Int32)) (H : Heap) (locs : List Loc) (ls : Array Slot), ok_PG_markAll_2 nb nt n x1 cma → f_PG_markAll_2 n x1 cma = res → va_P G.1 classes (cC G ad nb nt cfa cle cwr csl cst cen cby cto csh cdz cch cva css cve cro crc cma cbi ces cbl crt) H → va_D A (cC G ad nb nt cfa cle cwr csl cst cen cby cto csh cdz cch cva css cve cro crc cma cbi ces cbl crt) → va_S A s.heap H locs → lv_has ls 2 [(0, .ref (ad 12)), (1, .int x1)] → W p l e rm_PG_markAll s m args below meth c H locs 0 0 (MQ below (va_Qv (eqV res) (Wb G A (fun u : (Nat → Int32) => (cC G ad nb nt cfa cle cwr csl cst cen cby cto csh cdz cch cva css cve cro crc u cbi ces cbl crt))) A) args s 0 0 A) (F0 m 2 ls []) := by
  obtain ⟨hx, hb, hr, hml, hown, hlocks, ht, hK, hA⟩ := id hC
  intro n
  induction n with
  | zero => intro x1 cma H locs ls hok; exact hok.elim
  | succ n ih =>
    intro x1 cma H locs ls hok hres hP hD hS hl
    rw [f_PG_markAll_2] at hres
    rw [ok_PG_markAll_2] at hok
    refine lv_iload_n hx hb d_PG_markAll_2 rfl (lv_at hl 1 rfl) ?_
    refine lv_bipush (v := (73 : Int32)) hx hb d_PG_markAll_3 (by decide) ?_
    refine lv_icmp_ge (tgt := 21) hx hb d_PG_markAll_5 (by decide) (fun c_5 => ?_) (fun c_5 => ?_)
    · have hres := it_t c_5 hres
      exact en_v (w1 := (fun u : (Nat → Int32) => (cC G ad nb nt cfa cle cwr csl cst cen cby cto csh cdz cch cva css cve cro crc u cbi ces cbl crt))) cma hx hb hr hlocks hK hP hD hS hres d_PG_markAll_21
    · have hres := it_f c_5 hres
      have hok := hok.2 c_5
      refine lv_aload_n hx hb d_PG_markAll_8 rfl (lv_at hl 0 rfl) ?_
      refine va_get (D := G.1) (ci := 5) (C := R_PG) (T := F_PG) (N := 6) hx hb ht in_PG hown hK hP 12 rfl rfl 0 (by decide) (ht _ kf_PG_11) (fun _ h9 => h9) rfl d_PG_markAll_9 ?_
      refine lv_iload_n hx hb d_PG_markAll_12 rfl (lv_at hl 1 rfl) ?_
      refine lv_iconst (v := (1 : Int32)) hx hb d_PG_markAll_13 (by decide) ?_
      obtain ⟨hi_14, hok⟩ := hok
      refine va_zast hx hb hK hP hD hS 13 1 rfl rfl hi_14 d_PG_markAll_14 (fun H locs hP hD hS => ?_)
      have hP : va_P G.1 classes (cC G ad nb nt cfa cle cwr csl cst cen cby cto csh cdz cch cva css cve cro crc (upd cma x1.toNatClampNeg (vp_nar .boolean (1 : Int32))) cbi ces cbl crt) H := hP
      have hD : va_D A (cC G ad nb nt cfa cle cwr csl cst cen cby cto csh cdz cch cva css cve cro crc (upd cma x1.toNatClampNeg (vp_nar .boolean (1 : Int32))) cbi ces cbl crt) := hD
      refine lv_iinc (v := x1 + (1 : Int32)) (lv' := [(1, .int (x1 + (1 : Int32))), (0, .ref (ad 12))]) hx hb d_PG_markAll_15 hl (k := 1) rfl rfl (by decide) rfl (fun ls hl => ?_)
      refine lv_goto (tgt := 2) hx hb d_PG_markAll_18 (by decide) ?_
      exact ih (x1 + (1 : Int32)) (upd cma x1.toNatClampNeg (vp_nar .boolean (1 : Int32))) _ _ _ hok hres hP hD hS (lv_sub hl [1, 0] rfl)
def f_PG_markAll  (cma : (Nat → Int32)) : (Nat → Int32) := f_PG_markAll_2 1024 (0 : Int32) cma
def ok_PG_markAll (nb : Nat) (nt : Nat)  (cma : (Nat → Int32)) : Prop := ok_PG_markAll_2 nb nt  1024 (0 : Int32) cma
set_option maxHeartbeats 4000000 in
set_option maxRecDepth 100000 in
theorem c_PG_markAll {l : Launch} {G : GG} {ad : Nat → Nat} {nb : Nat} {nt : Nat} {sz : Nat} {cfa : Int32} {cle : Int32} {cwr : Int32} {csl : Int32} {cst : Int32} {cen : Int32} {cby : (Nat → Int32)} {cto : (Nat → Int32)} {csh : (Nat → Int32)} {cdz : Int32} {cch : (Nat → Int32)} {cva : (Nat → Int32)} {css : Int32} {cve : (Nat → Int32)} {cro : (Nat → Int32)} {crc : Int32} {cma : (Nat → Int32)} {cbi : (Nat → Int32)} {ces : (Nat → Int32)} {cbl : (Nat → Int32)} {crt : (Nat → Int32)}  (hok : ok_PG_markAll nb nt cma) : CtV l y_PG_markAll b_PG_markAll 2 none rm_PG_markAll G (cC G ad nb nt cfa cle cwr csl cst cen cby cto csh cdz cch cva css cve cro crc cma cbi ces cbl crt) sz [.ref (ad 12)] (eqV (f_PG_markAll cma)) (fun u : (Nat → Int32) => (cC G ad nb nt cfa cle cwr csl cst cen cby cto csh cdz cch cva css cve cro crc u cbi ces cbl crt)) := by
  generalize hres : f_PG_markAll cma = res
  refine Met_of (Qc := fun A => va_Qv (eqV res) (Wb G A (fun u : (Nat → Int32) => (cC G ad nb nt cfa cle cwr csl cst cen cby cto csh cdz cch cva css cve cro crc u cbi ces cbl crt))) A) (by decide) (Nat.le_of_ble_eq_true rfl) ?_
  intro p e s m below meth c hadm hx hb hr hml hown hlocks ht hK A hA hP hD hS ls hl
  have hC : Cx p l e s m (([.ref (ad 12)] : List Value)).toArray meth c y_PG_markAll b_PG_markAll 2 none "BookTrees$Pages" G A := ⟨hx, hb, hr, hml, hown, hlocks, ht, hK, hA⟩
  have hown : s.vm.findClass "BookTrees$Pages" = some m.cls := hown
  have hl : lv_has ls 2 [(0, .ref (ad 12))] := hl
  rw [f_PG_markAll] at hres
  rw [ok_PG_markAll] at hok
  refine lv_iconst (v := (0 : Int32)) hx hb d_PG_markAll_0 (by decide) ?_
  refine lv_istore_n (lv' := [(1, .int (0 : Int32)), (0, .ref (ad 12))]) hx hb d_PG_markAll_1 rfl hl (by decide) rfl (fun ls hl => ?_)
  exact w_PG_markAll_2 hC 1024 (0 : Int32) cma _ _ _ hok hres hP hD hS (lv_sub hl [1, 0] rfl)
/-! ===== BookTrees.copy()I ===== -/
abbrev rm_BT_copy : Room := { frames := 6, cells := 0, slots := 0, locals := 140 }
def f_BT_copy  (cfa : Int32) (cle : Int32) (cwr : Int32) (csl : Int32) (cst : Int32) (cen : Int32) (cby : (Nat → Int32)) (cto : (Nat → Int32)) (csh : (Nat → Int32)) (css : Int32) (cve : (Nat → Int32)) (cro : (Nat → Int32)) (crc : Int32) (cma : (Nat → Int32)) (cbi : (Nat → Int32)) (ces : (Nat → Int32)) (cbl : (Nat → Int32)) (crt : (Nat → Int32)) : Int32 × Int32 × Int32 × Int32 × Int32 × Int32 × (Nat → Int32) × (Nat → Int32) × (Nat → Int32) × Int32 × (Nat → Int32) × (Nat → Int32) × Int32 × (Nat → Int32) × (Nat → Int32) × (Nat → Int32) × (Nat → Int32) × (Nat → Int32) := bindc (f_BT_requirePower cfa) (fun z_1 => bindc (f_PG_clear crc cma cbi ces) (fun z_8 => bindc (f_PG_markAll z_8.2.1) (fun z_15 => bindc (f_SH_newestRoot css cro) (fun z_30 => bindc (f_PG_readTree z_30.1 csl cst cen cby cto z_8.1 z_15 z_8.2.2.1 z_8.2.2.2) (fun z_33 => if z_33.1 = 0 then ((-2 : Int32), (cfa, cle, cwr, cst, cen, cby, cto, csh, css, cve, cro, z_33.2.1, z_15, z_33.2.2.1, z_33.2.2.2, cbl, crt)) else bindc (f_BT_appendVersion (1 : Int32) cfa cle cwr csl cst cen cby cto csh css cve cro z_33.2.1 z_15 z_33.2.2.1 z_33.2.2.2 cbl crt) (fun z_44 => (z_44.1, (z_44.2.1, z_44.2.2.1, z_44.2.2.2.1, z_44.2.2.2.2.1, z_44.2.2.2.2.2.1, z_44.2.2.2.2.2.2.1, z_44.2.2.2.2.2.2.2.1, z_44.2.2.2.2.2.2.2.2.1, z_44.2.2.2.2.2.2.2.2.2.1, z_44.2.2.2.2.2.2.2.2.2.2.1, z_44.2.2.2.2.2.2.2.2.2.2.2.1, z_33.2.1, z_15, z_44.2.2.2.2.2.2.2.2.2.2.2.2.1, z_44.2.2.2.2.2.2.2.2.2.2.2.2.2.1, z_44.2.2.2.2.2.2.2.2.2.2.2.2.2.2.1, z_44.2.2.2.2.2.2.2.2.2.2.2.2.2.2.2))))))))
def ok_BT_copy (nb : Nat) (nt : Nat)  (cfa : Int32) (cle : Int32) (cwr : Int32) (csl : Int32) (cst : Int32) (cen : Int32) (cby : (Nat → Int32)) (cto : (Nat → Int32)) (csh : (Nat → Int32)) (css : Int32) (cve : (Nat → Int32)) (cro : (Nat → Int32)) (crc : Int32) (cma : (Nat → Int32)) (cbi : (Nat → Int32)) (ces : (Nat → Int32)) (cbl : (Nat → Int32)) (crt : (Nat → Int32)) : Prop := ok_BT_requirePower nb nt cfa ∧ bindp (f_BT_requirePower cfa) (fun z_1 => ok_PG_clear nb nt crc cma cbi ces ∧ bindp (f_PG_clear crc cma cbi ces) (fun z_8 => ok_PG_markAll nb nt z_8.2.1 ∧ bindp (f_PG_markAll z_8.2.1) (fun z_15 => ok_SH_newestRoot nb nt css cro ∧ bindp (f_SH_newestRoot css cro) (fun z_30 => ok_PG_readTree nb nt z_30.1 csl cst cen cby cto z_8.1 z_15 z_8.2.2.1 z_8.2.2.2 ∧ bindp (f_PG_readTree z_30.1 csl cst cen cby cto z_8.1 z_15 z_8.2.2.1 z_8.2.2.2) (fun z_33 => (z_33.1 = 0 → True) ∧ (¬ z_33.1 = 0 → ok_BT_appendVersion nb nt (1 : Int32) cfa cle cwr csl cst cen cby cto csh css cve cro z_33.2.1 z_15 z_33.2.2.1 z_33.2.2.2 cbl crt))))))
set_option maxHeartbeats 4000000 in
set_option maxRecDepth 100000 in
theorem c_BT_copy {l : Launch} {G : GG} {ad : Nat → Nat} {nb : Nat} {nt : Nat} {sz : Nat} {cfa : Int32} {cle : Int32} {cwr : Int32} {csl : Int32} {cst : Int32} {cen : Int32} {cby : (Nat → Int32)} {cto : (Nat → Int32)} {csh : (Nat → Int32)} {cdz : Int32} {cch : (Nat → Int32)} {cva : (Nat → Int32)} {css : Int32} {cve : (Nat → Int32)} {cro : (Nat → Int32)} {crc : Int32} {cma : (Nat → Int32)} {cbi : (Nat → Int32)} {ces : (Nat → Int32)} {cbl : (Nat → Int32)} {crt : (Nat → Int32)}  (hok : ok_BT_copy nb nt cfa cle cwr csl cst cen cby cto csh css cve cro crc cma cbi ces cbl crt) : CtI l y_BT_copy b_BT_copy 1 (some .int) rm_BT_copy G (cC G ad nb nt cfa cle cwr csl cst cen cby cto csh cdz cch cva css cve cro crc cma cbi ces cbl crt) sz [.ref (ad 0)] (eqP (f_BT_copy cfa cle cwr csl cst cen cby cto csh css cve cro crc cma cbi ces cbl crt)) (fun u : Int32 × Int32 × Int32 × Int32 × Int32 × (Nat → Int32) × (Nat → Int32) × (Nat → Int32) × Int32 × (Nat → Int32) × (Nat → Int32) × Int32 × (Nat → Int32) × (Nat → Int32) × (Nat → Int32) × (Nat → Int32) × (Nat → Int32) => (cC G ad nb nt u.1 u.2.1 u.2.2.1 csl u.2.2.2.1 u.2.2.2.2.1 u.2.2.2.2.2.1 u.2.2.2.2.2.2.1 u.2.2.2.2.2.2.2.1 cdz cch cva u.2.2.2.2.2.2.2.2.1 u.2.2.2.2.2.2.2.2.2.1 u.2.2.2.2.2.2.2.2.2.2.1 u.2.2.2.2.2.2.2.2.2.2.2.1 u.2.2.2.2.2.2.2.2.2.2.2.2.1 u.2.2.2.2.2.2.2.2.2.2.2.2.2.1 u.2.2.2.2.2.2.2.2.2.2.2.2.2.2.1 u.2.2.2.2.2.2.2.2.2.2.2.2.2.2.2.1 u.2.2.2.2.2.2.2.2.2.2.2.2.2.2.2.2)) := by
  generalize hres : f_BT_copy cfa cle cwr csl cst cen cby cto csh css cve cro crc cma cbi ces cbl crt = res
  refine Met_of (Qc := fun A => va_Qi (eqP res) (Wb G A (fun u : Int32 × Int32 × Int32 × Int32 × Int32 × (Nat → Int32) × (Nat → Int32) × (Nat → Int32) × Int32 × (Nat → Int32) × (Nat → Int32) × Int32 × (Nat → Int32) × (Nat → Int32) × (Nat → Int32) × (Nat → Int32) × (Nat → Int32) => (cC G ad nb nt u.1 u.2.1 u.2.2.1 csl u.2.2.2.1 u.2.2.2.2.1 u.2.2.2.2.2.1 u.2.2.2.2.2.2.1 u.2.2.2.2.2.2.2.1 cdz cch cva u.2.2.2.2.2.2.2.2.1 u.2.2.2.2.2.2.2.2.2.1 u.2.2.2.2.2.2.2.2.2.2.1 u.2.2.2.2.2.2.2.2.2.2.2.1 u.2.2.2.2.2.2.2.2.2.2.2.2.1 u.2.2.2.2.2.2.2.2.2.2.2.2.2.1 u.2.2.2.2.2.2.2.2.2.2.2.2.2.2.1 u.2.2.2.2.2.2.2.2.2.2.2.2.2.2.2.1 u.2.2.2.2.2.2.2.2.2.2.2.2.2.2.2.2))) A) (by decide) (Nat.le_of_ble_eq_true rfl) ?_
  intro p e s m below meth c hadm hx hb hr hml hown hlocks ht hK A hA hP hD hS ls hl
  have hC : Cx p l e s m (([.ref (ad 0)] : List Value)).toArray meth c y_BT_copy b_BT_copy 1 (some .int) "BookTrees" G A := ⟨hx, hb, hr, hml, hown, hlocks, ht, hK, hA⟩
  have hown : s.vm.findClass "BookTrees" = some m.cls := hown
  have hl : lv_has ls 1 [(0, .ref (ad 0))] := hl
  rw [f_BT_copy] at hres
  rw [ok_BT_copy] at hok
  refine lv_aload_n hx hb d_BT_copy_0 rfl (lv_at hl 0 rfl) ?_
  obtain ⟨hk_1, hok⟩ := hok
  refine go_vz (run_V hx hb hml hown ht hK hP hD (c_BT_requirePower hk_1) (cw_V ht km_BT_54 ki_BT_requirePower ks_BT_requirePower ini_BT kd_BT_requirePower kh_BT_requirePower ⟨Nat.le_of_ble_eq_true rfl, Nat.le_of_ble_eq_true rfl⟩ rfl rfl) (q0 := 0) (ci := 0) (As := []) (rest := []) rfl rfl rfl hl.1 rfl (Nat.le_of_ble_eq_true rfl) d_BT_copy_1 ⟨Nat.zero_le _, Nat.zero_le _⟩) hD hS hA (fun z_1 H locs hz_1 hP hD hS => ?_)
  have hres := bindc_eq hz_1 hres
  have hok := bindp_eq hz_1 hok
  have hP : va_P G.1 classes (cC G ad nb nt cfa cle cwr csl cst cen cby cto csh cdz cch cva css cve cro crc cma cbi ces cbl crt) H := hP
  have hD : va_D A (cC G ad nb nt cfa cle cwr csl cst cen cby cto csh cdz cch cva css cve cro crc cma cbi ces cbl crt) := hD
  refine lv_aload_n hx hb d_BT_copy_4 rfl (lv_at hl 0 rfl) ?_
  refine va_get (D := G.1) (ci := 0) (C := R_BT) (T := F_BT) (N := 5) hx hb ht in_BT hown hK hP 0 rfl rfl 4 (by decide) (ht _ kf_BT_42) (fun _ h9 => h9) rfl d_BT_copy_5 ?_
  obtain ⟨hk_8, hok⟩ := hok
  refine go_vz (run_V hx hb hml hown ht hK hP hD (c_PG_clear hk_8) (cw_V ht km_BT_94 ki_PG_clear ks_PG_clear ini_PG kd_PG_clear kh_PG_clear ⟨Nat.le_of_ble_eq_true rfl, Nat.le_of_ble_eq_true rfl⟩ rfl rfl) (q0 := 12) (ci := 5) (As := []) (rest := []) rfl rfl rfl hl.1 rfl (Nat.le_of_ble_eq_true rfl) d_BT_copy_8 ⟨Nat.zero_le _, Nat.zero_le _⟩) hD hS hA (fun z_8 H locs hz_8 hP hD hS => ?_)
  have hres := bindc_eq hz_8 hres
  have hok := bindp_eq hz_8 hok
  have hP : va_P G.1 classes (cC G ad nb nt cfa cle cwr csl cst cen cby cto csh cdz cch cva css cve cro z_8.1 z_8.2.1 z_8.2.2.1 z_8.2.2.2 cbl crt) H := hP
  have hD : va_D A (cC G ad nb nt cfa cle cwr csl cst cen cby cto csh cdz cch cva css cve cro z_8.1 z_8.2.1 z_8.2.2.1 z_8.2.2.2 cbl crt) := hD
  refine lv_aload_n hx hb d_BT_copy_11 rfl (lv_at hl 0 rfl) ?_
  refine va_get (D := G.1) (ci := 0) (C := R_BT) (T := F_BT) (N := 5) hx hb ht in_BT hown hK hP 0 rfl rfl 4 (by decide) (ht _ kf_BT_42) (fun _ h9 => h9) rfl d_BT_copy_12 ?_
  obtain ⟨hk_15, hok⟩ := hok
  refine go_vz (run_V hx hb hml hown ht hK hP hD (c_PG_markAll hk_15) (cw_V ht km_BT_110 ki_PG_markAll ks_PG_markAll ini_PG kd_PG_markAll kh_PG_markAll ⟨Nat.le_of_ble_eq_true rfl, Nat.le_of_ble_eq_true rfl⟩ rfl rfl) (q0 := 12) (ci := 5) (As := []) (rest := []) rfl rfl rfl hl.1 rfl (Nat.le_of_ble_eq_true rfl) d_BT_copy_15 ⟨Nat.zero_le _, Nat.zero_le _⟩) hD hS hA (fun z_15 H locs hz_15 hP hD hS => ?_)
  have hres := bindc_eq hz_15 hres
  have hok := bindp_eq hz_15 hok
  have hP : va_P G.1 classes (cC G ad nb nt cfa cle cwr csl cst cen cby cto csh cdz cch cva css cve cro z_8.1 z_15 z_8.2.2.1 z_8.2.2.2 cbl crt) H := hP
  have hD : va_D A (cC G ad nb nt cfa cle cwr csl cst cen cby cto csh cdz cch cva css cve cro z_8.1 z_15 z_8.2.2.1 z_8.2.2.2 cbl crt) := hD
  refine lv_aload_n hx hb d_BT_copy_18 rfl (lv_at hl 0 rfl) ?_
  refine va_get (D := G.1) (ci := 0) (C := R_BT) (T := F_BT) (N := 5) hx hb ht in_BT hown hK hP 0 rfl rfl 4 (by decide) (ht _ kf_BT_42) (fun _ h9 => h9) rfl d_BT_copy_19 ?_
  refine lv_aload_n hx hb d_BT_copy_22 rfl (lv_at hl 0 rfl) ?_
  refine va_get (D := G.1) (ci := 0) (C := R_BT) (T := F_BT) (N := 5) hx hb ht in_BT hown hK hP 0 rfl rfl 1 (by decide) (ht _ kf_BT_21) (fun _ h9 => h9) rfl d_BT_copy_23 ?_
  refine lv_aload_n hx hb d_BT_copy_26 rfl (lv_at hl 0 rfl) ?_
  refine va_get (D := G.1) (ci := 0) (C := R_BT) (T := F_BT) (N := 5) hx hb ht in_BT hown hK hP 0 rfl rfl 3 (by decide) (ht _ kf_BT_35) (fun _ h9 => h9) rfl d_BT_copy_27 ?_
  obtain ⟨hk_30, hok⟩ := hok
  refine go_iz (run_V hx hb hml hown ht hK hP hD (c_SH_newestRoot hk_30) (cw_V ht km_BT_84 ki_SH_newestRoot ks_SH_newestRoot ini_SH kd_SH_newestRoot kh_SH_newestRoot ⟨Nat.le_of_ble_eq_true rfl, Nat.le_of_ble_eq_true rfl⟩ rfl rfl) (q0 := 9) (ci := 4) (As := []) (rest := [.ref (ad 2), .ref (ad 12)]) rfl rfl rfl hl.1 rfl (Nat.le_of_ble_eq_true rfl) d_BT_copy_30 ⟨Nat.zero_le _, Nat.zero_le _⟩) hD hS hA (fun z_30 H locs hz_30 hP hD hS => ?_)
  have hres := bindc_eq hz_30 hres
  have hok := bindp_eq hz_30 hok
  have hP : va_P G.1 classes (cC G ad nb nt cfa cle cwr csl cst cen cby cto csh cdz cch cva css cve cro z_8.1 z_15 z_8.2.2.1 z_8.2.2.2 cbl crt) H := hP
  have hD : va_D A (cC G ad nb nt cfa cle cwr csl cst cen cby cto csh cdz cch cva css cve cro z_8.1 z_15 z_8.2.2.1 z_8.2.2.2 cbl crt) := hD
  obtain ⟨hk_33, hok⟩ := hok
  refine go_iz (run_V hx hb hml hown ht hK hP hD (c_PG_readTree hk_33) (cw_V ht km_BT_99 ki_PG_readTree ks_PG_readTree ini_PG kd_PG_readTree kh_PG_readTree ⟨Nat.le_of_ble_eq_true rfl, Nat.le_of_ble_eq_true rfl⟩ rfl rfl) (q0 := 12) (ci := 5) (As := [.ref (ad 2), .int z_30.1]) (rest := []) rfl rfl rfl hl.1 rfl (Nat.le_of_ble_eq_true rfl) d_BT_copy_33 ⟨Nat.zero_le _, Nat.zero_le _⟩) hD hS hA (fun z_33 H locs hz_33 hP hD hS => ?_)
  have hres := bindc_eq hz_33 hres
  have hok := bindp_eq hz_33 hok
  have hP : va_P G.1 classes (cC G ad nb nt cfa cle cwr csl cst cen cby cto csh cdz cch cva css cve cro z_33.2.1 z_15 z_33.2.2.1 z_33.2.2.2 cbl crt) H := hP
  have hD : va_D A (cC G ad nb nt cfa cle cwr csl cst cen cby cto csh cdz cch cva css cve cro z_33.2.1 z_15 z_33.2.2.1 z_33.2.2.2 cbl crt) := hD
  refine lv_if_ne (tgt := 42) hx hb d_BT_copy_36 (by decide) (fun c_36 => ?_) (fun c_36 => ?_)
  · have hres := it_f c_36 hres
    have hok := hok.2 c_36
    refine lv_aload_n hx hb d_BT_copy_42 rfl (lv_at hl 0 rfl) ?_
    refine lv_iconst (v := (1 : Int32)) hx hb d_BT_copy_43 (by decide) ?_
    have hk_44 := hok
    refine go_iz (run_V hx hb hml hown ht hK hP hD (c_BT_appendVersion hk_44) (cw_V ht km_BT_106 ki_BT_appendVersion ks_BT_appendVersion ini_BT kd_BT_appendVersion kh_BT_appendVersion ⟨Nat.le_of_ble_eq_true rfl, Nat.le_of_ble_eq_true rfl⟩ rfl rfl) (q0 := 0) (ci := 0) (As := [.int (1 : Int32)]) (rest := []) rfl rfl rfl hl.1 rfl (Nat.le_of_ble_eq_true rfl) d_BT_copy_44 ⟨Nat.zero_le _, Nat.zero_le _⟩) hD hS hA (fun z_44 H locs hz_44 hP hD hS => ?_)
    have hres := bindc_eq hz_44 hres
    have hP : va_P G.1 classes (cC G ad nb nt z_44.2.1 z_44.2.2.1 z_44.2.2.2.1 csl z_44.2.2.2.2.1 z_44.2.2.2.2.2.1 z_44.2.2.2.2.2.2.1 z_44.2.2.2.2.2.2.2.1 z_44.2.2.2.2.2.2.2.2.1 cdz cch cva z_44.2.2.2.2.2.2.2.2.2.1 z_44.2.2.2.2.2.2.2.2.2.2.1 z_44.2.2.2.2.2.2.2.2.2.2.2.1 z_33.2.1 z_15 z_44.2.2.2.2.2.2.2.2.2.2.2.2.1 z_44.2.2.2.2.2.2.2.2.2.2.2.2.2.1 z_44.2.2.2.2.2.2.2.2.2.2.2.2.2.2.1 z_44.2.2.2.2.2.2.2.2.2.2.2.2.2.2.2) H := hP
    have hD : va_D A (cC G ad nb nt z_44.2.1 z_44.2.2.1 z_44.2.2.2.1 csl z_44.2.2.2.2.1 z_44.2.2.2.2.2.1 z_44.2.2.2.2.2.2.1 z_44.2.2.2.2.2.2.2.1 z_44.2.2.2.2.2.2.2.2.1 cdz cch cva z_44.2.2.2.2.2.2.2.2.2.1 z_44.2.2.2.2.2.2.2.2.2.2.1 z_44.2.2.2.2.2.2.2.2.2.2.2.1 z_33.2.1 z_15 z_44.2.2.2.2.2.2.2.2.2.2.2.2.1 z_44.2.2.2.2.2.2.2.2.2.2.2.2.2.1 z_44.2.2.2.2.2.2.2.2.2.2.2.2.2.2.1 z_44.2.2.2.2.2.2.2.2.2.2.2.2.2.2.2) := hD
    exact en_i (w1 := (fun u : Int32 × Int32 × Int32 × Int32 × Int32 × (Nat → Int32) × (Nat → Int32) × (Nat → Int32) × Int32 × (Nat → Int32) × (Nat → Int32) × Int32 × (Nat → Int32) × (Nat → Int32) × (Nat → Int32) × (Nat → Int32) × (Nat → Int32) => (cC G ad nb nt u.1 u.2.1 u.2.2.1 csl u.2.2.2.1 u.2.2.2.2.1 u.2.2.2.2.2.1 u.2.2.2.2.2.2.1 u.2.2.2.2.2.2.2.1 cdz cch cva u.2.2.2.2.2.2.2.2.1 u.2.2.2.2.2.2.2.2.2.1 u.2.2.2.2.2.2.2.2.2.2.1 u.2.2.2.2.2.2.2.2.2.2.2.1 u.2.2.2.2.2.2.2.2.2.2.2.2.1 u.2.2.2.2.2.2.2.2.2.2.2.2.2.1 u.2.2.2.2.2.2.2.2.2.2.2.2.2.2.1 u.2.2.2.2.2.2.2.2.2.2.2.2.2.2.2.1 u.2.2.2.2.2.2.2.2.2.2.2.2.2.2.2.2))) (z_44.2.1, z_44.2.2.1, z_44.2.2.2.1, z_44.2.2.2.2.1, z_44.2.2.2.2.2.1, z_44.2.2.2.2.2.2.1, z_44.2.2.2.2.2.2.2.1, z_44.2.2.2.2.2.2.2.2.1, z_44.2.2.2.2.2.2.2.2.2.1, z_44.2.2.2.2.2.2.2.2.2.2.1, z_44.2.2.2.2.2.2.2.2.2.2.2.1, z_33.2.1, z_15, z_44.2.2.2.2.2.2.2.2.2.2.2.2.1, z_44.2.2.2.2.2.2.2.2.2.2.2.2.2.1, z_44.2.2.2.2.2.2.2.2.2.2.2.2.2.2.1, z_44.2.2.2.2.2.2.2.2.2.2.2.2.2.2.2) hx hb hr hlocks hK hP hD hS hres d_BT_copy_47
  · have hres := it_t c_36 hres
    refine lv_bipush (v := (-2 : Int32)) hx hb d_BT_copy_39 (by decide) ?_
    exact en_i (w1 := (fun u : Int32 × Int32 × Int32 × Int32 × Int32 × (Nat → Int32) × (Nat → Int32) × (Nat → Int32) × Int32 × (Nat → Int32) × (Nat → Int32) × Int32 × (Nat → Int32) × (Nat → Int32) × (Nat → Int32) × (Nat → Int32) × (Nat → Int32) => (cC G ad nb nt u.1 u.2.1 u.2.2.1 csl u.2.2.2.1 u.2.2.2.2.1 u.2.2.2.2.2.1 u.2.2.2.2.2.2.1 u.2.2.2.2.2.2.2.1 cdz cch cva u.2.2.2.2.2.2.2.2.1 u.2.2.2.2.2.2.2.2.2.1 u.2.2.2.2.2.2.2.2.2.2.1 u.2.2.2.2.2.2.2.2.2.2.2.1 u.2.2.2.2.2.2.2.2.2.2.2.2.1 u.2.2.2.2.2.2.2.2.2.2.2.2.2.1 u.2.2.2.2.2.2.2.2.2.2.2.2.2.2.1 u.2.2.2.2.2.2.2.2.2.2.2.2.2.2.2.1 u.2.2.2.2.2.2.2.2.2.2.2.2.2.2.2.2))) (cfa, cle, cwr, cst, cen, cby, cto, csh, css, cve, cro, z_33.2.1, z_15, z_33.2.2.1, z_33.2.2.2, cbl, crt) hx hb hr hlocks hK hP hD hS hres d_BT_copy_41
/-! ===== BookTrees$Shelf.rootOf(I)I ===== -/
abbrev rm_SH_rootOf : Room := { frames := 0, cells := 0, slots := 0, locals := 0 }
def f_SH_rootOf_2 : Nat → Int32 → Int32 → Int32 → (Nat → Int32) → (Nat → Int32) → Int32 × Unit
  | 0, x1, x2, css, cve, cro => (0, ())
  | n + 1, x1, x2, css, cve, cro => if css ≤ x2 then ((-1 : Int32), ()) else if (cve x2.toNatClampNeg) = x1 then (cro x2.toNatClampNeg, ()) else f_SH_rootOf_2 n x1 (x2 + (1 : Int32)) css cve cro
def ok_SH_rootOf_2 (nb : Nat) (nt : Nat) : Nat → Int32 → Int32 → Int32 → (Nat → Int32) → (Nat → Int32) → Prop
  | 0, _, _, _, _, _ => False
  | n + 1, x1, x2, css, cve, cro => (css ≤ x2 → True) ∧ (¬ css ≤ x2 → vp_in x2 200 ∧ (((cve x2.toNatClampNeg) = x1 → vp_in x2 200) ∧ (¬ (cve x2.toNatClampNeg) = x1 → ok_SH_rootOf_2 nb nt  n x1 (x2 + (1 : Int32)) css cve cro)))
set_option maxHeartbeats 4000000 in
set_option maxRecDepth 100000 in
theorem w_SH_rootOf_2 {p : Program} {l : Launch} {e : Env} {s : State} {m : MethodId} {args : Array Value} {below : List Frame} {meth : Method} {c : Code} {A : Nat → Prop} {G : GG} {ad : Nat → Nat} {nb : Nat} {nt : Nat} {cfa : Int32} {cle : Int32} {cwr : Int32} {csl : Int32} {cst : Int32} {cen : Int32} {cby : (Nat → Int32)} {cto : (Nat → Int32)} {csh : (Nat → Int32)} {cdz : Int32} {cch : (Nat → Int32)} {cva : (Nat → Int32)} {css : Int32} {cve : (Nat → Int32)} {cro : (Nat → Int32)} {crc : Int32} {cma : (Nat → Int32)} {cbi : (Nat → Int32)} {ces : (Nat → Int32)} {cbl : (Nat → Int32)} {crt : (Nat → Int32)} {res : Int32 × Unit} (hC : Cx p l e s m args meth c y_SH_rootOf b_SH_rootOf 3 (some .int) "BookTrees$Shelf" G A) : ∀ (n : Nat) (x1 : Int32) (x2 : Int32)  (H : Heap) (locs : List Loc) (ls : Array Slot), ok_SH_rootOf_2 nb nt n x1 x2 css cve cro → f_SH_rootOf_2 n x1 x2 css cve cro = res → va_P G.1 classes (cC G ad nb nt cfa cle cwr csl cst cen cby cto csh cdz cch cva css cve cro crc cma cbi ces cbl crt) H → va_D A (cC G ad nb nt cfa cle cwr csl cst cen cby cto csh cdz cch cva css cve cro crc cma cbi ces cbl crt) → va_S A s.heap H locs → lv_has ls 3 [(0, .ref (ad 9)), (1, .int x1), (2, .int x2)] → W p l e rm_SH_rootOf s m args below meth c H locs 0 0 (MQ below (va_Qi (eqP res) (Wb G A (fun _ : Unit => (cC G ad nb nt cfa cle cwr csl cst cen cby cto csh cdz cch cva css cve cro crc cma cbi ces cbl crt))) A) args s 0 0 A) (F0 m 2 ls []) := by
  obtain ⟨hx, hb, hr, hml, hown, hlocks, ht, hK, hA⟩ := id hC
  intro n
  induction n with
  | zero => intro x1 x2 H locs ls hok; exact hok.elim
  | succ n ih =>
    intro x1 x2 H locs ls hok hres hP hD hS hl
    rw [f_SH_rootOf_2] at hres
    rw [ok_SH_rootOf_2] at hok
    refine lv_iload_n hx hb d_SH_rootOf_2 rfl (lv_at hl 2 rfl) ?_
    refine lv_aload_n hx hb d_SH_rootOf_3 rfl (lv_at hl 0 rfl) ?_
    refine va_get (D := G.1) (ci := 4) (C := R_SH) (T := F_SH) (N := 3) hx hb ht in_SH hown hK hP 9 rfl rfl 2 (by decide) (ht _ kf_SH_20) (fun _ h9 => h9) rfl d_SH_rootOf_4 ?_
    refine lv_icmp_ge (tgt := 33) hx hb d_SH_rootOf_7 (by decide) (fun c_7 => ?_) (fun c_7 => ?_)
    · have hres := it_t c_7 hres
      refine lv_iconst (v := (-1 : Int32)) hx hb d_SH_rootOf_33 (by decide) ?_
      exact en_i (w1 := (fun _ : Unit => (cC G ad nb nt cfa cle cwr csl cst cen cby cto csh cdz cch cva css cve cro crc cma cbi ces cbl crt))) () hx hb hr hlocks hK hP hD hS hres d_SH_rootOf_34
    · have hres := it_f c_7 hres
      have hok := hok.2 c_7
      refine lv_aload_n hx hb d_SH_rootOf_10 rfl (lv_at hl 0 rfl) ?_
      refine va_get (D := G.1) (ci := 4) (C := R_SH) (T := F_SH) (N := 3) hx hb ht in_SH hown hK hP 9 rfl rfl 0 (by decide) (ht _ kf_SH_11) (fun _ h9 => h9) rfl d_SH_rootOf_11 ?_
      refine lv_iload_n hx hb d_SH_rootOf_14 rfl (lv_at hl 2 rfl) ?_
      obtain ⟨hi_15, hok⟩ := hok
      refine va_iald hx hb hK hP 10 0 rfl rfl hi_15 d_SH_rootOf_15 ?_
      refine lv_iload_n hx hb d_SH_rootOf_16 rfl (lv_at hl 1 rfl) ?_
      refine lv_icmp_ne (tgt := 27) hx hb d_SH_rootOf_17 (by decide) (fun c_17 => ?_) (fun c_17 => ?_)
      · have hres := it_f c_17 hres
        have hok := hok.2 c_17
        refine lv_iinc (v := x2 + (1 : Int32)) (lv' := [(2, .int (x2 + (1 : Int32))), (0, .ref (ad 9)), (1, .int x1)]) hx hb d_SH_rootOf_27 hl (k := 2) rfl rfl (by decide) rfl (fun ls hl => ?_)
        refine lv_goto (tgt := 2) hx hb d_SH_rootOf_30 (by decide) ?_
        exact ih x1 (x2 + (1 : Int32)) _ _ _ hok hres hP hD hS (lv_sub hl [1, 2, 0] rfl)
      · have hres := it_t c_17 hres
        have hok := hok.1 c_17
        refine lv_aload_n hx hb d_SH_rootOf_20 rfl (lv_at hl 0 rfl) ?_
        refine va_get (D := G.1) (ci := 4) (C := R_SH) (T := F_SH) (N := 3) hx hb ht in_SH hown hK hP 9 rfl rfl 1 (by decide) (ht _ kf_SH_17) (fun _ h9 => h9) rfl d_SH_rootOf_21 ?_
        refine lv_iload_n hx hb d_SH_rootOf_24 rfl (lv_at hl 2 rfl) ?_
        have hi_25 := hok
        refine va_iald hx hb hK hP 11 0 rfl rfl hi_25 d_SH_rootOf_25 ?_
        exact en_i (w1 := (fun _ : Unit => (cC G ad nb nt cfa cle cwr csl cst cen cby cto csh cdz cch cva css cve cro crc cma cbi ces cbl crt))) () hx hb hr hlocks hK hP hD hS hres d_SH_rootOf_26
def f_SH_rootOf (p0 : Int32) (css : Int32) (cve : (Nat → Int32)) (cro : (Nat → Int32)) : Int32 × Unit := f_SH_rootOf_2 1024 p0 (0 : Int32) css cve cro
def ok_SH_rootOf (nb : Nat) (nt : Nat) (p0 : Int32) (css : Int32) (cve : (Nat → Int32)) (cro : (Nat → Int32)) : Prop := ok_SH_rootOf_2 nb nt  1024 p0 (0 : Int32) css cve cro
set_option maxHeartbeats 4000000 in
set_option maxRecDepth 100000 in
theorem c_SH_rootOf {l : Launch} {G : GG} {ad : Nat → Nat} {nb : Nat} {nt : Nat} {sz : Nat} {cfa : Int32} {cle : Int32} {cwr : Int32} {csl : Int32} {cst : Int32} {cen : Int32} {cby : (Nat → Int32)} {cto : (Nat → Int32)} {csh : (Nat → Int32)} {cdz : Int32} {cch : (Nat → Int32)} {cva : (Nat → Int32)} {css : Int32} {cve : (Nat → Int32)} {cro : (Nat → Int32)} {crc : Int32} {cma : (Nat → Int32)} {cbi : (Nat → Int32)} {ces : (Nat → Int32)} {cbl : (Nat → Int32)} {crt : (Nat → Int32)} {p0 : Int32} (hok : ok_SH_rootOf nb nt p0 css cve cro) : CtI l y_SH_rootOf b_SH_rootOf 3 (some .int) rm_SH_rootOf G (cC G ad nb nt cfa cle cwr csl cst cen cby cto csh cdz cch cva css cve cro crc cma cbi ces cbl crt) sz [.ref (ad 9), .int p0] (eqP (f_SH_rootOf p0 css cve cro)) (fun _ : Unit => (cC G ad nb nt cfa cle cwr csl cst cen cby cto csh cdz cch cva css cve cro crc cma cbi ces cbl crt)) := by
  generalize hres : f_SH_rootOf p0 css cve cro = res
  refine Met_of (Qc := fun A => va_Qi (eqP res) (Wb G A (fun _ : Unit => (cC G ad nb nt cfa cle cwr csl cst cen cby cto csh cdz cch cva css cve cro crc cma cbi ces cbl crt))) A) (by decide) (Nat.le_of_ble_eq_true rfl) ?_
  intro p e s m below meth c hadm hx hb hr hml hown hlocks ht hK A hA hP hD hS ls hl
  have hC : Cx p l e s m (([.ref (ad 9), .int p0] : List Value)).toArray meth c y_SH_rootOf b_SH_rootOf 3 (some .int) "BookTrees$Shelf" G A := ⟨hx, hb, hr, hml, hown, hlocks, ht, hK, hA⟩
  have hown : s.vm.findClass "BookTrees$Shelf" = some m.cls := hown
  have hl : lv_has ls 3 [(0, .ref (ad 9)), (1, .int p0)] := hl
  rw [f_SH_rootOf] at hres
  rw [ok_SH_rootOf] at hok
  refine lv_iconst (v := (0 : Int32)) hx hb d_SH_rootOf_0 (by decide) ?_
  refine lv_istore_n (lv' := [(2, .int (0 : Int32)), (0, .ref (ad 9)), (1, .int p0)]) hx hb d_SH_rootOf_1 rfl hl (by decide) rfl (fun ls hl => ?_)
  exact w_SH_rootOf_2 hC 1024 p0 (0 : Int32) _ _ _ hok hres hP hD hS (lv_sub hl [1, 2, 0] rfl)
/-! ===== BookTrees.isKept(I)Z ===== -/
abbrev rm_BT_isKept : Room := { frames := 1, cells := 0, slots := 0, locals := 22 }
def f_BT_isKept (p0 : Int32) (cst : Int32) (css : Int32) (cve : (Nat → Int32)) (cro : (Nat → Int32)) : Int32 × Unit := if p0 = 0 then bindc (f_RL_start cst) (fun z_8 => if z_8.1 = 0 then ((1 : Int32), ()) else ((0 : Int32), ())) else bindc (f_SH_rootOf p0 css cve cro) (fun z_27 => if z_27.1 = (-1 : Int32) then ((0 : Int32), ()) else ((1 : Int32), ()))
def ok_BT_isKept (nb : Nat) (nt : Nat) (p0 : Int32) (cst : Int32) (css : Int32) (cve : (Nat → Int32)) (cro : (Nat → Int32)) : Prop := (p0 = 0 → True) ∧ (¬ p0 = 0 → ok_SH_rootOf nb nt p0 css cve cro)
set_option maxHeartbeats 4000000 in
set_option maxRecDepth 100000 in
theorem c_BT_isKept {l : Launch} {G : GG} {ad : Nat → Nat} {nb : Nat} {nt : Nat} {sz : Nat} {cfa : Int32} {cle : Int32} {cwr : Int32} {csl : Int32} {cst : Int32} {cen : Int32} {cby : (Nat → Int32)} {cto : (Nat → Int32)} {csh : (Nat → Int32)} {cdz : Int32} {cch : (Nat → Int32)} {cva : (Nat → Int32)} {css : Int32} {cve : (Nat → Int32)} {cro : (Nat → Int32)} {crc : Int32} {cma : (Nat → Int32)} {cbi : (Nat → Int32)} {ces : (Nat → Int32)} {cbl : (Nat → Int32)} {crt : (Nat → Int32)} {p0 : Int32} (hok : ok_BT_isKept nb nt p0 cst css cve cro) : CtI l y_BT_isKept b_BT_isKept 2 (some .boolean) rm_BT_isKept G (cC G ad nb nt cfa cle cwr csl cst cen cby cto csh cdz cch cva css cve cro crc cma cbi ces cbl crt) sz [.ref (ad 0), .int p0] (eqP (f_BT_isKept p0 cst css cve cro)) (fun _ : Unit => (cC G ad nb nt cfa cle cwr csl cst cen cby cto csh cdz cch cva css cve cro crc cma cbi ces cbl crt)) := by
  generalize hres : f_BT_isKept p0 cst css cve cro = res
  refine Met_of (Qc := fun A => va_Qi (eqP res) (Wb G A (fun _ : Unit => (cC G ad nb nt cfa cle cwr csl cst cen cby cto csh cdz cch cva css cve cro crc cma cbi ces cbl crt))) A) (by decide) (Nat.le_of_ble_eq_true rfl) ?_
  intro p e s m below meth c hadm hx hb hr hml hown hlocks ht hK A hA hP hD hS ls hl
  have hC : Cx p l e s m (([.ref (ad 0), .int p0] : List Value)).toArray meth c y_BT_isKept b_BT_isKept 2 (some .boolean) "BookTrees" G A := ⟨hx, hb, hr, hml, hown, hlocks, ht, hK, hA⟩
  have hown : s.vm.findClass "BookTrees" = some m.cls := hown
  have hl : lv_has ls 2 [(0, .ref (ad 0)), (1, .int p0)] := hl
  rw [f_BT_isKept] at hres
  rw [ok_BT_isKept] at hok
  refine lv_iload_n hx hb d_BT_isKept_0 rfl (lv_at hl 1 rfl) ?_
  refine lv_if_ne (tgt := 22) hx hb d_BT_isKept_1 (by decide) (fun c_1 => ?_) (fun c_1 => ?_)
  · have hres := it_f c_1 hres
    have hok := hok.2 c_1
    refine lv_aload_n hx hb d_BT_isKept_22 rfl (lv_at hl 0 rfl) ?_
    refine va_get (D := G.1) (ci := 0) (C := R_BT) (T := F_BT) (N := 5) hx hb ht in_BT hown hK hP 0 rfl rfl 3 (by decide) (ht _ kf_BT_35) (fun _ h9 => h9) rfl d_BT_isKept_23 ?_
    refine lv_iload_n hx hb d_BT_isKept_26 rfl (lv_at hl 1 rfl) ?_
    have hk_27 := hok
    refine go_iz (run_V hx hb hml hown ht hK hP hD (c_SH_rootOf hk_27) (cw_V ht km_BT_116 ki_SH_rootOf ks_SH_rootOf ini_SH kd_SH_rootOf kh_SH_rootOf ⟨Nat.le_of_ble_eq_true rfl, Nat.le_of_ble_eq_true rfl⟩ rfl rfl) (q0 := 9) (ci := 4) (As := [.int p0]) (rest := []) rfl rfl rfl hl.1 rfl (Nat.le_of_ble_eq_true rfl) d_BT_isKept_27 ⟨Nat.zero_le _, Nat.zero_le _⟩) hD hS hA (fun z_27 H locs hz_27 hP hD hS => ?_)
    have hres := bindc_eq hz_27 hres
    have hP : va_P G.1 classes (cC G ad nb nt cfa cle cwr csl cst cen cby cto csh cdz cch cva css cve cro crc cma cbi ces cbl crt) H := hP
    have hD : va_D A (cC G ad nb nt cfa cle cwr csl cst cen cby cto csh cdz cch cva css cve cro crc cma cbi ces cbl crt) := hD
    refine lv_iconst (v := (-1 : Int32)) hx hb d_BT_isKept_30 (by decide) ?_
    refine lv_icmp_eq (tgt := 38) hx hb d_BT_isKept_31 (by decide) (fun c_31 => ?_) (fun c_31 => ?_)
    · have hres := it_t c_31 hres
      refine lv_iconst (v := (0 : Int32)) hx hb d_BT_isKept_38 (by decide) ?_
      exact en_z (w1 := (fun _ : Unit => (cC G ad nb nt cfa cle cwr csl cst cen cby cto csh cdz cch cva css cve cro crc cma cbi ces cbl crt))) () hx hb hr hlocks hK hP hD hS hres isB_0 d_BT_isKept_39
    · have hres := it_f c_31 hres
      refine lv_iconst (v := (1 : Int32)) hx hb d_BT_isKept_34 (by decide) ?_
      refine lv_goto (tgt := 39) hx hb d_BT_isKept_35 (by decide) ?_
      exact en_z (w1 := (fun _ : Unit => (cC G ad nb nt cfa cle cwr csl cst cen cby cto csh cdz cch cva css cve cro crc cma cbi ces cbl crt))) () hx hb hr hlocks hK hP hD hS hres isB_1 d_BT_isKept_39
  · have hres := it_t c_1 hres
    refine lv_aload_n hx hb d_BT_isKept_4 rfl (lv_at hl 0 rfl) ?_
    refine va_get (D := G.1) (ci := 0) (C := R_BT) (T := F_BT) (N := 5) hx hb ht in_BT hown hK hP 0 rfl rfl 1 (by decide) (ht _ kf_BT_21) (fun _ h9 => h9) rfl d_BT_isKept_5 ?_
    refine go_iz (run_V hx hb hml hown ht hK hP hD (c_RL_start) (cw_V ht km_BT_183 ki_RL_start ks_RL_start ini_RL kd_RL_start kh_RL_start ⟨Nat.le_of_ble_eq_true rfl, Nat.le_of_ble_eq_true rfl⟩ rfl rfl) (q0 := 2) (ci := 2) (As := []) (rest := []) rfl rfl rfl hl.1 rfl (Nat.le_of_ble_eq_true rfl) d_BT_isKept_8 ⟨Nat.zero_le _, Nat.zero_le _⟩) hD hS hA (fun z_8 H locs hz_8 hP hD hS => ?_)
    have hres := bindc_eq hz_8 hres
    have hP : va_P G.1 classes (cC G ad nb nt cfa cle cwr csl cst cen cby cto csh cdz cch cva css cve cro crc cma cbi ces cbl crt) H := hP
    have hD : va_D A (cC G ad nb nt cfa cle cwr csl cst cen cby cto csh cdz cch cva css cve cro crc cma cbi ces cbl crt) := hD
    refine lv_if_ne (tgt := 18) hx hb d_BT_isKept_11 (by decide) (fun c_11 => ?_) (fun c_11 => ?_)
    · have hres := it_f c_11 hres
      refine lv_iconst (v := (0 : Int32)) hx hb d_BT_isKept_18 (by decide) ?_
      refine lv_goto (tgt := 39) hx hb d_BT_isKept_19 (by decide) ?_
      exact en_z (w1 := (fun _ : Unit => (cC G ad nb nt cfa cle cwr csl cst cen cby cto csh cdz cch cva css cve cro crc cma cbi ces cbl crt))) () hx hb hr hlocks hK hP hD hS hres isB_0 d_BT_isKept_39
    · have hres := it_t c_11 hres
      refine lv_iconst (v := (1 : Int32)) hx hb d_BT_isKept_14 (by decide) ?_
      refine lv_goto (tgt := 39) hx hb d_BT_isKept_15 (by decide) ?_
      exact en_z (w1 := (fun _ : Unit => (cC G ad nb nt cfa cle cwr csl cst cen cby cto csh cdz cch cva css cve cro crc cma cbi ces cbl crt))) () hx hb hr hlocks hK hP hD hS hres isB_1 d_BT_isKept_39
/-! ===== BookTrees.find(II)J ===== -/
abbrev rm_BT_find : Room := { frames := 7, cells := 0, slots := 0, locals := 164 }
def f_BT_find (p0 : Int32) (p1 : Int32) (cfa : Int32) (csl : Int32) (cst : Int32) (cen : Int32) (cby : (Nat → Int32)) (cto : (Nat → Int32)) (css : Int32) (cve : (Nat → Int32)) (cro : (Nat → Int32)) : Int64 × Unit := bindc (f_BT_isKept p0 cst css cve cro) (fun z_3 => if z_3.1 = 0 then bindc (f_BT_requireArgument (0 : Int32)) (fun z_22 => bindc (f_BT_requirePower cfa) (fun z_26 => bindc (f_SH_rootOf p0 css cve cro) (fun z_35 => bindc (f_BT_rowOf z_35.1 p1 csl cst cen cby cto) (fun z_39 => (z_39.1, ()))))) else bindc (f_BT_isKey p1) (fun z_11 => if z_11.1 = 0 then bindc (f_BT_requireArgument (0 : Int32)) (fun z_22 => bindc (f_BT_requirePower cfa) (fun z_26 => bindc (f_SH_rootOf p0 css cve cro) (fun z_35 => bindc (f_BT_rowOf z_35.1 p1 csl cst cen cby cto) (fun z_39 => (z_39.1, ()))))) else bindc (f_BT_requireArgument (1 : Int32)) (fun z_22 => bindc (f_BT_requirePower cfa) (fun z_26 => bindc (f_SH_rootOf p0 css cve cro) (fun z_35 => bindc (f_BT_rowOf z_35.1 p1 csl cst cen cby cto) (fun z_39 => (z_39.1, ())))))))
def ok_BT_find (nb : Nat) (nt : Nat) (p0 : Int32) (p1 : Int32) (cfa : Int32) (csl : Int32) (cst : Int32) (cen : Int32) (cby : (Nat → Int32)) (cto : (Nat → Int32)) (css : Int32) (cve : (Nat → Int32)) (cro : (Nat → Int32)) : Prop := ok_BT_isKept nb nt p0 cst css cve cro ∧ bindp (f_BT_isKept p0 cst css cve cro) (fun z_3 => (z_3.1 = 0 → ok_BT_requireArgument nb nt (0 : Int32) ∧ bindp (f_BT_requireArgument (0 : Int32)) (fun z_22 => ok_BT_requirePower nb nt cfa ∧ bindp (f_BT_requirePower cfa) (fun z_26 => ok_SH_rootOf nb nt p0 css cve cro ∧ bindp (f_SH_rootOf p0 css cve cro) (fun z_35 => ok_BT_rowOf nb nt z_35.1 p1 csl cst cen cby cto)))) ∧ (¬ z_3.1 = 0 → bindp (f_BT_isKey p1) (fun z_11 => (z_11.1 = 0 → ok_BT_requireArgument nb nt (0 : Int32) ∧ bindp (f_BT_requireArgument (0 : Int32)) (fun z_22 => ok_BT_requirePower nb nt cfa ∧ bindp (f_BT_requirePower cfa) (fun z_26 => ok_SH_rootOf nb nt p0 css cve cro ∧ bindp (f_SH_rootOf p0 css cve cro) (fun z_35 => ok_BT_rowOf nb nt z_35.1 p1 csl cst cen cby cto)))) ∧ (¬ z_11.1 = 0 → ok_BT_requireArgument nb nt (1 : Int32) ∧ bindp (f_BT_requireArgument (1 : Int32)) (fun z_22 => ok_BT_requirePower nb nt cfa ∧ bindp (f_BT_requirePower cfa) (fun z_26 => ok_SH_rootOf nb nt p0 css cve cro ∧ bindp (f_SH_rootOf p0 css cve cro) (fun z_35 => ok_BT_rowOf nb nt z_35.1 p1 csl cst cen cby cto)))))))
set_option maxHeartbeats 4000000 in
set_option maxRecDepth 100000 in
theorem c_BT_find {l : Launch} {G : GG} {ad : Nat → Nat} {nb : Nat} {nt : Nat} {sz : Nat} {cfa : Int32} {cle : Int32} {cwr : Int32} {csl : Int32} {cst : Int32} {cen : Int32} {cby : (Nat → Int32)} {cto : (Nat → Int32)} {csh : (Nat → Int32)} {cdz : Int32} {cch : (Nat → Int32)} {cva : (Nat → Int32)} {css : Int32} {cve : (Nat → Int32)} {cro : (Nat → Int32)} {crc : Int32} {cma : (Nat → Int32)} {cbi : (Nat → Int32)} {ces : (Nat → Int32)} {cbl : (Nat → Int32)} {crt : (Nat → Int32)} {p0 : Int32} {p1 : Int32} (hok : ok_BT_find nb nt p0 p1 cfa csl cst cen cby cto css cve cro) : CtL l y_BT_find b_BT_find 3 (some .long) rm_BT_find G (cC G ad nb nt cfa cle cwr csl cst cen cby cto csh cdz cch cva css cve cro crc cma cbi ces cbl crt) sz [.ref (ad 0), .int p0, .int p1] (eqP (f_BT_find p0 p1 cfa csl cst cen cby cto css cve cro)) (fun _ : Unit => (cC G ad nb nt cfa cle cwr csl cst cen cby cto csh cdz cch cva css cve cro crc cma cbi ces cbl crt)) := by
  generalize hres : f_BT_find p0 p1 cfa csl cst cen cby cto css cve cro = res
  refine Met_of (Qc := fun A => va_Ql (eqP res) (Wb G A (fun _ : Unit => (cC G ad nb nt cfa cle cwr csl cst cen cby cto csh cdz cch cva css cve cro crc cma cbi ces cbl crt))) A) (by decide) (Nat.le_of_ble_eq_true rfl) ?_
  intro p e s m below meth c hadm hx hb hr hml hown hlocks ht hK A hA hP hD hS ls hl
  have hC : Cx p l e s m (([.ref (ad 0), .int p0, .int p1] : List Value)).toArray meth c y_BT_find b_BT_find 3 (some .long) "BookTrees" G A := ⟨hx, hb, hr, hml, hown, hlocks, ht, hK, hA⟩
  have hown : s.vm.findClass "BookTrees" = some m.cls := hown
  have hl : lv_has ls 3 [(0, .ref (ad 0)), (1, .int p0), (2, .int p1)] := hl
  rw [f_BT_find] at hres
  rw [ok_BT_find] at hok
  refine lv_aload_n hx hb d_BT_find_0 rfl (lv_at hl 0 rfl) ?_
  refine lv_aload_n hx hb d_BT_find_1 rfl (lv_at hl 0 rfl) ?_
  refine lv_iload_n hx hb d_BT_find_2 rfl (lv_at hl 1 rfl) ?_
  obtain ⟨hk_3, hok⟩ := hok
  refine go_iz (run_V hx hb hml hown ht hK hP hD (c_BT_isKept hk_3) (cw_V ht km_BT_113 ki_BT_isKept ks_BT_isKept ini_BT kd_BT_isKept kh_BT_isKept ⟨Nat.le_of_ble_eq_true rfl, Nat.le_of_ble_eq_true rfl⟩ rfl rfl) (q0 := 0) (ci := 0) (As := [.int p0]) (rest := [.ref (ad 0)]) rfl rfl rfl hl.1 rfl (Nat.le_of_ble_eq_true rfl) d_BT_find_3 ⟨Nat.zero_le _, Nat.zero_le _⟩) hD hS hA (fun z_3 H locs hz_3 hP hD hS => ?_)
  have hres := bindc_eq hz_3 hres
  have hok := bindp_eq hz_3 hok
  have hP : va_P G.1 classes (cC G ad nb nt cfa cle cwr csl cst cen cby cto csh cdz cch cva css cve cro crc cma cbi ces cbl crt) H := hP
  have hD : va_D A (cC G ad nb nt cfa cle cwr csl cst cen cby cto csh cdz cch cva css cve cro crc cma cbi ces cbl crt) := hD
  refine lv_if_eq (tgt := 21) hx hb d_BT_find_6 (by decide) (fun c_6 => ?_) (fun c_6 => ?_)
  · have hres := it_t c_6 hres
    have hok := hok.1 c_6
    refine lv_iconst (v := (0 : Int32)) hx hb d_BT_find_21 (by decide) ?_
    obtain ⟨hk_22, hok⟩ := hok
    refine go_vz (run_V hx hb hml hown ht hK hP hD (c_BT_requireArgument hk_22) (cw_V ht km_BT_50 ki_BT_requireArgument ks_BT_requireArgument ini_BT kd_BT_requireArgument kh_BT_requireArgument ⟨Nat.le_of_ble_eq_true rfl, Nat.le_of_ble_eq_true rfl⟩ rfl rfl) (q0 := 0) (ci := 0) (As := [.int (0 : Int32)]) (rest := []) rfl rfl rfl hl.1 rfl (Nat.le_of_ble_eq_true rfl) d_BT_find_22 ⟨Nat.zero_le _, Nat.zero_le _⟩) hD hS hA (fun z_22 H locs hz_22 hP hD hS => ?_)
    have hres := bindc_eq hz_22 hres
    have hok := bindp_eq hz_22 hok
    have hP : va_P G.1 classes (cC G ad nb nt cfa cle cwr csl cst cen cby cto csh cdz cch cva css cve cro crc cma cbi ces cbl crt) H := hP
    have hD : va_D A (cC G ad nb nt cfa cle cwr csl cst cen cby cto csh cdz cch cva css cve cro crc cma cbi ces cbl crt) := hD
    refine lv_aload_n hx hb d_BT_find_25 rfl (lv_at hl 0 rfl) ?_
    obtain ⟨hk_26, hok⟩ := hok
    refine go_vz (run_V hx hb hml hown ht hK hP hD (c_BT_requirePower hk_26) (cw_V ht km_BT_54 ki_BT_requirePower ks_BT_requirePower ini_BT kd_BT_requirePower kh_BT_requirePower ⟨Nat.le_of_ble_eq_true rfl, Nat.le_of_ble_eq_true rfl⟩ rfl rfl) (q0 := 0) (ci := 0) (As := []) (rest := []) rfl rfl rfl hl.1 rfl (Nat.le_of_ble_eq_true rfl) d_BT_find_26 ⟨Nat.zero_le _, Nat.zero_le _⟩) hD hS hA (fun z_26 H locs hz_26 hP hD hS => ?_)
    have hres := bindc_eq hz_26 hres
    have hok := bindp_eq hz_26 hok
    have hP : va_P G.1 classes (cC G ad nb nt cfa cle cwr csl cst cen cby cto csh cdz cch cva css cve cro crc cma cbi ces cbl crt) H := hP
    have hD : va_D A (cC G ad nb nt cfa cle cwr csl cst cen cby cto csh cdz cch cva css cve cro crc cma cbi ces cbl crt) := hD
    refine lv_aload_n hx hb d_BT_find_29 rfl (lv_at hl 0 rfl) ?_
    refine lv_aload_n hx hb d_BT_find_30 rfl (lv_at hl 0 rfl) ?_
    refine va_get (D := G.1) (ci := 0) (C := R_BT) (T := F_BT) (N := 5) hx hb ht in_BT hown hK hP 0 rfl rfl 3 (by decide) (ht _ kf_BT_35) (fun _ h9 => h9) rfl d_BT_find_31 ?_
    refine lv_iload_n hx hb d_BT_find_34 rfl (lv_at hl 1 rfl) ?_
    obtain ⟨hk_35, hok⟩ := hok
    refine go_iz (run_V hx hb hml hown ht hK hP hD (c_SH_rootOf hk_35) (cw_V ht km_BT_116 ki_SH_rootOf ks_SH_rootOf ini_SH kd_SH_rootOf kh_SH_rootOf ⟨Nat.le_of_ble_eq_true rfl, Nat.le_of_ble_eq_true rfl⟩ rfl rfl) (q0 := 9) (ci := 4) (As := [.int p0]) (rest := [.ref (ad 0)]) rfl rfl rfl hl.1 rfl (Nat.le_of_ble_eq_true rfl) d_BT_find_35 ⟨Nat.zero_le _, Nat.zero_le _⟩) hD hS hA (fun z_35 H locs hz_35 hP hD hS => ?_)
    have hres := bindc_eq hz_35 hres
    have hok := bindp_eq hz_35 hok
    have hP : va_P G.1 classes (cC G ad nb nt cfa cle cwr csl cst cen cby cto csh cdz cch cva css cve cro crc cma cbi ces cbl crt) H := hP
    have hD : va_D A (cC G ad nb nt cfa cle cwr csl cst cen cby cto csh cdz cch cva css cve cro crc cma cbi ces cbl crt) := hD
    refine lv_iload_n hx hb d_BT_find_38 rfl (lv_at hl 2 rfl) ?_
    have hk_39 := hok
    refine go_lz (run_V hx hb hml hown ht hK hP hD (c_BT_rowOf hk_39) (cw_V ht km_BT_87 ki_BT_rowOf ks_BT_rowOf ini_BT kd_BT_rowOf kh_BT_rowOf ⟨Nat.le_of_ble_eq_true rfl, Nat.le_of_ble_eq_true rfl⟩ rfl rfl) (q0 := 0) (ci := 0) (As := [.int z_35.1, .int p1]) (rest := []) rfl rfl rfl hl.1 rfl (Nat.le_of_ble_eq_true rfl) d_BT_find_39 ⟨Nat.zero_le _, Nat.zero_le _⟩) hD hS hA (fun z_39 H locs hz_39 hP hD hS => ?_)
    have hres := bindc_eq hz_39 hres
    have hP : va_P G.1 classes (cC G ad nb nt cfa cle cwr csl cst cen cby cto csh cdz cch cva css cve cro crc cma cbi ces cbl crt) H := hP
    have hD : va_D A (cC G ad nb nt cfa cle cwr csl cst cen cby cto csh cdz cch cva css cve cro crc cma cbi ces cbl crt) := hD
    exact en_l (w1 := (fun _ : Unit => (cC G ad nb nt cfa cle cwr csl cst cen cby cto csh cdz cch cva css cve cro crc cma cbi ces cbl crt))) () hx hb hr hlocks hK hP hD hS hres d_BT_find_42
  · have hres := it_f c_6 hres
    have hok := hok.2 c_6
    refine lv_aload_n hx hb d_BT_find_9 rfl (lv_at hl 0 rfl) ?_
    refine lv_iload_n hx hb d_BT_find_10 rfl (lv_at hl 2 rfl) ?_
    refine go_iz (run_V hx hb hml hown ht hK hP hD (c_BT_isKey) (cw_V ht km_BT_46 ki_BT_isKey ks_BT_isKey ini_BT kd_BT_isKey kh_BT_isKey ⟨Nat.le_of_ble_eq_true rfl, Nat.le_of_ble_eq_true rfl⟩ rfl rfl) (q0 := 0) (ci := 0) (As := [.int p1]) (rest := [.ref (ad 0)]) rfl rfl rfl hl.1 rfl (Nat.le_of_ble_eq_true rfl) d_BT_find_11 ⟨Nat.zero_le _, Nat.zero_le _⟩) hD hS hA (fun z_11 H locs hz_11 hP hD hS => ?_)
    have hres := bindc_eq hz_11 hres
    have hok := bindp_eq hz_11 hok
    have hP : va_P G.1 classes (cC G ad nb nt cfa cle cwr csl cst cen cby cto csh cdz cch cva css cve cro crc cma cbi ces cbl crt) H := hP
    have hD : va_D A (cC G ad nb nt cfa cle cwr csl cst cen cby cto csh cdz cch cva css cve cro crc cma cbi ces cbl crt) := hD
    refine lv_if_eq (tgt := 21) hx hb d_BT_find_14 (by decide) (fun c_14 => ?_) (fun c_14 => ?_)
    · have hres := it_t c_14 hres
      have hok := hok.1 c_14
      refine lv_iconst (v := (0 : Int32)) hx hb d_BT_find_21 (by decide) ?_
      obtain ⟨hk_22, hok⟩ := hok
      refine go_vz (run_V hx hb hml hown ht hK hP hD (c_BT_requireArgument hk_22) (cw_V ht km_BT_50 ki_BT_requireArgument ks_BT_requireArgument ini_BT kd_BT_requireArgument kh_BT_requireArgument ⟨Nat.le_of_ble_eq_true rfl, Nat.le_of_ble_eq_true rfl⟩ rfl rfl) (q0 := 0) (ci := 0) (As := [.int (0 : Int32)]) (rest := []) rfl rfl rfl hl.1 rfl (Nat.le_of_ble_eq_true rfl) d_BT_find_22 ⟨Nat.zero_le _, Nat.zero_le _⟩) hD hS hA (fun z_22 H locs hz_22 hP hD hS => ?_)
      have hres := bindc_eq hz_22 hres
      have hok := bindp_eq hz_22 hok
      have hP : va_P G.1 classes (cC G ad nb nt cfa cle cwr csl cst cen cby cto csh cdz cch cva css cve cro crc cma cbi ces cbl crt) H := hP
      have hD : va_D A (cC G ad nb nt cfa cle cwr csl cst cen cby cto csh cdz cch cva css cve cro crc cma cbi ces cbl crt) := hD
      refine lv_aload_n hx hb d_BT_find_25 rfl (lv_at hl 0 rfl) ?_
      obtain ⟨hk_26, hok⟩ := hok
      refine go_vz (run_V hx hb hml hown ht hK hP hD (c_BT_requirePower hk_26) (cw_V ht km_BT_54 ki_BT_requirePower ks_BT_requirePower ini_BT kd_BT_requirePower kh_BT_requirePower ⟨Nat.le_of_ble_eq_true rfl, Nat.le_of_ble_eq_true rfl⟩ rfl rfl) (q0 := 0) (ci := 0) (As := []) (rest := []) rfl rfl rfl hl.1 rfl (Nat.le_of_ble_eq_true rfl) d_BT_find_26 ⟨Nat.zero_le _, Nat.zero_le _⟩) hD hS hA (fun z_26 H locs hz_26 hP hD hS => ?_)
      have hres := bindc_eq hz_26 hres
      have hok := bindp_eq hz_26 hok
      have hP : va_P G.1 classes (cC G ad nb nt cfa cle cwr csl cst cen cby cto csh cdz cch cva css cve cro crc cma cbi ces cbl crt) H := hP
      have hD : va_D A (cC G ad nb nt cfa cle cwr csl cst cen cby cto csh cdz cch cva css cve cro crc cma cbi ces cbl crt) := hD
      refine lv_aload_n hx hb d_BT_find_29 rfl (lv_at hl 0 rfl) ?_
      refine lv_aload_n hx hb d_BT_find_30 rfl (lv_at hl 0 rfl) ?_
      refine va_get (D := G.1) (ci := 0) (C := R_BT) (T := F_BT) (N := 5) hx hb ht in_BT hown hK hP 0 rfl rfl 3 (by decide) (ht _ kf_BT_35) (fun _ h9 => h9) rfl d_BT_find_31 ?_
      refine lv_iload_n hx hb d_BT_find_34 rfl (lv_at hl 1 rfl) ?_
      obtain ⟨hk_35, hok⟩ := hok
      refine go_iz (run_V hx hb hml hown ht hK hP hD (c_SH_rootOf hk_35) (cw_V ht km_BT_116 ki_SH_rootOf ks_SH_rootOf ini_SH kd_SH_rootOf kh_SH_rootOf ⟨Nat.le_of_ble_eq_true rfl, Nat.le_of_ble_eq_true rfl⟩ rfl rfl) (q0 := 9) (ci := 4) (As := [.int p0]) (rest := [.ref (ad 0)]) rfl rfl rfl hl.1 rfl (Nat.le_of_ble_eq_true rfl) d_BT_find_35 ⟨Nat.zero_le _, Nat.zero_le _⟩) hD hS hA (fun z_35 H locs hz_35 hP hD hS => ?_)
      have hres := bindc_eq hz_35 hres
      have hok := bindp_eq hz_35 hok
      have hP : va_P G.1 classes (cC G ad nb nt cfa cle cwr csl cst cen cby cto csh cdz cch cva css cve cro crc cma cbi ces cbl crt) H := hP
      have hD : va_D A (cC G ad nb nt cfa cle cwr csl cst cen cby cto csh cdz cch cva css cve cro crc cma cbi ces cbl crt) := hD
      refine lv_iload_n hx hb d_BT_find_38 rfl (lv_at hl 2 rfl) ?_
      have hk_39 := hok
      refine go_lz (run_V hx hb hml hown ht hK hP hD (c_BT_rowOf hk_39) (cw_V ht km_BT_87 ki_BT_rowOf ks_BT_rowOf ini_BT kd_BT_rowOf kh_BT_rowOf ⟨Nat.le_of_ble_eq_true rfl, Nat.le_of_ble_eq_true rfl⟩ rfl rfl) (q0 := 0) (ci := 0) (As := [.int z_35.1, .int p1]) (rest := []) rfl rfl rfl hl.1 rfl (Nat.le_of_ble_eq_true rfl) d_BT_find_39 ⟨Nat.zero_le _, Nat.zero_le _⟩) hD hS hA (fun z_39 H locs hz_39 hP hD hS => ?_)
      have hres := bindc_eq hz_39 hres
      have hP : va_P G.1 classes (cC G ad nb nt cfa cle cwr csl cst cen cby cto csh cdz cch cva css cve cro crc cma cbi ces cbl crt) H := hP
      have hD : va_D A (cC G ad nb nt cfa cle cwr csl cst cen cby cto csh cdz cch cva css cve cro crc cma cbi ces cbl crt) := hD
      exact en_l (w1 := (fun _ : Unit => (cC G ad nb nt cfa cle cwr csl cst cen cby cto csh cdz cch cva css cve cro crc cma cbi ces cbl crt))) () hx hb hr hlocks hK hP hD hS hres d_BT_find_42
    · have hres := it_f c_14 hres
      have hok := hok.2 c_14
      refine lv_iconst (v := (1 : Int32)) hx hb d_BT_find_17 (by decide) ?_
      refine lv_goto (tgt := 22) hx hb d_BT_find_18 (by decide) ?_
      obtain ⟨hk_22, hok⟩ := hok
      refine go_vz (run_V hx hb hml hown ht hK hP hD (c_BT_requireArgument hk_22) (cw_V ht km_BT_50 ki_BT_requireArgument ks_BT_requireArgument ini_BT kd_BT_requireArgument kh_BT_requireArgument ⟨Nat.le_of_ble_eq_true rfl, Nat.le_of_ble_eq_true rfl⟩ rfl rfl) (q0 := 0) (ci := 0) (As := [.int (1 : Int32)]) (rest := []) rfl rfl rfl hl.1 rfl (Nat.le_of_ble_eq_true rfl) d_BT_find_22 ⟨Nat.zero_le _, Nat.zero_le _⟩) hD hS hA (fun z_22 H locs hz_22 hP hD hS => ?_)
      have hres := bindc_eq hz_22 hres
      have hok := bindp_eq hz_22 hok
      have hP : va_P G.1 classes (cC G ad nb nt cfa cle cwr csl cst cen cby cto csh cdz cch cva css cve cro crc cma cbi ces cbl crt) H := hP
      have hD : va_D A (cC G ad nb nt cfa cle cwr csl cst cen cby cto csh cdz cch cva css cve cro crc cma cbi ces cbl crt) := hD
      refine lv_aload_n hx hb d_BT_find_25 rfl (lv_at hl 0 rfl) ?_
      obtain ⟨hk_26, hok⟩ := hok
      refine go_vz (run_V hx hb hml hown ht hK hP hD (c_BT_requirePower hk_26) (cw_V ht km_BT_54 ki_BT_requirePower ks_BT_requirePower ini_BT kd_BT_requirePower kh_BT_requirePower ⟨Nat.le_of_ble_eq_true rfl, Nat.le_of_ble_eq_true rfl⟩ rfl rfl) (q0 := 0) (ci := 0) (As := []) (rest := []) rfl rfl rfl hl.1 rfl (Nat.le_of_ble_eq_true rfl) d_BT_find_26 ⟨Nat.zero_le _, Nat.zero_le _⟩) hD hS hA (fun z_26 H locs hz_26 hP hD hS => ?_)
      have hres := bindc_eq hz_26 hres
      have hok := bindp_eq hz_26 hok
      have hP : va_P G.1 classes (cC G ad nb nt cfa cle cwr csl cst cen cby cto csh cdz cch cva css cve cro crc cma cbi ces cbl crt) H := hP
      have hD : va_D A (cC G ad nb nt cfa cle cwr csl cst cen cby cto csh cdz cch cva css cve cro crc cma cbi ces cbl crt) := hD
      refine lv_aload_n hx hb d_BT_find_29 rfl (lv_at hl 0 rfl) ?_
      refine lv_aload_n hx hb d_BT_find_30 rfl (lv_at hl 0 rfl) ?_
      refine va_get (D := G.1) (ci := 0) (C := R_BT) (T := F_BT) (N := 5) hx hb ht in_BT hown hK hP 0 rfl rfl 3 (by decide) (ht _ kf_BT_35) (fun _ h9 => h9) rfl d_BT_find_31 ?_
      refine lv_iload_n hx hb d_BT_find_34 rfl (lv_at hl 1 rfl) ?_
      obtain ⟨hk_35, hok⟩ := hok
      refine go_iz (run_V hx hb hml hown ht hK hP hD (c_SH_rootOf hk_35) (cw_V ht km_BT_116 ki_SH_rootOf ks_SH_rootOf ini_SH kd_SH_rootOf kh_SH_rootOf ⟨Nat.le_of_ble_eq_true rfl, Nat.le_of_ble_eq_true rfl⟩ rfl rfl) (q0 := 9) (ci := 4) (As := [.int p0]) (rest := [.ref (ad 0)]) rfl rfl rfl hl.1 rfl (Nat.le_of_ble_eq_true rfl) d_BT_find_35 ⟨Nat.zero_le _, Nat.zero_le _⟩) hD hS hA (fun z_35 H locs hz_35 hP hD hS => ?_)
      have hres := bindc_eq hz_35 hres
      have hok := bindp_eq hz_35 hok
      have hP : va_P G.1 classes (cC G ad nb nt cfa cle cwr csl cst cen cby cto csh cdz cch cva css cve cro crc cma cbi ces cbl crt) H := hP
      have hD : va_D A (cC G ad nb nt cfa cle cwr csl cst cen cby cto csh cdz cch cva css cve cro crc cma cbi ces cbl crt) := hD
      refine lv_iload_n hx hb d_BT_find_38 rfl (lv_at hl 2 rfl) ?_
      have hk_39 := hok
      refine go_lz (run_V hx hb hml hown ht hK hP hD (c_BT_rowOf hk_39) (cw_V ht km_BT_87 ki_BT_rowOf ks_BT_rowOf ini_BT kd_BT_rowOf kh_BT_rowOf ⟨Nat.le_of_ble_eq_true rfl, Nat.le_of_ble_eq_true rfl⟩ rfl rfl) (q0 := 0) (ci := 0) (As := [.int z_35.1, .int p1]) (rest := []) rfl rfl rfl hl.1 rfl (Nat.le_of_ble_eq_true rfl) d_BT_find_39 ⟨Nat.zero_le _, Nat.zero_le _⟩) hD hS hA (fun z_39 H locs hz_39 hP hD hS => ?_)
      have hres := bindc_eq hz_39 hres
      have hP : va_P G.1 classes (cC G ad nb nt cfa cle cwr csl cst cen cby cto csh cdz cch cva css cve cro crc cma cbi ces cbl crt) H := hP
      have hD : va_D A (cC G ad nb nt cfa cle cwr csl cst cen cby cto csh cdz cch cva css cve cro crc cma cbi ces cbl crt) := hD
      exact en_l (w1 := (fun _ : Unit => (cC G ad nb nt cfa cle cwr csl cst cen cby cto csh cdz cch cva css cve cro crc cma cbi ces cbl crt))) () hx hb hr hlocks hK hP hD hS hres d_BT_find_42
