/-! ===== BookTrees$Roll.lowestBit(II)I ===== -/
abbrev rm_RL_lowestBit : Room := { frames := 4, cells := 0, slots := 0, locals := 87 }
def f_RL_lowestBit_2 : Nat → Int32 → Int32 → Int32 → (Nat → Int32) → Int32 × Unit
  | 0, x1, x3, csl, cby => (0, ())
  | n + 1, x1, x3, csl, cby => if (8 : Int32) ≤ x3 then ((-1 : Int32), ()) else bindc (f_RL_hasBit x1 x3 csl cby) (fun z_11 => if z_11.1 = 0 then f_RL_lowestBit_2 n x1 (x3 + (1 : Int32)) csl cby else (x3, ()))
def ok_RL_lowestBit_2 (nb : Nat) (nt : Nat) : Nat → Int32 → Int32 → Int32 → (Nat → Int32) → Prop
  | 0, _, _, _, _ => False
  | n + 1, x1, x3, csl, cby => ((8 : Int32) ≤ x3 → True) ∧ (¬ (8 : Int32) ≤ x3 → ok_RL_hasBit nb nt x1 x3 csl cby ∧ bindp (f_RL_hasBit x1 x3 csl cby) (fun z_11 => (z_11.1 = 0 → ok_RL_lowestBit_2 nb nt  n x1 (x3 + (1 : Int32)) csl cby) ∧ (¬ z_11.1 = 0 → True)))
set_option maxHeartbeats 4000000 in
set_option maxRecDepth 100000 in
theorem w_RL_lowestBit_2 {p : Program} {l : Launch} {e : Env} {s : State} {m : MethodId} {args : Array Value} {below : List Frame} {meth : Method} {c : Code} {A : Nat → Prop} {G : GG} {ad : Nat → Nat} {nb : Nat} {nt : Nat} {cfa : Int32} {cle : Int32} {cwr : Int32} {csl : Int32} {cst : Int32} {cen : Int32} {cby : (Nat → Int32)} {cto : (Nat → Int32)} {csh : (Nat → Int32)} {cdz : Int32} {cch : (Nat → Int32)} {cva : (Nat → Int32)} {css : Int32} {cve : (Nat → Int32)} {cro : (Nat → Int32)} {crc : Int32} {cma : (Nat → Int32)} {cbi : (Nat → Int32)} {ces : (Nat → Int32)} {cbl : (Nat → Int32)} {crt : (Nat → Int32)} {res : Int32 × Unit} (hC : Cx p l e s m args meth c y_RL_lowestBit b_RL_lowestBit 4 (some .int) "BookTrees$Roll" G A) : ∀ (n : Nat) (x1 : Int32) (x3 : Int32)  (H : Heap) (locs : List Loc) (ls : Array Slot), ok_RL_lowestBit_2 nb nt n x1 x3 csl cby → f_RL_lowestBit_2 n x1 x3 csl cby = res → va_P G.1 classes (cC G ad nb nt cfa cle cwr csl cst cen cby cto csh cdz cch cva css cve cro crc cma cbi ces cbl crt) H → va_D A (cC G ad nb nt cfa cle cwr csl cst cen cby cto csh cdz cch cva css cve cro crc cma cbi ces cbl crt) → va_S A s.heap H locs → lv_has ls 4 [(0, .ref (ad 2)), (1, .int x1), (3, .int x3)] → W p l e rm_RL_lowestBit s m args below meth c H locs 0 0 (MQ below (va_Qi (eqP res) (Wb G A (fun _ : Unit => (cC G ad nb nt cfa cle cwr csl cst cen cby cto csh cdz cch cva css cve cro crc cma cbi ces cbl crt))) A) args s 0 0 A) (F0 m 2 ls []) := by
  obtain ⟨hx, hb, hr, hml, hown, hlocks, ht, hK, hA⟩ := id hC
  intro n
  induction n with
  | zero => intro x1 x3 H locs ls hok; exact hok.elim
  | succ n ih =>
    intro x1 x3 H locs ls hok hres hP hD hS hl
    rw [f_RL_lowestBit_2] at hres
    rw [ok_RL_lowestBit_2] at hok
    refine lv_iload_n hx hb d_RL_lowestBit_2 rfl (lv_at hl 2 rfl) ?_
    refine lv_bipush (v := (8 : Int32)) hx hb d_RL_lowestBit_3 (by decide) ?_
    refine lv_icmp_ge (tgt := 25) hx hb d_RL_lowestBit_5 (by decide) (fun c_5 => ?_) (fun c_5 => ?_)
    · have hres := it_t c_5 hres
      refine lv_iconst (v := (-1 : Int32)) hx hb d_RL_lowestBit_25 (by decide) ?_
      exact en_i (w1 := (fun _ : Unit => (cC G ad nb nt cfa cle cwr csl cst cen cby cto csh cdz cch cva css cve cro crc cma cbi ces cbl crt))) () hx hb hr hlocks hK hP hD hS hres d_RL_lowestBit_26
    · have hres := it_f c_5 hres
      have hok := hok.2 c_5
      refine lv_aload_n hx hb d_RL_lowestBit_8 rfl (lv_at hl 0 rfl) ?_
      refine lv_iload_n hx hb d_RL_lowestBit_9 rfl (lv_at hl 1 rfl) ?_
      refine lv_iload_n hx hb d_RL_lowestBit_10 rfl (lv_at hl 2 rfl) ?_
      obtain ⟨hk_11, hok⟩ := hok
      refine go_iz (run_V hx hb hml hown ht hK hP hD (c_RL_hasBit hk_11) (cw_V ht km_RL_52 ki_RL_hasBit ks_RL_hasBit ini_RL kd_RL_hasBit kh_RL_hasBit ⟨Nat.le_of_ble_eq_true rfl, Nat.le_of_ble_eq_true rfl⟩ rfl rfl) (q0 := 2) (ci := 2) (As := [.int x1, .int x3]) (rest := []) rfl rfl rfl hl.1 rfl (Nat.le_of_ble_eq_true rfl) d_RL_lowestBit_11 ⟨Nat.zero_le _, Nat.zero_le _⟩) hD hS hA (fun z_11 H locs hz_11 hP hD hS => ?_)
      have hres := bindc_eq hz_11 hres
      have hok := bindp_eq hz_11 hok
      have hP : va_P G.1 classes (cC G ad nb nt cfa cle cwr csl cst cen cby cto csh cdz cch cva css cve cro crc cma cbi ces cbl crt) H := hP
      have hD : va_D A (cC G ad nb nt cfa cle cwr csl cst cen cby cto csh cdz cch cva css cve cro crc cma cbi ces cbl crt) := hD
      refine lv_if_eq (tgt := 19) hx hb d_RL_lowestBit_14 (by decide) (fun c_14 => ?_) (fun c_14 => ?_)
      · have hres := it_t c_14 hres
        have hok := hok.1 c_14
        refine lv_iinc (v := x3 + (1 : Int32)) (lv' := [(3, .int (x3 + (1 : Int32))), (0, .ref (ad 2)), (1, .int x1)]) hx hb d_RL_lowestBit_19 hl (k := 2) rfl rfl (by decide) rfl (fun ls hl => ?_)
        refine lv_goto (tgt := 2) hx hb d_RL_lowestBit_22 (by decide) ?_
        exact ih x1 (x3 + (1 : Int32)) _ _ _ hok hres hP hD hS (lv_sub hl [1, 2, 0] rfl)
      · have hres := it_f c_14 hres
        refine lv_iload_n hx hb d_RL_lowestBit_17 rfl (lv_at hl 2 rfl) ?_
        exact en_i (w1 := (fun _ : Unit => (cC G ad nb nt cfa cle cwr csl cst cen cby cto csh cdz cch cva css cve cro crc cma cbi ces cbl crt))) () hx hb hr hlocks hK hP hD hS hres d_RL_lowestBit_18
def f_RL_lowestBit (p0 : Int32) (p1 : Int32) (csl : Int32) (cby : (Nat → Int32)) : Int32 × Unit := f_RL_lowestBit_2 1024 p0 p1 csl cby
def ok_RL_lowestBit (nb : Nat) (nt : Nat) (p0 : Int32) (p1 : Int32) (csl : Int32) (cby : (Nat → Int32)) : Prop := ok_RL_lowestBit_2 nb nt  1024 p0 p1 csl cby
set_option maxHeartbeats 4000000 in
set_option maxRecDepth 100000 in
theorem c_RL_lowestBit {l : Launch} {G : GG} {ad : Nat → Nat} {nb : Nat} {nt : Nat} {sz : Nat} {cfa : Int32} {cle : Int32} {cwr : Int32} {csl : Int32} {cst : Int32} {cen : Int32} {cby : (Nat → Int32)} {cto : (Nat → Int32)} {csh : (Nat → Int32)} {cdz : Int32} {cch : (Nat → Int32)} {cva : (Nat → Int32)} {css : Int32} {cve : (Nat → Int32)} {cro : (Nat → Int32)} {crc : Int32} {cma : (Nat → Int32)} {cbi : (Nat → Int32)} {ces : (Nat → Int32)} {cbl : (Nat → Int32)} {crt : (Nat → Int32)} {p0 : Int32} {p1 : Int32} (hok : ok_RL_lowestBit nb nt p0 p1 csl cby) : CtI l y_RL_lowestBit b_RL_lowestBit 4 (some .int) rm_RL_lowestBit G (cC G ad nb nt cfa cle cwr csl cst cen cby cto csh cdz cch cva css cve cro crc cma cbi ces cbl crt) sz [.ref (ad 2), .int p0, .int p1] (eqP (f_RL_lowestBit p0 p1 csl cby)) (fun _ : Unit => (cC G ad nb nt cfa cle cwr csl cst cen cby cto csh cdz cch cva css cve cro crc cma cbi ces cbl crt)) := by
  generalize hres : f_RL_lowestBit p0 p1 csl cby = res
  refine Met_of (Qc := fun A => va_Qi (eqP res) (Wb G A (fun _ : Unit => (cC G ad nb nt cfa cle cwr csl cst cen cby cto csh cdz cch cva css cve cro crc cma cbi ces cbl crt))) A) (by decide) (Nat.le_of_ble_eq_true rfl) ?_
  intro p e s m below meth c hadm hx hb hr hml hown hlocks ht hK A hA hP hD hS ls hl
  have hC : Cx p l e s m (([.ref (ad 2), .int p0, .int p1] : List Value)).toArray meth c y_RL_lowestBit b_RL_lowestBit 4 (some .int) "BookTrees$Roll" G A := ⟨hx, hb, hr, hml, hown, hlocks, ht, hK, hA⟩
  have hown : s.vm.findClass "BookTrees$Roll" = some m.cls := hown
  have hl : lv_has ls 4 [(0, .ref (ad 2)), (1, .int p0), (2, .int p1)] := hl
  rw [f_RL_lowestBit] at hres
  rw [ok_RL_lowestBit] at hok
  refine lv_iload_n hx hb d_RL_lowestBit_0 rfl (lv_at hl 2 rfl) ?_
  refine lv_istore_n (lv' := [(3, .int p1), (0, .ref (ad 2)), (1, .int p0), (2, .int p1)]) hx hb d_RL_lowestBit_1 rfl hl (by decide) rfl (fun ls hl => ?_)
  exact w_RL_lowestBit_2 hC 1024 p0 p1 _ _ _ hok hres hP hD hS (lv_sub hl [1, 2, 0] rfl)
/-! ===== BookTrees.next(II)I ===== -/
abbrev rm_BT_next : Room := { frames := 6, cells := 0, slots := 0, locals := 141 }
def f_BT_next_49 : Nat → Int32 → Int32 → Int32 → Int32 → Int32 → Int32 → Int32 → (Nat → Int32) → (Nat → Int32) → Int32 → (Nat → Int32) → (Nat → Int32) → Int32 × Unit
  | 0, x3, x4, x5, cfa, csl, cst, cen, cby, cto, css, cve, cro => (0, ())
  | n + 1, x3, x4, x5, cfa, csl, cst, cen, cby, cto, css, cve, cro => if (64 : Int32) ≤ x5 then ((-1 : Int32), ()) else bindc (f_BT_leafBlock x3 x5 csl cst cen cby cto) (fun z_60 => if z_60.1 = (-2 : Int32) then ((-2 : Int32), ()) else if z_60.1 = (-1 : Int32) then (if (-1 : Int32) = (-1 : Int32) then f_BT_next_49 n x3 (0 : Int32) (x5 + (1 : Int32)) cfa csl cst cen cby cto css cve cro else ((x5 * (8 : Int32)) + (-1 : Int32), ())) else bindc (f_RL_lowestBit z_60.1 x4 csl cby) (fun z_93 => if z_93.1 = (-1 : Int32) then f_BT_next_49 n x3 (0 : Int32) (x5 + (1 : Int32)) cfa csl cst cen cby cto css cve cro else ((x5 * (8 : Int32)) + z_93.1, ())))
def ok_BT_next_49 (nb : Nat) (nt : Nat) : Nat → Int32 → Int32 → Int32 → Int32 → Int32 → Int32 → Int32 → (Nat → Int32) → (Nat → Int32) → Int32 → (Nat → Int32) → (Nat → Int32) → Prop
  | 0, _, _, _, _, _, _, _, _, _, _, _, _ => False
  | n + 1, x3, x4, x5, cfa, csl, cst, cen, cby, cto, css, cve, cro => ((64 : Int32) ≤ x5 → True) ∧ (¬ (64 : Int32) ≤ x5 → ok_BT_leafBlock nb nt x3 x5 csl cst cen cby cto ∧ bindp (f_BT_leafBlock x3 x5 csl cst cen cby cto) (fun z_60 => (z_60.1 = (-2 : Int32) → True) ∧ (¬ z_60.1 = (-2 : Int32) → (z_60.1 = (-1 : Int32) → ((-1 : Int32) = (-1 : Int32) → ok_BT_next_49 nb nt  n x3 (0 : Int32) (x5 + (1 : Int32)) cfa csl cst cen cby cto css cve cro) ∧ (¬ (-1 : Int32) = (-1 : Int32) → True)) ∧ (¬ z_60.1 = (-1 : Int32) → ok_RL_lowestBit nb nt z_60.1 x4 csl cby ∧ bindp (f_RL_lowestBit z_60.1 x4 csl cby) (fun z_93 => (z_93.1 = (-1 : Int32) → ok_BT_next_49 nb nt  n x3 (0 : Int32) (x5 + (1 : Int32)) cfa csl cst cen cby cto css cve cro) ∧ (¬ z_93.1 = (-1 : Int32) → True))))))
set_option maxHeartbeats 4000000 in
set_option maxRecDepth 100000 in
theorem w_BT_next_49 {p : Program} {l : Launch} {e : Env} {s : State} {m : MethodId} {args : Array Value} {below : List Frame} {meth : Method} {c : Code} {A : Nat → Prop} {G : GG} {ad : Nat → Nat} {nb : Nat} {nt : Nat} {cfa : Int32} {cle : Int32} {cwr : Int32} {csl : Int32} {cst : Int32} {cen : Int32} {cby : (Nat → Int32)} {cto : (Nat → Int32)} {csh : (Nat → Int32)} {cdz : Int32} {cch : (Nat → Int32)} {cva : (Nat → Int32)} {css : Int32} {cve : (Nat → Int32)} {cro : (Nat → Int32)} {crc : Int32} {cma : (Nat → Int32)} {cbi : (Nat → Int32)} {ces : (Nat → Int32)} {cbl : (Nat → Int32)} {crt : (Nat → Int32)} {res : Int32 × Unit} (hC : Cx p l e s m args meth c y_BT_next b_BT_next 8 (some .int) "BookTrees" G A) : ∀ (n : Nat) (x3 : Int32) (x4 : Int32) (x5 : Int32)  (H : Heap) (locs : List Loc) (ls : Array Slot), ok_BT_next_49 nb nt n x3 x4 x5 cfa csl cst cen cby cto css cve cro → f_BT_next_49 n x3 x4 x5 cfa csl cst cen cby cto css cve cro = res → va_P G.1 classes (cC G ad nb nt cfa cle cwr csl cst cen cby cto csh cdz cch cva css cve cro crc cma cbi ces cbl crt) H → va_D A (cC G ad nb nt cfa cle cwr csl cst cen cby cto csh cdz cch cva css cve cro crc cma cbi ces cbl crt) → va_S A s.heap H locs → lv_has ls 8 [(0, .ref (ad 0)), (3, .int x3), (4, .int x4), (5, .int x5)] → W p l e rm_BT_next s m args below meth c H locs 0 0 (MQ below (va_Qi (eqP res) (Wb G A (fun _ : Unit => (cC G ad nb nt cfa cle cwr csl cst cen cby cto csh cdz cch cva css cve cro crc cma cbi ces cbl crt))) A) args s 0 0 A) (F0 m 49 ls []) := by
  obtain ⟨hx, hb, hr, hml, hown, hlocks, ht, hK, hA⟩ := id hC
  intro n
  induction n with
  | zero => intro x3 x4 x5 H locs ls hok; exact hok.elim
  | succ n ih =>
    intro x3 x4 x5 H locs ls hok hres hP hD hS hl
    rw [f_BT_next_49] at hres
    rw [ok_BT_next_49] at hok
    refine lv_iload hx hb d_BT_next_49 (lv_at hl 3 rfl) ?_
    refine lv_bipush (v := (64 : Int32)) hx hb d_BT_next_51 (by decide) ?_
    refine lv_icmp_ge (tgt := 122) hx hb d_BT_next_53 (by decide) (fun c_53 => ?_) (fun c_53 => ?_)
    · have hres := it_t c_53 hres
      refine lv_iconst (v := (-1 : Int32)) hx hb d_BT_next_122 (by decide) ?_
      exact en_i (w1 := (fun _ : Unit => (cC G ad nb nt cfa cle cwr csl cst cen cby cto csh cdz cch cva css cve cro crc cma cbi ces cbl crt))) () hx hb hr hlocks hK hP hD hS hres d_BT_next_123
    · have hres := it_f c_53 hres
      have hok := hok.2 c_53
      refine lv_aload_n hx hb d_BT_next_56 rfl (lv_at hl 0 rfl) ?_
      refine lv_iload_n hx hb d_BT_next_57 rfl (lv_at hl 1 rfl) ?_
      refine lv_iload hx hb d_BT_next_58 (lv_at hl 3 rfl) ?_
      obtain ⟨hk_60, hok⟩ := hok
      refine go_iz (run_V hx hb hml hown ht hK hP hD (c_BT_leafBlock hk_60) (cw_V ht km_BT_119 ki_BT_leafBlock ks_BT_leafBlock ini_BT kd_BT_leafBlock kh_BT_leafBlock ⟨Nat.le_of_ble_eq_true rfl, Nat.le_of_ble_eq_true rfl⟩ rfl rfl) (q0 := 0) (ci := 0) (As := [.int x3, .int x5]) (rest := []) rfl rfl rfl hl.1 rfl (Nat.le_of_ble_eq_true rfl) d_BT_next_60 ⟨Nat.zero_le _, Nat.zero_le _⟩) hD hS hA (fun z_60 H locs hz_60 hP hD hS => ?_)
      have hres := bindc_eq hz_60 hres
      have hok := bindp_eq hz_60 hok
      have hP : va_P G.1 classes (cC G ad nb nt cfa cle cwr csl cst cen cby cto csh cdz cch cva css cve cro crc cma cbi ces cbl crt) H := hP
      have hD : va_D A (cC G ad nb nt cfa cle cwr csl cst cen cby cto csh cdz cch cva css cve cro crc cma cbi ces cbl crt) := hD
      refine lv_istore (lv' := [(6, .int z_60.1), (0, .ref (ad 0)), (3, .int x3), (4, .int x4), (5, .int x5)]) hx hb d_BT_next_63 hl (by decide) rfl (fun ls hl => ?_)
      refine lv_iload hx hb d_BT_next_65 (lv_at hl 0 rfl) ?_
      refine lv_bipush (v := (-2 : Int32)) hx hb d_BT_next_67 (by decide) ?_
      refine lv_icmp_ne (tgt := 75) hx hb d_BT_next_69 (by decide) (fun c_69 => ?_) (fun c_69 => ?_)
      · have hres := it_f c_69 hres
        have hok := hok.2 c_69
        refine lv_iload hx hb d_BT_next_75 (lv_at hl 0 rfl) ?_
        refine lv_iconst (v := (-1 : Int32)) hx hb d_BT_next_77 (by decide) ?_
        refine lv_icmp_ne (tgt := 85) hx hb d_BT_next_78 (by decide) (fun c_78 => ?_) (fun c_78 => ?_)
        · have hres := it_f c_78 hres
          have hok := hok.2 c_78
          refine lv_aload_n hx hb d_BT_next_85 rfl (lv_at hl 1 rfl) ?_
          refine va_get (D := G.1) (ci := 0) (C := R_BT) (T := F_BT) (N := 5) hx hb ht in_BT hown hK hP 0 rfl rfl 1 (by decide) (ht _ kf_BT_21) (fun _ h9 => h9) rfl d_BT_next_86 ?_
          refine lv_iload hx hb d_BT_next_89 (lv_at hl 0 rfl) ?_
          refine lv_iload hx hb d_BT_next_91 (lv_at hl 3 rfl) ?_
          obtain ⟨hk_93, hok⟩ := hok
          refine go_iz (run_V hx hb hml hown ht hK hP hD (c_RL_lowestBit hk_93) (cw_V ht km_BT_123 ki_RL_lowestBit ks_RL_lowestBit ini_RL kd_RL_lowestBit kh_RL_lowestBit ⟨Nat.le_of_ble_eq_true rfl, Nat.le_of_ble_eq_true rfl⟩ rfl rfl) (q0 := 2) (ci := 2) (As := [.int z_60.1, .int x4]) (rest := []) rfl rfl rfl hl.1 rfl (Nat.le_of_ble_eq_true rfl) d_BT_next_93 ⟨Nat.zero_le _, Nat.zero_le _⟩) hD hS hA (fun z_93 H locs hz_93 hP hD hS => ?_)
          have hres := bindc_eq hz_93 hres
          have hok := bindp_eq hz_93 hok
          have hP : va_P G.1 classes (cC G ad nb nt cfa cle cwr csl cst cen cby cto csh cdz cch cva css cve cro crc cma cbi ces cbl crt) H := hP
          have hD : va_D A (cC G ad nb nt cfa cle cwr csl cst cen cby cto csh cdz cch cva css cve cro crc cma cbi ces cbl crt) := hD
          refine lv_istore (lv' := [(7, .int z_93.1), (6, .int z_60.1), (0, .ref (ad 0)), (3, .int x3), (4, .int x4), (5, .int x5)]) hx hb d_BT_next_96 hl (by decide) rfl (fun ls hl => ?_)
          refine lv_iload hx hb d_BT_next_98 (lv_at hl 0 rfl) ?_
          refine lv_iconst (v := (-1 : Int32)) hx hb d_BT_next_100 (by decide) ?_
          refine lv_icmp_eq (tgt := 113) hx hb d_BT_next_101 (by decide) (fun c_101 => ?_) (fun c_101 => ?_)
          · have hres := it_t c_101 hres
            have hok := hok.1 c_101
            refine lv_iconst (v := (0 : Int32)) hx hb d_BT_next_113 (by decide) ?_
            refine lv_istore (lv' := [(4, .int (0 : Int32)), (7, .int z_93.1), (6, .int z_60.1), (0, .ref (ad 0)), (3, .int x3), (5, .int x5)]) hx hb d_BT_next_114 hl (by decide) rfl (fun ls hl => ?_)
            refine lv_iinc (v := x5 + (1 : Int32)) (lv' := [(5, .int (x5 + (1 : Int32))), (4, .int (0 : Int32)), (7, .int z_93.1), (6, .int z_60.1), (0, .ref (ad 0)), (3, .int x3)]) hx hb d_BT_next_116 hl (k := 5) rfl rfl (by decide) rfl (fun ls hl => ?_)
            refine lv_goto (tgt := 49) hx hb d_BT_next_119 (by decide) ?_
            exact ih x3 (0 : Int32) (x5 + (1 : Int32)) _ _ _ hok hres hP hD hS (lv_sub hl [4, 5, 1, 0] rfl)
          · have hres := it_f c_101 hres
            refine lv_iload hx hb d_BT_next_104 (lv_at hl 5 rfl) ?_
            refine lv_bipush (v := (8 : Int32)) hx hb d_BT_next_106 (by decide) ?_
            refine lv_imul hx hb d_BT_next_108 ?_
            refine lv_iload hx hb d_BT_next_109 (lv_at hl 0 rfl) ?_
            refine lv_iadd hx hb d_BT_next_111 ?_
            exact en_i (w1 := (fun _ : Unit => (cC G ad nb nt cfa cle cwr csl cst cen cby cto csh cdz cch cva css cve cro crc cma cbi ces cbl crt))) () hx hb hr hlocks hK hP hD hS hres d_BT_next_112
        · have hres := it_t c_78 hres
          have hok := hok.1 c_78
          refine lv_iconst (v := (-1 : Int32)) hx hb d_BT_next_81 (by decide) ?_
          refine lv_goto (tgt := 96) hx hb d_BT_next_82 (by decide) ?_
          refine lv_istore (lv' := [(7, .int (-1 : Int32)), (6, .int z_60.1), (0, .ref (ad 0)), (3, .int x3), (4, .int x4), (5, .int x5)]) hx hb d_BT_next_96 hl (by decide) rfl (fun ls hl => ?_)
          refine lv_iload hx hb d_BT_next_98 (lv_at hl 0 rfl) ?_
          refine lv_iconst (v := (-1 : Int32)) hx hb d_BT_next_100 (by decide) ?_
          refine lv_icmp_eq (tgt := 113) hx hb d_BT_next_101 (by decide) (fun c_101 => ?_) (fun c_101 => ?_)
          · have hres := it_t c_101 hres
            have hok := hok.1 c_101
            refine lv_iconst (v := (0 : Int32)) hx hb d_BT_next_113 (by decide) ?_
            refine lv_istore (lv' := [(4, .int (0 : Int32)), (7, .int (-1 : Int32)), (6, .int z_60.1), (0, .ref (ad 0)), (3, .int x3), (5, .int x5)]) hx hb d_BT_next_114 hl (by decide) rfl (fun ls hl => ?_)
            refine lv_iinc (v := x5 + (1 : Int32)) (lv' := [(5, .int (x5 + (1 : Int32))), (4, .int (0 : Int32)), (7, .int (-1 : Int32)), (6, .int z_60.1), (0, .ref (ad 0)), (3, .int x3)]) hx hb d_BT_next_116 hl (k := 5) rfl rfl (by decide) rfl (fun ls hl => ?_)
            refine lv_goto (tgt := 49) hx hb d_BT_next_119 (by decide) ?_
            exact ih x3 (0 : Int32) (x5 + (1 : Int32)) _ _ _ hok hres hP hD hS (lv_sub hl [4, 5, 1, 0] rfl)
          · have hres := it_f c_101 hres
            refine lv_iload hx hb d_BT_next_104 (lv_at hl 5 rfl) ?_
            refine lv_bipush (v := (8 : Int32)) hx hb d_BT_next_106 (by decide) ?_
            refine lv_imul hx hb d_BT_next_108 ?_
            refine lv_iload hx hb d_BT_next_109 (lv_at hl 0 rfl) ?_
            refine lv_iadd hx hb d_BT_next_111 ?_
            exact en_i (w1 := (fun _ : Unit => (cC G ad nb nt cfa cle cwr csl cst cen cby cto csh cdz cch cva css cve cro crc cma cbi ces cbl crt))) () hx hb hr hlocks hK hP hD hS hres d_BT_next_112
      · have hres := it_t c_69 hres
        refine lv_bipush (v := (-2 : Int32)) hx hb d_BT_next_72 (by decide) ?_
        exact en_i (w1 := (fun _ : Unit => (cC G ad nb nt cfa cle cwr csl cst cen cby cto csh cdz cch cva css cve cro crc cma cbi ces cbl crt))) () hx hb hr hlocks hK hP hD hS hres d_BT_next_74
def f_BT_next_22 (x1 : Int32) (x2 : Int32) (y1 : Int32) (cfa : Int32) (csl : Int32) (cst : Int32) (cen : Int32) (cby : (Nat → Int32)) (cto : (Nat → Int32)) (css : Int32) (cve : (Nat → Int32)) (cro : (Nat → Int32)) : Int32 × Unit := bindc (f_BT_requireArgument y1) (fun z_22 => bindc (f_BT_requirePower cfa) (fun z_26 => bindc (f_SH_rootOf x1 css cve cro) (fun z_34 => f_BT_next_49 1024 z_34.1 (x2 &&& (7 : Int32)) (x2 >>> ((3 : Int32) &&& 31)) cfa csl cst cen cby cto css cve cro)))
def ok_BT_next_22 (nb : Nat) (nt : Nat) (x1 : Int32) (x2 : Int32) (y1 : Int32) (cfa : Int32) (csl : Int32) (cst : Int32) (cen : Int32) (cby : (Nat → Int32)) (cto : (Nat → Int32)) (css : Int32) (cve : (Nat → Int32)) (cro : (Nat → Int32)) : Prop := ok_BT_requireArgument nb nt y1 ∧ bindp (f_BT_requireArgument y1) (fun z_22 => ok_BT_requirePower nb nt cfa ∧ bindp (f_BT_requirePower cfa) (fun z_26 => ok_SH_rootOf nb nt x1 css cve cro ∧ bindp (f_SH_rootOf x1 css cve cro) (fun z_34 => ok_BT_next_49 nb nt  1024 z_34.1 (x2 &&& (7 : Int32)) (x2 >>> ((3 : Int32) &&& 31)) cfa csl cst cen cby cto css cve cro)))
set_option maxHeartbeats 4000000 in
set_option maxRecDepth 100000 in
theorem w_BT_next_22 {p : Program} {l : Launch} {e : Env} {s : State} {m : MethodId} {args : Array Value} {below : List Frame} {meth : Method} {c : Code} {A : Nat → Prop} {G : GG} {ad : Nat → Nat} {nb : Nat} {nt : Nat} {cfa : Int32} {cle : Int32} {cwr : Int32} {csl : Int32} {cst : Int32} {cen : Int32} {cby : (Nat → Int32)} {cto : (Nat → Int32)} {csh : (Nat → Int32)} {cdz : Int32} {cch : (Nat → Int32)} {cva : (Nat → Int32)} {css : Int32} {cve : (Nat → Int32)} {cro : (Nat → Int32)} {crc : Int32} {cma : (Nat → Int32)} {cbi : (Nat → Int32)} {ces : (Nat → Int32)} {cbl : (Nat → Int32)} {crt : (Nat → Int32)} {res : Int32 × Unit} (hC : Cx p l e s m args meth c y_BT_next b_BT_next 8 (some .int) "BookTrees" G A) : ∀ (x1 : Int32) (x2 : Int32) (y1 : Int32)  (H : Heap) (locs : List Loc) (ls : Array Slot), ok_BT_next_22 nb nt x1 x2 y1 cfa csl cst cen cby cto css cve cro → f_BT_next_22 x1 x2 y1 cfa csl cst cen cby cto css cve cro = res → va_P G.1 classes (cC G ad nb nt cfa cle cwr csl cst cen cby cto csh cdz cch cva css cve cro crc cma cbi ces cbl crt) H → va_D A (cC G ad nb nt cfa cle cwr csl cst cen cby cto csh cdz cch cva css cve cro crc cma cbi ces cbl crt) → va_S A s.heap H locs → lv_has ls 8 [(0, .ref (ad 0)), (1, .int x1), (2, .int x2)] → W p l e rm_BT_next s m args below meth c H locs 0 0 (MQ below (va_Qi (eqP res) (Wb G A (fun _ : Unit => (cC G ad nb nt cfa cle cwr csl cst cen cby cto csh cdz cch cva css cve cro crc cma cbi ces cbl crt))) A) args s 0 0 A) (F0 m 22 ls [.int y1, .ref (ad 0)]) := by
  obtain ⟨hx, hb, hr, hml, hown, hlocks, ht, hK, hA⟩ := id hC
  intro x1 x2 y1 H locs ls hok hres hP hD hS hl
  rw [f_BT_next_22] at hres
  rw [ok_BT_next_22] at hok
  obtain ⟨hk_22, hok⟩ := hok
  refine go_vz (run_V hx hb hml hown ht hK hP hD (c_BT_requireArgument hk_22) (cw_V ht km_BT_50 ki_BT_requireArgument ks_BT_requireArgument ini_BT kd_BT_requireArgument kh_BT_requireArgument ⟨Nat.le_of_ble_eq_true rfl, Nat.le_of_ble_eq_true rfl⟩ rfl rfl) (q0 := 0) (ci := 0) (As := [.int y1]) (rest := []) rfl rfl rfl hl.1 rfl (Nat.le_of_ble_eq_true rfl) d_BT_next_22 ⟨Nat.zero_le _, Nat.zero_le _⟩) hD hS hA (fun z_22 H locs hz_22 hP hD hS => ?_)
  have hres := bindc_eq hz_22 hres
  have hok := bindp_eq hz_22 hok
  have hP : va_P G.1 classes (cC G ad nb nt cfa cle cwr csl cst cen cby cto csh cdz cch cva css cve cro crc cma cbi ces cbl crt) H := hP
  have hD : va_D A (cC G ad nb nt cfa cle cwr csl cst cen cby cto csh cdz cch cva css cve cro crc cma cbi ces cbl crt) := hD
  refine lv_aload_n hx hb d_BT_next_25 rfl (lv_at hl 0 rfl) ?_
  obtain ⟨hk_26, hok⟩ := hok
  refine go_vz (run_V hx hb hml hown ht hK hP hD (c_BT_requirePower hk_26) (cw_V ht km_BT_54 ki_BT_requirePower ks_BT_requirePower ini_BT kd_BT_requirePower kh_BT_requirePower ⟨Nat.le_of_ble_eq_true rfl, Nat.le_of_ble_eq_true rfl⟩ rfl rfl) (q0 := 0) (ci := 0) (As := []) (rest := []) rfl rfl rfl hl.1 rfl (Nat.le_of_ble_eq_true rfl) d_BT_next_26 ⟨Nat.zero_le _, Nat.zero_le _⟩) hD hS hA (fun z_26 H locs hz_26 hP hD hS => ?_)
  have hres := bindc_eq hz_26 hres
  have hok := bindp_eq hz_26 hok
  have hP : va_P G.1 classes (cC G ad nb nt cfa cle cwr csl cst cen cby cto csh cdz cch cva css cve cro crc cma cbi ces cbl crt) H := hP
  have hD : va_D A (cC G ad nb nt cfa cle cwr csl cst cen cby cto csh cdz cch cva css cve cro crc cma cbi ces cbl crt) := hD
  refine lv_aload_n hx hb d_BT_next_29 rfl (lv_at hl 0 rfl) ?_
  refine va_get (D := G.1) (ci := 0) (C := R_BT) (T := F_BT) (N := 5) hx hb ht in_BT hown hK hP 0 rfl rfl 3 (by decide) (ht _ kf_BT_35) (fun _ h9 => h9) rfl d_BT_next_30 ?_
  refine lv_iload_n hx hb d_BT_next_33 rfl (lv_at hl 1 rfl) ?_
  obtain ⟨hk_34, hok⟩ := hok
  refine go_iz (run_V hx hb hml hown ht hK hP hD (c_SH_rootOf hk_34) (cw_V ht km_BT_116 ki_SH_rootOf ks_SH_rootOf ini_SH kd_SH_rootOf kh_SH_rootOf ⟨Nat.le_of_ble_eq_true rfl, Nat.le_of_ble_eq_true rfl⟩ rfl rfl) (q0 := 9) (ci := 4) (As := [.int x1]) (rest := []) rfl rfl rfl hl.1 rfl (Nat.le_of_ble_eq_true rfl) d_BT_next_34 ⟨Nat.zero_le _, Nat.zero_le _⟩) hD hS hA (fun z_34 H locs hz_34 hP hD hS => ?_)
  have hres := bindc_eq hz_34 hres
  have hok := bindp_eq hz_34 hok
  have hP : va_P G.1 classes (cC G ad nb nt cfa cle cwr csl cst cen cby cto csh cdz cch cva css cve cro crc cma cbi ces cbl crt) H := hP
  have hD : va_D A (cC G ad nb nt cfa cle cwr csl cst cen cby cto csh cdz cch cva css cve cro crc cma cbi ces cbl crt) := hD
  refine lv_istore_n (lv' := [(3, .int z_34.1), (0, .ref (ad 0)), (1, .int x1), (2, .int x2)]) hx hb d_BT_next_37 rfl hl (by decide) rfl (fun ls hl => ?_)
  refine lv_iload_n hx hb d_BT_next_38 rfl (lv_at hl 3 rfl) ?_
  refine lv_bipush (v := (7 : Int32)) hx hb d_BT_next_39 (by decide) ?_
  refine lv_iand hx hb d_BT_next_41 ?_
  refine lv_istore (lv' := [(4, .int (x2 &&& (7 : Int32))), (3, .int z_34.1), (0, .ref (ad 0)), (1, .int x1), (2, .int x2)]) hx hb d_BT_next_42 hl (by decide) rfl (fun ls hl => ?_)
  refine lv_iload_n hx hb d_BT_next_44 rfl (lv_at hl 4 rfl) ?_
  refine lv_iconst (v := (3 : Int32)) hx hb d_BT_next_45 (by decide) ?_
  refine lv_ishr hx hb d_BT_next_46 ?_
  refine lv_istore (lv' := [(5, .int (x2 >>> ((3 : Int32) &&& 31))), (4, .int (x2 &&& (7 : Int32))), (3, .int z_34.1), (0, .ref (ad 0)), (1, .int x1), (2, .int x2)]) hx hb d_BT_next_47 hl (by decide) rfl (fun ls hl => ?_)
  exact w_BT_next_49 hC 1024 z_34.1 (x2 &&& (7 : Int32)) (x2 >>> ((3 : Int32) &&& 31)) _ _ _ hok hres hP hD hS (lv_sub hl [3, 2, 1, 0] rfl)
def f_BT_next_21 (x1 : Int32) (x2 : Int32) (cfa : Int32) (csl : Int32) (cst : Int32) (cen : Int32) (cby : (Nat → Int32)) (cto : (Nat → Int32)) (css : Int32) (cve : (Nat → Int32)) (cro : (Nat → Int32)) : Int32 × Unit := f_BT_next_22 x1 x2 (0 : Int32) cfa csl cst cen cby cto css cve cro
def ok_BT_next_21 (nb : Nat) (nt : Nat) (x1 : Int32) (x2 : Int32) (cfa : Int32) (csl : Int32) (cst : Int32) (cen : Int32) (cby : (Nat → Int32)) (cto : (Nat → Int32)) (css : Int32) (cve : (Nat → Int32)) (cro : (Nat → Int32)) : Prop := ok_BT_next_22 nb nt  x1 x2 (0 : Int32) cfa csl cst cen cby cto css cve cro
set_option maxHeartbeats 4000000 in
set_option maxRecDepth 100000 in
theorem w_BT_next_21 {p : Program} {l : Launch} {e : Env} {s : State} {m : MethodId} {args : Array Value} {below : List Frame} {meth : Method} {c : Code} {A : Nat → Prop} {G : GG} {ad : Nat → Nat} {nb : Nat} {nt : Nat} {cfa : Int32} {cle : Int32} {cwr : Int32} {csl : Int32} {cst : Int32} {cen : Int32} {cby : (Nat → Int32)} {cto : (Nat → Int32)} {csh : (Nat → Int32)} {cdz : Int32} {cch : (Nat → Int32)} {cva : (Nat → Int32)} {css : Int32} {cve : (Nat → Int32)} {cro : (Nat → Int32)} {crc : Int32} {cma : (Nat → Int32)} {cbi : (Nat → Int32)} {ces : (Nat → Int32)} {cbl : (Nat → Int32)} {crt : (Nat → Int32)} {res : Int32 × Unit} (hC : Cx p l e s m args meth c y_BT_next b_BT_next 8 (some .int) "BookTrees" G A) : ∀ (x1 : Int32) (x2 : Int32)  (H : Heap) (locs : List Loc) (ls : Array Slot), ok_BT_next_21 nb nt x1 x2 cfa csl cst cen cby cto css cve cro → f_BT_next_21 x1 x2 cfa csl cst cen cby cto css cve cro = res → va_P G.1 classes (cC G ad nb nt cfa cle cwr csl cst cen cby cto csh cdz cch cva css cve cro crc cma cbi ces cbl crt) H → va_D A (cC G ad nb nt cfa cle cwr csl cst cen cby cto csh cdz cch cva css cve cro crc cma cbi ces cbl crt) → va_S A s.heap H locs → lv_has ls 8 [(0, .ref (ad 0)), (1, .int x1), (2, .int x2)] → W p l e rm_BT_next s m args below meth c H locs 0 0 (MQ below (va_Qi (eqP res) (Wb G A (fun _ : Unit => (cC G ad nb nt cfa cle cwr csl cst cen cby cto csh cdz cch cva css cve cro crc cma cbi ces cbl crt))) A) args s 0 0 A) (F0 m 21 ls [.ref (ad 0)]) := by
  obtain ⟨hx, hb, hr, hml, hown, hlocks, ht, hK, hA⟩ := id hC
  intro x1 x2 H locs ls hok hres hP hD hS hl
  rw [f_BT_next_21] at hres
  rw [ok_BT_next_21] at hok
  refine lv_iconst (v := (0 : Int32)) hx hb d_BT_next_21 (by decide) ?_
  exact w_BT_next_22 hC x1 x2 (0 : Int32) _ _ _ hok hres hP hD hS (lv_sub hl [0, 1, 2] rfl)
def f_BT_next (p0 : Int32) (p1 : Int32) (cfa : Int32) (csl : Int32) (cst : Int32) (cen : Int32) (cby : (Nat → Int32)) (cto : (Nat → Int32)) (css : Int32) (cve : (Nat → Int32)) (cro : (Nat → Int32)) : Int32 × Unit := bindc (f_BT_isKept p0 cst css cve cro) (fun z_3 => if z_3.1 = 0 then f_BT_next_21 p0 p1 cfa csl cst cen cby cto css cve cro else bindc (f_BT_isKey p1) (fun z_11 => if z_11.1 = 0 then f_BT_next_21 p0 p1 cfa csl cst cen cby cto css cve cro else f_BT_next_22 p0 p1 (1 : Int32) cfa csl cst cen cby cto css cve cro))
def ok_BT_next (nb : Nat) (nt : Nat) (p0 : Int32) (p1 : Int32) (cfa : Int32) (csl : Int32) (cst : Int32) (cen : Int32) (cby : (Nat → Int32)) (cto : (Nat → Int32)) (css : Int32) (cve : (Nat → Int32)) (cro : (Nat → Int32)) : Prop := ok_BT_isKept nb nt p0 cst css cve cro ∧ bindp (f_BT_isKept p0 cst css cve cro) (fun z_3 => (z_3.1 = 0 → ok_BT_next_21 nb nt  p0 p1 cfa csl cst cen cby cto css cve cro) ∧ (¬ z_3.1 = 0 → bindp (f_BT_isKey p1) (fun z_11 => (z_11.1 = 0 → ok_BT_next_21 nb nt  p0 p1 cfa csl cst cen cby cto css cve cro) ∧ (¬ z_11.1 = 0 → ok_BT_next_22 nb nt  p0 p1 (1 : Int32) cfa csl cst cen cby cto css cve cro))))
set_option maxHeartbeats 4000000 in
set_option maxRecDepth 100000 in
theorem c_BT_next {l : Launch} {G : GG} {ad : Nat → Nat} {nb : Nat} {nt : Nat} {sz : Nat} {cfa : Int32} {cle : Int32} {cwr : Int32} {csl : Int32} {cst : Int32} {cen : Int32} {cby : (Nat → Int32)} {cto : (Nat → Int32)} {csh : (Nat → Int32)} {cdz : Int32} {cch : (Nat → Int32)} {cva : (Nat → Int32)} {css : Int32} {cve : (Nat → Int32)} {cro : (Nat → Int32)} {crc : Int32} {cma : (Nat → Int32)} {cbi : (Nat → Int32)} {ces : (Nat → Int32)} {cbl : (Nat → Int32)} {crt : (Nat → Int32)} {p0 : Int32} {p1 : Int32} (hok : ok_BT_next nb nt p0 p1 cfa csl cst cen cby cto css cve cro) : CtI l y_BT_next b_BT_next 8 (some .int) rm_BT_next G (cC G ad nb nt cfa cle cwr csl cst cen cby cto csh cdz cch cva css cve cro crc cma cbi ces cbl crt) sz [.ref (ad 0), .int p0, .int p1] (eqP (f_BT_next p0 p1 cfa csl cst cen cby cto css cve cro)) (fun _ : Unit => (cC G ad nb nt cfa cle cwr csl cst cen cby cto csh cdz cch cva css cve cro crc cma cbi ces cbl crt)) := by
  generalize hres : f_BT_next p0 p1 cfa csl cst cen cby cto css cve cro = res
  refine Met_of (Qc := fun A => va_Qi (eqP res) (Wb G A (fun _ : Unit => (cC G ad nb nt cfa cle cwr csl cst cen cby cto csh cdz cch cva css cve cro crc cma cbi ces cbl crt))) A) (by decide) (Nat.le_of_ble_eq_true rfl) ?_
  intro p e s m below meth c hadm hx hb hr hml hown hlocks ht hK A hA hP hD hS ls hl
  have hC : Cx p l e s m (([.ref (ad 0), .int p0, .int p1] : List Value)).toArray meth c y_BT_next b_BT_next 8 (some .int) "BookTrees" G A := ⟨hx, hb, hr, hml, hown, hlocks, ht, hK, hA⟩
  have hown : s.vm.findClass "BookTrees" = some m.cls := hown
  have hl : lv_has ls 8 [(0, .ref (ad 0)), (1, .int p0), (2, .int p1)] := hl
  rw [f_BT_next] at hres
  rw [ok_BT_next] at hok
  refine lv_aload_n hx hb d_BT_next_0 rfl (lv_at hl 0 rfl) ?_
  refine lv_aload_n hx hb d_BT_next_1 rfl (lv_at hl 0 rfl) ?_
  refine lv_iload_n hx hb d_BT_next_2 rfl (lv_at hl 1 rfl) ?_
  obtain ⟨hk_3, hok⟩ := hok
  refine go_iz (run_V hx hb hml hown ht hK hP hD (c_BT_isKept hk_3) (cw_V ht km_BT_113 ki_BT_isKept ks_BT_isKept ini_BT kd_BT_isKept kh_BT_isKept ⟨Nat.le_of_ble_eq_true rfl, Nat.le_of_ble_eq_true rfl⟩ rfl rfl) (q0 := 0) (ci := 0) (As := [.int p0]) (rest := [.ref (ad 0)]) rfl rfl rfl hl.1 rfl (Nat.le_of_ble_eq_true rfl) d_BT_next_3 ⟨Nat.zero_le _, Nat.zero_le _⟩) hD hS hA (fun z_3 H locs hz_3 hP hD hS => ?_)
  have hres := bindc_eq hz_3 hres
  have hok := bindp_eq hz_3 hok
  have hP : va_P G.1 classes (cC G ad nb nt cfa cle cwr csl cst cen cby cto csh cdz cch cva css cve cro crc cma cbi ces cbl crt) H := hP
  have hD : va_D A (cC G ad nb nt cfa cle cwr csl cst cen cby cto csh cdz cch cva css cve cro crc cma cbi ces cbl crt) := hD
  refine lv_if_eq (tgt := 21) hx hb d_BT_next_6 (by decide) (fun c_6 => ?_) (fun c_6 => ?_)
  · have hres := it_t c_6 hres
    have hok := hok.1 c_6
    exact w_BT_next_21 hC p0 p1 _ _ _ hok hres hP hD hS (lv_sub hl [0, 1, 2] rfl)
  · have hres := it_f c_6 hres
    have hok := hok.2 c_6
    refine lv_aload_n hx hb d_BT_next_9 rfl (lv_at hl 0 rfl) ?_
    refine lv_iload_n hx hb d_BT_next_10 rfl (lv_at hl 2 rfl) ?_
    refine go_iz (run_V hx hb hml hown ht hK hP hD (c_BT_isKey) (cw_V ht km_BT_46 ki_BT_isKey ks_BT_isKey ini_BT kd_BT_isKey kh_BT_isKey ⟨Nat.le_of_ble_eq_true rfl, Nat.le_of_ble_eq_true rfl⟩ rfl rfl) (q0 := 0) (ci := 0) (As := [.int p1]) (rest := [.ref (ad 0)]) rfl rfl rfl hl.1 rfl (Nat.le_of_ble_eq_true rfl) d_BT_next_11 ⟨Nat.zero_le _, Nat.zero_le _⟩) hD hS hA (fun z_11 H locs hz_11 hP hD hS => ?_)
    have hres := bindc_eq hz_11 hres
    have hok := bindp_eq hz_11 hok
    have hP : va_P G.1 classes (cC G ad nb nt cfa cle cwr csl cst cen cby cto csh cdz cch cva css cve cro crc cma cbi ces cbl crt) H := hP
    have hD : va_D A (cC G ad nb nt cfa cle cwr csl cst cen cby cto csh cdz cch cva css cve cro crc cma cbi ces cbl crt) := hD
    refine lv_if_eq (tgt := 21) hx hb d_BT_next_14 (by decide) (fun c_14 => ?_) (fun c_14 => ?_)
    · have hres := it_t c_14 hres
      have hok := hok.1 c_14
      exact w_BT_next_21 hC p0 p1 _ _ _ hok hres hP hD hS (lv_sub hl [0, 1, 2] rfl)
    · have hres := it_f c_14 hres
      have hok := hok.2 c_14
      refine lv_iconst (v := (1 : Int32)) hx hb d_BT_next_17 (by decide) ?_
      refine lv_goto (tgt := 22) hx hb d_BT_next_18 (by decide) ?_
      exact w_BT_next_22 hC p0 p1 (1 : Int32) _ _ _ hok hres hP hD hS (lv_sub hl [0, 1, 2] rfl)
/-! ===== BookTrees.rows(I)I ===== -/
abbrev rm_BT_rows : Room := { frames := 4, cells := 0, slots := 0, locals := 93 }
def f_BT_rows (p0 : Int32) (cfa : Int32) (csl : Int32) (cst : Int32) (cen : Int32) (cby : (Nat → Int32)) (cto : (Nat → Int32)) (css : Int32) (cve : (Nat → Int32)) (cro : (Nat → Int32)) : Int32 × Unit := bindc (f_BT_isKept p0 cst css cve cro) (fun z_3 => bindc (f_BT_requireArgument z_3.1) (fun z_6 => bindc (f_BT_requirePower cfa) (fun z_10 => bindc (f_SH_rootOf p0 css cve cro) (fun z_18 => if z_18.1 = (-1 : Int32) then ((0 : Int32), ()) else bindc (f_RL_isBad z_18.1 (4 : Int32) csl cst cen cby cto) (fun z_35 => if z_35.1 = 0 then bindc (f_RL_entryOf z_18.1 (1 : Int32) csl cby) (fun z_52 => (z_52.1, ())) else ((-2 : Int32), ()))))))
def ok_BT_rows (nb : Nat) (nt : Nat) (p0 : Int32) (cfa : Int32) (csl : Int32) (cst : Int32) (cen : Int32) (cby : (Nat → Int32)) (cto : (Nat → Int32)) (css : Int32) (cve : (Nat → Int32)) (cro : (Nat → Int32)) : Prop := ok_BT_isKept nb nt p0 cst css cve cro ∧ bindp (f_BT_isKept p0 cst css cve cro) (fun z_3 => ok_BT_requireArgument nb nt z_3.1 ∧ bindp (f_BT_requireArgument z_3.1) (fun z_6 => ok_BT_requirePower nb nt cfa ∧ bindp (f_BT_requirePower cfa) (fun z_10 => ok_SH_rootOf nb nt p0 css cve cro ∧ bindp (f_SH_rootOf p0 css cve cro) (fun z_18 => (z_18.1 = (-1 : Int32) → True) ∧ (¬ z_18.1 = (-1 : Int32) → ok_RL_isBad nb nt z_18.1 (4 : Int32) csl cst cen cby cto ∧ bindp (f_RL_isBad z_18.1 (4 : Int32) csl cst cen cby cto) (fun z_35 => (z_35.1 = 0 → ok_RL_entryOf nb nt z_18.1 (1 : Int32) csl cby) ∧ (¬ z_35.1 = 0 → True)))))))
set_option maxHeartbeats 4000000 in
set_option maxRecDepth 100000 in
theorem c_BT_rows {l : Launch} {G : GG} {ad : Nat → Nat} {nb : Nat} {nt : Nat} {sz : Nat} {cfa : Int32} {cle : Int32} {cwr : Int32} {csl : Int32} {cst : Int32} {cen : Int32} {cby : (Nat → Int32)} {cto : (Nat → Int32)} {csh : (Nat → Int32)} {cdz : Int32} {cch : (Nat → Int32)} {cva : (Nat → Int32)} {css : Int32} {cve : (Nat → Int32)} {cro : (Nat → Int32)} {crc : Int32} {cma : (Nat → Int32)} {cbi : (Nat → Int32)} {ces : (Nat → Int32)} {cbl : (Nat → Int32)} {crt : (Nat → Int32)} {p0 : Int32} (hok : ok_BT_rows nb nt p0 cfa csl cst cen cby cto css cve cro) : CtI l y_BT_rows b_BT_rows 3 (some .int) rm_BT_rows G (cC G ad nb nt cfa cle cwr csl cst cen cby cto csh cdz cch cva css cve cro crc cma cbi ces cbl crt) sz [.ref (ad 0), .int p0] (eqP (f_BT_rows p0 cfa csl cst cen cby cto css cve cro)) (fun _ : Unit => (cC G ad nb nt cfa cle cwr csl cst cen cby cto csh cdz cch cva css cve cro crc cma cbi ces cbl crt)) := by
  generalize hres : f_BT_rows p0 cfa csl cst cen cby cto css cve cro = res
  refine Met_of (Qc := fun A => va_Qi (eqP res) (Wb G A (fun _ : Unit => (cC G ad nb nt cfa cle cwr csl cst cen cby cto csh cdz cch cva css cve cro crc cma cbi ces cbl crt))) A) (by decide) (Nat.le_of_ble_eq_true rfl) ?_
  intro p e s m below meth c hadm hx hb hr hml hown hlocks ht hK A hA hP hD hS ls hl
  have hC : Cx p l e s m (([.ref (ad 0), .int p0] : List Value)).toArray meth c y_BT_rows b_BT_rows 3 (some .int) "BookTrees" G A := ⟨hx, hb, hr, hml, hown, hlocks, ht, hK, hA⟩
  have hown : s.vm.findClass "BookTrees" = some m.cls := hown
  have hl : lv_has ls 3 [(0, .ref (ad 0)), (1, .int p0)] := hl
  rw [f_BT_rows] at hres
  rw [ok_BT_rows] at hok
  refine lv_aload_n hx hb d_BT_rows_0 rfl (lv_at hl 0 rfl) ?_
  refine lv_aload_n hx hb d_BT_rows_1 rfl (lv_at hl 0 rfl) ?_
  refine lv_iload_n hx hb d_BT_rows_2 rfl (lv_at hl 1 rfl) ?_
  obtain ⟨hk_3, hok⟩ := hok
  refine go_iz (run_V hx hb hml hown ht hK hP hD (c_BT_isKept hk_3) (cw_V ht km_BT_113 ki_BT_isKept ks_BT_isKept ini_BT kd_BT_isKept kh_BT_isKept ⟨Nat.le_of_ble_eq_true rfl, Nat.le_of_ble_eq_true rfl⟩ rfl rfl) (q0 := 0) (ci := 0) (As := [.int p0]) (rest := [.ref (ad 0)]) rfl rfl rfl hl.1 rfl (Nat.le_of_ble_eq_true rfl) d_BT_rows_3 ⟨Nat.zero_le _, Nat.zero_le _⟩) hD hS hA (fun z_3 H locs hz_3 hP hD hS => ?_)
  have hres := bindc_eq hz_3 hres
  have hok := bindp_eq hz_3 hok
  have hP : va_P G.1 classes (cC G ad nb nt cfa cle cwr csl cst cen cby cto csh cdz cch cva css cve cro crc cma cbi ces cbl crt) H := hP
  have hD : va_D A (cC G ad nb nt cfa cle cwr csl cst cen cby cto csh cdz cch cva css cve cro crc cma cbi ces cbl crt) := hD
  obtain ⟨hk_6, hok⟩ := hok
  refine go_vz (run_V hx hb hml hown ht hK hP hD (c_BT_requireArgument hk_6) (cw_V ht km_BT_50 ki_BT_requireArgument ks_BT_requireArgument ini_BT kd_BT_requireArgument kh_BT_requireArgument ⟨Nat.le_of_ble_eq_true rfl, Nat.le_of_ble_eq_true rfl⟩ rfl rfl) (q0 := 0) (ci := 0) (As := [.int z_3.1]) (rest := []) rfl rfl rfl hl.1 rfl (Nat.le_of_ble_eq_true rfl) d_BT_rows_6 ⟨Nat.zero_le _, Nat.zero_le _⟩) hD hS hA (fun z_6 H locs hz_6 hP hD hS => ?_)
  have hres := bindc_eq hz_6 hres
  have hok := bindp_eq hz_6 hok
  have hP : va_P G.1 classes (cC G ad nb nt cfa cle cwr csl cst cen cby cto csh cdz cch cva css cve cro crc cma cbi ces cbl crt) H := hP
  have hD : va_D A (cC G ad nb nt cfa cle cwr csl cst cen cby cto csh cdz cch cva css cve cro crc cma cbi ces cbl crt) := hD
  refine lv_aload_n hx hb d_BT_rows_9 rfl (lv_at hl 0 rfl) ?_
  obtain ⟨hk_10, hok⟩ := hok
  refine go_vz (run_V hx hb hml hown ht hK hP hD (c_BT_requirePower hk_10) (cw_V ht km_BT_54 ki_BT_requirePower ks_BT_requirePower ini_BT kd_BT_requirePower kh_BT_requirePower ⟨Nat.le_of_ble_eq_true rfl, Nat.le_of_ble_eq_true rfl⟩ rfl rfl) (q0 := 0) (ci := 0) (As := []) (rest := []) rfl rfl rfl hl.1 rfl (Nat.le_of_ble_eq_true rfl) d_BT_rows_10 ⟨Nat.zero_le _, Nat.zero_le _⟩) hD hS hA (fun z_10 H locs hz_10 hP hD hS => ?_)
  have hres := bindc_eq hz_10 hres
  have hok := bindp_eq hz_10 hok
  have hP : va_P G.1 classes (cC G ad nb nt cfa cle cwr csl cst cen cby cto csh cdz cch cva css cve cro crc cma cbi ces cbl crt) H := hP
  have hD : va_D A (cC G ad nb nt cfa cle cwr csl cst cen cby cto csh cdz cch cva css cve cro crc cma cbi ces cbl crt) := hD
  refine lv_aload_n hx hb d_BT_rows_13 rfl (lv_at hl 0 rfl) ?_
  refine va_get (D := G.1) (ci := 0) (C := R_BT) (T := F_BT) (N := 5) hx hb ht in_BT hown hK hP 0 rfl rfl 3 (by decide) (ht _ kf_BT_35) (fun _ h9 => h9) rfl d_BT_rows_14 ?_
  refine lv_iload_n hx hb d_BT_rows_17 rfl (lv_at hl 1 rfl) ?_
  obtain ⟨hk_18, hok⟩ := hok
  refine go_iz (run_V hx hb hml hown ht hK hP hD (c_SH_rootOf hk_18) (cw_V ht km_BT_116 ki_SH_rootOf ks_SH_rootOf ini_SH kd_SH_rootOf kh_SH_rootOf ⟨Nat.le_of_ble_eq_true rfl, Nat.le_of_ble_eq_true rfl⟩ rfl rfl) (q0 := 9) (ci := 4) (As := [.int p0]) (rest := []) rfl rfl rfl hl.1 rfl (Nat.le_of_ble_eq_true rfl) d_BT_rows_18 ⟨Nat.zero_le _, Nat.zero_le _⟩) hD hS hA (fun z_18 H locs hz_18 hP hD hS => ?_)
  have hres := bindc_eq hz_18 hres
  have hok := bindp_eq hz_18 hok
  have hP : va_P G.1 classes (cC G ad nb nt cfa cle cwr csl cst cen cby cto csh cdz cch cva css cve cro crc cma cbi ces cbl crt) H := hP
  have hD : va_D A (cC G ad nb nt cfa cle cwr csl cst cen cby cto csh cdz cch cva css cve cro crc cma cbi ces cbl crt) := hD
  refine lv_istore_n (lv' := [(2, .int z_18.1), (0, .ref (ad 0)), (1, .int p0)]) hx hb d_BT_rows_21 rfl hl (by decide) rfl (fun ls hl => ?_)
  refine lv_iload_n hx hb d_BT_rows_22 rfl (lv_at hl 0 rfl) ?_
  refine lv_iconst (v := (-1 : Int32)) hx hb d_BT_rows_23 (by decide) ?_
  refine lv_icmp_ne (tgt := 29) hx hb d_BT_rows_24 (by decide) (fun c_24 => ?_) (fun c_24 => ?_)
  · have hres := it_f c_24 hres
    have hok := hok.2 c_24
    refine lv_aload_n hx hb d_BT_rows_29 rfl (lv_at hl 1 rfl) ?_
    refine va_get (D := G.1) (ci := 0) (C := R_BT) (T := F_BT) (N := 5) hx hb ht in_BT hown hK hP 0 rfl rfl 1 (by decide) (ht _ kf_BT_21) (fun _ h9 => h9) rfl d_BT_rows_30 ?_
    refine lv_iload_n hx hb d_BT_rows_33 rfl (lv_at hl 0 rfl) ?_
    refine lv_iconst (v := (4 : Int32)) hx hb d_BT_rows_34 (by decide) ?_
    obtain ⟨hk_35, hok⟩ := hok
    refine go_iz (run_V hx hb hml hown ht hK hP hD (c_RL_isBad hk_35) (cw_V ht km_BT_126 ki_RL_isBad ks_RL_isBad ini_RL kd_RL_isBad kh_RL_isBad ⟨Nat.le_of_ble_eq_true rfl, Nat.le_of_ble_eq_true rfl⟩ rfl rfl) (q0 := 2) (ci := 2) (As := [.int z_18.1, .int (4 : Int32)]) (rest := []) rfl rfl rfl hl.1 rfl (Nat.le_of_ble_eq_true rfl) d_BT_rows_35 ⟨Nat.zero_le _, Nat.zero_le _⟩) hD hS hA (fun z_35 H locs hz_35 hP hD hS => ?_)
    have hres := bindc_eq hz_35 hres
    have hok := bindp_eq hz_35 hok
    have hP : va_P G.1 classes (cC G ad nb nt cfa cle cwr csl cst cen cby cto csh cdz cch cva css cve cro crc cma cbi ces cbl crt) H := hP
    have hD : va_D A (cC G ad nb nt cfa cle cwr csl cst cen cby cto csh cdz cch cva css cve cro crc cma cbi ces cbl crt) := hD
    refine lv_if_eq (tgt := 46) hx hb d_BT_rows_38 (by decide) (fun c_38 => ?_) (fun c_38 => ?_)
    · have hres := it_t c_38 hres
      have hok := hok.1 c_38
      refine lv_aload_n hx hb d_BT_rows_46 rfl (lv_at hl 1 rfl) ?_
      refine va_get (D := G.1) (ci := 0) (C := R_BT) (T := F_BT) (N := 5) hx hb ht in_BT hown hK hP 0 rfl rfl 1 (by decide) (ht _ kf_BT_21) (fun _ h9 => h9) rfl d_BT_rows_47 ?_
      refine lv_iload_n hx hb d_BT_rows_50 rfl (lv_at hl 0 rfl) ?_
      refine lv_iconst (v := (1 : Int32)) hx hb d_BT_rows_51 (by decide) ?_
      have hk_52 := hok
      refine go_iz (run_V hx hb hml hown ht hK hP hD (c_RL_entryOf hk_52) (cw_V ht km_BT_130 ki_RL_entryOf ks_RL_entryOf ini_RL kd_RL_entryOf kh_RL_entryOf ⟨Nat.le_of_ble_eq_true rfl, Nat.le_of_ble_eq_true rfl⟩ rfl rfl) (q0 := 2) (ci := 2) (As := [.int z_18.1, .int (1 : Int32)]) (rest := []) rfl rfl rfl hl.1 rfl (Nat.le_of_ble_eq_true rfl) d_BT_rows_52 ⟨Nat.zero_le _, Nat.zero_le _⟩) hD hS hA (fun z_52 H locs hz_52 hP hD hS => ?_)
      have hres := bindc_eq hz_52 hres
      have hP : va_P G.1 classes (cC G ad nb nt cfa cle cwr csl cst cen cby cto csh cdz cch cva css cve cro crc cma cbi ces cbl crt) H := hP
      have hD : va_D A (cC G ad nb nt cfa cle cwr csl cst cen cby cto csh cdz cch cva css cve cro crc cma cbi ces cbl crt) := hD
      exact en_i (w1 := (fun _ : Unit => (cC G ad nb nt cfa cle cwr csl cst cen cby cto csh cdz cch cva css cve cro crc cma cbi ces cbl crt))) () hx hb hr hlocks hK hP hD hS hres d_BT_rows_55
    · have hres := it_f c_38 hres
      refine lv_bipush (v := (-2 : Int32)) hx hb d_BT_rows_41 (by decide) ?_
      refine lv_goto (tgt := 55) hx hb d_BT_rows_43 (by decide) ?_
      exact en_i (w1 := (fun _ : Unit => (cC G ad nb nt cfa cle cwr csl cst cen cby cto csh cdz cch cva css cve cro crc cma cbi ces cbl crt))) () hx hb hr hlocks hK hP hD hS hres d_BT_rows_55
  · have hres := it_t c_24 hres
    refine lv_iconst (v := (0 : Int32)) hx hb d_BT_rows_27 (by decide) ?_
    exact en_i (w1 := (fun _ : Unit => (cC G ad nb nt cfa cle cwr csl cst cen cby cto csh cdz cch cva css cve cro crc cma cbi ces cbl crt))) () hx hb hr hlocks hK hP hD hS hres d_BT_rows_28
/-! ===== BookTrees$Shelf.size()I ===== -/
abbrev rm_SH_size : Room := { frames := 0, cells := 0, slots := 0, locals := 0 }
def f_SH_size  (css : Int32) : Int32 × Unit := (css, ())
set_option maxHeartbeats 4000000 in
set_option maxRecDepth 100000 in
theorem c_SH_size {l : Launch} {G : GG} {ad : Nat → Nat} {nb : Nat} {nt : Nat} {sz : Nat} {cfa : Int32} {cle : Int32} {cwr : Int32} {csl : Int32} {cst : Int32} {cen : Int32} {cby : (Nat → Int32)} {cto : (Nat → Int32)} {csh : (Nat → Int32)} {cdz : Int32} {cch : (Nat → Int32)} {cva : (Nat → Int32)} {css : Int32} {cve : (Nat → Int32)} {cro : (Nat → Int32)} {crc : Int32} {cma : (Nat → Int32)} {cbi : (Nat → Int32)} {ces : (Nat → Int32)} {cbl : (Nat → Int32)} {crt : (Nat → Int32)}  : CtI l y_SH_size b_SH_size 1 (some .int) rm_SH_size G (cC G ad nb nt cfa cle cwr csl cst cen cby cto csh cdz cch cva css cve cro crc cma cbi ces cbl crt) sz [.ref (ad 9)] (eqP (f_SH_size css)) (fun _ : Unit => (cC G ad nb nt cfa cle cwr csl cst cen cby cto csh cdz cch cva css cve cro crc cma cbi ces cbl crt)) := by
  generalize hres : f_SH_size css = res
  refine Met_of (Qc := fun A => va_Qi (eqP res) (Wb G A (fun _ : Unit => (cC G ad nb nt cfa cle cwr csl cst cen cby cto csh cdz cch cva css cve cro crc cma cbi ces cbl crt))) A) (by decide) (Nat.le_of_ble_eq_true rfl) ?_
  intro p e s m below meth c hadm hx hb hr hml hown hlocks ht hK A hA hP hD hS ls hl
  have hC : Cx p l e s m (([.ref (ad 9)] : List Value)).toArray meth c y_SH_size b_SH_size 1 (some .int) "BookTrees$Shelf" G A := ⟨hx, hb, hr, hml, hown, hlocks, ht, hK, hA⟩
  have hown : s.vm.findClass "BookTrees$Shelf" = some m.cls := hown
  have hl : lv_has ls 1 [(0, .ref (ad 9))] := hl
  rw [f_SH_size] at hres
  refine lv_aload_n hx hb d_SH_size_0 rfl (lv_at hl 0 rfl) ?_
  refine va_get (D := G.1) (ci := 4) (C := R_SH) (T := F_SH) (N := 3) hx hb ht in_SH hown hK hP 9 rfl rfl 2 (by decide) (ht _ kf_SH_20) (fun _ h9 => h9) rfl d_SH_size_1 ?_
  exact en_i (w1 := (fun _ : Unit => (cC G ad nb nt cfa cle cwr csl cst cen cby cto csh cdz cch cva css cve cro crc cma cbi ces cbl crt))) () hx hb hr hlocks hK hP hD hS hres d_SH_size_4
/-! ===== BookTrees$Shelf.versionFromNewest(I)I ===== -/
abbrev rm_SH_versionFromNewest : Room := { frames := 0, cells := 0, slots := 0, locals := 0 }
def f_SH_versionFromNewest (p0 : Int32) (css : Int32) (cve : (Nat → Int32)) : Int32 × Unit := if p0 < 0 then ((-1 : Int32), ()) else if css ≤ p0 then ((-1 : Int32), ()) else (cve ((css - (1 : Int32)) - p0).toNatClampNeg, ())
def ok_SH_versionFromNewest (nb : Nat) (nt : Nat) (p0 : Int32) (css : Int32) (cve : (Nat → Int32)) : Prop := (p0 < 0 → True) ∧ (¬ p0 < 0 → (css ≤ p0 → True) ∧ (¬ css ≤ p0 → vp_in ((css - (1 : Int32)) - p0) 200))
set_option maxHeartbeats 4000000 in
set_option maxRecDepth 100000 in
theorem c_SH_versionFromNewest {l : Launch} {G : GG} {ad : Nat → Nat} {nb : Nat} {nt : Nat} {sz : Nat} {cfa : Int32} {cle : Int32} {cwr : Int32} {csl : Int32} {cst : Int32} {cen : Int32} {cby : (Nat → Int32)} {cto : (Nat → Int32)} {csh : (Nat → Int32)} {cdz : Int32} {cch : (Nat → Int32)} {cva : (Nat → Int32)} {css : Int32} {cve : (Nat → Int32)} {cro : (Nat → Int32)} {crc : Int32} {cma : (Nat → Int32)} {cbi : (Nat → Int32)} {ces : (Nat → Int32)} {cbl : (Nat → Int32)} {crt : (Nat → Int32)} {p0 : Int32} (hok : ok_SH_versionFromNewest nb nt p0 css cve) : CtI l y_SH_versionFromNewest b_SH_versionFromNewest 2 (some .int) rm_SH_versionFromNewest G (cC G ad nb nt cfa cle cwr csl cst cen cby cto csh cdz cch cva css cve cro crc cma cbi ces cbl crt) sz [.ref (ad 9), .int p0] (eqP (f_SH_versionFromNewest p0 css cve)) (fun _ : Unit => (cC G ad nb nt cfa cle cwr csl cst cen cby cto csh cdz cch cva css cve cro crc cma cbi ces cbl crt)) := by
  generalize hres : f_SH_versionFromNewest p0 css cve = res
  refine Met_of (Qc := fun A => va_Qi (eqP res) (Wb G A (fun _ : Unit => (cC G ad nb nt cfa cle cwr csl cst cen cby cto csh cdz cch cva css cve cro crc cma cbi ces cbl crt))) A) (by decide) (Nat.le_of_ble_eq_true rfl) ?_
  intro p e s m below meth c hadm hx hb hr hml hown hlocks ht hK A hA hP hD hS ls hl
  have hC : Cx p l e s m (([.ref (ad 9), .int p0] : List Value)).toArray meth c y_SH_versionFromNewest b_SH_versionFromNewest 2 (some .int) "BookTrees$Shelf" G A := ⟨hx, hb, hr, hml, hown, hlocks, ht, hK, hA⟩
  have hown : s.vm.findClass "BookTrees$Shelf" = some m.cls := hown
  have hl : lv_has ls 2 [(0, .ref (ad 9)), (1, .int p0)] := hl
  rw [f_SH_versionFromNewest] at hres
  rw [ok_SH_versionFromNewest] at hok
  refine lv_iload_n hx hb d_SH_versionFromNewest_0 rfl (lv_at hl 1 rfl) ?_
  refine lv_if_lt (tgt := 28) hx hb d_SH_versionFromNewest_1 (by decide) (fun c_1 => ?_) (fun c_1 => ?_)
  · have hres := it_t c_1 hres
    refine lv_iconst (v := (-1 : Int32)) hx hb d_SH_versionFromNewest_28 (by decide) ?_
    exact en_i (w1 := (fun _ : Unit => (cC G ad nb nt cfa cle cwr csl cst cen cby cto csh cdz cch cva css cve cro crc cma cbi ces cbl crt))) () hx hb hr hlocks hK hP hD hS hres d_SH_versionFromNewest_29
  · have hres := it_f c_1 hres
    have hok := hok.2 c_1
    refine lv_iload_n hx hb d_SH_versionFromNewest_4 rfl (lv_at hl 1 rfl) ?_
    refine lv_aload_n hx hb d_SH_versionFromNewest_5 rfl (lv_at hl 0 rfl) ?_
    refine va_get (D := G.1) (ci := 4) (C := R_SH) (T := F_SH) (N := 3) hx hb ht in_SH hown hK hP 9 rfl rfl 2 (by decide) (ht _ kf_SH_20) (fun _ h9 => h9) rfl d_SH_versionFromNewest_6 ?_
    refine lv_icmp_ge (tgt := 28) hx hb d_SH_versionFromNewest_9 (by decide) (fun c_9 => ?_) (fun c_9 => ?_)
    · have hres := it_t c_9 hres
      refine lv_iconst (v := (-1 : Int32)) hx hb d_SH_versionFromNewest_28 (by decide) ?_
      exact en_i (w1 := (fun _ : Unit => (cC G ad nb nt cfa cle cwr csl cst cen cby cto csh cdz cch cva css cve cro crc cma cbi ces cbl crt))) () hx hb hr hlocks hK hP hD hS hres d_SH_versionFromNewest_29
    · have hres := it_f c_9 hres
      have hok := hok.2 c_9
      refine lv_aload_n hx hb d_SH_versionFromNewest_12 rfl (lv_at hl 0 rfl) ?_
      refine va_get (D := G.1) (ci := 4) (C := R_SH) (T := F_SH) (N := 3) hx hb ht in_SH hown hK hP 9 rfl rfl 0 (by decide) (ht _ kf_SH_11) (fun _ h9 => h9) rfl d_SH_versionFromNewest_13 ?_
      refine lv_aload_n hx hb d_SH_versionFromNewest_16 rfl (lv_at hl 0 rfl) ?_
      refine va_get (D := G.1) (ci := 4) (C := R_SH) (T := F_SH) (N := 3) hx hb ht in_SH hown hK hP 9 rfl rfl 2 (by decide) (ht _ kf_SH_20) (fun _ h9 => h9) rfl d_SH_versionFromNewest_17 ?_
      refine lv_iconst (v := (1 : Int32)) hx hb d_SH_versionFromNewest_20 (by decide) ?_
      refine lv_isub hx hb d_SH_versionFromNewest_21 ?_
      refine lv_iload_n hx hb d_SH_versionFromNewest_22 rfl (lv_at hl 1 rfl) ?_
      refine lv_isub hx hb d_SH_versionFromNewest_23 ?_
      have hi_24 := hok
      refine va_iald hx hb hK hP 10 0 rfl rfl hi_24 d_SH_versionFromNewest_24 ?_
      refine lv_goto (tgt := 29) hx hb d_SH_versionFromNewest_25 (by decide) ?_
      exact en_i (w1 := (fun _ : Unit => (cC G ad nb nt cfa cle cwr csl cst cen cby cto csh cdz cch cva css cve cro crc cma cbi ces cbl crt))) () hx hb hr hlocks hK hP hD hS hres d_SH_versionFromNewest_29
/-! ===== BookTrees.kept(I)I ===== -/
abbrev rm_BT_kept : Room := { frames := 2, cells := 0, slots := 0, locals := 43 }
def f_BT_kept_10 (x1 : Int32) (y1 : Int32) (cfa : Int32) (cst : Int32) (css : Int32) (cve : (Nat → Int32)) (cro : (Nat → Int32)) : Int32 × Unit := bindc (f_BT_requireArgument y1) (fun z_10 => bindc (f_BT_requirePower cfa) (fun z_14 => bindc (f_SH_size css) (fun z_22 => if z_22.1 ≤ x1 then bindc (f_SH_size css) (fun z_42 => if x1 = z_42.1 then bindc (f_BT_isKept (0 : Int32) cst css cve cro) (fun z_50 => if z_50.1 = 0 then ((-1 : Int32), ()) else ((0 : Int32), ())) else ((-1 : Int32), ())) else bindc (f_SH_versionFromNewest x1 css cve) (fun z_33 => (z_33.1, ())))))
def ok_BT_kept_10 (nb : Nat) (nt : Nat) (x1 : Int32) (y1 : Int32) (cfa : Int32) (cst : Int32) (css : Int32) (cve : (Nat → Int32)) (cro : (Nat → Int32)) : Prop := ok_BT_requireArgument nb nt y1 ∧ bindp (f_BT_requireArgument y1) (fun z_10 => ok_BT_requirePower nb nt cfa ∧ bindp (f_BT_requirePower cfa) (fun z_14 => bindp (f_SH_size css) (fun z_22 => (z_22.1 ≤ x1 → bindp (f_SH_size css) (fun z_42 => (x1 = z_42.1 → ok_BT_isKept nb nt (0 : Int32) cst css cve cro) ∧ (¬ x1 = z_42.1 → True))) ∧ (¬ z_22.1 ≤ x1 → ok_SH_versionFromNewest nb nt x1 css cve))))
set_option maxHeartbeats 4000000 in
set_option maxRecDepth 100000 in
theorem w_BT_kept_10 {p : Program} {l : Launch} {e : Env} {s : State} {m : MethodId} {args : Array Value} {below : List Frame} {meth : Method} {c : Code} {A : Nat → Prop} {G : GG} {ad : Nat → Nat} {nb : Nat} {nt : Nat} {cfa : Int32} {cle : Int32} {cwr : Int32} {csl : Int32} {cst : Int32} {cen : Int32} {cby : (Nat → Int32)} {cto : (Nat → Int32)} {csh : (Nat → Int32)} {cdz : Int32} {cch : (Nat → Int32)} {cva : (Nat → Int32)} {css : Int32} {cve : (Nat → Int32)} {cro : (Nat → Int32)} {crc : Int32} {cma : (Nat → Int32)} {cbi : (Nat → Int32)} {ces : (Nat → Int32)} {cbl : (Nat → Int32)} {crt : (Nat → Int32)} {res : Int32 × Unit} (hC : Cx p l e s m args meth c y_BT_kept b_BT_kept 2 (some .int) "BookTrees" G A) : ∀ (x1 : Int32) (y1 : Int32)  (H : Heap) (locs : List Loc) (ls : Array Slot), ok_BT_kept_10 nb nt x1 y1 cfa cst css cve cro → f_BT_kept_10 x1 y1 cfa cst css cve cro = res → va_P G.1 classes (cC G ad nb nt cfa cle cwr csl cst cen cby cto csh cdz cch cva css cve cro crc cma cbi ces cbl crt) H → va_D A (cC G ad nb nt cfa cle cwr csl cst cen cby cto csh cdz cch cva css cve cro crc cma cbi ces cbl crt) → va_S A s.heap H locs → lv_has ls 2 [(0, .ref (ad 0)), (1, .int x1)] → W p l e rm_BT_kept s m args below meth c H locs 0 0 (MQ below (va_Qi (eqP res) (Wb G A (fun _ : Unit => (cC G ad nb nt cfa cle cwr csl cst cen cby cto csh cdz cch cva css cve cro crc cma cbi ces cbl crt))) A) args s 0 0 A) (F0 m 10 ls [.int y1, .ref (ad 0)]) := by
  obtain ⟨hx, hb, hr, hml, hown, hlocks, ht, hK, hA⟩ := id hC
  intro x1 y1 H locs ls hok hres hP hD hS hl
  rw [f_BT_kept_10] at hres
  rw [ok_BT_kept_10] at hok
  obtain ⟨hk_10, hok⟩ := hok
  refine go_vz (run_V hx hb hml hown ht hK hP hD (c_BT_requireArgument hk_10) (cw_V ht km_BT_50 ki_BT_requireArgument ks_BT_requireArgument ini_BT kd_BT_requireArgument kh_BT_requireArgument ⟨Nat.le_of_ble_eq_true rfl, Nat.le_of_ble_eq_true rfl⟩ rfl rfl) (q0 := 0) (ci := 0) (As := [.int y1]) (rest := []) rfl rfl rfl hl.1 rfl (Nat.le_of_ble_eq_true rfl) d_BT_kept_10 ⟨Nat.zero_le _, Nat.zero_le _⟩) hD hS hA (fun z_10 H locs hz_10 hP hD hS => ?_)
  have hres := bindc_eq hz_10 hres
  have hok := bindp_eq hz_10 hok
  have hP : va_P G.1 classes (cC G ad nb nt cfa cle cwr csl cst cen cby cto csh cdz cch cva css cve cro crc cma cbi ces cbl crt) H := hP
  have hD : va_D A (cC G ad nb nt cfa cle cwr csl cst cen cby cto csh cdz cch cva css cve cro crc cma cbi ces cbl crt) := hD
  refine lv_aload_n hx hb d_BT_kept_13 rfl (lv_at hl 0 rfl) ?_
  obtain ⟨hk_14, hok⟩ := hok
  refine go_vz (run_V hx hb hml hown ht hK hP hD (c_BT_requirePower hk_14) (cw_V ht km_BT_54 ki_BT_requirePower ks_BT_requirePower ini_BT kd_BT_requirePower kh_BT_requirePower ⟨Nat.le_of_ble_eq_true rfl, Nat.le_of_ble_eq_true rfl⟩ rfl rfl) (q0 := 0) (ci := 0) (As := []) (rest := []) rfl rfl rfl hl.1 rfl (Nat.le_of_ble_eq_true rfl) d_BT_kept_14 ⟨Nat.zero_le _, Nat.zero_le _⟩) hD hS hA (fun z_14 H locs hz_14 hP hD hS => ?_)
  have hres := bindc_eq hz_14 hres
  have hok := bindp_eq hz_14 hok
  have hP : va_P G.1 classes (cC G ad nb nt cfa cle cwr csl cst cen cby cto csh cdz cch cva css cve cro crc cma cbi ces cbl crt) H := hP
  have hD : va_D A (cC G ad nb nt cfa cle cwr csl cst cen cby cto csh cdz cch cva css cve cro crc cma cbi ces cbl crt) := hD
  refine lv_iload_n hx hb d_BT_kept_17 rfl (lv_at hl 1 rfl) ?_
  refine lv_aload_n hx hb d_BT_kept_18 rfl (lv_at hl 0 rfl) ?_
  refine va_get (D := G.1) (ci := 0) (C := R_BT) (T := F_BT) (N := 5) hx hb ht in_BT hown hK hP 0 rfl rfl 3 (by decide) (ht _ kf_BT_35) (fun _ h9 => h9) rfl d_BT_kept_19 ?_
  refine go_iz (run_V hx hb hml hown ht hK hP hD (c_SH_size) (cw_V ht km_BT_133 ki_SH_size ks_SH_size ini_SH kd_SH_size kh_SH_size ⟨Nat.le_of_ble_eq_true rfl, Nat.le_of_ble_eq_true rfl⟩ rfl rfl) (q0 := 9) (ci := 4) (As := []) (rest := [.int x1]) rfl rfl rfl hl.1 rfl (Nat.le_of_ble_eq_true rfl) d_BT_kept_22 ⟨Nat.zero_le _, Nat.zero_le _⟩) hD hS hA (fun z_22 H locs hz_22 hP hD hS => ?_)
  have hres := bindc_eq hz_22 hres
  have hok := bindp_eq hz_22 hok
  have hP : va_P G.1 classes (cC G ad nb nt cfa cle cwr csl cst cen cby cto csh cdz cch cva css cve cro crc cma cbi ces cbl crt) H := hP
  have hD : va_D A (cC G ad nb nt cfa cle cwr csl cst cen cby cto csh cdz cch cva css cve cro crc cma cbi ces cbl crt) := hD
  refine lv_icmp_ge (tgt := 37) hx hb d_BT_kept_25 (by decide) (fun c_25 => ?_) (fun c_25 => ?_)
  · have hres := it_t c_25 hres
    have hok := hok.1 c_25
    refine lv_iload_n hx hb d_BT_kept_37 rfl (lv_at hl 1 rfl) ?_
    refine lv_aload_n hx hb d_BT_kept_38 rfl (lv_at hl 0 rfl) ?_
    refine va_get (D := G.1) (ci := 0) (C := R_BT) (T := F_BT) (N := 5) hx hb ht in_BT hown hK hP 0 rfl rfl 3 (by decide) (ht _ kf_BT_35) (fun _ h9 => h9) rfl d_BT_kept_39 ?_
    refine go_iz (run_V hx hb hml hown ht hK hP hD (c_SH_size) (cw_V ht km_BT_133 ki_SH_size ks_SH_size ini_SH kd_SH_size kh_SH_size ⟨Nat.le_of_ble_eq_true rfl, Nat.le_of_ble_eq_true rfl⟩ rfl rfl) (q0 := 9) (ci := 4) (As := []) (rest := [.int x1]) rfl rfl rfl hl.1 rfl (Nat.le_of_ble_eq_true rfl) d_BT_kept_42 ⟨Nat.zero_le _, Nat.zero_le _⟩) hD hS hA (fun z_42 H locs hz_42 hP hD hS => ?_)
    have hres := bindc_eq hz_42 hres
    have hok := bindp_eq hz_42 hok
    have hP : va_P G.1 classes (cC G ad nb nt cfa cle cwr csl cst cen cby cto csh cdz cch cva css cve cro crc cma cbi ces cbl crt) H := hP
    have hD : va_D A (cC G ad nb nt cfa cle cwr csl cst cen cby cto csh cdz cch cva css cve cro crc cma cbi ces cbl crt) := hD
    refine lv_icmp_ne (tgt := 60) hx hb d_BT_kept_45 (by decide) (fun c_45 => ?_) (fun c_45 => ?_)
    · have hres := it_f c_45 hres
      refine lv_iconst (v := (-1 : Int32)) hx hb d_BT_kept_60 (by decide) ?_
      exact en_i (w1 := (fun _ : Unit => (cC G ad nb nt cfa cle cwr csl cst cen cby cto csh cdz cch cva css cve cro crc cma cbi ces cbl crt))) () hx hb hr hlocks hK hP hD hS hres d_BT_kept_61
    · have hres := it_t c_45 hres
      have hok := hok.1 c_45
      refine lv_aload_n hx hb d_BT_kept_48 rfl (lv_at hl 0 rfl) ?_
      refine lv_iconst (v := (0 : Int32)) hx hb d_BT_kept_49 (by decide) ?_
      have hk_50 := hok
      refine go_iz (run_V hx hb hml hown ht hK hP hD (c_BT_isKept hk_50) (cw_V ht km_BT_113 ki_BT_isKept ks_BT_isKept ini_BT kd_BT_isKept kh_BT_isKept ⟨Nat.le_of_ble_eq_true rfl, Nat.le_of_ble_eq_true rfl⟩ rfl rfl) (q0 := 0) (ci := 0) (As := [.int (0 : Int32)]) (rest := []) rfl rfl rfl hl.1 rfl (Nat.le_of_ble_eq_true rfl) d_BT_kept_50 ⟨Nat.zero_le _, Nat.zero_le _⟩) hD hS hA (fun z_50 H locs hz_50 hP hD hS => ?_)
      have hres := bindc_eq hz_50 hres
      have hP : va_P G.1 classes (cC G ad nb nt cfa cle cwr csl cst cen cby cto csh cdz cch cva css cve cro crc cma cbi ces cbl crt) H := hP
      have hD : va_D A (cC G ad nb nt cfa cle cwr csl cst cen cby cto csh cdz cch cva css cve cro crc cma cbi ces cbl crt) := hD
      refine lv_if_eq (tgt := 60) hx hb d_BT_kept_53 (by decide) (fun c_53 => ?_) (fun c_53 => ?_)
      · have hres := it_t c_53 hres
        refine lv_iconst (v := (-1 : Int32)) hx hb d_BT_kept_60 (by decide) ?_
        exact en_i (w1 := (fun _ : Unit => (cC G ad nb nt cfa cle cwr csl cst cen cby cto csh cdz cch cva css cve cro crc cma cbi ces cbl crt))) () hx hb hr hlocks hK hP hD hS hres d_BT_kept_61
      · have hres := it_f c_53 hres
        refine lv_iconst (v := (0 : Int32)) hx hb d_BT_kept_56 (by decide) ?_
        refine lv_goto (tgt := 61) hx hb d_BT_kept_57 (by decide) ?_
        exact en_i (w1 := (fun _ : Unit => (cC G ad nb nt cfa cle cwr csl cst cen cby cto csh cdz cch cva css cve cro crc cma cbi ces cbl crt))) () hx hb hr hlocks hK hP hD hS hres d_BT_kept_61
  · have hres := it_f c_25 hres
    have hok := hok.2 c_25
    refine lv_aload_n hx hb d_BT_kept_28 rfl (lv_at hl 0 rfl) ?_
    refine va_get (D := G.1) (ci := 0) (C := R_BT) (T := F_BT) (N := 5) hx hb ht in_BT hown hK hP 0 rfl rfl 3 (by decide) (ht _ kf_BT_35) (fun _ h9 => h9) rfl d_BT_kept_29 ?_
    refine lv_iload_n hx hb d_BT_kept_32 rfl (lv_at hl 1 rfl) ?_
    have hk_33 := hok
    refine go_iz (run_V hx hb hml hown ht hK hP hD (c_SH_versionFromNewest hk_33) (cw_V ht km_BT_134 ki_SH_versionFromNewest ks_SH_versionFromNewest ini_SH kd_SH_versionFromNewest kh_SH_versionFromNewest ⟨Nat.le_of_ble_eq_true rfl, Nat.le_of_ble_eq_true rfl⟩ rfl rfl) (q0 := 9) (ci := 4) (As := [.int x1]) (rest := []) rfl rfl rfl hl.1 rfl (Nat.le_of_ble_eq_true rfl) d_BT_kept_33 ⟨Nat.zero_le _, Nat.zero_le _⟩) hD hS hA (fun z_33 H locs hz_33 hP hD hS => ?_)
    have hres := bindc_eq hz_33 hres
    have hP : va_P G.1 classes (cC G ad nb nt cfa cle cwr csl cst cen cby cto csh cdz cch cva css cve cro crc cma cbi ces cbl crt) H := hP
    have hD : va_D A (cC G ad nb nt cfa cle cwr csl cst cen cby cto csh cdz cch cva css cve cro crc cma cbi ces cbl crt) := hD
    exact en_i (w1 := (fun _ : Unit => (cC G ad nb nt cfa cle cwr csl cst cen cby cto csh cdz cch cva css cve cro crc cma cbi ces cbl crt))) () hx hb hr hlocks hK hP hD hS hres d_BT_kept_36
def f_BT_kept (p0 : Int32) (cfa : Int32) (cst : Int32) (css : Int32) (cve : (Nat → Int32)) (cro : (Nat → Int32)) : Int32 × Unit := if p0 < 0 then f_BT_kept_10 p0 (0 : Int32) cfa cst css cve cro else f_BT_kept_10 p0 (1 : Int32) cfa cst css cve cro
def ok_BT_kept (nb : Nat) (nt : Nat) (p0 : Int32) (cfa : Int32) (cst : Int32) (css : Int32) (cve : (Nat → Int32)) (cro : (Nat → Int32)) : Prop := (p0 < 0 → ok_BT_kept_10 nb nt  p0 (0 : Int32) cfa cst css cve cro) ∧ (¬ p0 < 0 → ok_BT_kept_10 nb nt  p0 (1 : Int32) cfa cst css cve cro)
set_option maxHeartbeats 4000000 in
set_option maxRecDepth 100000 in
theorem c_BT_kept {l : Launch} {G : GG} {ad : Nat → Nat} {nb : Nat} {nt : Nat} {sz : Nat} {cfa : Int32} {cle : Int32} {cwr : Int32} {csl : Int32} {cst : Int32} {cen : Int32} {cby : (Nat → Int32)} {cto : (Nat → Int32)} {csh : (Nat → Int32)} {cdz : Int32} {cch : (Nat → Int32)} {cva : (Nat → Int32)} {css : Int32} {cve : (Nat → Int32)} {cro : (Nat → Int32)} {crc : Int32} {cma : (Nat → Int32)} {cbi : (Nat → Int32)} {ces : (Nat → Int32)} {cbl : (Nat → Int32)} {crt : (Nat → Int32)} {p0 : Int32} (hok : ok_BT_kept nb nt p0 cfa cst css cve cro) : CtI l y_BT_kept b_BT_kept 2 (some .int) rm_BT_kept G (cC G ad nb nt cfa cle cwr csl cst cen cby cto csh cdz cch cva css cve cro crc cma cbi ces cbl crt) sz [.ref (ad 0), .int p0] (eqP (f_BT_kept p0 cfa cst css cve cro)) (fun _ : Unit => (cC G ad nb nt cfa cle cwr csl cst cen cby cto csh cdz cch cva css cve cro crc cma cbi ces cbl crt)) := by
  generalize hres : f_BT_kept p0 cfa cst css cve cro = res
  refine Met_of (Qc := fun A => va_Qi (eqP res) (Wb G A (fun _ : Unit => (cC G ad nb nt cfa cle cwr csl cst cen cby cto csh cdz cch cva css cve cro crc cma cbi ces cbl crt))) A) (by decide) (Nat.le_of_ble_eq_true rfl) ?_
  intro p e s m below meth c hadm hx hb hr hml hown hlocks ht hK A hA hP hD hS ls hl
  have hC : Cx p l e s m (([.ref (ad 0), .int p0] : List Value)).toArray meth c y_BT_kept b_BT_kept 2 (some .int) "BookTrees" G A := ⟨hx, hb, hr, hml, hown, hlocks, ht, hK, hA⟩
  have hown : s.vm.findClass "BookTrees" = some m.cls := hown
  have hl : lv_has ls 2 [(0, .ref (ad 0)), (1, .int p0)] := hl
  rw [f_BT_kept] at hres
  rw [ok_BT_kept] at hok
  refine lv_aload_n hx hb d_BT_kept_0 rfl (lv_at hl 0 rfl) ?_
  refine lv_iload_n hx hb d_BT_kept_1 rfl (lv_at hl 1 rfl) ?_
  refine lv_if_lt (tgt := 9) hx hb d_BT_kept_2 (by decide) (fun c_2 => ?_) (fun c_2 => ?_)
  · have hres := it_t c_2 hres
    have hok := hok.1 c_2
    refine lv_iconst (v := (0 : Int32)) hx hb d_BT_kept_9 (by decide) ?_
    exact w_BT_kept_10 hC p0 (0 : Int32) _ _ _ hok hres hP hD hS (lv_sub hl [0, 1] rfl)
  · have hres := it_f c_2 hres
    have hok := hok.2 c_2
    refine lv_iconst (v := (1 : Int32)) hx hb d_BT_kept_5 (by decide) ?_
    refine lv_goto (tgt := 10) hx hb d_BT_kept_6 (by decide) ?_
    exact w_BT_kept_10 hC p0 (1 : Int32) _ _ _ hok hres hP hD hS (lv_sub hl [0, 1] rfl)
/-! ===== BookTrees$Power.failAfter(I)V ===== -/
abbrev rm_PW_failAfter : Room := { frames := 0, cells := 0, slots := 0, locals := 0 }
def f_PW_failAfter (p0 : Int32) (cfa : Int32) (cle : Int32) : Int32 × Int32 := if p0 = 0 then ((1 : Int32), p0) else ((0 : Int32), p0)
set_option maxHeartbeats 4000000 in
set_option maxRecDepth 100000 in
theorem c_PW_failAfter {l : Launch} {G : GG} {ad : Nat → Nat} {nb : Nat} {nt : Nat} {sz : Nat} {cfa : Int32} {cle : Int32} {cwr : Int32} {csl : Int32} {cst : Int32} {cen : Int32} {cby : (Nat → Int32)} {cto : (Nat → Int32)} {csh : (Nat → Int32)} {cdz : Int32} {cch : (Nat → Int32)} {cva : (Nat → Int32)} {css : Int32} {cve : (Nat → Int32)} {cro : (Nat → Int32)} {crc : Int32} {cma : (Nat → Int32)} {cbi : (Nat → Int32)} {ces : (Nat → Int32)} {cbl : (Nat → Int32)} {crt : (Nat → Int32)} {p0 : Int32} : CtV l y_PW_failAfter b_PW_failAfter 2 none rm_PW_failAfter G (cC G ad nb nt cfa cle cwr csl cst cen cby cto csh cdz cch cva css cve cro crc cma cbi ces cbl crt) sz [.ref (ad 1), .int p0] (eqV (f_PW_failAfter p0 cfa cle)) (fun u : Int32 × Int32 => (cC G ad nb nt u.1 u.2 cwr csl cst cen cby cto csh cdz cch cva css cve cro crc cma cbi ces cbl crt)) := by
  generalize hres : f_PW_failAfter p0 cfa cle = res
  refine Met_of (Qc := fun A => va_Qv (eqV res) (Wb G A (fun u : Int32 × Int32 => (cC G ad nb nt u.1 u.2 cwr csl cst cen cby cto csh cdz cch cva css cve cro crc cma cbi ces cbl crt))) A) (by decide) (Nat.le_of_ble_eq_true rfl) ?_
  intro p e s m below meth c hadm hx hb hr hml hown hlocks ht hK A hA hP hD hS ls hl
  have hC : Cx p l e s m (([.ref (ad 1), .int p0] : List Value)).toArray meth c y_PW_failAfter b_PW_failAfter 2 none "BookTrees$Power" G A := ⟨hx, hb, hr, hml, hown, hlocks, ht, hK, hA⟩
  have hown : s.vm.findClass "BookTrees$Power" = some m.cls := hown
  have hl : lv_has ls 2 [(0, .ref (ad 1)), (1, .int p0)] := hl
  rw [f_PW_failAfter] at hres
  refine lv_aload_n hx hb d_PW_failAfter_0 rfl (lv_at hl 0 rfl) ?_
  refine lv_iload_n hx hb d_PW_failAfter_1 rfl (lv_at hl 1 rfl) ?_
  refine va_put (D := G.1) (ci := 1) (v := .int p0) (ty := .int) (C := R_PW) (T := F_PW) (N := 3) hx hb ht in_PW t_PW to_PW nm_PW hown hK hP hD hS 1 rfl rfl 1 (by decide) (ht _ kf_PW_9) (fun _ h9 => h9) rfl (to_PW 1 (by decide)) rfl rfl (Nat.le_of_ble_eq_true rfl) d_PW_failAfter_2 (fun H locs hP hD hS => ?_)
  have hP : va_P G.1 classes (cC G ad nb nt cfa p0 cwr csl cst cen cby cto csh cdz cch cva css cve cro crc cma cbi ces cbl crt) H := hP
  have hD : va_D A (cC G ad nb nt cfa p0 cwr csl cst cen cby cto csh cdz cch cva css cve cro crc cma cbi ces cbl crt) := hD
  refine lv_aload_n hx hb d_PW_failAfter_5 rfl (lv_at hl 0 rfl) ?_
  refine lv_iload_n hx hb d_PW_failAfter_6 rfl (lv_at hl 1 rfl) ?_
  refine lv_if_ne (tgt := 14) hx hb d_PW_failAfter_7 (by decide) (fun c_7 => ?_) (fun c_7 => ?_)
  · have hres := it_f c_7 hres
    refine lv_iconst (v := (0 : Int32)) hx hb d_PW_failAfter_14 (by decide) ?_
    refine va_put (D := G.1) (ci := 1) (v := .int (0 : Int32)) (ty := .boolean) (C := R_PW) (T := F_PW) (N := 3) hx hb ht in_PW t_PW to_PW nm_PW hown hK hP hD hS 1 rfl rfl 0 (by decide) (ht _ kf_PW_15) (fun _ h9 => h9) rfl (to_PW 0 (by decide)) rfl rfl (Nat.le_of_ble_eq_true rfl) d_PW_failAfter_15 (fun H locs hP hD hS => ?_)
    have hP : va_P G.1 classes (cC G ad nb nt (0 : Int32) p0 cwr csl cst cen cby cto csh cdz cch cva css cve cro crc cma cbi ces cbl crt) H := hP
    have hD : va_D A (cC G ad nb nt (0 : Int32) p0 cwr csl cst cen cby cto csh cdz cch cva css cve cro crc cma cbi ces cbl crt) := hD
    exact en_v (w1 := (fun u : Int32 × Int32 => (cC G ad nb nt u.1 u.2 cwr csl cst cen cby cto csh cdz cch cva css cve cro crc cma cbi ces cbl crt))) ((0 : Int32), p0) hx hb hr hlocks hK hP hD hS hres d_PW_failAfter_18
  · have hres := it_t c_7 hres
    refine lv_iconst (v := (1 : Int32)) hx hb d_PW_failAfter_10 (by decide) ?_
    refine lv_goto (tgt := 15) hx hb d_PW_failAfter_11 (by decide) ?_
    refine va_put (D := G.1) (ci := 1) (v := .int (1 : Int32)) (ty := .boolean) (C := R_PW) (T := F_PW) (N := 3) hx hb ht in_PW t_PW to_PW nm_PW hown hK hP hD hS 1 rfl rfl 0 (by decide) (ht _ kf_PW_15) (fun _ h9 => h9) rfl (to_PW 0 (by decide)) rfl rfl (Nat.le_of_ble_eq_true rfl) d_PW_failAfter_15 (fun H locs hP hD hS => ?_)
    have hP : va_P G.1 classes (cC G ad nb nt (1 : Int32) p0 cwr csl cst cen cby cto csh cdz cch cva css cve cro crc cma cbi ces cbl crt) H := hP
    have hD : va_D A (cC G ad nb nt (1 : Int32) p0 cwr csl cst cen cby cto csh cdz cch cva css cve cro crc cma cbi ces cbl crt) := hD
    exact en_v (w1 := (fun u : Int32 × Int32 => (cC G ad nb nt u.1 u.2 cwr csl cst cen cby cto csh cdz cch cva css cve cro crc cma cbi ces cbl crt))) ((1 : Int32), p0) hx hb hr hlocks hK hP hD hS hres d_PW_failAfter_18
/-! ===== BookTrees.crash(I)V ===== -/
abbrev rm_BT_crash : Room := { frames := 2, cells := 0, slots := 0, locals := 40 }
def f_BT_crash (p0 : Int32) (cfa : Int32) (cle : Int32) : Int32 × Int32 := if p0 < (-1 : Int32) then bindc (f_BT_requireArgument (0 : Int32)) (fun z_17 => bindc (f_BT_requirePower cfa) (fun z_21 => bindc (f_PW_failAfter p0 cfa cle) (fun z_29 => (z_29.1, z_29.2)))) else if (100000 : Int32) < p0 then bindc (f_BT_requireArgument (0 : Int32)) (fun z_17 => bindc (f_BT_requirePower cfa) (fun z_21 => bindc (f_PW_failAfter p0 cfa cle) (fun z_29 => (z_29.1, z_29.2)))) else bindc (f_BT_requireArgument (1 : Int32)) (fun z_17 => bindc (f_BT_requirePower cfa) (fun z_21 => bindc (f_PW_failAfter p0 cfa cle) (fun z_29 => (z_29.1, z_29.2))))
def ok_BT_crash (nb : Nat) (nt : Nat) (p0 : Int32) (cfa : Int32) (cle : Int32) : Prop := (p0 < (-1 : Int32) → ok_BT_requireArgument nb nt (0 : Int32) ∧ bindp (f_BT_requireArgument (0 : Int32)) (fun z_17 => ok_BT_requirePower nb nt cfa)) ∧ (¬ p0 < (-1 : Int32) → ((100000 : Int32) < p0 → ok_BT_requireArgument nb nt (0 : Int32) ∧ bindp (f_BT_requireArgument (0 : Int32)) (fun z_17 => ok_BT_requirePower nb nt cfa)) ∧ (¬ (100000 : Int32) < p0 → ok_BT_requireArgument nb nt (1 : Int32) ∧ bindp (f_BT_requireArgument (1 : Int32)) (fun z_17 => ok_BT_requirePower nb nt cfa)))
set_option maxHeartbeats 4000000 in
set_option maxRecDepth 100000 in
theorem c_BT_crash {l : Launch} {G : GG} {ad : Nat → Nat} {nb : Nat} {nt : Nat} {sz : Nat} {cfa : Int32} {cle : Int32} {cwr : Int32} {csl : Int32} {cst : Int32} {cen : Int32} {cby : (Nat → Int32)} {cto : (Nat → Int32)} {csh : (Nat → Int32)} {cdz : Int32} {cch : (Nat → Int32)} {cva : (Nat → Int32)} {css : Int32} {cve : (Nat → Int32)} {cro : (Nat → Int32)} {crc : Int32} {cma : (Nat → Int32)} {cbi : (Nat → Int32)} {ces : (Nat → Int32)} {cbl : (Nat → Int32)} {crt : (Nat → Int32)} {p0 : Int32} (hok : ok_BT_crash nb nt p0 cfa cle) : CtV l y_BT_crash b_BT_crash 2 none rm_BT_crash G (cC G ad nb nt cfa cle cwr csl cst cen cby cto csh cdz cch cva css cve cro crc cma cbi ces cbl crt) sz [.ref (ad 0), .int p0] (eqV (f_BT_crash p0 cfa cle)) (fun u : Int32 × Int32 => (cC G ad nb nt u.1 u.2 cwr csl cst cen cby cto csh cdz cch cva css cve cro crc cma cbi ces cbl crt)) := by
  generalize hres : f_BT_crash p0 cfa cle = res
  refine Met_of (Qc := fun A => va_Qv (eqV res) (Wb G A (fun u : Int32 × Int32 => (cC G ad nb nt u.1 u.2 cwr csl cst cen cby cto csh cdz cch cva css cve cro crc cma cbi ces cbl crt))) A) (by decide) (Nat.le_of_ble_eq_true rfl) ?_
  intro p e s m below meth c hadm hx hb hr hml hown hlocks ht hK A hA hP hD hS ls hl
  have hC : Cx p l e s m (([.ref (ad 0), .int p0] : List Value)).toArray meth c y_BT_crash b_BT_crash 2 none "BookTrees" G A := ⟨hx, hb, hr, hml, hown, hlocks, ht, hK, hA⟩
  have hown : s.vm.findClass "BookTrees" = some m.cls := hown
  have hl : lv_has ls 2 [(0, .ref (ad 0)), (1, .int p0)] := hl
  rw [f_BT_crash] at hres
  rw [ok_BT_crash] at hok
  refine lv_aload_n hx hb d_BT_crash_0 rfl (lv_at hl 0 rfl) ?_
  refine lv_iload_n hx hb d_BT_crash_1 rfl (lv_at hl 1 rfl) ?_
  refine lv_iconst (v := (-1 : Int32)) hx hb d_BT_crash_2 (by decide) ?_
  refine lv_icmp_lt (tgt := 16) hx hb d_BT_crash_3 (by decide) (fun c_3 => ?_) (fun c_3 => ?_)
  · have hres := it_t c_3 hres
    have hok := hok.1 c_3
    refine lv_iconst (v := (0 : Int32)) hx hb d_BT_crash_16 (by decide) ?_
    obtain ⟨hk_17, hok⟩ := hok
    refine go_vz (run_V hx hb hml hown ht hK hP hD (c_BT_requireArgument hk_17) (cw_V ht km_BT_50 ki_BT_requireArgument ks_BT_requireArgument ini_BT kd_BT_requireArgument kh_BT_requireArgument ⟨Nat.le_of_ble_eq_true rfl, Nat.le_of_ble_eq_true rfl⟩ rfl rfl) (q0 := 0) (ci := 0) (As := [.int (0 : Int32)]) (rest := []) rfl rfl rfl hl.1 rfl (Nat.le_of_ble_eq_true rfl) d_BT_crash_17 ⟨Nat.zero_le _, Nat.zero_le _⟩) hD hS hA (fun z_17 H locs hz_17 hP hD hS => ?_)
    have hres := bindc_eq hz_17 hres
    have hok := bindp_eq hz_17 hok
    have hP : va_P G.1 classes (cC G ad nb nt cfa cle cwr csl cst cen cby cto csh cdz cch cva css cve cro crc cma cbi ces cbl crt) H := hP
    have hD : va_D A (cC G ad nb nt cfa cle cwr csl cst cen cby cto csh cdz cch cva css cve cro crc cma cbi ces cbl crt) := hD
    refine lv_aload_n hx hb d_BT_crash_20 rfl (lv_at hl 0 rfl) ?_
    have hk_21 := hok
    refine go_vz (run_V hx hb hml hown ht hK hP hD (c_BT_requirePower hk_21) (cw_V ht km_BT_54 ki_BT_requirePower ks_BT_requirePower ini_BT kd_BT_requirePower kh_BT_requirePower ⟨Nat.le_of_ble_eq_true rfl, Nat.le_of_ble_eq_true rfl⟩ rfl rfl) (q0 := 0) (ci := 0) (As := []) (rest := []) rfl rfl rfl hl.1 rfl (Nat.le_of_ble_eq_true rfl) d_BT_crash_21 ⟨Nat.zero_le _, Nat.zero_le _⟩) hD hS hA (fun z_21 H locs hz_21 hP hD hS => ?_)
    have hres := bindc_eq hz_21 hres
    have hP : va_P G.1 classes (cC G ad nb nt cfa cle cwr csl cst cen cby cto csh cdz cch cva css cve cro crc cma cbi ces cbl crt) H := hP
    have hD : va_D A (cC G ad nb nt cfa cle cwr csl cst cen cby cto csh cdz cch cva css cve cro crc cma cbi ces cbl crt) := hD
    refine lv_aload_n hx hb d_BT_crash_24 rfl (lv_at hl 0 rfl) ?_
    refine va_get (D := G.1) (ci := 0) (C := R_BT) (T := F_BT) (N := 5) hx hb ht in_BT hown hK hP 0 rfl rfl 0 (by decide) (ht _ kf_BT_10) (fun _ h9 => h9) rfl d_BT_crash_25 ?_
    refine lv_iload_n hx hb d_BT_crash_28 rfl (lv_at hl 1 rfl) ?_
    refine go_vz (run_V hx hb hml hown ht hK hP hD (c_PW_failAfter) (cw_V ht km_BT_138 ki_PW_failAfter ks_PW_failAfter ini_PW kd_PW_failAfter kh_PW_failAfter ⟨Nat.le_of_ble_eq_true rfl, Nat.le_of_ble_eq_true rfl⟩ rfl rfl) (q0 := 1) (ci := 1) (As := [.int p0]) (rest := []) rfl rfl rfl hl.1 rfl (Nat.le_of_ble_eq_true rfl) d_BT_crash_29 ⟨Nat.zero_le _, Nat.zero_le _⟩) hD hS hA (fun z_29 H locs hz_29 hP hD hS => ?_)
    have hres := bindc_eq hz_29 hres
    have hP : va_P G.1 classes (cC G ad nb nt z_29.1 z_29.2 cwr csl cst cen cby cto csh cdz cch cva css cve cro crc cma cbi ces cbl crt) H := hP
    have hD : va_D A (cC G ad nb nt z_29.1 z_29.2 cwr csl cst cen cby cto csh cdz cch cva css cve cro crc cma cbi ces cbl crt) := hD
    exact en_v (w1 := (fun u : Int32 × Int32 => (cC G ad nb nt u.1 u.2 cwr csl cst cen cby cto csh cdz cch cva css cve cro crc cma cbi ces cbl crt))) (z_29.1, z_29.2) hx hb hr hlocks hK hP hD hS hres d_BT_crash_32
  · have hres := it_f c_3 hres
    have hok := hok.2 c_3
    refine lv_iload_n hx hb d_BT_crash_6 rfl (lv_at hl 1 rfl) ?_
    refine lv_ldc hx hb hown (ht _ kk_BT_137) d_BT_crash_7 ?_
    refine lv_icmp_gt (tgt := 16) hx hb d_BT_crash_9 (by decide) (fun c_9 => ?_) (fun c_9 => ?_)
    · have hres := it_t c_9 hres
      have hok := hok.1 c_9
      refine lv_iconst (v := (0 : Int32)) hx hb d_BT_crash_16 (by decide) ?_
      obtain ⟨hk_17, hok⟩ := hok
      refine go_vz (run_V hx hb hml hown ht hK hP hD (c_BT_requireArgument hk_17) (cw_V ht km_BT_50 ki_BT_requireArgument ks_BT_requireArgument ini_BT kd_BT_requireArgument kh_BT_requireArgument ⟨Nat.le_of_ble_eq_true rfl, Nat.le_of_ble_eq_true rfl⟩ rfl rfl) (q0 := 0) (ci := 0) (As := [.int (0 : Int32)]) (rest := []) rfl rfl rfl hl.1 rfl (Nat.le_of_ble_eq_true rfl) d_BT_crash_17 ⟨Nat.zero_le _, Nat.zero_le _⟩) hD hS hA (fun z_17 H locs hz_17 hP hD hS => ?_)
      have hres := bindc_eq hz_17 hres
      have hok := bindp_eq hz_17 hok
      have hP : va_P G.1 classes (cC G ad nb nt cfa cle cwr csl cst cen cby cto csh cdz cch cva css cve cro crc cma cbi ces cbl crt) H := hP
      have hD : va_D A (cC G ad nb nt cfa cle cwr csl cst cen cby cto csh cdz cch cva css cve cro crc cma cbi ces cbl crt) := hD
      refine lv_aload_n hx hb d_BT_crash_20 rfl (lv_at hl 0 rfl) ?_
      have hk_21 := hok
      refine go_vz (run_V hx hb hml hown ht hK hP hD (c_BT_requirePower hk_21) (cw_V ht km_BT_54 ki_BT_requirePower ks_BT_requirePower ini_BT kd_BT_requirePower kh_BT_requirePower ⟨Nat.le_of_ble_eq_true rfl, Nat.le_of_ble_eq_true rfl⟩ rfl rfl) (q0 := 0) (ci := 0) (As := []) (rest := []) rfl rfl rfl hl.1 rfl (Nat.le_of_ble_eq_true rfl) d_BT_crash_21 ⟨Nat.zero_le _, Nat.zero_le _⟩) hD hS hA (fun z_21 H locs hz_21 hP hD hS => ?_)
      have hres := bindc_eq hz_21 hres
      have hP : va_P G.1 classes (cC G ad nb nt cfa cle cwr csl cst cen cby cto csh cdz cch cva css cve cro crc cma cbi ces cbl crt) H := hP
      have hD : va_D A (cC G ad nb nt cfa cle cwr csl cst cen cby cto csh cdz cch cva css cve cro crc cma cbi ces cbl crt) := hD
      refine lv_aload_n hx hb d_BT_crash_24 rfl (lv_at hl 0 rfl) ?_
      refine va_get (D := G.1) (ci := 0) (C := R_BT) (T := F_BT) (N := 5) hx hb ht in_BT hown hK hP 0 rfl rfl 0 (by decide) (ht _ kf_BT_10) (fun _ h9 => h9) rfl d_BT_crash_25 ?_
      refine lv_iload_n hx hb d_BT_crash_28 rfl (lv_at hl 1 rfl) ?_
      refine go_vz (run_V hx hb hml hown ht hK hP hD (c_PW_failAfter) (cw_V ht km_BT_138 ki_PW_failAfter ks_PW_failAfter ini_PW kd_PW_failAfter kh_PW_failAfter ⟨Nat.le_of_ble_eq_true rfl, Nat.le_of_ble_eq_true rfl⟩ rfl rfl) (q0 := 1) (ci := 1) (As := [.int p0]) (rest := []) rfl rfl rfl hl.1 rfl (Nat.le_of_ble_eq_true rfl) d_BT_crash_29 ⟨Nat.zero_le _, Nat.zero_le _⟩) hD hS hA (fun z_29 H locs hz_29 hP hD hS => ?_)
      have hres := bindc_eq hz_29 hres
      have hP : va_P G.1 classes (cC G ad nb nt z_29.1 z_29.2 cwr csl cst cen cby cto csh cdz cch cva css cve cro crc cma cbi ces cbl crt) H := hP
      have hD : va_D A (cC G ad nb nt z_29.1 z_29.2 cwr csl cst cen cby cto csh cdz cch cva css cve cro crc cma cbi ces cbl crt) := hD
      exact en_v (w1 := (fun u : Int32 × Int32 => (cC G ad nb nt u.1 u.2 cwr csl cst cen cby cto csh cdz cch cva css cve cro crc cma cbi ces cbl crt))) (z_29.1, z_29.2) hx hb hr hlocks hK hP hD hS hres d_BT_crash_32
    · have hres := it_f c_9 hres
      have hok := hok.2 c_9
      refine lv_iconst (v := (1 : Int32)) hx hb d_BT_crash_12 (by decide) ?_
      refine lv_goto (tgt := 17) hx hb d_BT_crash_13 (by decide) ?_
      obtain ⟨hk_17, hok⟩ := hok
      refine go_vz (run_V hx hb hml hown ht hK hP hD (c_BT_requireArgument hk_17) (cw_V ht km_BT_50 ki_BT_requireArgument ks_BT_requireArgument ini_BT kd_BT_requireArgument kh_BT_requireArgument ⟨Nat.le_of_ble_eq_true rfl, Nat.le_of_ble_eq_true rfl⟩ rfl rfl) (q0 := 0) (ci := 0) (As := [.int (1 : Int32)]) (rest := []) rfl rfl rfl hl.1 rfl (Nat.le_of_ble_eq_true rfl) d_BT_crash_17 ⟨Nat.zero_le _, Nat.zero_le _⟩) hD hS hA (fun z_17 H locs hz_17 hP hD hS => ?_)
      have hres := bindc_eq hz_17 hres
      have hok := bindp_eq hz_17 hok
      have hP : va_P G.1 classes (cC G ad nb nt cfa cle cwr csl cst cen cby cto csh cdz cch cva css cve cro crc cma cbi ces cbl crt) H := hP
      have hD : va_D A (cC G ad nb nt cfa cle cwr csl cst cen cby cto csh cdz cch cva css cve cro crc cma cbi ces cbl crt) := hD
      refine lv_aload_n hx hb d_BT_crash_20 rfl (lv_at hl 0 rfl) ?_
      have hk_21 := hok
      refine go_vz (run_V hx hb hml hown ht hK hP hD (c_BT_requirePower hk_21) (cw_V ht km_BT_54 ki_BT_requirePower ks_BT_requirePower ini_BT kd_BT_requirePower kh_BT_requirePower ⟨Nat.le_of_ble_eq_true rfl, Nat.le_of_ble_eq_true rfl⟩ rfl rfl) (q0 := 0) (ci := 0) (As := []) (rest := []) rfl rfl rfl hl.1 rfl (Nat.le_of_ble_eq_true rfl) d_BT_crash_21 ⟨Nat.zero_le _, Nat.zero_le _⟩) hD hS hA (fun z_21 H locs hz_21 hP hD hS => ?_)
      have hres := bindc_eq hz_21 hres
      have hP : va_P G.1 classes (cC G ad nb nt cfa cle cwr csl cst cen cby cto csh cdz cch cva css cve cro crc cma cbi ces cbl crt) H := hP
      have hD : va_D A (cC G ad nb nt cfa cle cwr csl cst cen cby cto csh cdz cch cva css cve cro crc cma cbi ces cbl crt) := hD
      refine lv_aload_n hx hb d_BT_crash_24 rfl (lv_at hl 0 rfl) ?_
      refine va_get (D := G.1) (ci := 0) (C := R_BT) (T := F_BT) (N := 5) hx hb ht in_BT hown hK hP 0 rfl rfl 0 (by decide) (ht _ kf_BT_10) (fun _ h9 => h9) rfl d_BT_crash_25 ?_
      refine lv_iload_n hx hb d_BT_crash_28 rfl (lv_at hl 1 rfl) ?_
      refine go_vz (run_V hx hb hml hown ht hK hP hD (c_PW_failAfter) (cw_V ht km_BT_138 ki_PW_failAfter ks_PW_failAfter ini_PW kd_PW_failAfter kh_PW_failAfter ⟨Nat.le_of_ble_eq_true rfl, Nat.le_of_ble_eq_true rfl⟩ rfl rfl) (q0 := 1) (ci := 1) (As := [.int p0]) (rest := []) rfl rfl rfl hl.1 rfl (Nat.le_of_ble_eq_true rfl) d_BT_crash_29 ⟨Nat.zero_le _, Nat.zero_le _⟩) hD hS hA (fun z_29 H locs hz_29 hP hD hS => ?_)
      have hres := bindc_eq hz_29 hres
      have hP : va_P G.1 classes (cC G ad nb nt z_29.1 z_29.2 cwr csl cst cen cby cto csh cdz cch cva css cve cro crc cma cbi ces cbl crt) H := hP
      have hD : va_D A (cC G ad nb nt z_29.1 z_29.2 cwr csl cst cen cby cto csh cdz cch cva css cve cro crc cma cbi ces cbl crt) := hD
      exact en_v (w1 := (fun u : Int32 × Int32 => (cC G ad nb nt u.1 u.2 cwr csl cst cen cby cto csh cdz cch cva css cve cro crc cma cbi ces cbl crt))) (z_29.1, z_29.2) hx hb hr hlocks hK hP hD hS hres d_BT_crash_32
/-! ===== BookTrees$Power.restore()V ===== -/
abbrev rm_PW_restore : Room := { frames := 0, cells := 0, slots := 0, locals := 0 }
def f_PW_restore  (cfa : Int32) (cle : Int32) : Int32 × Int32 := ((0 : Int32), (-1 : Int32))
set_option maxHeartbeats 4000000 in
set_option maxRecDepth 100000 in
theorem c_PW_restore {l : Launch} {G : GG} {ad : Nat → Nat} {nb : Nat} {nt : Nat} {sz : Nat} {cfa : Int32} {cle : Int32} {cwr : Int32} {csl : Int32} {cst : Int32} {cen : Int32} {cby : (Nat → Int32)} {cto : (Nat → Int32)} {csh : (Nat → Int32)} {cdz : Int32} {cch : (Nat → Int32)} {cva : (Nat → Int32)} {css : Int32} {cve : (Nat → Int32)} {cro : (Nat → Int32)} {crc : Int32} {cma : (Nat → Int32)} {cbi : (Nat → Int32)} {ces : (Nat → Int32)} {cbl : (Nat → Int32)} {crt : (Nat → Int32)}  : CtV l y_PW_restore b_PW_restore 1 none rm_PW_restore G (cC G ad nb nt cfa cle cwr csl cst cen cby cto csh cdz cch cva css cve cro crc cma cbi ces cbl crt) sz [.ref (ad 1)] (eqV (f_PW_restore cfa cle)) (fun u : Int32 × Int32 => (cC G ad nb nt u.1 u.2 cwr csl cst cen cby cto csh cdz cch cva css cve cro crc cma cbi ces cbl crt)) := by
  generalize hres : f_PW_restore cfa cle = res
  refine Met_of (Qc := fun A => va_Qv (eqV res) (Wb G A (fun u : Int32 × Int32 => (cC G ad nb nt u.1 u.2 cwr csl cst cen cby cto csh cdz cch cva css cve cro crc cma cbi ces cbl crt))) A) (by decide) (Nat.le_of_ble_eq_true rfl) ?_
  intro p e s m below meth c hadm hx hb hr hml hown hlocks ht hK A hA hP hD hS ls hl
  have hC : Cx p l e s m (([.ref (ad 1)] : List Value)).toArray meth c y_PW_restore b_PW_restore 1 none "BookTrees$Power" G A := ⟨hx, hb, hr, hml, hown, hlocks, ht, hK, hA⟩
  have hown : s.vm.findClass "BookTrees$Power" = some m.cls := hown
  have hl : lv_has ls 1 [(0, .ref (ad 1))] := hl
  rw [f_PW_restore] at hres
  refine lv_aload_n hx hb d_PW_restore_0 rfl (lv_at hl 0 rfl) ?_
  refine lv_iconst (v := (-1 : Int32)) hx hb d_PW_restore_1 (by decide) ?_
  refine va_put (D := G.1) (ci := 1) (v := .int (-1 : Int32)) (ty := .int) (C := R_PW) (T := F_PW) (N := 3) hx hb ht in_PW t_PW to_PW nm_PW hown hK hP hD hS 1 rfl rfl 1 (by decide) (ht _ kf_PW_9) (fun _ h9 => h9) rfl (to_PW 1 (by decide)) rfl rfl (Nat.le_of_ble_eq_true rfl) d_PW_restore_2 (fun H locs hP hD hS => ?_)
  have hP : va_P G.1 classes (cC G ad nb nt cfa (-1 : Int32) cwr csl cst cen cby cto csh cdz cch cva css cve cro crc cma cbi ces cbl crt) H := hP
  have hD : va_D A (cC G ad nb nt cfa (-1 : Int32) cwr csl cst cen cby cto csh cdz cch cva css cve cro crc cma cbi ces cbl crt) := hD
  refine lv_aload_n hx hb d_PW_restore_5 rfl (lv_at hl 0 rfl) ?_
  refine lv_iconst (v := (0 : Int32)) hx hb d_PW_restore_6 (by decide) ?_
  refine va_put (D := G.1) (ci := 1) (v := .int (0 : Int32)) (ty := .boolean) (C := R_PW) (T := F_PW) (N := 3) hx hb ht in_PW t_PW to_PW nm_PW hown hK hP hD hS 1 rfl rfl 0 (by decide) (ht _ kf_PW_15) (fun _ h9 => h9) rfl (to_PW 0 (by decide)) rfl rfl (Nat.le_of_ble_eq_true rfl) d_PW_restore_7 (fun H locs hP hD hS => ?_)
  have hP : va_P G.1 classes (cC G ad nb nt (0 : Int32) (-1 : Int32) cwr csl cst cen cby cto csh cdz cch cva css cve cro crc cma cbi ces cbl crt) H := hP
  have hD : va_D A (cC G ad nb nt (0 : Int32) (-1 : Int32) cwr csl cst cen cby cto csh cdz cch cva css cve cro crc cma cbi ces cbl crt) := hD
  exact en_v (w1 := (fun u : Int32 × Int32 => (cC G ad nb nt u.1 u.2 cwr csl cst cen cby cto csh cdz cch cva css cve cro crc cma cbi ces cbl crt))) ((0 : Int32), (-1 : Int32)) hx hb hr hlocks hK hP hD hS hres d_PW_restore_10
/-! ===== BookTrees$Roll.numberOf(I)I ===== -/
abbrev rm_RL_numberOf : Room := { frames := 2, cells := 0, slots := 0, locals := 43 }
def f_RL_numberOf (p0 : Int32) (csl : Int32) (cby : (Nat → Int32)) : Int32 × Unit := bindc (f_RL_offsetOf p0 csl) (fun z_6 => bindc (f_RL_intAt (z_6.1 + (40 : Int32)) cby) (fun z_12 => (z_12.1, ())))
def ok_RL_numberOf (nb : Nat) (nt : Nat) (p0 : Int32) (csl : Int32) (cby : (Nat → Int32)) : Prop := ok_RL_offsetOf nb nt p0 csl ∧ bindp (f_RL_offsetOf p0 csl) (fun z_6 => ok_RL_intAt nb nt (z_6.1 + (40 : Int32)) cby)
set_option maxHeartbeats 4000000 in
set_option maxRecDepth 100000 in
theorem c_RL_numberOf {l : Launch} {G : GG} {ad : Nat → Nat} {nb : Nat} {nt : Nat} {sz : Nat} {cfa : Int32} {cle : Int32} {cwr : Int32} {csl : Int32} {cst : Int32} {cen : Int32} {cby : (Nat → Int32)} {cto : (Nat → Int32)} {csh : (Nat → Int32)} {cdz : Int32} {cch : (Nat → Int32)} {cva : (Nat → Int32)} {css : Int32} {cve : (Nat → Int32)} {cro : (Nat → Int32)} {crc : Int32} {cma : (Nat → Int32)} {cbi : (Nat → Int32)} {ces : (Nat → Int32)} {cbl : (Nat → Int32)} {crt : (Nat → Int32)} {p0 : Int32} (hok : ok_RL_numberOf nb nt p0 csl cby) : CtI l y_RL_numberOf b_RL_numberOf 2 (some .int) rm_RL_numberOf G (cC G ad nb nt cfa cle cwr csl cst cen cby cto csh cdz cch cva css cve cro crc cma cbi ces cbl crt) sz [.ref (ad 2), .int p0] (eqP (f_RL_numberOf p0 csl cby)) (fun _ : Unit => (cC G ad nb nt cfa cle cwr csl cst cen cby cto csh cdz cch cva css cve cro crc cma cbi ces cbl crt)) := by
  generalize hres : f_RL_numberOf p0 csl cby = res
  refine Met_of (Qc := fun A => va_Qi (eqP res) (Wb G A (fun _ : Unit => (cC G ad nb nt cfa cle cwr csl cst cen cby cto csh cdz cch cva css cve cro crc cma cbi ces cbl crt))) A) (by decide) (Nat.le_of_ble_eq_true rfl) ?_
  intro p e s m below meth c hadm hx hb hr hml hown hlocks ht hK A hA hP hD hS ls hl
  have hC : Cx p l e s m (([.ref (ad 2), .int p0] : List Value)).toArray meth c y_RL_numberOf b_RL_numberOf 2 (some .int) "BookTrees$Roll" G A := ⟨hx, hb, hr, hml, hown, hlocks, ht, hK, hA⟩
  have hown : s.vm.findClass "BookTrees$Roll" = some m.cls := hown
  have hl : lv_has ls 2 [(0, .ref (ad 2)), (1, .int p0)] := hl
  rw [f_RL_numberOf] at hres
  rw [ok_RL_numberOf] at hok
  refine lv_aload_n hx hb d_RL_numberOf_0 rfl (lv_at hl 0 rfl) ?_
  refine va_get (D := G.1) (ci := 2) (C := R_RL) (T := F_RL) (N := 7) hx hb ht in_RL hown hK hP 2 rfl rfl 2 (by decide) (ht _ kf_RL_32) (fun _ h9 => h9) rfl d_RL_numberOf_1 ?_
  refine lv_aload_n hx hb d_RL_numberOf_4 rfl (lv_at hl 0 rfl) ?_
  refine lv_iload_n hx hb d_RL_numberOf_5 rfl (lv_at hl 1 rfl) ?_
  obtain ⟨hk_6, hok⟩ := hok
  refine go_iz (run_V hx hb hml hown ht hK hP hD (c_RL_offsetOf hk_6) (cw_V ht km_RL_45 ki_RL_offsetOf ks_RL_offsetOf ini_RL kd_RL_offsetOf kh_RL_offsetOf ⟨Nat.le_of_ble_eq_true rfl, Nat.le_of_ble_eq_true rfl⟩ rfl rfl) (q0 := 2) (ci := 2) (As := [.int p0]) (rest := [.ref (ad 3)]) rfl rfl rfl hl.1 rfl (Nat.le_of_ble_eq_true rfl) d_RL_numberOf_6 ⟨Nat.zero_le _, Nat.zero_le _⟩) hD hS hA (fun z_6 H locs hz_6 hP hD hS => ?_)
  have hres := bindc_eq hz_6 hres
  have hok := bindp_eq hz_6 hok
  have hP : va_P G.1 classes (cC G ad nb nt cfa cle cwr csl cst cen cby cto csh cdz cch cva css cve cro crc cma cbi ces cbl crt) H := hP
  have hD : va_D A (cC G ad nb nt cfa cle cwr csl cst cen cby cto csh cdz cch cva css cve cro crc cma cbi ces cbl crt) := hD
  refine lv_bipush (v := (40 : Int32)) hx hb d_RL_numberOf_9 (by decide) ?_
  refine lv_iadd hx hb d_RL_numberOf_11 ?_
  have hk_12 := hok
  refine go_iz (run_S hx hb hml hown ht hK hP hD (c_RL_intAt hk_12) (cw_S ht km_RL_56 kt_RL_intAt ini_RL kd_RL_intAt kh_RL_intAt ⟨Nat.le_of_ble_eq_true rfl, Nat.le_of_ble_eq_true rfl⟩ rfl rfl) (As := [.ref (ad 3), .int (z_6.1 + (40 : Int32))]) (rest := []) rfl hl.1 rfl (Nat.le_of_ble_eq_true rfl) d_RL_numberOf_12 ⟨Nat.zero_le _, Nat.zero_le _⟩) hD hS hA (fun z_12 H locs hz_12 hP hD hS => ?_)
  have hres := bindc_eq hz_12 hres
  have hP : va_P G.1 classes (cC G ad nb nt cfa cle cwr csl cst cen cby cto csh cdz cch cva css cve cro crc cma cbi ces cbl crt) H := hP
  have hD : va_D A (cC G ad nb nt cfa cle cwr csl cst cen cby cto csh cdz cch cva css cve cro crc cma cbi ces cbl crt) := hD
  exact en_i (w1 := (fun _ : Unit => (cC G ad nb nt cfa cle cwr csl cst cen cby cto csh cdz cch cva css cve cro crc cma cbi ces cbl crt))) () hx hb hr hlocks hK hP hD hS hres d_RL_numberOf_15
/-! ===== BookTrees$Roll.versionOf(I)I ===== -/
abbrev rm_RL_versionOf : Room := { frames := 2, cells := 0, slots := 0, locals := 43 }
def f_RL_versionOf (p0 : Int32) (csl : Int32) (cby : (Nat → Int32)) : Int32 × Unit := bindc (f_RL_offsetOf p0 csl) (fun z_6 => bindc (f_RL_intAt (z_6.1 + (4 : Int32)) cby) (fun z_11 => (z_11.1, ())))
def ok_RL_versionOf (nb : Nat) (nt : Nat) (p0 : Int32) (csl : Int32) (cby : (Nat → Int32)) : Prop := ok_RL_offsetOf nb nt p0 csl ∧ bindp (f_RL_offsetOf p0 csl) (fun z_6 => ok_RL_intAt nb nt (z_6.1 + (4 : Int32)) cby)
set_option maxHeartbeats 4000000 in
set_option maxRecDepth 100000 in
theorem c_RL_versionOf {l : Launch} {G : GG} {ad : Nat → Nat} {nb : Nat} {nt : Nat} {sz : Nat} {cfa : Int32} {cle : Int32} {cwr : Int32} {csl : Int32} {cst : Int32} {cen : Int32} {cby : (Nat → Int32)} {cto : (Nat → Int32)} {csh : (Nat → Int32)} {cdz : Int32} {cch : (Nat → Int32)} {cva : (Nat → Int32)} {css : Int32} {cve : (Nat → Int32)} {cro : (Nat → Int32)} {crc : Int32} {cma : (Nat → Int32)} {cbi : (Nat → Int32)} {ces : (Nat → Int32)} {cbl : (Nat → Int32)} {crt : (Nat → Int32)} {p0 : Int32} (hok : ok_RL_versionOf nb nt p0 csl cby) : CtI l y_RL_versionOf b_RL_versionOf 2 (some .int) rm_RL_versionOf G (cC G ad nb nt cfa cle cwr csl cst cen cby cto csh cdz cch cva css cve cro crc cma cbi ces cbl crt) sz [.ref (ad 2), .int p0] (eqP (f_RL_versionOf p0 csl cby)) (fun _ : Unit => (cC G ad nb nt cfa cle cwr csl cst cen cby cto csh cdz cch cva css cve cro crc cma cbi ces cbl crt)) := by
  generalize hres : f_RL_versionOf p0 csl cby = res
  refine Met_of (Qc := fun A => va_Qi (eqP res) (Wb G A (fun _ : Unit => (cC G ad nb nt cfa cle cwr csl cst cen cby cto csh cdz cch cva css cve cro crc cma cbi ces cbl crt))) A) (by decide) (Nat.le_of_ble_eq_true rfl) ?_
  intro p e s m below meth c hadm hx hb hr hml hown hlocks ht hK A hA hP hD hS ls hl
  have hC : Cx p l e s m (([.ref (ad 2), .int p0] : List Value)).toArray meth c y_RL_versionOf b_RL_versionOf 2 (some .int) "BookTrees$Roll" G A := ⟨hx, hb, hr, hml, hown, hlocks, ht, hK, hA⟩
  have hown : s.vm.findClass "BookTrees$Roll" = some m.cls := hown
  have hl : lv_has ls 2 [(0, .ref (ad 2)), (1, .int p0)] := hl
  rw [f_RL_versionOf] at hres
  rw [ok_RL_versionOf] at hok
  refine lv_aload_n hx hb d_RL_versionOf_0 rfl (lv_at hl 0 rfl) ?_
  refine va_get (D := G.1) (ci := 2) (C := R_RL) (T := F_RL) (N := 7) hx hb ht in_RL hown hK hP 2 rfl rfl 2 (by decide) (ht _ kf_RL_32) (fun _ h9 => h9) rfl d_RL_versionOf_1 ?_
  refine lv_aload_n hx hb d_RL_versionOf_4 rfl (lv_at hl 0 rfl) ?_
  refine lv_iload_n hx hb d_RL_versionOf_5 rfl (lv_at hl 1 rfl) ?_
  obtain ⟨hk_6, hok⟩ := hok
  refine go_iz (run_V hx hb hml hown ht hK hP hD (c_RL_offsetOf hk_6) (cw_V ht km_RL_45 ki_RL_offsetOf ks_RL_offsetOf ini_RL kd_RL_offsetOf kh_RL_offsetOf ⟨Nat.le_of_ble_eq_true rfl, Nat.le_of_ble_eq_true rfl⟩ rfl rfl) (q0 := 2) (ci := 2) (As := [.int p0]) (rest := [.ref (ad 3)]) rfl rfl rfl hl.1 rfl (Nat.le_of_ble_eq_true rfl) d_RL_versionOf_6 ⟨Nat.zero_le _, Nat.zero_le _⟩) hD hS hA (fun z_6 H locs hz_6 hP hD hS => ?_)
  have hres := bindc_eq hz_6 hres
  have hok := bindp_eq hz_6 hok
  have hP : va_P G.1 classes (cC G ad nb nt cfa cle cwr csl cst cen cby cto csh cdz cch cva css cve cro crc cma cbi ces cbl crt) H := hP
  have hD : va_D A (cC G ad nb nt cfa cle cwr csl cst cen cby cto csh cdz cch cva css cve cro crc cma cbi ces cbl crt) := hD
  refine lv_iconst (v := (4 : Int32)) hx hb d_RL_versionOf_9 (by decide) ?_
  refine lv_iadd hx hb d_RL_versionOf_10 ?_
  have hk_11 := hok
  refine go_iz (run_S hx hb hml hown ht hK hP hD (c_RL_intAt hk_11) (cw_S ht km_RL_56 kt_RL_intAt ini_RL kd_RL_intAt kh_RL_intAt ⟨Nat.le_of_ble_eq_true rfl, Nat.le_of_ble_eq_true rfl⟩ rfl rfl) (As := [.ref (ad 3), .int (z_6.1 + (4 : Int32))]) (rest := []) rfl hl.1 rfl (Nat.le_of_ble_eq_true rfl) d_RL_versionOf_11 ⟨Nat.zero_le _, Nat.zero_le _⟩) hD hS hA (fun z_11 H locs hz_11 hP hD hS => ?_)
  have hres := bindc_eq hz_11 hres
  have hP : va_P G.1 classes (cC G ad nb nt cfa cle cwr csl cst cen cby cto csh cdz cch cva css cve cro crc cma cbi ces cbl crt) H := hP
  have hD : va_D A (cC G ad nb nt cfa cle cwr csl cst cen cby cto csh cdz cch cva css cve cro crc cma cbi ces cbl crt) := hD
  exact en_i (w1 := (fun _ : Unit => (cC G ad nb nt cfa cle cwr csl cst cen cby cto csh cdz cch cva css cve cro crc cma cbi ces cbl crt))) () hx hb hr hlocks hK hP hD hS hres d_RL_versionOf_14
/-! ===== BookTrees$Roll.isWholeRoot(I)Z ===== -/
abbrev rm_RL_isWholeRoot : Room := { frames := 3, cells := 0, slots := 0, locals := 65 }
def f_RL_isWholeRoot (p0 : Int32) (csl : Int32) (cby : (Nat → Int32)) (cto : (Nat → Int32)) : Int32 × Unit := bindc (f_RL_offsetOf p0 csl) (fun z_2 => bindc (f_RL_numberOf p0 csl cby) (fun z_8 => bindc (f_RL_versionOf p0 csl cby) (fun z_14 => bindc (f_RL_entryOf p0 (2 : Int32) csl cby) (fun z_22 => bindc (f_RL_byteOf p0 (0 : Int32) csl cby) (fun z_30 => if z_30.1 = (4 : Int32) then (if z_8.1 < 0 then ((0 : Int32), ()) else if (1000000 : Int32) < z_8.1 then ((0 : Int32), ()) else bindc (f_RL_offsetOf z_8.1 csl) (fun z_49 => if z_49.1 = z_2.1 then (if z_14.1 < (1 : Int32) then ((0 : Int32), ()) else if (1000000 : Int32) < z_14.1 then ((0 : Int32), ()) else if z_22.1 < 0 then ((0 : Int32), ()) else if z_8.1 < z_22.1 then ((0 : Int32), ()) else if csl ≤ (z_8.1 - z_22.1) then ((0 : Int32), ()) else bindc (f_RL_isSumRight z_2.1 cby cto) (fun z_93 => if z_93.1 = 0 then ((0 : Int32), ()) else ((1 : Int32), ()))) else ((0 : Int32), ()))) else ((0 : Int32), ()))))))
def ok_RL_isWholeRoot (nb : Nat) (nt : Nat) (p0 : Int32) (csl : Int32) (cby : (Nat → Int32)) (cto : (Nat → Int32)) : Prop := ok_RL_offsetOf nb nt p0 csl ∧ bindp (f_RL_offsetOf p0 csl) (fun z_2 => ok_RL_numberOf nb nt p0 csl cby ∧ bindp (f_RL_numberOf p0 csl cby) (fun z_8 => ok_RL_versionOf nb nt p0 csl cby ∧ bindp (f_RL_versionOf p0 csl cby) (fun z_14 => ok_RL_entryOf nb nt p0 (2 : Int32) csl cby ∧ bindp (f_RL_entryOf p0 (2 : Int32) csl cby) (fun z_22 => ok_RL_byteOf nb nt p0 (0 : Int32) csl cby ∧ bindp (f_RL_byteOf p0 (0 : Int32) csl cby) (fun z_30 => (z_30.1 = (4 : Int32) → (z_8.1 < 0 → True) ∧ (¬ z_8.1 < 0 → ((1000000 : Int32) < z_8.1 → True) ∧ (¬ (1000000 : Int32) < z_8.1 → ok_RL_offsetOf nb nt z_8.1 csl ∧ bindp (f_RL_offsetOf z_8.1 csl) (fun z_49 => (z_49.1 = z_2.1 → (z_14.1 < (1 : Int32) → True) ∧ (¬ z_14.1 < (1 : Int32) → ((1000000 : Int32) < z_14.1 → True) ∧ (¬ (1000000 : Int32) < z_14.1 → (z_22.1 < 0 → True) ∧ (¬ z_22.1 < 0 → (z_8.1 < z_22.1 → True) ∧ (¬ z_8.1 < z_22.1 → (csl ≤ (z_8.1 - z_22.1) → True) ∧ (¬ csl ≤ (z_8.1 - z_22.1) → ok_RL_isSumRight nb nt z_2.1 cby cto)))))) ∧ (¬ z_49.1 = z_2.1 → True))))) ∧ (¬ z_30.1 = (4 : Int32) → True))))))
set_option maxHeartbeats 4000000 in
set_option maxRecDepth 100000 in
theorem c_RL_isWholeRoot {l : Launch} {G : GG} {ad : Nat → Nat} {nb : Nat} {nt : Nat} {sz : Nat} {cfa : Int32} {cle : Int32} {cwr : Int32} {csl : Int32} {cst : Int32} {cen : Int32} {cby : (Nat → Int32)} {cto : (Nat → Int32)} {csh : (Nat → Int32)} {cdz : Int32} {cch : (Nat → Int32)} {cva : (Nat → Int32)} {css : Int32} {cve : (Nat → Int32)} {cro : (Nat → Int32)} {crc : Int32} {cma : (Nat → Int32)} {cbi : (Nat → Int32)} {ces : (Nat → Int32)} {cbl : (Nat → Int32)} {crt : (Nat → Int32)} {p0 : Int32} (hok : ok_RL_isWholeRoot nb nt p0 csl cby cto) : CtI l y_RL_isWholeRoot b_RL_isWholeRoot 6 (some .boolean) rm_RL_isWholeRoot G (cC G ad nb nt cfa cle cwr csl cst cen cby cto csh cdz cch cva css cve cro crc cma cbi ces cbl crt) sz [.ref (ad 2), .int p0] (eqP (f_RL_isWholeRoot p0 csl cby cto)) (fun _ : Unit => (cC G ad nb nt cfa cle cwr csl cst cen cby cto csh cdz cch cva css cve cro crc cma cbi ces cbl crt)) := by
  generalize hres : f_RL_isWholeRoot p0 csl cby cto = res
  refine Met_of (Qc := fun A => va_Qi (eqP res) (Wb G A (fun _ : Unit => (cC G ad nb nt cfa cle cwr csl cst cen cby cto csh cdz cch cva css cve cro crc cma cbi ces cbl crt))) A) (by decide) (Nat.le_of_ble_eq_true rfl) ?_
  intro p e s m below meth c hadm hx hb hr hml hown hlocks ht hK A hA hP hD hS ls hl
  have hC : Cx p l e s m (([.ref (ad 2), .int p0] : List Value)).toArray meth c y_RL_isWholeRoot b_RL_isWholeRoot 6 (some .boolean) "BookTrees$Roll" G A := ⟨hx, hb, hr, hml, hown, hlocks, ht, hK, hA⟩
  have hown : s.vm.findClass "BookTrees$Roll" = some m.cls := hown
  have hl : lv_has ls 6 [(0, .ref (ad 2)), (1, .int p0)] := hl
  rw [f_RL_isWholeRoot] at hres
  rw [ok_RL_isWholeRoot] at hok
  refine lv_aload_n hx hb d_RL_isWholeRoot_0 rfl (lv_at hl 0 rfl) ?_
  refine lv_iload_n hx hb d_RL_isWholeRoot_1 rfl (lv_at hl 1 rfl) ?_
  obtain ⟨hk_2, hok⟩ := hok
  refine go_iz (run_V hx hb hml hown ht hK hP hD (c_RL_offsetOf hk_2) (cw_V ht km_RL_45 ki_RL_offsetOf ks_RL_offsetOf ini_RL kd_RL_offsetOf kh_RL_offsetOf ⟨Nat.le_of_ble_eq_true rfl, Nat.le_of_ble_eq_true rfl⟩ rfl rfl) (q0 := 2) (ci := 2) (As := [.int p0]) (rest := []) rfl rfl rfl hl.1 rfl (Nat.le_of_ble_eq_true rfl) d_RL_isWholeRoot_2 ⟨Nat.zero_le _, Nat.zero_le _⟩) hD hS hA (fun z_2 H locs hz_2 hP hD hS => ?_)
  have hres := bindc_eq hz_2 hres
  have hok := bindp_eq hz_2 hok
  have hP : va_P G.1 classes (cC G ad nb nt cfa cle cwr csl cst cen cby cto csh cdz cch cva css cve cro crc cma cbi ces cbl crt) H := hP
  have hD : va_D A (cC G ad nb nt cfa cle cwr csl cst cen cby cto csh cdz cch cva css cve cro crc cma cbi ces cbl crt) := hD
  refine lv_istore_n (lv' := [(2, .int z_2.1), (0, .ref (ad 2)), (1, .int p0)]) hx hb d_RL_isWholeRoot_5 rfl hl (by decide) rfl (fun ls hl => ?_)
  refine lv_aload_n hx hb d_RL_isWholeRoot_6 rfl (lv_at hl 1 rfl) ?_
  refine lv_iload_n hx hb d_RL_isWholeRoot_7 rfl (lv_at hl 2 rfl) ?_
  obtain ⟨hk_8, hok⟩ := hok
  refine go_iz (run_V hx hb hml hown ht hK hP hD (c_RL_numberOf hk_8) (cw_V ht km_RL_70 ki_RL_numberOf ks_RL_numberOf ini_RL kd_RL_numberOf kh_RL_numberOf ⟨Nat.le_of_ble_eq_true rfl, Nat.le_of_ble_eq_true rfl⟩ rfl rfl) (q0 := 2) (ci := 2) (As := [.int p0]) (rest := []) rfl rfl rfl hl.1 rfl (Nat.le_of_ble_eq_true rfl) d_RL_isWholeRoot_8 ⟨Nat.zero_le _, Nat.zero_le _⟩) hD hS hA (fun z_8 H locs hz_8 hP hD hS => ?_)
  have hres := bindc_eq hz_8 hres
  have hok := bindp_eq hz_8 hok
  have hP : va_P G.1 classes (cC G ad nb nt cfa cle cwr csl cst cen cby cto csh cdz cch cva css cve cro crc cma cbi ces cbl crt) H := hP
  have hD : va_D A (cC G ad nb nt cfa cle cwr csl cst cen cby cto csh cdz cch cva css cve cro crc cma cbi ces cbl crt) := hD
  refine lv_istore_n (lv' := [(3, .int z_8.1), (2, .int z_2.1), (0, .ref (ad 2)), (1, .int p0)]) hx hb d_RL_isWholeRoot_11 rfl hl (by decide) rfl (fun ls hl => ?_)
  refine lv_aload_n hx hb d_RL_isWholeRoot_12 rfl (lv_at hl 2 rfl) ?_
  refine lv_iload_n hx hb d_RL_isWholeRoot_13 rfl (lv_at hl 3 rfl) ?_
  obtain ⟨hk_14, hok⟩ := hok
  refine go_iz (run_V hx hb hml hown ht hK hP hD (c_RL_versionOf hk_14) (cw_V ht km_RL_73 ki_RL_versionOf ks_RL_versionOf ini_RL kd_RL_versionOf kh_RL_versionOf ⟨Nat.le_of_ble_eq_true rfl, Nat.le_of_ble_eq_true rfl⟩ rfl rfl) (q0 := 2) (ci := 2) (As := [.int p0]) (rest := []) rfl rfl rfl hl.1 rfl (Nat.le_of_ble_eq_true rfl) d_RL_isWholeRoot_14 ⟨Nat.zero_le _, Nat.zero_le _⟩) hD hS hA (fun z_14 H locs hz_14 hP hD hS => ?_)
  have hres := bindc_eq hz_14 hres
  have hok := bindp_eq hz_14 hok
  have hP : va_P G.1 classes (cC G ad nb nt cfa cle cwr csl cst cen cby cto csh cdz cch cva css cve cro crc cma cbi ces cbl crt) H := hP
  have hD : va_D A (cC G ad nb nt cfa cle cwr csl cst cen cby cto csh cdz cch cva css cve cro crc cma cbi ces cbl crt) := hD
  refine lv_istore (lv' := [(4, .int z_14.1), (3, .int z_8.1), (2, .int z_2.1), (0, .ref (ad 2)), (1, .int p0)]) hx hb d_RL_isWholeRoot_17 hl (by decide) rfl (fun ls hl => ?_)
  refine lv_aload_n hx hb d_RL_isWholeRoot_19 rfl (lv_at hl 3 rfl) ?_
  refine lv_iload_n hx hb d_RL_isWholeRoot_20 rfl (lv_at hl 4 rfl) ?_
  refine lv_iconst (v := (2 : Int32)) hx hb d_RL_isWholeRoot_21 (by decide) ?_
  obtain ⟨hk_22, hok⟩ := hok
  refine go_iz (run_V hx hb hml hown ht hK hP hD (c_RL_entryOf hk_22) (cw_V ht km_RL_76 ki_RL_entryOf ks_RL_entryOf ini_RL kd_RL_entryOf kh_RL_entryOf ⟨Nat.le_of_ble_eq_true rfl, Nat.le_of_ble_eq_true rfl⟩ rfl rfl) (q0 := 2) (ci := 2) (As := [.int p0, .int (2 : Int32)]) (rest := []) rfl rfl rfl hl.1 rfl (Nat.le_of_ble_eq_true rfl) d_RL_isWholeRoot_22 ⟨Nat.zero_le _, Nat.zero_le _⟩) hD hS hA (fun z_22 H locs hz_22 hP hD hS => ?_)
  have hres := bindc_eq hz_22 hres
  have hok := bindp_eq hz_22 hok
  have hP : va_P G.1 classes (cC G ad nb nt cfa cle cwr csl cst cen cby cto csh cdz cch cva css cve cro crc cma cbi ces cbl crt) H := hP
  have hD : va_D A (cC G ad nb nt cfa cle cwr csl cst cen cby cto csh cdz cch cva css cve cro crc cma cbi ces cbl crt) := hD
  refine lv_istore (lv' := [(5, .int z_22.1), (4, .int z_14.1), (3, .int z_8.1), (2, .int z_2.1), (0, .ref (ad 2)), (1, .int p0)]) hx hb d_RL_isWholeRoot_25 hl (by decide) rfl (fun ls hl => ?_)
  refine lv_aload_n hx hb d_RL_isWholeRoot_27 rfl (lv_at hl 4 rfl) ?_
  refine lv_iload_n hx hb d_RL_isWholeRoot_28 rfl (lv_at hl 5 rfl) ?_
  refine lv_iconst (v := (0 : Int32)) hx hb d_RL_isWholeRoot_29 (by decide) ?_
  obtain ⟨hk_30, hok⟩ := hok
  refine go_iz (run_V hx hb hml hown ht hK hP hD (c_RL_byteOf hk_30) (cw_V ht km_RL_49 ki_RL_byteOf ks_RL_byteOf ini_RL kd_RL_byteOf kh_RL_byteOf ⟨Nat.le_of_ble_eq_true rfl, Nat.le_of_ble_eq_true rfl⟩ rfl rfl) (q0 := 2) (ci := 2) (As := [.int p0, .int (0 : Int32)]) (rest := []) rfl rfl rfl hl.1 rfl (Nat.le_of_ble_eq_true rfl) d_RL_isWholeRoot_30 ⟨Nat.zero_le _, Nat.zero_le _⟩) hD hS hA (fun z_30 H locs hz_30 hP hD hS => ?_)
  have hres := bindc_eq hz_30 hres
  have hok := bindp_eq hz_30 hok
  have hP : va_P G.1 classes (cC G ad nb nt cfa cle cwr csl cst cen cby cto csh cdz cch cva css cve cro crc cma cbi ces cbl crt) H := hP
  have hD : va_D A (cC G ad nb nt cfa cle cwr csl cst cen cby cto csh cdz cch cva css cve cro crc cma cbi ces cbl crt) := hD
  refine lv_iconst (v := (4 : Int32)) hx hb d_RL_isWholeRoot_33 (by decide) ?_
  refine lv_icmp_ne (tgt := 103) hx hb d_RL_isWholeRoot_34 (by decide) (fun c_34 => ?_) (fun c_34 => ?_)
  · have hres := it_f c_34 hres
    refine lv_iconst (v := (0 : Int32)) hx hb d_RL_isWholeRoot_103 (by decide) ?_
    exact en_z (w1 := (fun _ : Unit => (cC G ad nb nt cfa cle cwr csl cst cen cby cto csh cdz cch cva css cve cro crc cma cbi ces cbl crt))) () hx hb hr hlocks hK hP hD hS hres isB_0 d_RL_isWholeRoot_104
  · have hres := it_t c_34 hres
    have hok := hok.1 c_34
    refine lv_iload_n hx hb d_RL_isWholeRoot_37 rfl (lv_at hl 2 rfl) ?_
    refine lv_if_lt (tgt := 103) hx hb d_RL_isWholeRoot_38 (by decide) (fun c_38 => ?_) (fun c_38 => ?_)
    · have hres := it_t c_38 hres
      refine lv_iconst (v := (0 : Int32)) hx hb d_RL_isWholeRoot_103 (by decide) ?_
      exact en_z (w1 := (fun _ : Unit => (cC G ad nb nt cfa cle cwr csl cst cen cby cto csh cdz cch cva css cve cro crc cma cbi ces cbl crt))) () hx hb hr hlocks hK hP hD hS hres isB_0 d_RL_isWholeRoot_104
    · have hres := it_f c_38 hres
      have hok := hok.2 c_38
      refine lv_iload_n hx hb d_RL_isWholeRoot_41 rfl (lv_at hl 2 rfl) ?_
      refine lv_ldc hx hb hown (ht _ kk_RL_79) d_RL_isWholeRoot_42 ?_
      refine lv_icmp_gt (tgt := 103) hx hb d_RL_isWholeRoot_44 (by decide) (fun c_44 => ?_) (fun c_44 => ?_)
      · have hres := it_t c_44 hres
        refine lv_iconst (v := (0 : Int32)) hx hb d_RL_isWholeRoot_103 (by decide) ?_
        exact en_z (w1 := (fun _ : Unit => (cC G ad nb nt cfa cle cwr csl cst cen cby cto csh cdz cch cva css cve cro crc cma cbi ces cbl crt))) () hx hb hr hlocks hK hP hD hS hres isB_0 d_RL_isWholeRoot_104
      · have hres := it_f c_44 hres
        have hok := hok.2 c_44
        refine lv_aload_n hx hb d_RL_isWholeRoot_47 rfl (lv_at hl 4 rfl) ?_
        refine lv_iload_n hx hb d_RL_isWholeRoot_48 rfl (lv_at hl 2 rfl) ?_
        obtain ⟨hk_49, hok⟩ := hok
        refine go_iz (run_V hx hb hml hown ht hK hP hD (c_RL_offsetOf hk_49) (cw_V ht km_RL_45 ki_RL_offsetOf ks_RL_offsetOf ini_RL kd_RL_offsetOf kh_RL_offsetOf ⟨Nat.le_of_ble_eq_true rfl, Nat.le_of_ble_eq_true rfl⟩ rfl rfl) (q0 := 2) (ci := 2) (As := [.int z_8.1]) (rest := []) rfl rfl rfl hl.1 rfl (Nat.le_of_ble_eq_true rfl) d_RL_isWholeRoot_49 ⟨Nat.zero_le _, Nat.zero_le _⟩) hD hS hA (fun z_49 H locs hz_49 hP hD hS => ?_)
        have hres := bindc_eq hz_49 hres
        have hok := bindp_eq hz_49 hok
        have hP : va_P G.1 classes (cC G ad nb nt cfa cle cwr csl cst cen cby cto csh cdz cch cva css cve cro crc cma cbi ces cbl crt) H := hP
        have hD : va_D A (cC G ad nb nt cfa cle cwr csl cst cen cby cto csh cdz cch cva css cve cro crc cma cbi ces cbl crt) := hD
        refine lv_iload_n hx hb d_RL_isWholeRoot_52 rfl (lv_at hl 3 rfl) ?_
        refine lv_icmp_ne (tgt := 103) hx hb d_RL_isWholeRoot_53 (by decide) (fun c_53 => ?_) (fun c_53 => ?_)
        · have hres := it_f c_53 hres
          refine lv_iconst (v := (0 : Int32)) hx hb d_RL_isWholeRoot_103 (by decide) ?_
          exact en_z (w1 := (fun _ : Unit => (cC G ad nb nt cfa cle cwr csl cst cen cby cto csh cdz cch cva css cve cro crc cma cbi ces cbl crt))) () hx hb hr hlocks hK hP hD hS hres isB_0 d_RL_isWholeRoot_104
        · have hres := it_t c_53 hres
          have hok := hok.1 c_53
          refine lv_iload hx hb d_RL_isWholeRoot_56 (lv_at hl 1 rfl) ?_
          refine lv_iconst (v := (1 : Int32)) hx hb d_RL_isWholeRoot_58 (by decide) ?_
          refine lv_icmp_lt (tgt := 103) hx hb d_RL_isWholeRoot_59 (by decide) (fun c_59 => ?_) (fun c_59 => ?_)
          · have hres := it_t c_59 hres
            refine lv_iconst (v := (0 : Int32)) hx hb d_RL_isWholeRoot_103 (by decide) ?_
            exact en_z (w1 := (fun _ : Unit => (cC G ad nb nt cfa cle cwr csl cst cen cby cto csh cdz cch cva css cve cro crc cma cbi ces cbl crt))) () hx hb hr hlocks hK hP hD hS hres isB_0 d_RL_isWholeRoot_104
          · have hres := it_f c_59 hres
            have hok := hok.2 c_59
            refine lv_iload hx hb d_RL_isWholeRoot_62 (lv_at hl 1 rfl) ?_
            refine lv_ldc hx hb hown (ht _ kk_RL_79) d_RL_isWholeRoot_64 ?_
            refine lv_icmp_gt (tgt := 103) hx hb d_RL_isWholeRoot_66 (by decide) (fun c_66 => ?_) (fun c_66 => ?_)
            · have hres := it_t c_66 hres
              refine lv_iconst (v := (0 : Int32)) hx hb d_RL_isWholeRoot_103 (by decide) ?_
              exact en_z (w1 := (fun _ : Unit => (cC G ad nb nt cfa cle cwr csl cst cen cby cto csh cdz cch cva css cve cro crc cma cbi ces cbl crt))) () hx hb hr hlocks hK hP hD hS hres isB_0 d_RL_isWholeRoot_104
            · have hres := it_f c_66 hres
              have hok := hok.2 c_66
              refine lv_iload hx hb d_RL_isWholeRoot_69 (lv_at hl 0 rfl) ?_
              refine lv_if_lt (tgt := 103) hx hb d_RL_isWholeRoot_71 (by decide) (fun c_71 => ?_) (fun c_71 => ?_)
              · have hres := it_t c_71 hres
                refine lv_iconst (v := (0 : Int32)) hx hb d_RL_isWholeRoot_103 (by decide) ?_
                exact en_z (w1 := (fun _ : Unit => (cC G ad nb nt cfa cle cwr csl cst cen cby cto csh cdz cch cva css cve cro crc cma cbi ces cbl crt))) () hx hb hr hlocks hK hP hD hS hres isB_0 d_RL_isWholeRoot_104
              · have hres := it_f c_71 hres
                have hok := hok.2 c_71
                refine lv_iload hx hb d_RL_isWholeRoot_74 (lv_at hl 0 rfl) ?_
                refine lv_iload_n hx hb d_RL_isWholeRoot_76 rfl (lv_at hl 2 rfl) ?_
                refine lv_icmp_gt (tgt := 103) hx hb d_RL_isWholeRoot_77 (by decide) (fun c_77 => ?_) (fun c_77 => ?_)
                · have hres := it_t c_77 hres
                  refine lv_iconst (v := (0 : Int32)) hx hb d_RL_isWholeRoot_103 (by decide) ?_
                  exact en_z (w1 := (fun _ : Unit => (cC G ad nb nt cfa cle cwr csl cst cen cby cto csh cdz cch cva css cve cro crc cma cbi ces cbl crt))) () hx hb hr hlocks hK hP hD hS hres isB_0 d_RL_isWholeRoot_104
                · have hres := it_f c_77 hres
                  have hok := hok.2 c_77
                  refine lv_iload_n hx hb d_RL_isWholeRoot_80 rfl (lv_at hl 2 rfl) ?_
                  refine lv_iload hx hb d_RL_isWholeRoot_81 (lv_at hl 0 rfl) ?_
                  refine lv_isub hx hb d_RL_isWholeRoot_83 ?_
                  refine lv_aload_n hx hb d_RL_isWholeRoot_84 rfl (lv_at hl 4 rfl) ?_
                  refine va_get (D := G.1) (ci := 2) (C := R_RL) (T := F_RL) (N := 7) hx hb ht in_RL hown hK hP 2 rfl rfl 1 (by decide) (ht _ kf_RL_28) (fun _ h9 => h9) rfl d_RL_isWholeRoot_85 ?_
                  refine lv_icmp_ge (tgt := 103) hx hb d_RL_isWholeRoot_88 (by decide) (fun c_88 => ?_) (fun c_88 => ?_)
                  · have hres := it_t c_88 hres
                    refine lv_iconst (v := (0 : Int32)) hx hb d_RL_isWholeRoot_103 (by decide) ?_
                    exact en_z (w1 := (fun _ : Unit => (cC G ad nb nt cfa cle cwr csl cst cen cby cto csh cdz cch cva css cve cro crc cma cbi ces cbl crt))) () hx hb hr hlocks hK hP hD hS hres isB_0 d_RL_isWholeRoot_104
                  · have hres := it_f c_88 hres
                    have hok := hok.2 c_88
                    refine lv_aload_n hx hb d_RL_isWholeRoot_91 rfl (lv_at hl 4 rfl) ?_
                    refine lv_iload_n hx hb d_RL_isWholeRoot_92 rfl (lv_at hl 3 rfl) ?_
                    have hk_93 := hok
                    refine go_iz (run_V hx hb hml hown ht hK hP hD (c_RL_isSumRight hk_93) (cw_V ht km_RL_67 ki_RL_isSumRight ks_RL_isSumRight ini_RL kd_RL_isSumRight kh_RL_isSumRight ⟨Nat.le_of_ble_eq_true rfl, Nat.le_of_ble_eq_true rfl⟩ rfl rfl) (q0 := 2) (ci := 2) (As := [.int z_2.1]) (rest := []) rfl rfl rfl hl.1 rfl (Nat.le_of_ble_eq_true rfl) d_RL_isWholeRoot_93 ⟨Nat.zero_le _, Nat.zero_le _⟩) hD hS hA (fun z_93 H locs hz_93 hP hD hS => ?_)
                    have hres := bindc_eq hz_93 hres
                    have hP : va_P G.1 classes (cC G ad nb nt cfa cle cwr csl cst cen cby cto csh cdz cch cva css cve cro crc cma cbi ces cbl crt) H := hP
                    have hD : va_D A (cC G ad nb nt cfa cle cwr csl cst cen cby cto csh cdz cch cva css cve cro crc cma cbi ces cbl crt) := hD
                    refine lv_if_eq (tgt := 103) hx hb d_RL_isWholeRoot_96 (by decide) (fun c_96 => ?_) (fun c_96 => ?_)
                    · have hres := it_t c_96 hres
                      refine lv_iconst (v := (0 : Int32)) hx hb d_RL_isWholeRoot_103 (by decide) ?_
                      exact en_z (w1 := (fun _ : Unit => (cC G ad nb nt cfa cle cwr csl cst cen cby cto csh cdz cch cva css cve cro crc cma cbi ces cbl crt))) () hx hb hr hlocks hK hP hD hS hres isB_0 d_RL_isWholeRoot_104
                    · have hres := it_f c_96 hres
                      refine lv_iconst (v := (1 : Int32)) hx hb d_RL_isWholeRoot_99 (by decide) ?_
                      refine lv_goto (tgt := 104) hx hb d_RL_isWholeRoot_100 (by decide) ?_
                      exact en_z (w1 := (fun _ : Unit => (cC G ad nb nt cfa cle cwr csl cst cen cby cto csh cdz cch cva css cve cro crc cma cbi ces cbl crt))) () hx hb hr hlocks hK hP hD hS hres isB_1 d_RL_isWholeRoot_104
/-! ===== BookTrees$Roll.isNewer(II)Z ===== -/
abbrev rm_RL_isNewer : Room := { frames := 3, cells := 0, slots := 0, locals := 64 }
def f_RL_isNewer (p0 : Int32) (p1 : Int32) (csl : Int32) (cby : (Nat → Int32)) : Int32 × Unit := bindc (f_RL_versionOf p0 csl cby) (fun z_2 => bindc (f_RL_versionOf p1 csl cby) (fun z_8 => if z_8.1 < z_2.1 then ((1 : Int32), ()) else if z_2.1 = z_8.1 then bindc (f_RL_numberOf p0 csl cby) (fun z_27 => bindc (f_RL_numberOf p1 csl cby) (fun z_32 => if z_27.1 ≤ z_32.1 then ((0 : Int32), ()) else ((1 : Int32), ()))) else ((0 : Int32), ())))
def ok_RL_isNewer (nb : Nat) (nt : Nat) (p0 : Int32) (p1 : Int32) (csl : Int32) (cby : (Nat → Int32)) : Prop := ok_RL_versionOf nb nt p0 csl cby ∧ bindp (f_RL_versionOf p0 csl cby) (fun z_2 => ok_RL_versionOf nb nt p1 csl cby ∧ bindp (f_RL_versionOf p1 csl cby) (fun z_8 => (z_8.1 < z_2.1 → True) ∧ (¬ z_8.1 < z_2.1 → (z_2.1 = z_8.1 → ok_RL_numberOf nb nt p0 csl cby ∧ bindp (f_RL_numberOf p0 csl cby) (fun z_27 => ok_RL_numberOf nb nt p1 csl cby)) ∧ (¬ z_2.1 = z_8.1 → True))))
set_option maxHeartbeats 4000000 in
set_option maxRecDepth 100000 in
theorem c_RL_isNewer {l : Launch} {G : GG} {ad : Nat → Nat} {nb : Nat} {nt : Nat} {sz : Nat} {cfa : Int32} {cle : Int32} {cwr : Int32} {csl : Int32} {cst : Int32} {cen : Int32} {cby : (Nat → Int32)} {cto : (Nat → Int32)} {csh : (Nat → Int32)} {cdz : Int32} {cch : (Nat → Int32)} {cva : (Nat → Int32)} {css : Int32} {cve : (Nat → Int32)} {cro : (Nat → Int32)} {crc : Int32} {cma : (Nat → Int32)} {cbi : (Nat → Int32)} {ces : (Nat → Int32)} {cbl : (Nat → Int32)} {crt : (Nat → Int32)} {p0 : Int32} {p1 : Int32} (hok : ok_RL_isNewer nb nt p0 p1 csl cby) : CtI l y_RL_isNewer b_RL_isNewer 5 (some .boolean) rm_RL_isNewer G (cC G ad nb nt cfa cle cwr csl cst cen cby cto csh cdz cch cva css cve cro crc cma cbi ces cbl crt) sz [.ref (ad 2), .int p0, .int p1] (eqP (f_RL_isNewer p0 p1 csl cby)) (fun _ : Unit => (cC G ad nb nt cfa cle cwr csl cst cen cby cto csh cdz cch cva css cve cro crc cma cbi ces cbl crt)) := by
  generalize hres : f_RL_isNewer p0 p1 csl cby = res
  refine Met_of (Qc := fun A => va_Qi (eqP res) (Wb G A (fun _ : Unit => (cC G ad nb nt cfa cle cwr csl cst cen cby cto csh cdz cch cva css cve cro crc cma cbi ces cbl crt))) A) (by decide) (Nat.le_of_ble_eq_true rfl) ?_
  intro p e s m below meth c hadm hx hb hr hml hown hlocks ht hK A hA hP hD hS ls hl
  have hC : Cx p l e s m (([.ref (ad 2), .int p0, .int p1] : List Value)).toArray meth c y_RL_isNewer b_RL_isNewer 5 (some .boolean) "BookTrees$Roll" G A := ⟨hx, hb, hr, hml, hown, hlocks, ht, hK, hA⟩
  have hown : s.vm.findClass "BookTrees$Roll" = some m.cls := hown
  have hl : lv_has ls 5 [(0, .ref (ad 2)), (1, .int p0), (2, .int p1)] := hl
  rw [f_RL_isNewer] at hres
  rw [ok_RL_isNewer] at hok
  refine lv_aload_n hx hb d_RL_isNewer_0 rfl (lv_at hl 0 rfl) ?_
  refine lv_iload_n hx hb d_RL_isNewer_1 rfl (lv_at hl 1 rfl) ?_
  obtain ⟨hk_2, hok⟩ := hok
  refine go_iz (run_V hx hb hml hown ht hK hP hD (c_RL_versionOf hk_2) (cw_V ht km_RL_73 ki_RL_versionOf ks_RL_versionOf ini_RL kd_RL_versionOf kh_RL_versionOf ⟨Nat.le_of_ble_eq_true rfl, Nat.le_of_ble_eq_true rfl⟩ rfl rfl) (q0 := 2) (ci := 2) (As := [.int p0]) (rest := []) rfl rfl rfl hl.1 rfl (Nat.le_of_ble_eq_true rfl) d_RL_isNewer_2 ⟨Nat.zero_le _, Nat.zero_le _⟩) hD hS hA (fun z_2 H locs hz_2 hP hD hS => ?_)
  have hres := bindc_eq hz_2 hres
  have hok := bindp_eq hz_2 hok
  have hP : va_P G.1 classes (cC G ad nb nt cfa cle cwr csl cst cen cby cto csh cdz cch cva css cve cro crc cma cbi ces cbl crt) H := hP
  have hD : va_D A (cC G ad nb nt cfa cle cwr csl cst cen cby cto csh cdz cch cva css cve cro crc cma cbi ces cbl crt) := hD
  refine lv_istore_n (lv' := [(3, .int z_2.1), (0, .ref (ad 2)), (1, .int p0), (2, .int p1)]) hx hb d_RL_isNewer_5 rfl hl (by decide) rfl (fun ls hl => ?_)
  refine lv_aload_n hx hb d_RL_isNewer_6 rfl (lv_at hl 1 rfl) ?_
  refine lv_iload_n hx hb d_RL_isNewer_7 rfl (lv_at hl 3 rfl) ?_
  obtain ⟨hk_8, hok⟩ := hok
  refine go_iz (run_V hx hb hml hown ht hK hP hD (c_RL_versionOf hk_8) (cw_V ht km_RL_73 ki_RL_versionOf ks_RL_versionOf ini_RL kd_RL_versionOf kh_RL_versionOf ⟨Nat.le_of_ble_eq_true rfl, Nat.le_of_ble_eq_true rfl⟩ rfl rfl) (q0 := 2) (ci := 2) (As := [.int p1]) (rest := []) rfl rfl rfl hl.1 rfl (Nat.le_of_ble_eq_true rfl) d_RL_isNewer_8 ⟨Nat.zero_le _, Nat.zero_le _⟩) hD hS hA (fun z_8 H locs hz_8 hP hD hS => ?_)
  have hres := bindc_eq hz_8 hres
  have hok := bindp_eq hz_8 hok
  have hP : va_P G.1 classes (cC G ad nb nt cfa cle cwr csl cst cen cby cto csh cdz cch cva css cve cro crc cma cbi ces cbl crt) H := hP
  have hD : va_D A (cC G ad nb nt cfa cle cwr csl cst cen cby cto csh cdz cch cva css cve cro crc cma cbi ces cbl crt) := hD
  refine lv_istore (lv' := [(4, .int z_8.1), (3, .int z_2.1), (0, .ref (ad 2)), (1, .int p0), (2, .int p1)]) hx hb d_RL_isNewer_11 hl (by decide) rfl (fun ls hl => ?_)
  refine lv_iload_n hx hb d_RL_isNewer_13 rfl (lv_at hl 1 rfl) ?_
  refine lv_iload hx hb d_RL_isNewer_14 (lv_at hl 0 rfl) ?_
  refine lv_icmp_gt (tgt := 38) hx hb d_RL_isNewer_16 (by decide) (fun c_16 => ?_) (fun c_16 => ?_)
  · have hres := it_t c_16 hres
    refine lv_iconst (v := (1 : Int32)) hx hb d_RL_isNewer_38 (by decide) ?_
    refine lv_goto (tgt := 43) hx hb d_RL_isNewer_39 (by decide) ?_
    exact en_z (w1 := (fun _ : Unit => (cC G ad nb nt cfa cle cwr csl cst cen cby cto csh cdz cch cva css cve cro crc cma cbi ces cbl crt))) () hx hb hr hlocks hK hP hD hS hres isB_1 d_RL_isNewer_43
  · have hres := it_f c_16 hres
    have hok := hok.2 c_16
    refine lv_iload_n hx hb d_RL_isNewer_19 rfl (lv_at hl 1 rfl) ?_
    refine lv_iload hx hb d_RL_isNewer_20 (lv_at hl 0 rfl) ?_
    refine lv_icmp_ne (tgt := 42) hx hb d_RL_isNewer_22 (by decide) (fun c_22 => ?_) (fun c_22 => ?_)
    · have hres := it_f c_22 hres
      refine lv_iconst (v := (0 : Int32)) hx hb d_RL_isNewer_42 (by decide) ?_
      exact en_z (w1 := (fun _ : Unit => (cC G ad nb nt cfa cle cwr csl cst cen cby cto csh cdz cch cva css cve cro crc cma cbi ces cbl crt))) () hx hb hr hlocks hK hP hD hS hres isB_0 d_RL_isNewer_43
    · have hres := it_t c_22 hres
      have hok := hok.1 c_22
      refine lv_aload_n hx hb d_RL_isNewer_25 rfl (lv_at hl 2 rfl) ?_
      refine lv_iload_n hx hb d_RL_isNewer_26 rfl (lv_at hl 3 rfl) ?_
      obtain ⟨hk_27, hok⟩ := hok
      refine go_iz (run_V hx hb hml hown ht hK hP hD (c_RL_numberOf hk_27) (cw_V ht km_RL_70 ki_RL_numberOf ks_RL_numberOf ini_RL kd_RL_numberOf kh_RL_numberOf ⟨Nat.le_of_ble_eq_true rfl, Nat.le_of_ble_eq_true rfl⟩ rfl rfl) (q0 := 2) (ci := 2) (As := [.int p0]) (rest := []) rfl rfl rfl hl.1 rfl (Nat.le_of_ble_eq_true rfl) d_RL_isNewer_27 ⟨Nat.zero_le _, Nat.zero_le _⟩) hD hS hA (fun z_27 H locs hz_27 hP hD hS => ?_)
      have hres := bindc_eq hz_27 hres
      have hok := bindp_eq hz_27 hok
      have hP : va_P G.1 classes (cC G ad nb nt cfa cle cwr csl cst cen cby cto csh cdz cch cva css cve cro crc cma cbi ces cbl crt) H := hP
      have hD : va_D A (cC G ad nb nt cfa cle cwr csl cst cen cby cto csh cdz cch cva css cve cro crc cma cbi ces cbl crt) := hD
      refine lv_aload_n hx hb d_RL_isNewer_30 rfl (lv_at hl 2 rfl) ?_
      refine lv_iload_n hx hb d_RL_isNewer_31 rfl (lv_at hl 4 rfl) ?_
      have hk_32 := hok
      refine go_iz (run_V hx hb hml hown ht hK hP hD (c_RL_numberOf hk_32) (cw_V ht km_RL_70 ki_RL_numberOf ks_RL_numberOf ini_RL kd_RL_numberOf kh_RL_numberOf ⟨Nat.le_of_ble_eq_true rfl, Nat.le_of_ble_eq_true rfl⟩ rfl rfl) (q0 := 2) (ci := 2) (As := [.int p1]) (rest := [.int z_27.1]) rfl rfl rfl hl.1 rfl (Nat.le_of_ble_eq_true rfl) d_RL_isNewer_32 ⟨Nat.zero_le _, Nat.zero_le _⟩) hD hS hA (fun z_32 H locs hz_32 hP hD hS => ?_)
      have hres := bindc_eq hz_32 hres
      have hP : va_P G.1 classes (cC G ad nb nt cfa cle cwr csl cst cen cby cto csh cdz cch cva css cve cro crc cma cbi ces cbl crt) H := hP
      have hD : va_D A (cC G ad nb nt cfa cle cwr csl cst cen cby cto csh cdz cch cva css cve cro crc cma cbi ces cbl crt) := hD
      refine lv_icmp_le (tgt := 42) hx hb d_RL_isNewer_35 (by decide) (fun c_35 => ?_) (fun c_35 => ?_)
      · have hres := it_t c_35 hres
        refine lv_iconst (v := (0 : Int32)) hx hb d_RL_isNewer_42 (by decide) ?_
        exact en_z (w1 := (fun _ : Unit => (cC G ad nb nt cfa cle cwr csl cst cen cby cto csh cdz cch cva css cve cro crc cma cbi ces cbl crt))) () hx hb hr hlocks hK hP hD hS hres isB_0 d_RL_isNewer_43
      · have hres := it_f c_35 hres
        refine lv_iconst (v := (1 : Int32)) hx hb d_RL_isNewer_38 (by decide) ?_
        refine lv_goto (tgt := 43) hx hb d_RL_isNewer_39 (by decide) ?_
        exact en_z (w1 := (fun _ : Unit => (cC G ad nb nt cfa cle cwr csl cst cen cby cto csh cdz cch cva css cve cro crc cma cbi ces cbl crt))) () hx hb hr hlocks hK hP hD hS hres isB_1 d_RL_isNewer_43
