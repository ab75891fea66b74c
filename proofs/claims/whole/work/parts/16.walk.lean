/-! ===== BookTrees$Roll.newestRootSlot()I ===== -/
abbrev rm_RL_newestRootSlot : Room := { frames := 4, cells := 0, slots := 0, locals := 90 }
def f_RL_newestRootSlot_4 : Nat → Int32 → Int32 → Int32 → (Nat → Int32) → (Nat → Int32) → Int32 × Unit
  | 0, x1, x2, csl, cby, cto => (0, ())
  | n + 1, x1, x2, csl, cby, cto => if csl ≤ x2 then (x1, ()) else bindc (f_RL_isWholeRoot x2 csl cby cto) (fun z_14 => if z_14.1 = 0 then f_RL_newestRootSlot_4 n x1 (x2 + (1 : Int32)) csl cby cto else if x1 = (-1 : Int32) then f_RL_newestRootSlot_4 n x2 (x2 + (1 : Int32)) csl cby cto else bindc (f_RL_isNewer x2 x1 csl cby) (fun z_28 => if z_28.1 = 0 then f_RL_newestRootSlot_4 n x1 (x2 + (1 : Int32)) csl cby cto else f_RL_newestRootSlot_4 n x2 (x2 + (1 : Int32)) csl cby cto))
def ok_RL_newestRootSlot_4 (nb : Nat) (nt : Nat) : Nat → Int32 → Int32 → Int32 → (Nat → Int32) → (Nat → Int32) → Prop
  | 0, _, _, _, _, _ => False
  | n + 1, x1, x2, csl, cby, cto => (csl ≤ x2 → True) ∧ (¬ csl ≤ x2 → ok_RL_isWholeRoot nb nt x2 csl cby cto ∧ bindp (f_RL_isWholeRoot x2 csl cby cto) (fun z_14 => (z_14.1 = 0 → ok_RL_newestRootSlot_4 nb nt  n x1 (x2 + (1 : Int32)) csl cby cto) ∧ (¬ z_14.1 = 0 → (x1 = (-1 : Int32) → ok_RL_newestRootSlot_4 nb nt  n x2 (x2 + (1 : Int32)) csl cby cto) ∧ (¬ x1 = (-1 : Int32) → ok_RL_isNewer nb nt x2 x1 csl cby ∧ bindp (f_RL_isNewer x2 x1 csl cby) (fun z_28 => (z_28.1 = 0 → ok_RL_newestRootSlot_4 nb nt  n x1 (x2 + (1 : Int32)) csl cby cto) ∧ (¬ z_28.1 = 0 → ok_RL_newestRootSlot_4 nb nt  n x2 (x2 + (1 : Int32)) csl cby cto))))))
set_option maxHeartbeats 4000000 in
set_option maxRecDepth 100000 in
theorem w_RL_newestRootSlot_4 {p : Program} {l : Launch} {e : Env} {s : State} {m : MethodId} {args : Array Value} {below : List Frame} {meth : Method} {c : Code} {A : Nat → Prop} {G : GG} {ad : Nat → Nat} {nb : Nat} {nt : Nat} {cfa : Int32} {cle : Int32} {cwr : Int32} {csl : Int32} {cst : Int32} {cen : Int32} {cby : (Nat → Int32)} {cto : (Nat → Int32)} {csh : (Nat → Int32)} {cdz : Int32} {cch : (Nat → Int32)} {cva : (Nat → Int32)} {css : Int32} {cve : (Nat → Int32)} {cro : (Nat → Int32)} {crc : Int32} {cma : (Nat → Int32)} {cbi : (Nat → Int32)} {ces : (Nat → Int32)} {cbl : (Nat → Int32)} {crt : (Nat → Int32)} {res : Int32 × Unit} (hC : Cx p l e s m args meth c y_RL_newestRootSlot b_RL_newestRootSlot 3 (some .int) "BookTrees$Roll" G A) : ∀ (n : Nat) (x1 : Int32) (x2 : Int32)  (H : Heap) (locs : List Loc) (ls : Array Slot), ok_RL_newestRootSlot_4 nb nt n x1 x2 csl cby cto → f_RL_newestRootSlot_4 n x1 x2 csl cby cto = res → va_P G.1 classes (cC G ad nb nt cfa cle cwr csl cst cen cby cto csh cdz cch cva css cve cro crc cma cbi ces cbl crt) H → va_D A (cC G ad nb nt cfa cle cwr csl cst cen cby cto csh cdz cch cva css cve cro crc cma cbi ces cbl crt) → va_S A s.heap H locs → lv_has ls 3 [(0, .ref (ad 2)), (1, .int x1), (2, .int x2)] → W p l e rm_RL_newestRootSlot s m args below meth c H locs 0 0 (MQ below (va_Qi (eqP res) (Wb G A (fun _ : Unit => (cC G ad nb nt cfa cle cwr csl cst cen cby cto csh cdz cch cva css cve cro crc cma cbi ces cbl crt))) A) args s 0 0 A) (F0 m 4 ls []) := by
  obtain ⟨hx, hb, hr, hml, hown, hlocks, ht, hK, hA⟩ := id hC
  intro n
  induction n with
  | zero => intro x1 x2 H locs ls hok; exact hok.elim
  | succ n ih =>
    intro x1 x2 H locs ls hok hres hP hD hS hl
    rw [f_RL_newestRootSlot_4] at hres
    rw [ok_RL_newestRootSlot_4] at hok
    refine lv_iload_n hx hb d_RL_newestRootSlot_4 rfl (lv_at hl 2 rfl) ?_
    refine lv_aload_n hx hb d_RL_newestRootSlot_5 rfl (lv_at hl 0 rfl) ?_
    refine va_get (D := G.1) (ci := 2) (C := R_RL) (T := F_RL) (N := 7) hx hb ht in_RL hown hK hP 2 rfl rfl 1 (by decide) (ht _ kf_RL_28) (fun _ h9 => h9) rfl d_RL_newestRootSlot_6 ?_
    refine lv_icmp_ge (tgt := 42) hx hb d_RL_newestRootSlot_9 (by decide) (fun c_9 => ?_) (fun c_9 => ?_)
    · have hres := it_t c_9 hres
      refine lv_iload_n hx hb d_RL_newestRootSlot_42 rfl (lv_at hl 1 rfl) ?_
      exact en_i (w1 := (fun _ : Unit => (cC G ad nb nt cfa cle cwr csl cst cen cby cto csh cdz cch cva css cve cro crc cma cbi ces cbl crt))) () hx hb hr hlocks hK hP hD hS hres d_RL_newestRootSlot_43
    · have hres := it_f c_9 hres
      have hok := hok.2 c_9
      refine lv_aload_n hx hb d_RL_newestRootSlot_12 rfl (lv_at hl 0 rfl) ?_
      refine lv_iload_n hx hb d_RL_newestRootSlot_13 rfl (lv_at hl 2 rfl) ?_
      obtain ⟨hk_14, hok⟩ := hok
      refine go_iz (run_V hx hb hml hown ht hK hP hD (c_RL_isWholeRoot hk_14) (cw_V ht km_RL_80 ki_RL_isWholeRoot ks_RL_isWholeRoot ini_RL kd_RL_isWholeRoot kh_RL_isWholeRoot ⟨Nat.le_of_ble_eq_true rfl, Nat.le_of_ble_eq_true rfl⟩ rfl rfl) (q0 := 2) (ci := 2) (As := [.int x2]) (rest := []) rfl rfl rfl hl.1 rfl (Nat.le_of_ble_eq_true rfl) d_RL_newestRootSlot_14 ⟨Nat.zero_le _, Nat.zero_le _⟩) hD hS hA (fun z_14 H locs hz_14 hP hD hS => ?_)
      have hres := bindc_eq hz_14 hres
      have hok := bindp_eq hz_14 hok
      have hP : va_P G.1 classes (cC G ad nb nt cfa cle cwr csl cst cen cby cto csh cdz cch cva css cve cro crc cma cbi ces cbl crt) H := hP
      have hD : va_D A (cC G ad nb nt cfa cle cwr csl cst cen cby cto csh cdz cch cva css cve cro crc cma cbi ces cbl crt) := hD
      refine lv_if_eq (tgt := 36) hx hb d_RL_newestRootSlot_17 (by decide) (fun c_17 => ?_) (fun c_17 => ?_)
      · have hres := it_t c_17 hres
        have hok := hok.1 c_17
        refine lv_iinc (v := x2 + (1 : Int32)) (lv' := [(2, .int (x2 + (1 : Int32))), (0, .ref (ad 2)), (1, .int x1)]) hx hb d_RL_newestRootSlot_36 hl (k := 2) rfl rfl (by decide) rfl (fun ls hl => ?_)
        refine lv_goto (tgt := 4) hx hb d_RL_newestRootSlot_39 (by decide) ?_
        exact ih x1 (x2 + (1 : Int32)) _ _ _ hok hres hP hD hS (lv_sub hl [1, 2, 0] rfl)
      · have hres := it_f c_17 hres
        have hok := hok.2 c_17
        refine lv_iload_n hx hb d_RL_newestRootSlot_20 rfl (lv_at hl 1 rfl) ?_
        refine lv_iconst (v := (-1 : Int32)) hx hb d_RL_newestRootSlot_21 (by decide) ?_
        refine lv_icmp_eq (tgt := 34) hx hb d_RL_newestRootSlot_22 (by decide) (fun c_22 => ?_) (fun c_22 => ?_)
        · have hres := it_t c_22 hres
          have hok := hok.1 c_22
          refine lv_iload_n hx hb d_RL_newestRootSlot_34 rfl (lv_at hl 2 rfl) ?_
          refine lv_istore_n (lv' := [(1, .int x2), (0, .ref (ad 2)), (2, .int x2)]) hx hb d_RL_newestRootSlot_35 rfl hl (by decide) rfl (fun ls hl => ?_)
          refine lv_iinc (v := x2 + (1 : Int32)) (lv' := [(2, .int (x2 + (1 : Int32))), (1, .int x2), (0, .ref (ad 2))]) hx hb d_RL_newestRootSlot_36 hl (k := 2) rfl rfl (by decide) rfl (fun ls hl => ?_)
          refine lv_goto (tgt := 4) hx hb d_RL_newestRootSlot_39 (by decide) ?_
          exact ih x2 (x2 + (1 : Int32)) _ _ _ hok hres hP hD hS (lv_sub hl [2, 1, 0] rfl)
        · have hres := it_f c_22 hres
          have hok := hok.2 c_22
          refine lv_aload_n hx hb d_RL_newestRootSlot_25 rfl (lv_at hl 0 rfl) ?_
          refine lv_iload_n hx hb d_RL_newestRootSlot_26 rfl (lv_at hl 2 rfl) ?_
          refine lv_iload_n hx hb d_RL_newestRootSlot_27 rfl (lv_at hl 1 rfl) ?_
          obtain ⟨hk_28, hok⟩ := hok
          refine go_iz (run_V hx hb hml hown ht hK hP hD (c_RL_isNewer hk_28) (cw_V ht km_RL_83 ki_RL_isNewer ks_RL_isNewer ini_RL kd_RL_isNewer kh_RL_isNewer ⟨Nat.le_of_ble_eq_true rfl, Nat.le_of_ble_eq_true rfl⟩ rfl rfl) (q0 := 2) (ci := 2) (As := [.int x2, .int x1]) (rest := []) rfl rfl rfl hl.1 rfl (Nat.le_of_ble_eq_true rfl) d_RL_newestRootSlot_28 ⟨Nat.zero_le _, Nat.zero_le _⟩) hD hS hA (fun z_28 H locs hz_28 hP hD hS => ?_)
          have hres := bindc_eq hz_28 hres
          have hok := bindp_eq hz_28 hok
          have hP : va_P G.1 classes (cC G ad nb nt cfa cle cwr csl cst cen cby cto csh cdz cch cva css cve cro crc cma cbi ces cbl crt) H := hP
          have hD : va_D A (cC G ad nb nt cfa cle cwr csl cst cen cby cto csh cdz cch cva css cve cro crc cma cbi ces cbl crt) := hD
          refine lv_if_eq (tgt := 36) hx hb d_RL_newestRootSlot_31 (by decide) (fun c_31 => ?_) (fun c_31 => ?_)
          · have hres := it_t c_31 hres
            have hok := hok.1 c_31
            refine lv_iinc (v := x2 + (1 : Int32)) (lv' := [(2, .int (x2 + (1 : Int32))), (0, .ref (ad 2)), (1, .int x1)]) hx hb d_RL_newestRootSlot_36 hl (k := 2) rfl rfl (by decide) rfl (fun ls hl => ?_)
            refine lv_goto (tgt := 4) hx hb d_RL_newestRootSlot_39 (by decide) ?_
            exact ih x1 (x2 + (1 : Int32)) _ _ _ hok hres hP hD hS (lv_sub hl [1, 2, 0] rfl)
          · have hres := it_f c_31 hres
            have hok := hok.2 c_31
            refine lv_iload_n hx hb d_RL_newestRootSlot_34 rfl (lv_at hl 2 rfl) ?_
            refine lv_istore_n (lv' := [(1, .int x2), (0, .ref (ad 2)), (2, .int x2)]) hx hb d_RL_newestRootSlot_35 rfl hl (by decide) rfl (fun ls hl => ?_)
            refine lv_iinc (v := x2 + (1 : Int32)) (lv' := [(2, .int (x2 + (1 : Int32))), (1, .int x2), (0, .ref (ad 2))]) hx hb d_RL_newestRootSlot_36 hl (k := 2) rfl rfl (by decide) rfl (fun ls hl => ?_)
            refine lv_goto (tgt := 4) hx hb d_RL_newestRootSlot_39 (by decide) ?_
            exact ih x2 (x2 + (1 : Int32)) _ _ _ hok hres hP hD hS (lv_sub hl [2, 1, 0] rfl)
def f_RL_newestRootSlot  (csl : Int32) (cby : (Nat → Int32)) (cto : (Nat → Int32)) : Int32 × Unit := f_RL_newestRootSlot_4 1024 (-1 : Int32) (0 : Int32) csl cby cto
def ok_RL_newestRootSlot (nb : Nat) (nt : Nat)  (csl : Int32) (cby : (Nat → Int32)) (cto : (Nat → Int32)) : Prop := ok_RL_newestRootSlot_4 nb nt  1024 (-1 : Int32) (0 : Int32) csl cby cto
set_option maxHeartbeats 4000000 in
set_option maxRecDepth 100000 in
theorem c_RL_newestRootSlot {l : Launch} {G : GG} {ad : Nat → Nat} {nb : Nat} {nt : Nat} {sz : Nat} {cfa : Int32} {cle : Int32} {cwr : Int32} {csl : Int32} {cst : Int32} {cen : Int32} {cby : (Nat → Int32)} {cto : (Nat → Int32)} {csh : (Nat → Int32)} {cdz : Int32} {cch : (Nat → Int32)} {cva : (Nat → Int32)} {css : Int32} {cve : (Nat → Int32)} {cro : (Nat → Int32)} {crc : Int32} {cma : (Nat → Int32)} {cbi : (Nat → Int32)} {ces : (Nat → Int32)} {cbl : (Nat → Int32)} {crt : (Nat → Int32)}  (hok : ok_RL_newestRootSlot nb nt csl cby cto) : CtI l y_RL_newestRootSlot b_RL_newestRootSlot 3 (some .int) rm_RL_newestRootSlot G (cC G ad nb nt cfa cle cwr csl cst cen cby cto csh cdz cch cva css cve cro crc cma cbi ces cbl crt) sz [.ref (ad 2)] (eqP (f_RL_newestRootSlot csl cby cto)) (fun _ : Unit => (cC G ad nb nt cfa cle cwr csl cst cen cby cto csh cdz cch cva css cve cro crc cma cbi ces cbl crt)) := by
  generalize hres : f_RL_newestRootSlot csl cby cto = res
  refine Met_of (Qc := fun A => va_Qi (eqP res) (Wb G A (fun _ : Unit => (cC G ad nb nt cfa cle cwr csl cst cen cby cto csh cdz cch cva css cve cro crc cma cbi ces cbl crt))) A) (by decide) (Nat.le_of_ble_eq_true rfl) ?_
  intro p e s m below meth c hadm hx hb hr hml hown hlocks ht hK A hA hP hD hS ls hl
  have hC : Cx p l e s m (([.ref (ad 2)] : List Value)).toArray meth c y_RL_newestRootSlot b_RL_newestRootSlot 3 (some .int) "BookTrees$Roll" G A := ⟨hx, hb, hr, hml, hown, hlocks, ht, hK, hA⟩
  have hown : s.vm.findClass "BookTrees$Roll" = some m.cls := hown
  have hl : lv_has ls 3 [(0, .ref (ad 2))] := hl
  rw [f_RL_newestRootSlot] at hres
  rw [ok_RL_newestRootSlot] at hok
  refine lv_iconst (v := (-1 : Int32)) hx hb d_RL_newestRootSlot_0 (by decide) ?_
  refine lv_istore_n (lv' := [(1, .int (-1 : Int32)), (0, .ref (ad 2))]) hx hb d_RL_newestRootSlot_1 rfl hl (by decide) rfl (fun ls hl => ?_)
  refine lv_iconst (v := (0 : Int32)) hx hb d_RL_newestRootSlot_2 (by decide) ?_
  refine lv_istore_n (lv' := [(2, .int (0 : Int32)), (1, .int (-1 : Int32)), (0, .ref (ad 2))]) hx hb d_RL_newestRootSlot_3 rfl hl (by decide) rfl (fun ls hl => ?_)
  exact w_RL_newestRootSlot_4 hC 1024 (-1 : Int32) (0 : Int32) _ _ _ hok hres hP hD hS (lv_sub hl [2, 1, 0] rfl)
/-! ===== BookTrees$Roll.slots()I ===== -/
abbrev rm_RL_slots : Room := { frames := 0, cells := 0, slots := 0, locals := 0 }
def f_RL_slots  (csl : Int32) : Int32 × Unit := (csl, ())
set_option maxHeartbeats 4000000 in
set_option maxRecDepth 100000 in
theorem c_RL_slots {l : Launch} {G : GG} {ad : Nat → Nat} {nb : Nat} {nt : Nat} {sz : Nat} {cfa : Int32} {cle : Int32} {cwr : Int32} {csl : Int32} {cst : Int32} {cen : Int32} {cby : (Nat → Int32)} {cto : (Nat → Int32)} {csh : (Nat → Int32)} {cdz : Int32} {cch : (Nat → Int32)} {cva : (Nat → Int32)} {css : Int32} {cve : (Nat → Int32)} {cro : (Nat → Int32)} {crc : Int32} {cma : (Nat → Int32)} {cbi : (Nat → Int32)} {ces : (Nat → Int32)} {cbl : (Nat → Int32)} {crt : (Nat → Int32)}  : CtI l y_RL_slots b_RL_slots 1 (some .int) rm_RL_slots G (cC G ad nb nt cfa cle cwr csl cst cen cby cto csh cdz cch cva css cve cro crc cma cbi ces cbl crt) sz [.ref (ad 2)] (eqP (f_RL_slots csl)) (fun _ : Unit => (cC G ad nb nt cfa cle cwr csl cst cen cby cto csh cdz cch cva css cve cro crc cma cbi ces cbl crt)) := by
  generalize hres : f_RL_slots csl = res
  refine Met_of (Qc := fun A => va_Qi (eqP res) (Wb G A (fun _ : Unit => (cC G ad nb nt cfa cle cwr csl cst cen cby cto csh cdz cch cva css cve cro crc cma cbi ces cbl crt))) A) (by decide) (Nat.le_of_ble_eq_true rfl) ?_
  intro p e s m below meth c hadm hx hb hr hml hown hlocks ht hK A hA hP hD hS ls hl
  have hC : Cx p l e s m (([.ref (ad 2)] : List Value)).toArray meth c y_RL_slots b_RL_slots 1 (some .int) "BookTrees$Roll" G A := ⟨hx, hb, hr, hml, hown, hlocks, ht, hK, hA⟩
  have hown : s.vm.findClass "BookTrees$Roll" = some m.cls := hown
  have hl : lv_has ls 1 [(0, .ref (ad 2))] := hl
  rw [f_RL_slots] at hres
  refine lv_aload_n hx hb d_RL_slots_0 rfl (lv_at hl 0 rfl) ?_
  refine va_get (D := G.1) (ci := 2) (C := R_RL) (T := F_RL) (N := 7) hx hb ht in_RL hown hK hP 2 rfl rfl 1 (by decide) (ht _ kf_RL_28) (fun _ h9 => h9) rfl d_RL_slots_1 ?_
  exact en_i (w1 := (fun _ : Unit => (cC G ad nb nt cfa cle cwr csl cst cen cby cto csh cdz cch cva css cve cro crc cma cbi ces cbl crt))) () hx hb hr hlocks hK hP hD hS hres d_RL_slots_4
/-! ===== BookTrees.reopen()I ===== -/
abbrev rm_BT_reopen : Room := { frames := 5, cells := 0, slots := 0, locals := 112 }
def f_BT_reopen_79 : Nat → Int32 → Int32 → Int32 → Int32 → Int32 → Int32 → (Nat → Int32) → (Nat → Int32) → Int32 → (Nat → Int32) → Int32 → (Nat → Int32) → (Nat → Int32) → Int32 × Int32 × Int32 × Int32 × Int32 × Int32 × (Nat → Int32) × Int32 × (Nat → Int32) × (Nat → Int32)
  | 0, x2, cfa, cle, csl, cst, cen, cby, cto, cdz, cch, css, cve, cro => (0, (cfa, cle, cst, cen, cdz, cch, css, cve, cro))
  | n + 1, x2, cfa, cle, csl, cst, cen, cby, cto, cdz, cch, css, cve, cro => bindc (f_RL_slots csl) (fun z_84 => if z_84.1 ≤ x2 then bindc (f_SH_newest css cve) (fun z_152 => (z_152.1, (cfa, cle, cst, cen, cdz, cch, css, cve, cro))) else bindc (f_RL_isWholeRoot x2 csl cby cto) (fun z_95 => if z_95.1 = 0 then f_BT_reopen_79 n (x2 + (1 : Int32)) cfa cle csl cst cen cby cto cdz cch css cve cro else bindc (f_RL_numberOf x2 csl cby) (fun z_110 => bindc (f_RL_isUsed z_110.1 cst cen) (fun z_113 => if z_113.1 = 0 then f_BT_reopen_79 n (x2 + (1 : Int32)) cfa cle csl cst cen cby cto cdz cch css cve cro else bindc (f_RL_versionOf x2 csl cby) (fun z_128 => bindc (f_RL_numberOf x2 csl cby) (fun z_136 => bindc (f_SH_add z_128.1 z_136.1 css cve cro) (fun z_139 => f_BT_reopen_79 n (x2 + (1 : Int32)) cfa cle csl cst cen cby cto cdz cch z_139.1 z_139.2.1 z_139.2.2)))))))
def ok_BT_reopen_79 (nb : Nat) (nt : Nat) : Nat → Int32 → Int32 → Int32 → Int32 → Int32 → Int32 → (Nat → Int32) → (Nat → Int32) → Int32 → (Nat → Int32) → Int32 → (Nat → Int32) → (Nat → Int32) → Prop
  | 0, _, _, _, _, _, _, _, _, _, _, _, _, _ => False
  | n + 1, x2, cfa, cle, csl, cst, cen, cby, cto, cdz, cch, css, cve, cro => bindp (f_RL_slots csl) (fun z_84 => (z_84.1 ≤ x2 → ok_SH_newest nb nt css cve) ∧ (¬ z_84.1 ≤ x2 → ok_RL_isWholeRoot nb nt x2 csl cby cto ∧ bindp (f_RL_isWholeRoot x2 csl cby cto) (fun z_95 => (z_95.1 = 0 → ok_BT_reopen_79 nb nt  n (x2 + (1 : Int32)) cfa cle csl cst cen cby cto cdz cch css cve cro) ∧ (¬ z_95.1 = 0 → ok_RL_numberOf nb nt x2 csl cby ∧ bindp (f_RL_numberOf x2 csl cby) (fun z_110 => bindp (f_RL_isUsed z_110.1 cst cen) (fun z_113 => (z_113.1 = 0 → ok_BT_reopen_79 nb nt  n (x2 + (1 : Int32)) cfa cle csl cst cen cby cto cdz cch css cve cro) ∧ (¬ z_113.1 = 0 → ok_RL_versionOf nb nt x2 csl cby ∧ bindp (f_RL_versionOf x2 csl cby) (fun z_128 => ok_RL_numberOf nb nt x2 csl cby ∧ bindp (f_RL_numberOf x2 csl cby) (fun z_136 => ok_SH_add nb nt z_128.1 z_136.1 css cve cro ∧ bindp (f_SH_add z_128.1 z_136.1 css cve cro) (fun z_139 => ok_BT_reopen_79 nb nt  n (x2 + (1 : Int32)) cfa cle csl cst cen cby cto cdz cch z_139.1 z_139.2.1 z_139.2.2))))))))))
set_option maxHeartbeats 4000000 in
set_option maxRecDepth 100000 in
theorem w_BT_reopen_79 {p : Program} {l : Launch} {e : Env} {s : State} {m : MethodId} {args : Array Value} {below : List Frame} {meth : Method} {c : Code} {A : Nat → Prop} {G : GG} {ad : Nat → Nat} {nb : Nat} {nt : Nat} {cwr : Int32} {csl : Int32} {cby : (Nat → Int32)} {cto : (Nat → Int32)} {csh : (Nat → Int32)} {cva : (Nat → Int32)} {crc : Int32} {cma : (Nat → Int32)} {cbi : (Nat → Int32)} {ces : (Nat → Int32)} {cbl : (Nat → Int32)} {crt : (Nat → Int32)} {res : Int32 × Int32 × Int32 × Int32 × Int32 × Int32 × (Nat → Int32) × Int32 × (Nat → Int32) × (Nat → Int32)} (hC : Cx p l e s m args meth c y_BT_reopen b_BT_reopen 3 (some .int) "BookTrees" G A) : ∀ (n : Nat) (x2 : Int32) (cfa : Int32) (cle : Int32) (cst : Int32) (cen : Int32) (cdz : Int32) (cch : (Nat → Int32)) (css : Int32) (cve : (Nat → Int32)) (cro : (Nat → Int32)) (H : Heap) (locs : List Loc) (ls : Array Slot), ok_BT_reopen_79 nb nt n x2 cfa cle csl cst cen cby cto cdz cch css cve cro → f_BT_reopen_79 n x2 cfa cle csl cst cen cby cto cdz cch css cve cro = res → va_P G.1 classes (cC G ad nb nt cfa cle cwr csl cst cen cby cto csh cdz cch cva css cve cro crc cma cbi ces cbl crt) H → va_D A (cC G ad nb nt cfa cle cwr csl cst cen cby cto csh cdz cch cva css cve cro crc cma cbi ces cbl crt) → va_S A s.heap H locs → lv_has ls 3 [(0, .ref (ad 0)), (2, .int x2)] → W p l e rm_BT_reopen s m args below meth c H locs 0 0 (MQ below (va_Qi (eqP res) (Wb G A (fun u : Int32 × Int32 × Int32 × Int32 × Int32 × (Nat → Int32) × Int32 × (Nat → Int32) × (Nat → Int32) => (cC G ad nb nt u.1 u.2.1 cwr csl u.2.2.1 u.2.2.2.1 cby cto csh u.2.2.2.2.1 u.2.2.2.2.2.1 cva u.2.2.2.2.2.2.1 u.2.2.2.2.2.2.2.1 u.2.2.2.2.2.2.2.2 crc cma cbi ces cbl crt))) A) args s 0 0 A) (F0 m 79 ls []) := by
  obtain ⟨hx, hb, hr, hml, hown, hlocks, ht, hK, hA⟩ := id hC
  intro n
  induction n with
  | zero => intro x2 cfa cle cst cen cdz cch css cve cro H locs ls hok; exact hok.elim
  | succ n ih =>
    intro x2 cfa cle cst cen cdz cch css cve cro H locs ls hok hres hP hD hS hl
    rw [f_BT_reopen_79] at hres
    rw [ok_BT_reopen_79] at hok
    refine lv_iload_n hx hb d_BT_reopen_79 rfl (lv_at hl 1 rfl) ?_
    refine lv_aload_n hx hb d_BT_reopen_80 rfl (lv_at hl 0 rfl) ?_
    refine va_get (D := G.1) (ci := 0) (C := R_BT) (T := F_BT) (N := 5) hx hb ht in_BT hown hK hP 0 rfl rfl 1 (by decide) (ht _ kf_BT_21) (fun _ h9 => h9) rfl d_BT_reopen_81 ?_
    refine go_iz (run_V hx hb hml hown ht hK hP hD (c_RL_slots) (cw_V ht km_BT_154 ki_RL_slots ks_RL_slots ini_RL kd_RL_slots kh_RL_slots ⟨Nat.le_of_ble_eq_true rfl, Nat.le_of_ble_eq_true rfl⟩ rfl rfl) (q0 := 2) (ci := 2) (As := []) (rest := [.int x2]) rfl rfl rfl hl.1 rfl (Nat.le_of_ble_eq_true rfl) d_BT_reopen_84 ⟨Nat.zero_le _, Nat.zero_le _⟩) hD hS hA (fun z_84 H locs hz_84 hP hD hS => ?_)
    have hres := bindc_eq hz_84 hres
    have hok := bindp_eq hz_84 hok
    have hP : va_P G.1 classes (cC G ad nb nt cfa cle cwr csl cst cen cby cto csh cdz cch cva css cve cro crc cma cbi ces cbl crt) H := hP
    have hD : va_D A (cC G ad nb nt cfa cle cwr csl cst cen cby cto csh cdz cch cva css cve cro crc cma cbi ces cbl crt) := hD
    refine lv_icmp_ge (tgt := 148) hx hb d_BT_reopen_87 (by decide) (fun c_87 => ?_) (fun c_87 => ?_)
    · have hres := it_t c_87 hres
      have hok := hok.1 c_87
      refine lv_aload_n hx hb d_BT_reopen_148 rfl (lv_at hl 0 rfl) ?_
      refine va_get (D := G.1) (ci := 0) (C := R_BT) (T := F_BT) (N := 5) hx hb ht in_BT hown hK hP 0 rfl rfl 3 (by decide) (ht _ kf_BT_35) (fun _ h9 => h9) rfl d_BT_reopen_149 ?_
      have hk_152 := hok
      refine go_iz (run_V hx hb hml hown ht hK hP hD (c_SH_newest hk_152) (cw_V ht km_BT_91 ki_SH_newest ks_SH_newest ini_SH kd_SH_newest kh_SH_newest ⟨Nat.le_of_ble_eq_true rfl, Nat.le_of_ble_eq_true rfl⟩ rfl rfl) (q0 := 9) (ci := 4) (As := []) (rest := []) rfl rfl rfl hl.1 rfl (Nat.le_of_ble_eq_true rfl) d_BT_reopen_152 ⟨Nat.zero_le _, Nat.zero_le _⟩) hD hS hA (fun z_152 H locs hz_152 hP hD hS => ?_)
      have hres := bindc_eq hz_152 hres
      have hP : va_P G.1 classes (cC G ad nb nt cfa cle cwr csl cst cen cby cto csh cdz cch cva css cve cro crc cma cbi ces cbl crt) H := hP
      have hD : va_D A (cC G ad nb nt cfa cle cwr csl cst cen cby cto csh cdz cch cva css cve cro crc cma cbi ces cbl crt) := hD
      exact en_i (w1 := (fun u : Int32 × Int32 × Int32 × Int32 × Int32 × (Nat → Int32) × Int32 × (Nat → Int32) × (Nat → Int32) => (cC G ad nb nt u.1 u.2.1 cwr csl u.2.2.1 u.2.2.2.1 cby cto csh u.2.2.2.2.1 u.2.2.2.2.2.1 cva u.2.2.2.2.2.2.1 u.2.2.2.2.2.2.2.1 u.2.2.2.2.2.2.2.2 crc cma cbi ces cbl crt))) (cfa, cle, cst, cen, cdz, cch, css, cve, cro) hx hb hr hlocks hK hP hD hS hres d_BT_reopen_155
    · have hres := it_f c_87 hres
      have hok := hok.2 c_87
      refine lv_aload_n hx hb d_BT_reopen_90 rfl (lv_at hl 0 rfl) ?_
      refine va_get (D := G.1) (ci := 0) (C := R_BT) (T := F_BT) (N := 5) hx hb ht in_BT hown hK hP 0 rfl rfl 1 (by decide) (ht _ kf_BT_21) (fun _ h9 => h9) rfl d_BT_reopen_91 ?_
      refine lv_iload_n hx hb d_BT_reopen_94 rfl (lv_at hl 1 rfl) ?_
      obtain ⟨hk_95, hok⟩ := hok
      refine go_iz (run_V hx hb hml hown ht hK hP hD (c_RL_isWholeRoot hk_95) (cw_V ht km_BT_157 ki_RL_isWholeRoot ks_RL_isWholeRoot ini_RL kd_RL_isWholeRoot kh_RL_isWholeRoot ⟨Nat.le_of_ble_eq_true rfl, Nat.le_of_ble_eq_true rfl⟩ rfl rfl) (q0 := 2) (ci := 2) (As := [.int x2]) (rest := []) rfl rfl rfl hl.1 rfl (Nat.le_of_ble_eq_true rfl) d_BT_reopen_95 ⟨Nat.zero_le _, Nat.zero_le _⟩) hD hS hA (fun z_95 H locs hz_95 hP hD hS => ?_)
      have hres := bindc_eq hz_95 hres
      have hok := bindp_eq hz_95 hok
      have hP : va_P G.1 classes (cC G ad nb nt cfa cle cwr csl cst cen cby cto csh cdz cch cva css cve cro crc cma cbi ces cbl crt) H := hP
      have hD : va_D A (cC G ad nb nt cfa cle cwr csl cst cen cby cto csh cdz cch cva css cve cro crc cma cbi ces cbl crt) := hD
      refine lv_if_eq (tgt := 142) hx hb d_BT_reopen_98 (by decide) (fun c_98 => ?_) (fun c_98 => ?_)
      · have hres := it_t c_98 hres
        have hok := hok.1 c_98
        refine lv_iinc (v := x2 + (1 : Int32)) (lv' := [(2, .int (x2 + (1 : Int32))), (0, .ref (ad 0))]) hx hb d_BT_reopen_142 hl (k := 1) rfl rfl (by decide) rfl (fun ls hl => ?_)
        refine lv_goto (tgt := 79) hx hb d_BT_reopen_145 (by decide) ?_
        exact ih (x2 + (1 : Int32)) cfa cle cst cen cdz cch css cve cro _ _ _ hok hres hP hD hS (lv_sub hl [1, 0] rfl)
      · have hres := it_f c_98 hres
        have hok := hok.2 c_98
        refine lv_aload_n hx hb d_BT_reopen_101 rfl (lv_at hl 0 rfl) ?_
        refine va_get (D := G.1) (ci := 0) (C := R_BT) (T := F_BT) (N := 5) hx hb ht in_BT hown hK hP 0 rfl rfl 1 (by decide) (ht _ kf_BT_21) (fun _ h9 => h9) rfl d_BT_reopen_102 ?_
        refine lv_aload_n hx hb d_BT_reopen_105 rfl (lv_at hl 0 rfl) ?_
        refine va_get (D := G.1) (ci := 0) (C := R_BT) (T := F_BT) (N := 5) hx hb ht in_BT hown hK hP 0 rfl rfl 1 (by decide) (ht _ kf_BT_21) (fun _ h9 => h9) rfl d_BT_reopen_106 ?_
        refine lv_iload_n hx hb d_BT_reopen_109 rfl (lv_at hl 1 rfl) ?_
        obtain ⟨hk_110, hok⟩ := hok
        refine go_iz (run_V hx hb hml hown ht hK hP hD (c_RL_numberOf hk_110) (cw_V ht km_BT_151 ki_RL_numberOf ks_RL_numberOf ini_RL kd_RL_numberOf kh_RL_numberOf ⟨Nat.le_of_ble_eq_true rfl, Nat.le_of_ble_eq_true rfl⟩ rfl rfl) (q0 := 2) (ci := 2) (As := [.int x2]) (rest := [.ref (ad 2)]) rfl rfl rfl hl.1 rfl (Nat.le_of_ble_eq_true rfl) d_BT_reopen_110 ⟨Nat.zero_le _, Nat.zero_le _⟩) hD hS hA (fun z_110 H locs hz_110 hP hD hS => ?_)
        have hres := bindc_eq hz_110 hres
        have hok := bindp_eq hz_110 hok
        have hP : va_P G.1 classes (cC G ad nb nt cfa cle cwr csl cst cen cby cto csh cdz cch cva css cve cro crc cma cbi ces cbl crt) H := hP
        have hD : va_D A (cC G ad nb nt cfa cle cwr csl cst cen cby cto csh cdz cch cva css cve cro crc cma cbi ces cbl crt) := hD
        refine go_iz (run_V hx hb hml hown ht hK hP hD (c_RL_isUsed) (cw_V ht km_BT_160 ki_RL_isUsed ks_RL_isUsed ini_RL kd_RL_isUsed kh_RL_isUsed ⟨Nat.le_of_ble_eq_true rfl, Nat.le_of_ble_eq_true rfl⟩ rfl rfl) (q0 := 2) (ci := 2) (As := [.int z_110.1]) (rest := []) rfl rfl rfl hl.1 rfl (Nat.le_of_ble_eq_true rfl) d_BT_reopen_113 ⟨Nat.zero_le _, Nat.zero_le _⟩) hD hS hA (fun z_113 H locs hz_113 hP hD hS => ?_)
        have hres := bindc_eq hz_113 hres
        have hok := bindp_eq hz_113 hok
        have hP : va_P G.1 classes (cC G ad nb nt cfa cle cwr csl cst cen cby cto csh cdz cch cva css cve cro crc cma cbi ces cbl crt) H := hP
        have hD : va_D A (cC G ad nb nt cfa cle cwr csl cst cen cby cto csh cdz cch cva css cve cro crc cma cbi ces cbl crt) := hD
        refine lv_if_eq (tgt := 142) hx hb d_BT_reopen_116 (by decide) (fun c_116 => ?_) (fun c_116 => ?_)
        · have hres := it_t c_116 hres
          have hok := hok.1 c_116
          refine lv_iinc (v := x2 + (1 : Int32)) (lv' := [(2, .int (x2 + (1 : Int32))), (0, .ref (ad 0))]) hx hb d_BT_reopen_142 hl (k := 1) rfl rfl (by decide) rfl (fun ls hl => ?_)
          refine lv_goto (tgt := 79) hx hb d_BT_reopen_145 (by decide) ?_
          exact ih (x2 + (1 : Int32)) cfa cle cst cen cdz cch css cve cro _ _ _ hok hres hP hD hS (lv_sub hl [1, 0] rfl)
        · have hres := it_f c_116 hres
          have hok := hok.2 c_116
          refine lv_aload_n hx hb d_BT_reopen_119 rfl (lv_at hl 0 rfl) ?_
          refine va_get (D := G.1) (ci := 0) (C := R_BT) (T := F_BT) (N := 5) hx hb ht in_BT hown hK hP 0 rfl rfl 3 (by decide) (ht _ kf_BT_35) (fun _ h9 => h9) rfl d_BT_reopen_120 ?_
          refine lv_aload_n hx hb d_BT_reopen_123 rfl (lv_at hl 0 rfl) ?_
          refine va_get (D := G.1) (ci := 0) (C := R_BT) (T := F_BT) (N := 5) hx hb ht in_BT hown hK hP 0 rfl rfl 1 (by decide) (ht _ kf_BT_21) (fun _ h9 => h9) rfl d_BT_reopen_124 ?_
          refine lv_iload_n hx hb d_BT_reopen_127 rfl (lv_at hl 1 rfl) ?_
          obtain ⟨hk_128, hok⟩ := hok
          refine go_iz (run_V hx hb hml hown ht hK hP hD (c_RL_versionOf hk_128) (cw_V ht km_BT_163 ki_RL_versionOf ks_RL_versionOf ini_RL kd_RL_versionOf kh_RL_versionOf ⟨Nat.le_of_ble_eq_true rfl, Nat.le_of_ble_eq_true rfl⟩ rfl rfl) (q0 := 2) (ci := 2) (As := [.int x2]) (rest := [.ref (ad 9)]) rfl rfl rfl hl.1 rfl (Nat.le_of_ble_eq_true rfl) d_BT_reopen_128 ⟨Nat.zero_le _, Nat.zero_le _⟩) hD hS hA (fun z_128 H locs hz_128 hP hD hS => ?_)
          have hres := bindc_eq hz_128 hres
          have hok := bindp_eq hz_128 hok
          have hP : va_P G.1 classes (cC G ad nb nt cfa cle cwr csl cst cen cby cto csh cdz cch cva css cve cro crc cma cbi ces cbl crt) H := hP
          have hD : va_D A (cC G ad nb nt cfa cle cwr csl cst cen cby cto csh cdz cch cva css cve cro crc cma cbi ces cbl crt) := hD
          refine lv_aload_n hx hb d_BT_reopen_131 rfl (lv_at hl 0 rfl) ?_
          refine va_get (D := G.1) (ci := 0) (C := R_BT) (T := F_BT) (N := 5) hx hb ht in_BT hown hK hP 0 rfl rfl 1 (by decide) (ht _ kf_BT_21) (fun _ h9 => h9) rfl d_BT_reopen_132 ?_
          refine lv_iload_n hx hb d_BT_reopen_135 rfl (lv_at hl 1 rfl) ?_
          obtain ⟨hk_136, hok⟩ := hok
          refine go_iz (run_V hx hb hml hown ht hK hP hD (c_RL_numberOf hk_136) (cw_V ht km_BT_151 ki_RL_numberOf ks_RL_numberOf ini_RL kd_RL_numberOf kh_RL_numberOf ⟨Nat.le_of_ble_eq_true rfl, Nat.le_of_ble_eq_true rfl⟩ rfl rfl) (q0 := 2) (ci := 2) (As := [.int x2]) (rest := [.int z_128.1, .ref (ad 9)]) rfl rfl rfl hl.1 rfl (Nat.le_of_ble_eq_true rfl) d_BT_reopen_136 ⟨Nat.zero_le _, Nat.zero_le _⟩) hD hS hA (fun z_136 H locs hz_136 hP hD hS => ?_)
          have hres := bindc_eq hz_136 hres
          have hok := bindp_eq hz_136 hok
          have hP : va_P G.1 classes (cC G ad nb nt cfa cle cwr csl cst cen cby cto csh cdz cch cva css cve cro crc cma cbi ces cbl crt) H := hP
          have hD : va_D A (cC G ad nb nt cfa cle cwr csl cst cen cby cto csh cdz cch cva css cve cro crc cma cbi ces cbl crt) := hD
          obtain ⟨hk_139, hok⟩ := hok
          refine go_vz (run_V hx hb hml hown ht hK hP hD (c_SH_add hk_139) (cw_V ht km_BT_166 ki_SH_add ks_SH_add ini_SH kd_SH_add kh_SH_add ⟨Nat.le_of_ble_eq_true rfl, Nat.le_of_ble_eq_true rfl⟩ rfl rfl) (q0 := 9) (ci := 4) (As := [.int z_128.1, .int z_136.1]) (rest := []) rfl rfl rfl hl.1 rfl (Nat.le_of_ble_eq_true rfl) d_BT_reopen_139 ⟨Nat.zero_le _, Nat.zero_le _⟩) hD hS hA (fun z_139 H locs hz_139 hP hD hS => ?_)
          have hres := bindc_eq hz_139 hres
          have hok := bindp_eq hz_139 hok
          have hP : va_P G.1 classes (cC G ad nb nt cfa cle cwr csl cst cen cby cto csh cdz cch cva z_139.1 z_139.2.1 z_139.2.2 crc cma cbi ces cbl crt) H := hP
          have hD : va_D A (cC G ad nb nt cfa cle cwr csl cst cen cby cto csh cdz cch cva z_139.1 z_139.2.1 z_139.2.2 crc cma cbi ces cbl crt) := hD
          refine lv_iinc (v := x2 + (1 : Int32)) (lv' := [(2, .int (x2 + (1 : Int32))), (0, .ref (ad 0))]) hx hb d_BT_reopen_142 hl (k := 1) rfl rfl (by decide) rfl (fun ls hl => ?_)
          refine lv_goto (tgt := 79) hx hb d_BT_reopen_145 (by decide) ?_
          exact ih (x2 + (1 : Int32)) cfa cle cst cen cdz cch z_139.1 z_139.2.1 z_139.2.2 _ _ _ hok hres hP hD hS (lv_sub hl [1, 0] rfl)
def f_BT_reopen  (cfa : Int32) (cle : Int32) (csl : Int32) (cst : Int32) (cen : Int32) (cby : (Nat → Int32)) (cto : (Nat → Int32)) (cdz : Int32) (cch : (Nat → Int32)) (css : Int32) (cve : (Nat → Int32)) (cro : (Nat → Int32)) : Int32 × Int32 × Int32 × Int32 × Int32 × Int32 × (Nat → Int32) × Int32 × (Nat → Int32) × (Nat → Int32) := bindc (f_PW_restore cfa cle) (fun z_4 => bindc (f_DR_clear cdz cch) (fun z_11 => bindc (f_SH_clear css) (fun z_18 => bindc (f_RL_newestRootSlot csl cby cto) (fun z_25 => if z_25.1 = (-1 : Int32) then bindc (f_RL_use (0 : Int32) (0 : Int32) cst cen) (fun z_40 => bindc (f_SH_newest z_18 cve) (fun z_47 => (z_47.1, (z_4.1, z_4.2, z_40.1, z_40.2, z_11.1, z_11.2, z_18, cve, cro)))) else bindc (f_RL_entryOf z_25.1 (2 : Int32) csl cby) (fun z_61 => bindc (f_RL_numberOf z_25.1 csl cby) (fun z_69 => bindc (f_RL_use z_61.1 (z_69.1 + (1 : Int32)) cst cen) (fun z_74 => f_BT_reopen_79 1024 (0 : Int32) z_4.1 z_4.2 csl z_74.1 z_74.2 cby cto z_11.1 z_11.2 z_18 cve cro)))))))
def ok_BT_reopen (nb : Nat) (nt : Nat)  (cfa : Int32) (cle : Int32) (csl : Int32) (cst : Int32) (cen : Int32) (cby : (Nat → Int32)) (cto : (Nat → Int32)) (cdz : Int32) (cch : (Nat → Int32)) (css : Int32) (cve : (Nat → Int32)) (cro : (Nat → Int32)) : Prop := bindp (f_PW_restore cfa cle) (fun z_4 => ok_DR_clear nb nt cdz cch ∧ bindp (f_DR_clear cdz cch) (fun z_11 => bindp (f_SH_clear css) (fun z_18 => ok_RL_newestRootSlot nb nt csl cby cto ∧ bindp (f_RL_newestRootSlot csl cby cto) (fun z_25 => (z_25.1 = (-1 : Int32) → bindp (f_RL_use (0 : Int32) (0 : Int32) cst cen) (fun z_40 => ok_SH_newest nb nt z_18 cve)) ∧ (¬ z_25.1 = (-1 : Int32) → ok_RL_entryOf nb nt z_25.1 (2 : Int32) csl cby ∧ bindp (f_RL_entryOf z_25.1 (2 : Int32) csl cby) (fun z_61 => ok_RL_numberOf nb nt z_25.1 csl cby ∧ bindp (f_RL_numberOf z_25.1 csl cby) (fun z_69 => bindp (f_RL_use z_61.1 (z_69.1 + (1 : Int32)) cst cen) (fun z_74 => ok_BT_reopen_79 nb nt  1024 (0 : Int32) z_4.1 z_4.2 csl z_74.1 z_74.2 cby cto z_11.1 z_11.2 z_18 cve cro))))))))
set_option maxHeartbeats 4000000 in
set_option maxRecDepth 100000 in
theorem c_BT_reopen {l : Launch} {G : GG} {ad : Nat → Nat} {nb : Nat} {nt : Nat} {sz : Nat} {cfa : Int32} {cle : Int32} {cwr : Int32} {csl : Int32} {cst : Int32} {cen : Int32} {cby : (Nat → Int32)} {cto : (Nat → Int32)} {csh : (Nat → Int32)} {cdz : Int32} {cch : (Nat → Int32)} {cva : (Nat → Int32)} {css : Int32} {cve : (Nat → Int32)} {cro : (Nat → Int32)} {crc : Int32} {cma : (Nat → Int32)} {cbi : (Nat → Int32)} {ces : (Nat → Int32)} {cbl : (Nat → Int32)} {crt : (Nat → Int32)}  (hok : ok_BT_reopen nb nt cfa cle csl cst cen cby cto cdz cch css cve cro) : CtI l y_BT_reopen b_BT_reopen 3 (some .int) rm_BT_reopen G (cC G ad nb nt cfa cle cwr csl cst cen cby cto csh cdz cch cva css cve cro crc cma cbi ces cbl crt) sz [.ref (ad 0)] (eqP (f_BT_reopen cfa cle csl cst cen cby cto cdz cch css cve cro)) (fun u : Int32 × Int32 × Int32 × Int32 × Int32 × (Nat → Int32) × Int32 × (Nat → Int32) × (Nat → Int32) => (cC G ad nb nt u.1 u.2.1 cwr csl u.2.2.1 u.2.2.2.1 cby cto csh u.2.2.2.2.1 u.2.2.2.2.2.1 cva u.2.2.2.2.2.2.1 u.2.2.2.2.2.2.2.1 u.2.2.2.2.2.2.2.2 crc cma cbi ces cbl crt)) := by
  generalize hres : f_BT_reopen cfa cle csl cst cen cby cto cdz cch css cve cro = res
  refine Met_of (Qc := fun A => va_Qi (eqP res) (Wb G A (fun u : Int32 × Int32 × Int32 × Int32 × Int32 × (Nat → Int32) × Int32 × (Nat → Int32) × (Nat → Int32) => (cC G ad nb nt u.1 u.2.1 cwr csl u.2.2.1 u.2.2.2.1 cby cto csh u.2.2.2.2.1 u.2.2.2.2.2.1 cva u.2.2.2.2.2.2.1 u.2.2.2.2.2.2.2.1 u.2.2.2.2.2.2.2.2 crc cma cbi ces cbl crt))) A) (by decide) (Nat.le_of_ble_eq_true rfl) ?_
  intro p e s m below meth c hadm hx hb hr hml hown hlocks ht hK A hA hP hD hS ls hl
  have hC : Cx p l e s m (([.ref (ad 0)] : List Value)).toArray meth c y_BT_reopen b_BT_reopen 3 (some .int) "BookTrees" G A := ⟨hx, hb, hr, hml, hown, hlocks, ht, hK, hA⟩
  have hown : s.vm.findClass "BookTrees" = some m.cls := hown
  have hl : lv_has ls 3 [(0, .ref (ad 0))] := hl
  rw [f_BT_reopen] at hres
  rw [ok_BT_reopen] at hok
  refine lv_aload_n hx hb d_BT_reopen_0 rfl (lv_at hl 0 rfl) ?_
  refine va_get (D := G.1) (ci := 0) (C := R_BT) (T := F_BT) (N := 5) hx hb ht in_BT hown hK hP 0 rfl rfl 0 (by decide) (ht _ kf_BT_10) (fun _ h9 => h9) rfl d_BT_reopen_1 ?_
  refine go_vz (run_V hx hb hml hown ht hK hP hD (c_PW_restore) (cw_V ht km_BT_141 ki_PW_restore ks_PW_restore ini_PW kd_PW_restore kh_PW_restore ⟨Nat.le_of_ble_eq_true rfl, Nat.le_of_ble_eq_true rfl⟩ rfl rfl) (q0 := 1) (ci := 1) (As := []) (rest := []) rfl rfl rfl hl.1 rfl (Nat.le_of_ble_eq_true rfl) d_BT_reopen_4 ⟨Nat.zero_le _, Nat.zero_le _⟩) hD hS hA (fun z_4 H locs hz_4 hP hD hS => ?_)
  have hres := bindc_eq hz_4 hres
  have hok := bindp_eq hz_4 hok
  have hP : va_P G.1 classes (cC G ad nb nt z_4.1 z_4.2 cwr csl cst cen cby cto csh cdz cch cva css cve cro crc cma cbi ces cbl crt) H := hP
  have hD : va_D A (cC G ad nb nt z_4.1 z_4.2 cwr csl cst cen cby cto csh cdz cch cva css cve cro crc cma cbi ces cbl crt) := hD
  refine lv_aload_n hx hb d_BT_reopen_7 rfl (lv_at hl 0 rfl) ?_
  refine va_get (D := G.1) (ci := 0) (C := R_BT) (T := F_BT) (N := 5) hx hb ht in_BT hown hK hP 0 rfl rfl 2 (by decide) (ht _ kf_BT_28) (fun _ h9 => h9) rfl d_BT_reopen_8 ?_
  obtain ⟨hk_11, hok⟩ := hok
  refine go_vz (run_V hx hb hml hown ht hK hP hD (c_DR_clear hk_11) (cw_V ht km_BT_69 ki_DR_clear ks_DR_clear ini_DR kd_DR_clear kh_DR_clear ⟨Nat.le_of_ble_eq_true rfl, Nat.le_of_ble_eq_true rfl⟩ rfl rfl) (q0 := 6) (ci := 3) (As := []) (rest := []) rfl rfl rfl hl.1 rfl (Nat.le_of_ble_eq_true rfl) d_BT_reopen_11 ⟨Nat.zero_le _, Nat.zero_le _⟩) hD hS hA (fun z_11 H locs hz_11 hP hD hS => ?_)
  have hres := bindc_eq hz_11 hres
  have hok := bindp_eq hz_11 hok
  have hP : va_P G.1 classes (cC G ad nb nt z_4.1 z_4.2 cwr csl cst cen cby cto csh z_11.1 z_11.2 cva css cve cro crc cma cbi ces cbl crt) H := hP
  have hD : va_D A (cC G ad nb nt z_4.1 z_4.2 cwr csl cst cen cby cto csh z_11.1 z_11.2 cva css cve cro crc cma cbi ces cbl crt) := hD
  refine lv_aload_n hx hb d_BT_reopen_14 rfl (lv_at hl 0 rfl) ?_
  refine va_get (D := G.1) (ci := 0) (C := R_BT) (T := F_BT) (N := 5) hx hb ht in_BT hown hK hP 0 rfl rfl 3 (by decide) (ht _ kf_BT_35) (fun _ h9 => h9) rfl d_BT_reopen_15 ?_
  refine go_vz (run_V hx hb hml hown ht hK hP hD (c_SH_clear) (cw_V ht km_BT_144 ki_SH_clear ks_SH_clear ini_SH kd_SH_clear kh_SH_clear ⟨Nat.le_of_ble_eq_true rfl, Nat.le_of_ble_eq_true rfl⟩ rfl rfl) (q0 := 9) (ci := 4) (As := []) (rest := []) rfl rfl rfl hl.1 rfl (Nat.le_of_ble_eq_true rfl) d_BT_reopen_18 ⟨Nat.zero_le _, Nat.zero_le _⟩) hD hS hA (fun z_18 H locs hz_18 hP hD hS => ?_)
  have hres := bindc_eq hz_18 hres
  have hok := bindp_eq hz_18 hok
  have hP : va_P G.1 classes (cC G ad nb nt z_4.1 z_4.2 cwr csl cst cen cby cto csh z_11.1 z_11.2 cva z_18 cve cro crc cma cbi ces cbl crt) H := hP
  have hD : va_D A (cC G ad nb nt z_4.1 z_4.2 cwr csl cst cen cby cto csh z_11.1 z_11.2 cva z_18 cve cro crc cma cbi ces cbl crt) := hD
  refine lv_aload_n hx hb d_BT_reopen_21 rfl (lv_at hl 0 rfl) ?_
  refine va_get (D := G.1) (ci := 0) (C := R_BT) (T := F_BT) (N := 5) hx hb ht in_BT hown hK hP 0 rfl rfl 1 (by decide) (ht _ kf_BT_21) (fun _ h9 => h9) rfl d_BT_reopen_22 ?_
  obtain ⟨hk_25, hok⟩ := hok
  refine go_iz (run_V hx hb hml hown ht hK hP hD (c_RL_newestRootSlot hk_25) (cw_V ht km_BT_145 ki_RL_newestRootSlot ks_RL_newestRootSlot ini_RL kd_RL_newestRootSlot kh_RL_newestRootSlot ⟨Nat.le_of_ble_eq_true rfl, Nat.le_of_ble_eq_true rfl⟩ rfl rfl) (q0 := 2) (ci := 2) (As := []) (rest := []) rfl rfl rfl hl.1 rfl (Nat.le_of_ble_eq_true rfl) d_BT_reopen_25 ⟨Nat.zero_le _, Nat.zero_le _⟩) hD hS hA (fun z_25 H locs hz_25 hP hD hS => ?_)
  have hres := bindc_eq hz_25 hres
  have hok := bindp_eq hz_25 hok
  have hP : va_P G.1 classes (cC G ad nb nt z_4.1 z_4.2 cwr csl cst cen cby cto csh z_11.1 z_11.2 cva z_18 cve cro crc cma cbi ces cbl crt) H := hP
  have hD : va_D A (cC G ad nb nt z_4.1 z_4.2 cwr csl cst cen cby cto csh z_11.1 z_11.2 cva z_18 cve cro crc cma cbi ces cbl crt) := hD
  refine lv_istore_n (lv' := [(1, .int z_25.1), (0, .ref (ad 0))]) hx hb d_BT_reopen_28 rfl hl (by decide) rfl (fun ls hl => ?_)
  refine lv_iload_n hx hb d_BT_reopen_29 rfl (lv_at hl 0 rfl) ?_
  refine lv_iconst (v := (-1 : Int32)) hx hb d_BT_reopen_30 (by decide) ?_
  refine lv_icmp_ne (tgt := 51) hx hb d_BT_reopen_31 (by decide) (fun c_31 => ?_) (fun c_31 => ?_)
  · have hres := it_f c_31 hres
    have hok := hok.2 c_31
    refine lv_aload_n hx hb d_BT_reopen_51 rfl (lv_at hl 1 rfl) ?_
    refine va_get (D := G.1) (ci := 0) (C := R_BT) (T := F_BT) (N := 5) hx hb ht in_BT hown hK hP 0 rfl rfl 1 (by decide) (ht _ kf_BT_21) (fun _ h9 => h9) rfl d_BT_reopen_52 ?_
    refine lv_aload_n hx hb d_BT_reopen_55 rfl (lv_at hl 1 rfl) ?_
    refine va_get (D := G.1) (ci := 0) (C := R_BT) (T := F_BT) (N := 5) hx hb ht in_BT hown hK hP 0 rfl rfl 1 (by decide) (ht _ kf_BT_21) (fun _ h9 => h9) rfl d_BT_reopen_56 ?_
    refine lv_iload_n hx hb d_BT_reopen_59 rfl (lv_at hl 0 rfl) ?_
    refine lv_iconst (v := (2 : Int32)) hx hb d_BT_reopen_60 (by decide) ?_
    obtain ⟨hk_61, hok⟩ := hok
    refine go_iz (run_V hx hb hml hown ht hK hP hD (c_RL_entryOf hk_61) (cw_V ht km_BT_130 ki_RL_entryOf ks_RL_entryOf ini_RL kd_RL_entryOf kh_RL_entryOf ⟨Nat.le_of_ble_eq_true rfl, Nat.le_of_ble_eq_true rfl⟩ rfl rfl) (q0 := 2) (ci := 2) (As := [.int z_25.1, .int (2 : Int32)]) (rest := [.ref (ad 2)]) rfl rfl rfl hl.1 rfl (Nat.le_of_ble_eq_true rfl) d_BT_reopen_61 ⟨Nat.zero_le _, Nat.zero_le _⟩) hD hS hA (fun z_61 H locs hz_61 hP hD hS => ?_)
    have hres := bindc_eq hz_61 hres
    have hok := bindp_eq hz_61 hok
    have hP : va_P G.1 classes (cC G ad nb nt z_4.1 z_4.2 cwr csl cst cen cby cto csh z_11.1 z_11.2 cva z_18 cve cro crc cma cbi ces cbl crt) H := hP
    have hD : va_D A (cC G ad nb nt z_4.1 z_4.2 cwr csl cst cen cby cto csh z_11.1 z_11.2 cva z_18 cve cro crc cma cbi ces cbl crt) := hD
    refine lv_aload_n hx hb d_BT_reopen_64 rfl (lv_at hl 1 rfl) ?_
    refine va_get (D := G.1) (ci := 0) (C := R_BT) (T := F_BT) (N := 5) hx hb ht in_BT hown hK hP 0 rfl rfl 1 (by decide) (ht _ kf_BT_21) (fun _ h9 => h9) rfl d_BT_reopen_65 ?_
    refine lv_iload_n hx hb d_BT_reopen_68 rfl (lv_at hl 0 rfl) ?_
    obtain ⟨hk_69, hok⟩ := hok
    refine go_iz (run_V hx hb hml hown ht hK hP hD (c_RL_numberOf hk_69) (cw_V ht km_BT_151 ki_RL_numberOf ks_RL_numberOf ini_RL kd_RL_numberOf kh_RL_numberOf ⟨Nat.le_of_ble_eq_true rfl, Nat.le_of_ble_eq_true rfl⟩ rfl rfl) (q0 := 2) (ci := 2) (As := [.int z_25.1]) (rest := [.int z_61.1, .ref (ad 2)]) rfl rfl rfl hl.1 rfl (Nat.le_of_ble_eq_true rfl) d_BT_reopen_69 ⟨Nat.zero_le _, Nat.zero_le _⟩) hD hS hA (fun z_69 H locs hz_69 hP hD hS => ?_)
    have hres := bindc_eq hz_69 hres
    have hok := bindp_eq hz_69 hok
    have hP : va_P G.1 classes (cC G ad nb nt z_4.1 z_4.2 cwr csl cst cen cby cto csh z_11.1 z_11.2 cva z_18 cve cro crc cma cbi ces cbl crt) H := hP
    have hD : va_D A (cC G ad nb nt z_4.1 z_4.2 cwr csl cst cen cby cto csh z_11.1 z_11.2 cva z_18 cve cro crc cma cbi ces cbl crt) := hD
    refine lv_iconst (v := (1 : Int32)) hx hb d_BT_reopen_72 (by decide) ?_
    refine lv_iadd hx hb d_BT_reopen_73 ?_
    refine go_vz (run_V hx hb hml hown ht hK hP hD (c_RL_use) (cw_V ht km_BT_148 ki_RL_use ks_RL_use ini_RL kd_RL_use kh_RL_use ⟨Nat.le_of_ble_eq_true rfl, Nat.le_of_ble_eq_true rfl⟩ rfl rfl) (q0 := 2) (ci := 2) (As := [.int z_61.1, .int (z_69.1 + (1 : Int32))]) (rest := []) rfl rfl rfl hl.1 rfl (Nat.le_of_ble_eq_true rfl) d_BT_reopen_74 ⟨Nat.zero_le _, Nat.zero_le _⟩) hD hS hA (fun z_74 H locs hz_74 hP hD hS => ?_)
    have hres := bindc_eq hz_74 hres
    have hok := bindp_eq hz_74 hok
    have hP : va_P G.1 classes (cC G ad nb nt z_4.1 z_4.2 cwr csl z_74.1 z_74.2 cby cto csh z_11.1 z_11.2 cva z_18 cve cro crc cma cbi ces cbl crt) H := hP
    have hD : va_D A (cC G ad nb nt z_4.1 z_4.2 cwr csl z_74.1 z_74.2 cby cto csh z_11.1 z_11.2 cva z_18 cve cro crc cma cbi ces cbl crt) := hD
    refine lv_iconst (v := (0 : Int32)) hx hb d_BT_reopen_77 (by decide) ?_
    refine lv_istore_n (lv' := [(2, .int (0 : Int32)), (1, .int z_25.1), (0, .ref (ad 0))]) hx hb d_BT_reopen_78 rfl hl (by decide) rfl (fun ls hl => ?_)
    exact w_BT_reopen_79 hC 1024 (0 : Int32) z_4.1 z_4.2 z_74.1 z_74.2 z_11.1 z_11.2 z_18 cve cro _ _ _ hok hres hP hD hS (lv_sub hl [2, 0] rfl)
  · have hres := it_t c_31 hres
    have hok := hok.1 c_31
    refine lv_aload_n hx hb d_BT_reopen_34 rfl (lv_at hl 1 rfl) ?_
    refine va_get (D := G.1) (ci := 0) (C := R_BT) (T := F_BT) (N := 5) hx hb ht in_BT hown hK hP 0 rfl rfl 1 (by decide) (ht _ kf_BT_21) (fun _ h9 => h9) rfl d_BT_reopen_35 ?_
    refine lv_iconst (v := (0 : Int32)) hx hb d_BT_reopen_38 (by decide) ?_
    refine lv_iconst (v := (0 : Int32)) hx hb d_BT_reopen_39 (by decide) ?_
    refine go_vz (run_V hx hb hml hown ht hK hP hD (c_RL_use) (cw_V ht km_BT_148 ki_RL_use ks_RL_use ini_RL kd_RL_use kh_RL_use ⟨Nat.le_of_ble_eq_true rfl, Nat.le_of_ble_eq_true rfl⟩ rfl rfl) (q0 := 2) (ci := 2) (As := [.int (0 : Int32), .int (0 : Int32)]) (rest := []) rfl rfl rfl hl.1 rfl (Nat.le_of_ble_eq_true rfl) d_BT_reopen_40 ⟨Nat.zero_le _, Nat.zero_le _⟩) hD hS hA (fun z_40 H locs hz_40 hP hD hS => ?_)
    have hres := bindc_eq hz_40 hres
    have hok := bindp_eq hz_40 hok
    have hP : va_P G.1 classes (cC G ad nb nt z_4.1 z_4.2 cwr csl z_40.1 z_40.2 cby cto csh z_11.1 z_11.2 cva z_18 cve cro crc cma cbi ces cbl crt) H := hP
    have hD : va_D A (cC G ad nb nt z_4.1 z_4.2 cwr csl z_40.1 z_40.2 cby cto csh z_11.1 z_11.2 cva z_18 cve cro crc cma cbi ces cbl crt) := hD
    refine lv_aload_n hx hb d_BT_reopen_43 rfl (lv_at hl 1 rfl) ?_
    refine va_get (D := G.1) (ci := 0) (C := R_BT) (T := F_BT) (N := 5) hx hb ht in_BT hown hK hP 0 rfl rfl 3 (by decide) (ht _ kf_BT_35) (fun _ h9 => h9) rfl d_BT_reopen_44 ?_
    have hk_47 := hok
    refine go_iz (run_V hx hb hml hown ht hK hP hD (c_SH_newest hk_47) (cw_V ht km_BT_91 ki_SH_newest ks_SH_newest ini_SH kd_SH_newest kh_SH_newest ⟨Nat.le_of_ble_eq_true rfl, Nat.le_of_ble_eq_true rfl⟩ rfl rfl) (q0 := 9) (ci := 4) (As := []) (rest := []) rfl rfl rfl hl.1 rfl (Nat.le_of_ble_eq_true rfl) d_BT_reopen_47 ⟨Nat.zero_le _, Nat.zero_le _⟩) hD hS hA (fun z_47 H locs hz_47 hP hD hS => ?_)
    have hres := bindc_eq hz_47 hres
    have hP : va_P G.1 classes (cC G ad nb nt z_4.1 z_4.2 cwr csl z_40.1 z_40.2 cby cto csh z_11.1 z_11.2 cva z_18 cve cro crc cma cbi ces cbl crt) H := hP
    have hD : va_D A (cC G ad nb nt z_4.1 z_4.2 cwr csl z_40.1 z_40.2 cby cto csh z_11.1 z_11.2 cva z_18 cve cro crc cma cbi ces cbl crt) := hD
    exact en_i (w1 := (fun u : Int32 × Int32 × Int32 × Int32 × Int32 × (Nat → Int32) × Int32 × (Nat → Int32) × (Nat → Int32) => (cC G ad nb nt u.1 u.2.1 cwr csl u.2.2.1 u.2.2.2.1 cby cto csh u.2.2.2.2.1 u.2.2.2.2.2.1 cva u.2.2.2.2.2.2.1 u.2.2.2.2.2.2.2.1 u.2.2.2.2.2.2.2.2 crc cma cbi ces cbl crt))) (z_4.1, z_4.2, z_40.1, z_40.2, z_11.1, z_11.2, z_18, cve, cro) hx hb hr hlocks hK hP hD hS hres d_BT_reopen_50
/-! ===== BookTrees.isDown()Z ===== -/
abbrev rm_BT_isDown : Room := { frames := 1, cells := 0, slots := 0, locals := 20 }
def f_BT_isDown  (cfa : Int32) : Int32 × Unit := bindc (f_PW_hasFailed cfa) (fun z_4 => (z_4.1, ()))
def ok_BT_isDown (nb : Nat) (nt : Nat)  (cfa : Int32) : Prop := ok_PW_hasFailed nb nt cfa ∧ bindp (f_PW_hasFailed cfa) (fun z_4 => isB z_4.1)
set_option maxHeartbeats 4000000 in
set_option maxRecDepth 100000 in
theorem c_BT_isDown {l : Launch} {G : GG} {ad : Nat → Nat} {nb : Nat} {nt : Nat} {sz : Nat} {cfa : Int32} {cle : Int32} {cwr : Int32} {csl : Int32} {cst : Int32} {cen : Int32} {cby : (Nat → Int32)} {cto : (Nat → Int32)} {csh : (Nat → Int32)} {cdz : Int32} {cch : (Nat → Int32)} {cva : (Nat → Int32)} {css : Int32} {cve : (Nat → Int32)} {cro : (Nat → Int32)} {crc : Int32} {cma : (Nat → Int32)} {cbi : (Nat → Int32)} {ces : (Nat → Int32)} {cbl : (Nat → Int32)} {crt : (Nat → Int32)}  (hok : ok_BT_isDown nb nt cfa) : CtI l y_BT_isDown b_BT_isDown 1 (some .boolean) rm_BT_isDown G (cC G ad nb nt cfa cle cwr csl cst cen cby cto csh cdz cch cva css cve cro crc cma cbi ces cbl crt) sz [.ref (ad 0)] (eqP (f_BT_isDown cfa)) (fun _ : Unit => (cC G ad nb nt cfa cle cwr csl cst cen cby cto csh cdz cch cva css cve cro crc cma cbi ces cbl crt)) := by
  generalize hres : f_BT_isDown cfa = res
  refine Met_of (Qc := fun A => va_Qi (eqP res) (Wb G A (fun _ : Unit => (cC G ad nb nt cfa cle cwr csl cst cen cby cto csh cdz cch cva css cve cro crc cma cbi ces cbl crt))) A) (by decide) (Nat.le_of_ble_eq_true rfl) ?_
  intro p e s m below meth c hadm hx hb hr hml hown hlocks ht hK A hA hP hD hS ls hl
  have hC : Cx p l e s m (([.ref (ad 0)] : List Value)).toArray meth c y_BT_isDown b_BT_isDown 1 (some .boolean) "BookTrees" G A := ⟨hx, hb, hr, hml, hown, hlocks, ht, hK, hA⟩
  have hown : s.vm.findClass "BookTrees" = some m.cls := hown
  have hl : lv_has ls 1 [(0, .ref (ad 0))] := hl
  rw [f_BT_isDown] at hres
  rw [ok_BT_isDown] at hok
  refine lv_aload_n hx hb d_BT_isDown_0 rfl (lv_at hl 0 rfl) ?_
  refine va_get (D := G.1) (ci := 0) (C := R_BT) (T := F_BT) (N := 5) hx hb ht in_BT hown hK hP 0 rfl rfl 0 (by decide) (ht _ kf_BT_10) (fun _ h9 => h9) rfl d_BT_isDown_1 ?_
  obtain ⟨hk_4, hok⟩ := hok
  refine go_iz (run_V hx hb hml hown ht hK hP hD (c_PW_hasFailed hk_4) (cw_V ht km_BT_169 ki_PW_hasFailed ks_PW_hasFailed ini_PW kd_PW_hasFailed kh_PW_hasFailed ⟨Nat.le_of_ble_eq_true rfl, Nat.le_of_ble_eq_true rfl⟩ rfl rfl) (q0 := 1) (ci := 1) (As := []) (rest := []) rfl rfl rfl hl.1 rfl (Nat.le_of_ble_eq_true rfl) d_BT_isDown_4 ⟨Nat.zero_le _, Nat.zero_le _⟩) hD hS hA (fun z_4 H locs hz_4 hP hD hS => ?_)
  have hres := bindc_eq hz_4 hres
  have hok := bindp_eq hz_4 hok
  have hP : va_P G.1 classes (cC G ad nb nt cfa cle cwr csl cst cen cby cto csh cdz cch cva css cve cro crc cma cbi ces cbl crt) H := hP
  have hD : va_D A (cC G ad nb nt cfa cle cwr csl cst cen cby cto csh cdz cch cva css cve cro crc cma cbi ces cbl crt) := hD
  exact en_z (w1 := (fun _ : Unit => (cC G ad nb nt cfa cle cwr csl cst cen cby cto csh cdz cch cva css cve cro crc cma cbi ces cbl crt))) () hx hb hr hlocks hK hP hD hS hres hok d_BT_isDown_7
/-! ===== BookTrees.isByteIndex(I)Z ===== -/
abbrev rm_BT_isByteIndex : Room := { frames := 0, cells := 0, slots := 0, locals := 0 }
def f_BT_isByteIndex (p0 : Int32)  : Int32 × Unit := if p0 < 0 then ((0 : Int32), ()) else if (64 : Int32) ≤ p0 then ((0 : Int32), ()) else ((1 : Int32), ())
set_option maxHeartbeats 4000000 in
set_option maxRecDepth 100000 in
theorem c_BT_isByteIndex {l : Launch} {G : GG} {ad : Nat → Nat} {nb : Nat} {nt : Nat} {sz : Nat} {cfa : Int32} {cle : Int32} {cwr : Int32} {csl : Int32} {cst : Int32} {cen : Int32} {cby : (Nat → Int32)} {cto : (Nat → Int32)} {csh : (Nat → Int32)} {cdz : Int32} {cch : (Nat → Int32)} {cva : (Nat → Int32)} {css : Int32} {cve : (Nat → Int32)} {cro : (Nat → Int32)} {crc : Int32} {cma : (Nat → Int32)} {cbi : (Nat → Int32)} {ces : (Nat → Int32)} {cbl : (Nat → Int32)} {crt : (Nat → Int32)} {p0 : Int32} : CtI l y_BT_isByteIndex b_BT_isByteIndex 2 (some .boolean) rm_BT_isByteIndex G (cC G ad nb nt cfa cle cwr csl cst cen cby cto csh cdz cch cva css cve cro crc cma cbi ces cbl crt) sz [.ref (ad 0), .int p0] (eqP (f_BT_isByteIndex p0)) (fun _ : Unit => (cC G ad nb nt cfa cle cwr csl cst cen cby cto csh cdz cch cva css cve cro crc cma cbi ces cbl crt)) := by
  generalize hres : f_BT_isByteIndex p0 = res
  refine Met_of (Qc := fun A => va_Qi (eqP res) (Wb G A (fun _ : Unit => (cC G ad nb nt cfa cle cwr csl cst cen cby cto csh cdz cch cva css cve cro crc cma cbi ces cbl crt))) A) (by decide) (Nat.le_of_ble_eq_true rfl) ?_
  intro p e s m below meth c hadm hx hb hr hml hown hlocks ht hK A hA hP hD hS ls hl
  have hC : Cx p l e s m (([.ref (ad 0), .int p0] : List Value)).toArray meth c y_BT_isByteIndex b_BT_isByteIndex 2 (some .boolean) "BookTrees" G A := ⟨hx, hb, hr, hml, hown, hlocks, ht, hK, hA⟩
  have hown : s.vm.findClass "BookTrees" = some m.cls := hown
  have hl : lv_has ls 2 [(0, .ref (ad 0)), (1, .int p0)] := hl
  rw [f_BT_isByteIndex] at hres
  refine lv_iload_n hx hb d_BT_isByteIndex_0 rfl (lv_at hl 1 rfl) ?_
  refine lv_if_lt (tgt := 14) hx hb d_BT_isByteIndex_1 (by decide) (fun c_1 => ?_) (fun c_1 => ?_)
  · have hres := it_t c_1 hres
    refine lv_iconst (v := (0 : Int32)) hx hb d_BT_isByteIndex_14 (by decide) ?_
    exact en_z (w1 := (fun _ : Unit => (cC G ad nb nt cfa cle cwr csl cst cen cby cto csh cdz cch cva css cve cro crc cma cbi ces cbl crt))) () hx hb hr hlocks hK hP hD hS hres isB_0 d_BT_isByteIndex_15
  · have hres := it_f c_1 hres
    refine lv_iload_n hx hb d_BT_isByteIndex_4 rfl (lv_at hl 1 rfl) ?_
    refine lv_bipush (v := (64 : Int32)) hx hb d_BT_isByteIndex_5 (by decide) ?_
    refine lv_icmp_ge (tgt := 14) hx hb d_BT_isByteIndex_7 (by decide) (fun c_7 => ?_) (fun c_7 => ?_)
    · have hres := it_t c_7 hres
      refine lv_iconst (v := (0 : Int32)) hx hb d_BT_isByteIndex_14 (by decide) ?_
      exact en_z (w1 := (fun _ : Unit => (cC G ad nb nt cfa cle cwr csl cst cen cby cto csh cdz cch cva css cve cro crc cma cbi ces cbl crt))) () hx hb hr hlocks hK hP hD hS hres isB_0 d_BT_isByteIndex_15
    · have hres := it_f c_7 hres
      refine lv_iconst (v := (1 : Int32)) hx hb d_BT_isByteIndex_10 (by decide) ?_
      refine lv_goto (tgt := 15) hx hb d_BT_isByteIndex_11 (by decide) ?_
      exact en_z (w1 := (fun _ : Unit => (cC G ad nb nt cfa cle cwr csl cst cen cby cto csh cdz cch cva css cve cro crc cma cbi ces cbl crt))) () hx hb hr hlocks hK hP hD hS hres isB_1 d_BT_isByteIndex_15
/-! ===== BookTrees.byteAt(II)I ===== -/
abbrev rm_BT_byteAt : Room := { frames := 3, cells := 0, slots := 0, locals := 65 }
def f_BT_byteAt (p0 : Int32) (p1 : Int32) (cfa : Int32) (csl : Int32) (cst : Int32) (cen : Int32) (cby : (Nat → Int32)) : Int32 × Unit := bindc (f_RL_isUsed p0 cst cen) (fun z_6 => if z_6.1 = 0 then bindc (f_BT_requireArgument (0 : Int32)) (fun z_25 => bindc (f_BT_requirePower cfa) (fun z_29 => bindc (f_RL_byteOf p0 p1 csl cby) (fun z_38 => (z_38.1, ())))) else bindc (f_BT_isByteIndex p1) (fun z_14 => if z_14.1 = 0 then bindc (f_BT_requireArgument (0 : Int32)) (fun z_25 => bindc (f_BT_requirePower cfa) (fun z_29 => bindc (f_RL_byteOf p0 p1 csl cby) (fun z_38 => (z_38.1, ())))) else bindc (f_BT_requireArgument (1 : Int32)) (fun z_25 => bindc (f_BT_requirePower cfa) (fun z_29 => bindc (f_RL_byteOf p0 p1 csl cby) (fun z_38 => (z_38.1, ()))))))
def ok_BT_byteAt (nb : Nat) (nt : Nat) (p0 : Int32) (p1 : Int32) (cfa : Int32) (csl : Int32) (cst : Int32) (cen : Int32) (cby : (Nat → Int32)) : Prop := bindp (f_RL_isUsed p0 cst cen) (fun z_6 => (z_6.1 = 0 → ok_BT_requireArgument nb nt (0 : Int32) ∧ bindp (f_BT_requireArgument (0 : Int32)) (fun z_25 => ok_BT_requirePower nb nt cfa ∧ bindp (f_BT_requirePower cfa) (fun z_29 => ok_RL_byteOf nb nt p0 p1 csl cby))) ∧ (¬ z_6.1 = 0 → bindp (f_BT_isByteIndex p1) (fun z_14 => (z_14.1 = 0 → ok_BT_requireArgument nb nt (0 : Int32) ∧ bindp (f_BT_requireArgument (0 : Int32)) (fun z_25 => ok_BT_requirePower nb nt cfa ∧ bindp (f_BT_requirePower cfa) (fun z_29 => ok_RL_byteOf nb nt p0 p1 csl cby))) ∧ (¬ z_14.1 = 0 → ok_BT_requireArgument nb nt (1 : Int32) ∧ bindp (f_BT_requireArgument (1 : Int32)) (fun z_25 => ok_BT_requirePower nb nt cfa ∧ bindp (f_BT_requirePower cfa) (fun z_29 => ok_RL_byteOf nb nt p0 p1 csl cby))))))
set_option maxHeartbeats 4000000 in
set_option maxRecDepth 100000 in
theorem c_BT_byteAt {l : Launch} {G : GG} {ad : Nat → Nat} {nb : Nat} {nt : Nat} {sz : Nat} {cfa : Int32} {cle : Int32} {cwr : Int32} {csl : Int32} {cst : Int32} {cen : Int32} {cby : (Nat → Int32)} {cto : (Nat → Int32)} {csh : (Nat → Int32)} {cdz : Int32} {cch : (Nat → Int32)} {cva : (Nat → Int32)} {css : Int32} {cve : (Nat → Int32)} {cro : (Nat → Int32)} {crc : Int32} {cma : (Nat → Int32)} {cbi : (Nat → Int32)} {ces : (Nat → Int32)} {cbl : (Nat → Int32)} {crt : (Nat → Int32)} {p0 : Int32} {p1 : Int32} (hok : ok_BT_byteAt nb nt p0 p1 cfa csl cst cen cby) : CtI l y_BT_byteAt b_BT_byteAt 3 (some .int) rm_BT_byteAt G (cC G ad nb nt cfa cle cwr csl cst cen cby cto csh cdz cch cva css cve cro crc cma cbi ces cbl crt) sz [.ref (ad 0), .int p0, .int p1] (eqP (f_BT_byteAt p0 p1 cfa csl cst cen cby)) (fun _ : Unit => (cC G ad nb nt cfa cle cwr csl cst cen cby cto csh cdz cch cva css cve cro crc cma cbi ces cbl crt)) := by
  generalize hres : f_BT_byteAt p0 p1 cfa csl cst cen cby = res
  refine Met_of (Qc := fun A => va_Qi (eqP res) (Wb G A (fun _ : Unit => (cC G ad nb nt cfa cle cwr csl cst cen cby cto csh cdz cch cva css cve cro crc cma cbi ces cbl crt))) A) (by decide) (Nat.le_of_ble_eq_true rfl) ?_
  intro p e s m below meth c hadm hx hb hr hml hown hlocks ht hK A hA hP hD hS ls hl
  have hC : Cx p l e s m (([.ref (ad 0), .int p0, .int p1] : List Value)).toArray meth c y_BT_byteAt b_BT_byteAt 3 (some .int) "BookTrees" G A := ⟨hx, hb, hr, hml, hown, hlocks, ht, hK, hA⟩
  have hown : s.vm.findClass "BookTrees" = some m.cls := hown
  have hl : lv_has ls 3 [(0, .ref (ad 0)), (1, .int p0), (2, .int p1)] := hl
  rw [f_BT_byteAt] at hres
  rw [ok_BT_byteAt] at hok
  refine lv_aload_n hx hb d_BT_byteAt_0 rfl (lv_at hl 0 rfl) ?_
  refine lv_aload_n hx hb d_BT_byteAt_1 rfl (lv_at hl 0 rfl) ?_
  refine va_get (D := G.1) (ci := 0) (C := R_BT) (T := F_BT) (N := 5) hx hb ht in_BT hown hK hP 0 rfl rfl 1 (by decide) (ht _ kf_BT_21) (fun _ h9 => h9) rfl d_BT_byteAt_2 ?_
  refine lv_iload_n hx hb d_BT_byteAt_5 rfl (lv_at hl 1 rfl) ?_
  refine go_iz (run_V hx hb hml hown ht hK hP hD (c_RL_isUsed) (cw_V ht km_BT_160 ki_RL_isUsed ks_RL_isUsed ini_RL kd_RL_isUsed kh_RL_isUsed ⟨Nat.le_of_ble_eq_true rfl, Nat.le_of_ble_eq_true rfl⟩ rfl rfl) (q0 := 2) (ci := 2) (As := [.int p0]) (rest := [.ref (ad 0)]) rfl rfl rfl hl.1 rfl (Nat.le_of_ble_eq_true rfl) d_BT_byteAt_6 ⟨Nat.zero_le _, Nat.zero_le _⟩) hD hS hA (fun z_6 H locs hz_6 hP hD hS => ?_)
  have hres := bindc_eq hz_6 hres
  have hok := bindp_eq hz_6 hok
  have hP : va_P G.1 classes (cC G ad nb nt cfa cle cwr csl cst cen cby cto csh cdz cch cva css cve cro crc cma cbi ces cbl crt) H := hP
  have hD : va_D A (cC G ad nb nt cfa cle cwr csl cst cen cby cto csh cdz cch cva css cve cro crc cma cbi ces cbl crt) := hD
  refine lv_if_eq (tgt := 24) hx hb d_BT_byteAt_9 (by decide) (fun c_9 => ?_) (fun c_9 => ?_)
  · have hres := it_t c_9 hres
    have hok := hok.1 c_9
    refine lv_iconst (v := (0 : Int32)) hx hb d_BT_byteAt_24 (by decide) ?_
    obtain ⟨hk_25, hok⟩ := hok
    refine go_vz (run_V hx hb hml hown ht hK hP hD (c_BT_requireArgument hk_25) (cw_V ht km_BT_50 ki_BT_requireArgument ks_BT_requireArgument ini_BT kd_BT_requireArgument kh_BT_requireArgument ⟨Nat.le_of_ble_eq_true rfl, Nat.le_of_ble_eq_true rfl⟩ rfl rfl) (q0 := 0) (ci := 0) (As := [.int (0 : Int32)]) (rest := []) rfl rfl rfl hl.1 rfl (Nat.le_of_ble_eq_true rfl) d_BT_byteAt_25 ⟨Nat.zero_le _, Nat.zero_le _⟩) hD hS hA (fun z_25 H locs hz_25 hP hD hS => ?_)
    have hres := bindc_eq hz_25 hres
    have hok := bindp_eq hz_25 hok
    have hP : va_P G.1 classes (cC G ad nb nt cfa cle cwr csl cst cen cby cto csh cdz cch cva css cve cro crc cma cbi ces cbl crt) H := hP
    have hD : va_D A (cC G ad nb nt cfa cle cwr csl cst cen cby cto csh cdz cch cva css cve cro crc cma cbi ces cbl crt) := hD
    refine lv_aload_n hx hb d_BT_byteAt_28 rfl (lv_at hl 0 rfl) ?_
    obtain ⟨hk_29, hok⟩ := hok
    refine go_vz (run_V hx hb hml hown ht hK hP hD (c_BT_requirePower hk_29) (cw_V ht km_BT_54 ki_BT_requirePower ks_BT_requirePower ini_BT kd_BT_requirePower kh_BT_requirePower ⟨Nat.le_of_ble_eq_true rfl, Nat.le_of_ble_eq_true rfl⟩ rfl rfl) (q0 := 0) (ci := 0) (As := []) (rest := []) rfl rfl rfl hl.1 rfl (Nat.le_of_ble_eq_true rfl) d_BT_byteAt_29 ⟨Nat.zero_le _, Nat.zero_le _⟩) hD hS hA (fun z_29 H locs hz_29 hP hD hS => ?_)
    have hres := bindc_eq hz_29 hres
    have hok := bindp_eq hz_29 hok
    have hP : va_P G.1 classes (cC G ad nb nt cfa cle cwr csl cst cen cby cto csh cdz cch cva css cve cro crc cma cbi ces cbl crt) H := hP
    have hD : va_D A (cC G ad nb nt cfa cle cwr csl cst cen cby cto csh cdz cch cva css cve cro crc cma cbi ces cbl crt) := hD
    refine lv_aload_n hx hb d_BT_byteAt_32 rfl (lv_at hl 0 rfl) ?_
    refine va_get (D := G.1) (ci := 0) (C := R_BT) (T := F_BT) (N := 5) hx hb ht in_BT hown hK hP 0 rfl rfl 1 (by decide) (ht _ kf_BT_21) (fun _ h9 => h9) rfl d_BT_byteAt_33 ?_
    refine lv_iload_n hx hb d_BT_byteAt_36 rfl (lv_at hl 1 rfl) ?_
    refine lv_iload_n hx hb d_BT_byteAt_37 rfl (lv_at hl 2 rfl) ?_
    have hk_38 := hok
    refine go_iz (run_V hx hb hml hown ht hK hP hD (c_RL_byteOf hk_38) (cw_V ht km_BT_176 ki_RL_byteOf ks_RL_byteOf ini_RL kd_RL_byteOf kh_RL_byteOf ⟨Nat.le_of_ble_eq_true rfl, Nat.le_of_ble_eq_true rfl⟩ rfl rfl) (q0 := 2) (ci := 2) (As := [.int p0, .int p1]) (rest := []) rfl rfl rfl hl.1 rfl (Nat.le_of_ble_eq_true rfl) d_BT_byteAt_38 ⟨Nat.zero_le _, Nat.zero_le _⟩) hD hS hA (fun z_38 H locs hz_38 hP hD hS => ?_)
    have hres := bindc_eq hz_38 hres
    have hP : va_P G.1 classes (cC G ad nb nt cfa cle cwr csl cst cen cby cto csh cdz cch cva css cve cro crc cma cbi ces cbl crt) H := hP
    have hD : va_D A (cC G ad nb nt cfa cle cwr csl cst cen cby cto csh cdz cch cva css cve cro crc cma cbi ces cbl crt) := hD
    exact en_i (w1 := (fun _ : Unit => (cC G ad nb nt cfa cle cwr csl cst cen cby cto csh cdz cch cva css cve cro crc cma cbi ces cbl crt))) () hx hb hr hlocks hK hP hD hS hres d_BT_byteAt_41
  · have hres := it_f c_9 hres
    have hok := hok.2 c_9
    refine lv_aload_n hx hb d_BT_byteAt_12 rfl (lv_at hl 0 rfl) ?_
    refine lv_iload_n hx hb d_BT_byteAt_13 rfl (lv_at hl 2 rfl) ?_
    refine go_iz (run_V hx hb hml hown ht hK hP hD (c_BT_isByteIndex) (cw_V ht km_BT_173 ki_BT_isByteIndex ks_BT_isByteIndex ini_BT kd_BT_isByteIndex kh_BT_isByteIndex ⟨Nat.le_of_ble_eq_true rfl, Nat.le_of_ble_eq_true rfl⟩ rfl rfl) (q0 := 0) (ci := 0) (As := [.int p1]) (rest := [.ref (ad 0)]) rfl rfl rfl hl.1 rfl (Nat.le_of_ble_eq_true rfl) d_BT_byteAt_14 ⟨Nat.zero_le _, Nat.zero_le _⟩) hD hS hA (fun z_14 H locs hz_14 hP hD hS => ?_)
    have hres := bindc_eq hz_14 hres
    have hok := bindp_eq hz_14 hok
    have hP : va_P G.1 classes (cC G ad nb nt cfa cle cwr csl cst cen cby cto csh cdz cch cva css cve cro crc cma cbi ces cbl crt) H := hP
    have hD : va_D A (cC G ad nb nt cfa cle cwr csl cst cen cby cto csh cdz cch cva css cve cro crc cma cbi ces cbl crt) := hD
    refine lv_if_eq (tgt := 24) hx hb d_BT_byteAt_17 (by decide) (fun c_17 => ?_) (fun c_17 => ?_)
    · have hres := it_t c_17 hres
      have hok := hok.1 c_17
      refine lv_iconst (v := (0 : Int32)) hx hb d_BT_byteAt_24 (by decide) ?_
      obtain ⟨hk_25, hok⟩ := hok
      refine go_vz (run_V hx hb hml hown ht hK hP hD (c_BT_requireArgument hk_25) (cw_V ht km_BT_50 ki_BT_requireArgument ks_BT_requireArgument ini_BT kd_BT_requireArgument kh_BT_requireArgument ⟨Nat.le_of_ble_eq_true rfl, Nat.le_of_ble_eq_true rfl⟩ rfl rfl) (q0 := 0) (ci := 0) (As := [.int (0 : Int32)]) (rest := []) rfl rfl rfl hl.1 rfl (Nat.le_of_ble_eq_true rfl) d_BT_byteAt_25 ⟨Nat.zero_le _, Nat.zero_le _⟩) hD hS hA (fun z_25 H locs hz_25 hP hD hS => ?_)
      have hres := bindc_eq hz_25 hres
      have hok := bindp_eq hz_25 hok
      have hP : va_P G.1 classes (cC G ad nb nt cfa cle cwr csl cst cen cby cto csh cdz cch cva css cve cro crc cma cbi ces cbl crt) H := hP
      have hD : va_D A (cC G ad nb nt cfa cle cwr csl cst cen cby cto csh cdz cch cva css cve cro crc cma cbi ces cbl crt) := hD
      refine lv_aload_n hx hb d_BT_byteAt_28 rfl (lv_at hl 0 rfl) ?_
      obtain ⟨hk_29, hok⟩ := hok
      refine go_vz (run_V hx hb hml hown ht hK hP hD (c_BT_requirePower hk_29) (cw_V ht km_BT_54 ki_BT_requirePower ks_BT_requirePower ini_BT kd_BT_requirePower kh_BT_requirePower ⟨Nat.le_of_ble_eq_true rfl, Nat.le_of_ble_eq_true rfl⟩ rfl rfl) (q0 := 0) (ci := 0) (As := []) (rest := []) rfl rfl rfl hl.1 rfl (Nat.le_of_ble_eq_true rfl) d_BT_byteAt_29 ⟨Nat.zero_le _, Nat.zero_le _⟩) hD hS hA (fun z_29 H locs hz_29 hP hD hS => ?_)
      have hres := bindc_eq hz_29 hres
      have hok := bindp_eq hz_29 hok
      have hP : va_P G.1 classes (cC G ad nb nt cfa cle cwr csl cst cen cby cto csh cdz cch cva css cve cro crc cma cbi ces cbl crt) H := hP
      have hD : va_D A (cC G ad nb nt cfa cle cwr csl cst cen cby cto csh cdz cch cva css cve cro crc cma cbi ces cbl crt) := hD
      refine lv_aload_n hx hb d_BT_byteAt_32 rfl (lv_at hl 0 rfl) ?_
      refine va_get (D := G.1) (ci := 0) (C := R_BT) (T := F_BT) (N := 5) hx hb ht in_BT hown hK hP 0 rfl rfl 1 (by decide) (ht _ kf_BT_21) (fun _ h9 => h9) rfl d_BT_byteAt_33 ?_
      refine lv_iload_n hx hb d_BT_byteAt_36 rfl (lv_at hl 1 rfl) ?_
      refine lv_iload_n hx hb d_BT_byteAt_37 rfl (lv_at hl 2 rfl) ?_
      have hk_38 := hok
      refine go_iz (run_V hx hb hml hown ht hK hP hD (c_RL_byteOf hk_38) (cw_V ht km_BT_176 ki_RL_byteOf ks_RL_byteOf ini_RL kd_RL_byteOf kh_RL_byteOf ⟨Nat.le_of_ble_eq_true rfl, Nat.le_of_ble_eq_true rfl⟩ rfl rfl) (q0 := 2) (ci := 2) (As := [.int p0, .int p1]) (rest := []) rfl rfl rfl hl.1 rfl (Nat.le_of_ble_eq_true rfl) d_BT_byteAt_38 ⟨Nat.zero_le _, Nat.zero_le _⟩) hD hS hA (fun z_38 H locs hz_38 hP hD hS => ?_)
      have hres := bindc_eq hz_38 hres
      have hP : va_P G.1 classes (cC G ad nb nt cfa cle cwr csl cst cen cby cto csh cdz cch cva css cve cro crc cma cbi ces cbl crt) H := hP
      have hD : va_D A (cC G ad nb nt cfa cle cwr csl cst cen cby cto csh cdz cch cva css cve cro crc cma cbi ces cbl crt) := hD
      exact en_i (w1 := (fun _ : Unit => (cC G ad nb nt cfa cle cwr csl cst cen cby cto csh cdz cch cva css cve cro crc cma cbi ces cbl crt))) () hx hb hr hlocks hK hP hD hS hres d_BT_byteAt_41
    · have hres := it_f c_17 hres
      have hok := hok.2 c_17
      refine lv_iconst (v := (1 : Int32)) hx hb d_BT_byteAt_20 (by decide) ?_
      refine lv_goto (tgt := 25) hx hb d_BT_byteAt_21 (by decide) ?_
      obtain ⟨hk_25, hok⟩ := hok
      refine go_vz (run_V hx hb hml hown ht hK hP hD (c_BT_requireArgument hk_25) (cw_V ht km_BT_50 ki_BT_requireArgument ks_BT_requireArgument ini_BT kd_BT_requireArgument kh_BT_requireArgument ⟨Nat.le_of_ble_eq_true rfl, Nat.le_of_ble_eq_true rfl⟩ rfl rfl) (q0 := 0) (ci := 0) (As := [.int (1 : Int32)]) (rest := []) rfl rfl rfl hl.1 rfl (Nat.le_of_ble_eq_true rfl) d_BT_byteAt_25 ⟨Nat.zero_le _, Nat.zero_le _⟩) hD hS hA (fun z_25 H locs hz_25 hP hD hS => ?_)
      have hres := bindc_eq hz_25 hres
      have hok := bindp_eq hz_25 hok
      have hP : va_P G.1 classes (cC G ad nb nt cfa cle cwr csl cst cen cby cto csh cdz cch cva css cve cro crc cma cbi ces cbl crt) H := hP
      have hD : va_D A (cC G ad nb nt cfa cle cwr csl cst cen cby cto csh cdz cch cva css cve cro crc cma cbi ces cbl crt) := hD
      refine lv_aload_n hx hb d_BT_byteAt_28 rfl (lv_at hl 0 rfl) ?_
      obtain ⟨hk_29, hok⟩ := hok
      refine go_vz (run_V hx hb hml hown ht hK hP hD (c_BT_requirePower hk_29) (cw_V ht km_BT_54 ki_BT_requirePower ks_BT_requirePower ini_BT kd_BT_requirePower kh_BT_requirePower ⟨Nat.le_of_ble_eq_true rfl, Nat.le_of_ble_eq_true rfl⟩ rfl rfl) (q0 := 0) (ci := 0) (As := []) (rest := []) rfl rfl rfl hl.1 rfl (Nat.le_of_ble_eq_true rfl) d_BT_byteAt_29 ⟨Nat.zero_le _, Nat.zero_le _⟩) hD hS hA (fun z_29 H locs hz_29 hP hD hS => ?_)
      have hres := bindc_eq hz_29 hres
      have hok := bindp_eq hz_29 hok
      have hP : va_P G.1 classes (cC G ad nb nt cfa cle cwr csl cst cen cby cto csh cdz cch cva css cve cro crc cma cbi ces cbl crt) H := hP
      have hD : va_D A (cC G ad nb nt cfa cle cwr csl cst cen cby cto csh cdz cch cva css cve cro crc cma cbi ces cbl crt) := hD
      refine lv_aload_n hx hb d_BT_byteAt_32 rfl (lv_at hl 0 rfl) ?_
      refine va_get (D := G.1) (ci := 0) (C := R_BT) (T := F_BT) (N := 5) hx hb ht in_BT hown hK hP 0 rfl rfl 1 (by decide) (ht _ kf_BT_21) (fun _ h9 => h9) rfl d_BT_byteAt_33 ?_
      refine lv_iload_n hx hb d_BT_byteAt_36 rfl (lv_at hl 1 rfl) ?_
      refine lv_iload_n hx hb d_BT_byteAt_37 rfl (lv_at hl 2 rfl) ?_
      have hk_38 := hok
      refine go_iz (run_V hx hb hml hown ht hK hP hD (c_RL_byteOf hk_38) (cw_V ht km_BT_176 ki_RL_byteOf ks_RL_byteOf ini_RL kd_RL_byteOf kh_RL_byteOf ⟨Nat.le_of_ble_eq_true rfl, Nat.le_of_ble_eq_true rfl⟩ rfl rfl) (q0 := 2) (ci := 2) (As := [.int p0, .int p1]) (rest := []) rfl rfl rfl hl.1 rfl (Nat.le_of_ble_eq_true rfl) d_BT_byteAt_38 ⟨Nat.zero_le _, Nat.zero_le _⟩) hD hS hA (fun z_38 H locs hz_38 hP hD hS => ?_)
      have hres := bindc_eq hz_38 hres
      have hP : va_P G.1 classes (cC G ad nb nt cfa cle cwr csl cst cen cby cto csh cdz cch cva css cve cro crc cma cbi ces cbl crt) H := hP
      have hD : va_D A (cC G ad nb nt cfa cle cwr csl cst cen cby cto csh cdz cch cva css cve cro crc cma cbi ces cbl crt) := hD
      exact en_i (w1 := (fun _ : Unit => (cC G ad nb nt cfa cle cwr csl cst cen cby cto csh cdz cch cva css cve cro crc cma cbi ces cbl crt))) () hx hb hr hlocks hK hP hD hS hres d_BT_byteAt_41
/-! ===== BookTrees$Roll.alter(III)V ===== -/
abbrev rm_RL_alter : Room := { frames := 2, cells := 0, slots := 0, locals := 43 }
def f_RL_alter (p0 : Int32) (p1 : Int32) (p2 : Int32) (csl : Int32) (cby : (Nat → Int32)) : (Nat → Int32) := bindc (f_RL_offsetOf p0 csl) (fun z_2 => upd cby (z_2.1 + p1).toNatClampNeg (vp_nar .byte (((cby (z_2.1 + p1).toNatClampNeg) ^^^ p2).toInt8.toInt32)))
def ok_RL_alter (nb : Nat) (nt : Nat) (p0 : Int32) (p1 : Int32) (p2 : Int32) (csl : Int32) (cby : (Nat → Int32)) : Prop := ok_RL_offsetOf nb nt p0 csl ∧ bindp (f_RL_offsetOf p0 csl) (fun z_2 => vp_in (z_2.1 + p1) nb ∧ (vp_in (z_2.1 + p1) nb))
set_option maxHeartbeats 4000000 in
set_option maxRecDepth 100000 in
theorem c_RL_alter {l : Launch} {G : GG} {ad : Nat → Nat} {nb : Nat} {nt : Nat} {sz : Nat} {cfa : Int32} {cle : Int32} {cwr : Int32} {csl : Int32} {cst : Int32} {cen : Int32} {cby : (Nat → Int32)} {cto : (Nat → Int32)} {csh : (Nat → Int32)} {cdz : Int32} {cch : (Nat → Int32)} {cva : (Nat → Int32)} {css : Int32} {cve : (Nat → Int32)} {cro : (Nat → Int32)} {crc : Int32} {cma : (Nat → Int32)} {cbi : (Nat → Int32)} {ces : (Nat → Int32)} {cbl : (Nat → Int32)} {crt : (Nat → Int32)} {p0 : Int32} {p1 : Int32} {p2 : Int32} (hok : ok_RL_alter nb nt p0 p1 p2 csl cby) : CtV l y_RL_alter b_RL_alter 5 none rm_RL_alter G (cC G ad nb nt cfa cle cwr csl cst cen cby cto csh cdz cch cva css cve cro crc cma cbi ces cbl crt) sz [.ref (ad 2), .int p0, .int p1, .int p2] (eqV (f_RL_alter p0 p1 p2 csl cby)) (fun u : (Nat → Int32) => (cC G ad nb nt cfa cle cwr csl cst cen u cto csh cdz cch cva css cve cro crc cma cbi ces cbl crt)) := by
  generalize hres : f_RL_alter p0 p1 p2 csl cby = res
  refine Met_of (Qc := fun A => va_Qv (eqV res) (Wb G A (fun u : (Nat → Int32) => (cC G ad nb nt cfa cle cwr csl cst cen u cto csh cdz cch cva css cve cro crc cma cbi ces cbl crt))) A) (by decide) (Nat.le_of_ble_eq_true rfl) ?_
  intro p e s m below meth c hadm hx hb hr hml hown hlocks ht hK A hA hP hD hS ls hl
  have hC : Cx p l e s m (([.ref (ad 2), .int p0, .int p1, .int p2] : List Value)).toArray meth c y_RL_alter b_RL_alter 5 none "BookTrees$Roll" G A := ⟨hx, hb, hr, hml, hown, hlocks, ht, hK, hA⟩
  have hown : s.vm.findClass "BookTrees$Roll" = some m.cls := hown
  have hl : lv_has ls 5 [(0, .ref (ad 2)), (1, .int p0), (2, .int p1), (3, .int p2)] := hl
  rw [f_RL_alter] at hres
  rw [ok_RL_alter] at hok
  refine lv_aload_n hx hb d_RL_alter_0 rfl (lv_at hl 0 rfl) ?_
  refine lv_iload_n hx hb d_RL_alter_1 rfl (lv_at hl 1 rfl) ?_
  obtain ⟨hk_2, hok⟩ := hok
  refine go_iz (run_V hx hb hml hown ht hK hP hD (c_RL_offsetOf hk_2) (cw_V ht km_RL_45 ki_RL_offsetOf ks_RL_offsetOf ini_RL kd_RL_offsetOf kh_RL_offsetOf ⟨Nat.le_of_ble_eq_true rfl, Nat.le_of_ble_eq_true rfl⟩ rfl rfl) (q0 := 2) (ci := 2) (As := [.int p0]) (rest := []) rfl rfl rfl hl.1 rfl (Nat.le_of_ble_eq_true rfl) d_RL_alter_2 ⟨Nat.zero_le _, Nat.zero_le _⟩) hD hS hA (fun z_2 H locs hz_2 hP hD hS => ?_)
  have hres := bindc_eq hz_2 hres
  have hok := bindp_eq hz_2 hok
  have hP : va_P G.1 classes (cC G ad nb nt cfa cle cwr csl cst cen cby cto csh cdz cch cva css cve cro crc cma cbi ces cbl crt) H := hP
  have hD : va_D A (cC G ad nb nt cfa cle cwr csl cst cen cby cto csh cdz cch cva css cve cro crc cma cbi ces cbl crt) := hD
  refine lv_iload_n hx hb d_RL_alter_5 rfl (lv_at hl 2 rfl) ?_
  refine lv_iadd hx hb d_RL_alter_6 ?_
  refine lv_istore (lv' := [(4, .int (z_2.1 + p1)), (0, .ref (ad 2)), (1, .int p0), (2, .int p1), (3, .int p2)]) hx hb d_RL_alter_7 hl (by decide) rfl (fun ls hl => ?_)
  refine lv_aload_n hx hb d_RL_alter_9 rfl (lv_at hl 1 rfl) ?_
  refine va_get (D := G.1) (ci := 2) (C := R_RL) (T := F_RL) (N := 7) hx hb ht in_RL hown hK hP 2 rfl rfl 2 (by decide) (ht _ kf_RL_32) (fun _ h9 => h9) rfl d_RL_alter_10 ?_
  refine lv_iload hx hb d_RL_alter_13 (lv_at hl 0 rfl) ?_
  refine lv_aload_n hx hb d_RL_alter_15 rfl (lv_at hl 1 rfl) ?_
  refine va_get (D := G.1) (ci := 2) (C := R_RL) (T := F_RL) (N := 7) hx hb ht in_RL hown hK hP 2 rfl rfl 2 (by decide) (ht _ kf_RL_32) (fun _ h9 => h9) rfl d_RL_alter_16 ?_
  refine lv_iload hx hb d_RL_alter_19 (lv_at hl 0 rfl) ?_
  obtain ⟨hi_21, hok⟩ := hok
  refine va_bald hx hb hK hP 3 2 rfl rfl hi_21 d_RL_alter_21 ?_
  refine lv_iload_n hx hb d_RL_alter_22 rfl (lv_at hl 4 rfl) ?_
  refine lv_ixor hx hb d_RL_alter_23 ?_
  refine lv_i2b hx hb d_RL_alter_24 rfl ?_
  have hi_25 := hok
  refine va_bast hx hb hK hP hD hS 3 2 rfl rfl hi_25 d_RL_alter_25 (fun H locs hP hD hS => ?_)
  have hP : va_P G.1 classes (cC G ad nb nt cfa cle cwr csl cst cen (upd cby (z_2.1 + p1).toNatClampNeg (vp_nar .byte (((cby (z_2.1 + p1).toNatClampNeg) ^^^ p2).toInt8.toInt32))) cto csh cdz cch cva css cve cro crc cma cbi ces cbl crt) H := hP
  have hD : va_D A (cC G ad nb nt cfa cle cwr csl cst cen (upd cby (z_2.1 + p1).toNatClampNeg (vp_nar .byte (((cby (z_2.1 + p1).toNatClampNeg) ^^^ p2).toInt8.toInt32))) cto csh cdz cch cva css cve cro crc cma cbi ces cbl crt) := hD
  exact en_v (w1 := (fun u : (Nat → Int32) => (cC G ad nb nt cfa cle cwr csl cst cen u cto csh cdz cch cva css cve cro crc cma cbi ces cbl crt))) (upd cby (z_2.1 + p1).toNatClampNeg (vp_nar .byte (((cby (z_2.1 + p1).toNatClampNeg) ^^^ p2).toInt8.toInt32))) hx hb hr hlocks hK hP hD hS hres d_RL_alter_26
/-! ===== BookTrees.poke(III)I ===== -/
abbrev rm_BT_poke : Room := { frames := 3, cells := 0, slots := 0, locals := 67 }
def f_BT_poke_36 (x1 : Int32) (x2 : Int32) (x3 : Int32) (cfa : Int32) (csl : Int32) (cst : Int32) (cen : Int32) (cby : (Nat → Int32)) : Int32 × (Nat → Int32) := bindc (f_BT_requireArgument (0 : Int32)) (fun z_37 => bindc (f_BT_requirePower cfa) (fun z_41 => bindc (f_RL_alter x1 x2 x3 csl cby) (fun z_51 => bindc (f_RL_byteOf x1 x2 csl z_51) (fun z_60 => (z_60.1, z_51)))))
def ok_BT_poke_36 (nb : Nat) (nt : Nat) (x1 : Int32) (x2 : Int32) (x3 : Int32) (cfa : Int32) (csl : Int32) (cst : Int32) (cen : Int32) (cby : (Nat → Int32)) : Prop := ok_BT_requireArgument nb nt (0 : Int32) ∧ bindp (f_BT_requireArgument (0 : Int32)) (fun z_37 => ok_BT_requirePower nb nt cfa ∧ bindp (f_BT_requirePower cfa) (fun z_41 => ok_RL_alter nb nt x1 x2 x3 csl cby ∧ bindp (f_RL_alter x1 x2 x3 csl cby) (fun z_51 => ok_RL_byteOf nb nt x1 x2 csl z_51)))
set_option maxHeartbeats 4000000 in
set_option maxRecDepth 100000 in
theorem w_BT_poke_36 {p : Program} {l : Launch} {e : Env} {s : State} {m : MethodId} {args : Array Value} {below : List Frame} {meth : Method} {c : Code} {A : Nat → Prop} {G : GG} {ad : Nat → Nat} {nb : Nat} {nt : Nat} {cfa : Int32} {cle : Int32} {cwr : Int32} {csl : Int32} {cst : Int32} {cen : Int32} {cto : (Nat → Int32)} {csh : (Nat → Int32)} {cdz : Int32} {cch : (Nat → Int32)} {cva : (Nat → Int32)} {css : Int32} {cve : (Nat → Int32)} {cro : (Nat → Int32)} {crc : Int32} {cma : (Nat → Int32)} {cbi : (Nat → Int32)} {ces : (Nat → Int32)} {cbl : (Nat → Int32)} {crt : (Nat → Int32)} {res : Int32 × (Nat → Int32)} (hC : Cx p l e s m args meth c y_BT_poke b_BT_poke 4 (some .int) "BookTrees" G A) : ∀ (x1 : Int32) (x2 : Int32) (x3 : Int32) (cby : (Nat → Int32)) (H : Heap) (locs : List Loc) (ls : Array Slot), ok_BT_poke_36 nb nt x1 x2 x3 cfa csl cst cen cby → f_BT_poke_36 x1 x2 x3 cfa csl cst cen cby = res → va_P G.1 classes (cC G ad nb nt cfa cle cwr csl cst cen cby cto csh cdz cch cva css cve cro crc cma cbi ces cbl crt) H → va_D A (cC G ad nb nt cfa cle cwr csl cst cen cby cto csh cdz cch cva css cve cro crc cma cbi ces cbl crt) → va_S A s.heap H locs → lv_has ls 4 [(0, .ref (ad 0)), (1, .int x1), (2, .int x2), (3, .int x3)] → W p l e rm_BT_poke s m args below meth c H locs 0 0 (MQ below (va_Qi (eqP res) (Wb G A (fun u : (Nat → Int32) => (cC G ad nb nt cfa cle cwr csl cst cen u cto csh cdz cch cva css cve cro crc cma cbi ces cbl crt))) A) args s 0 0 A) (F0 m 36 ls [.ref (ad 0)]) := by
  obtain ⟨hx, hb, hr, hml, hown, hlocks, ht, hK, hA⟩ := id hC
  intro x1 x2 x3 cby H locs ls hok hres hP hD hS hl
  rw [f_BT_poke_36] at hres
  rw [ok_BT_poke_36] at hok
  refine lv_iconst (v := (0 : Int32)) hx hb d_BT_poke_36 (by decide) ?_
  obtain ⟨hk_37, hok⟩ := hok
  refine go_vz (run_V hx hb hml hown ht hK hP hD (c_BT_requireArgument hk_37) (cw_V ht km_BT_50 ki_BT_requireArgument ks_BT_requireArgument ini_BT kd_BT_requireArgument kh_BT_requireArgument ⟨Nat.le_of_ble_eq_true rfl, Nat.le_of_ble_eq_true rfl⟩ rfl rfl) (q0 := 0) (ci := 0) (As := [.int (0 : Int32)]) (rest := []) rfl rfl rfl hl.1 rfl (Nat.le_of_ble_eq_true rfl) d_BT_poke_37 ⟨Nat.zero_le _, Nat.zero_le _⟩) hD hS hA (fun z_37 H locs hz_37 hP hD hS => ?_)
  have hres := bindc_eq hz_37 hres
  have hok := bindp_eq hz_37 hok
  have hP : va_P G.1 classes (cC G ad nb nt cfa cle cwr csl cst cen cby cto csh cdz cch cva css cve cro crc cma cbi ces cbl crt) H := hP
  have hD : va_D A (cC G ad nb nt cfa cle cwr csl cst cen cby cto csh cdz cch cva css cve cro crc cma cbi ces cbl crt) := hD
  refine lv_aload_n hx hb d_BT_poke_40 rfl (lv_at hl 0 rfl) ?_
  obtain ⟨hk_41, hok⟩ := hok
  refine go_vz (run_V hx hb hml hown ht hK hP hD (c_BT_requirePower hk_41) (cw_V ht km_BT_54 ki_BT_requirePower ks_BT_requirePower ini_BT kd_BT_requirePower kh_BT_requirePower ⟨Nat.le_of_ble_eq_true rfl, Nat.le_of_ble_eq_true rfl⟩ rfl rfl) (q0 := 0) (ci := 0) (As := []) (rest := []) rfl rfl rfl hl.1 rfl (Nat.le_of_ble_eq_true rfl) d_BT_poke_41 ⟨Nat.zero_le _, Nat.zero_le _⟩) hD hS hA (fun z_41 H locs hz_41 hP hD hS => ?_)
  have hres := bindc_eq hz_41 hres
  have hok := bindp_eq hz_41 hok
  have hP : va_P G.1 classes (cC G ad nb nt cfa cle cwr csl cst cen cby cto csh cdz cch cva css cve cro crc cma cbi ces cbl crt) H := hP
  have hD : va_D A (cC G ad nb nt cfa cle cwr csl cst cen cby cto csh cdz cch cva css cve cro crc cma cbi ces cbl crt) := hD
  refine lv_aload_n hx hb d_BT_poke_44 rfl (lv_at hl 0 rfl) ?_
  refine va_get (D := G.1) (ci := 0) (C := R_BT) (T := F_BT) (N := 5) hx hb ht in_BT hown hK hP 0 rfl rfl 1 (by decide) (ht _ kf_BT_21) (fun _ h9 => h9) rfl d_BT_poke_45 ?_
  refine lv_iload_n hx hb d_BT_poke_48 rfl (lv_at hl 1 rfl) ?_
  refine lv_iload_n hx hb d_BT_poke_49 rfl (lv_at hl 2 rfl) ?_
  refine lv_iload_n hx hb d_BT_poke_50 rfl (lv_at hl 3 rfl) ?_
  obtain ⟨hk_51, hok⟩ := hok
  refine go_vz (run_V hx hb hml hown ht hK hP hD (c_RL_alter hk_51) (cw_V ht km_BT_179 ki_RL_alter ks_RL_alter ini_RL kd_RL_alter kh_RL_alter ⟨Nat.le_of_ble_eq_true rfl, Nat.le_of_ble_eq_true rfl⟩ rfl rfl) (q0 := 2) (ci := 2) (As := [.int x1, .int x2, .int x3]) (rest := []) rfl rfl rfl hl.1 rfl (Nat.le_of_ble_eq_true rfl) d_BT_poke_51 ⟨Nat.zero_le _, Nat.zero_le _⟩) hD hS hA (fun z_51 H locs hz_51 hP hD hS => ?_)
  have hres := bindc_eq hz_51 hres
  have hok := bindp_eq hz_51 hok
  have hP : va_P G.1 classes (cC G ad nb nt cfa cle cwr csl cst cen z_51 cto csh cdz cch cva css cve cro crc cma cbi ces cbl crt) H := hP
  have hD : va_D A (cC G ad nb nt cfa cle cwr csl cst cen z_51 cto csh cdz cch cva css cve cro crc cma cbi ces cbl crt) := hD
  refine lv_aload_n hx hb d_BT_poke_54 rfl (lv_at hl 0 rfl) ?_
  refine va_get (D := G.1) (ci := 0) (C := R_BT) (T := F_BT) (N := 5) hx hb ht in_BT hown hK hP 0 rfl rfl 1 (by decide) (ht _ kf_BT_21) (fun _ h9 => h9) rfl d_BT_poke_55 ?_
  refine lv_iload_n hx hb d_BT_poke_58 rfl (lv_at hl 1 rfl) ?_
  refine lv_iload_n hx hb d_BT_poke_59 rfl (lv_at hl 2 rfl) ?_
  have hk_60 := hok
  refine go_iz (run_V hx hb hml hown ht hK hP hD (c_RL_byteOf hk_60) (cw_V ht km_BT_176 ki_RL_byteOf ks_RL_byteOf ini_RL kd_RL_byteOf kh_RL_byteOf ⟨Nat.le_of_ble_eq_true rfl, Nat.le_of_ble_eq_true rfl⟩ rfl rfl) (q0 := 2) (ci := 2) (As := [.int x1, .int x2]) (rest := []) rfl rfl rfl hl.1 rfl (Nat.le_of_ble_eq_true rfl) d_BT_poke_60 ⟨Nat.zero_le _, Nat.zero_le _⟩) hD hS hA (fun z_60 H locs hz_60 hP hD hS => ?_)
  have hres := bindc_eq hz_60 hres
  have hP : va_P G.1 classes (cC G ad nb nt cfa cle cwr csl cst cen z_51 cto csh cdz cch cva css cve cro crc cma cbi ces cbl crt) H := hP
  have hD : va_D A (cC G ad nb nt cfa cle cwr csl cst cen z_51 cto csh cdz cch cva css cve cro crc cma cbi ces cbl crt) := hD
  exact en_i (w1 := (fun u : (Nat → Int32) => (cC G ad nb nt cfa cle cwr csl cst cen u cto csh cdz cch cva css cve cro crc cma cbi ces cbl crt))) z_51 hx hb hr hlocks hK hP hD hS hres d_BT_poke_63
def f_BT_poke (p0 : Int32) (p1 : Int32) (p2 : Int32) (cfa : Int32) (csl : Int32) (cst : Int32) (cen : Int32) (cby : (Nat → Int32)) : Int32 × (Nat → Int32) := bindc (f_RL_isUsed p0 cst cen) (fun z_6 => if z_6.1 = 0 then f_BT_poke_36 p0 p1 p2 cfa csl cst cen cby else bindc (f_BT_isByteIndex p1) (fun z_14 => if z_14.1 = 0 then f_BT_poke_36 p0 p1 p2 cfa csl cst cen cby else if p2 < (1 : Int32) then f_BT_poke_36 p0 p1 p2 cfa csl cst cen cby else if (255 : Int32) < p2 then f_BT_poke_36 p0 p1 p2 cfa csl cst cen cby else bindc (f_BT_requireArgument (1 : Int32)) (fun z_37 => bindc (f_BT_requirePower cfa) (fun z_41 => bindc (f_RL_alter p0 p1 p2 csl cby) (fun z_51 => bindc (f_RL_byteOf p0 p1 csl z_51) (fun z_60 => (z_60.1, z_51)))))))
def ok_BT_poke (nb : Nat) (nt : Nat) (p0 : Int32) (p1 : Int32) (p2 : Int32) (cfa : Int32) (csl : Int32) (cst : Int32) (cen : Int32) (cby : (Nat → Int32)) : Prop := bindp (f_RL_isUsed p0 cst cen) (fun z_6 => (z_6.1 = 0 → ok_BT_poke_36 nb nt  p0 p1 p2 cfa csl cst cen cby) ∧ (¬ z_6.1 = 0 → bindp (f_BT_isByteIndex p1) (fun z_14 => (z_14.1 = 0 → ok_BT_poke_36 nb nt  p0 p1 p2 cfa csl cst cen cby) ∧ (¬ z_14.1 = 0 → (p2 < (1 : Int32) → ok_BT_poke_36 nb nt  p0 p1 p2 cfa csl cst cen cby) ∧ (¬ p2 < (1 : Int32) → ((255 : Int32) < p2 → ok_BT_poke_36 nb nt  p0 p1 p2 cfa csl cst cen cby) ∧ (¬ (255 : Int32) < p2 → ok_BT_requireArgument nb nt (1 : Int32) ∧ bindp (f_BT_requireArgument (1 : Int32)) (fun z_37 => ok_BT_requirePower nb nt cfa ∧ bindp (f_BT_requirePower cfa) (fun z_41 => ok_RL_alter nb nt p0 p1 p2 csl cby ∧ bindp (f_RL_alter p0 p1 p2 csl cby) (fun z_51 => ok_RL_byteOf nb nt p0 p1 csl z_51)))))))))
set_option maxHeartbeats 4000000 in
set_option maxRecDepth 100000 in
theorem c_BT_poke {l : Launch} {G : GG} {ad : Nat → Nat} {nb : Nat} {nt : Nat} {sz : Nat} {cfa : Int32} {cle : Int32} {cwr : Int32} {csl : Int32} {cst : Int32} {cen : Int32} {cby : (Nat → Int32)} {cto : (Nat → Int32)} {csh : (Nat → Int32)} {cdz : Int32} {cch : (Nat → Int32)} {cva : (Nat → Int32)} {css : Int32} {cve : (Nat → Int32)} {cro : (Nat → Int32)} {crc : Int32} {cma : (Nat → Int32)} {cbi : (Nat → Int32)} {ces : (Nat → Int32)} {cbl : (Nat → Int32)} {crt : (Nat → Int32)} {p0 : Int32} {p1 : Int32} {p2 : Int32} (hok : ok_BT_poke nb nt p0 p1 p2 cfa csl cst cen cby) : CtI l y_BT_poke b_BT_poke 4 (some .int) rm_BT_poke G (cC G ad nb nt cfa cle cwr csl cst cen cby cto csh cdz cch cva css cve cro crc cma cbi ces cbl crt) sz [.ref (ad 0), .int p0, .int p1, .int p2] (eqP (f_BT_poke p0 p1 p2 cfa csl cst cen cby)) (fun u : (Nat → Int32) => (cC G ad nb nt cfa cle cwr csl cst cen u cto csh cdz cch cva css cve cro crc cma cbi ces cbl crt)) := by
  generalize hres : f_BT_poke p0 p1 p2 cfa csl cst cen cby = res
  refine Met_of (Qc := fun A => va_Qi (eqP res) (Wb G A (fun u : (Nat → Int32) => (cC G ad nb nt cfa cle cwr csl cst cen u cto csh cdz cch cva css cve cro crc cma cbi ces cbl crt))) A) (by decide) (Nat.le_of_ble_eq_true rfl) ?_
  intro p e s m below meth c hadm hx hb hr hml hown hlocks ht hK A hA hP hD hS ls hl
  have hC : Cx p l e s m (([.ref (ad 0), .int p0, .int p1, .int p2] : List Value)).toArray meth c y_BT_poke b_BT_poke 4 (some .int) "BookTrees" G A := ⟨hx, hb, hr, hml, hown, hlocks, ht, hK, hA⟩
  have hown : s.vm.findClass "BookTrees" = some m.cls := hown
  have hl : lv_has ls 4 [(0, .ref (ad 0)), (1, .int p0), (2, .int p1), (3, .int p2)] := hl
  rw [f_BT_poke] at hres
  rw [ok_BT_poke] at hok
  refine lv_aload_n hx hb d_BT_poke_0 rfl (lv_at hl 0 rfl) ?_
  refine lv_aload_n hx hb d_BT_poke_1 rfl (lv_at hl 0 rfl) ?_
  refine va_get (D := G.1) (ci := 0) (C := R_BT) (T := F_BT) (N := 5) hx hb ht in_BT hown hK hP 0 rfl rfl 1 (by decide) (ht _ kf_BT_21) (fun _ h9 => h9) rfl d_BT_poke_2 ?_
  refine lv_iload_n hx hb d_BT_poke_5 rfl (lv_at hl 1 rfl) ?_
  refine go_iz (run_V hx hb hml hown ht hK hP hD (c_RL_isUsed) (cw_V ht km_BT_160 ki_RL_isUsed ks_RL_isUsed ini_RL kd_RL_isUsed kh_RL_isUsed ⟨Nat.le_of_ble_eq_true rfl, Nat.le_of_ble_eq_true rfl⟩ rfl rfl) (q0 := 2) (ci := 2) (As := [.int p0]) (rest := [.ref (ad 0)]) rfl rfl rfl hl.1 rfl (Nat.le_of_ble_eq_true rfl) d_BT_poke_6 ⟨Nat.zero_le _, Nat.zero_le _⟩) hD hS hA (fun z_6 H locs hz_6 hP hD hS => ?_)
  have hres := bindc_eq hz_6 hres
  have hok := bindp_eq hz_6 hok
  have hP : va_P G.1 classes (cC G ad nb nt cfa cle cwr csl cst cen cby cto csh cdz cch cva css cve cro crc cma cbi ces cbl crt) H := hP
  have hD : va_D A (cC G ad nb nt cfa cle cwr csl cst cen cby cto csh cdz cch cva css cve cro crc cma cbi ces cbl crt) := hD
  refine lv_if_eq (tgt := 36) hx hb d_BT_poke_9 (by decide) (fun c_9 => ?_) (fun c_9 => ?_)
  · have hres := it_t c_9 hres
    have hok := hok.1 c_9
    exact w_BT_poke_36 hC p0 p1 p2 cby _ _ _ hok hres hP hD hS (lv_sub hl [0, 1, 2, 3] rfl)
  · have hres := it_f c_9 hres
    have hok := hok.2 c_9
    refine lv_aload_n hx hb d_BT_poke_12 rfl (lv_at hl 0 rfl) ?_
    refine lv_iload_n hx hb d_BT_poke_13 rfl (lv_at hl 2 rfl) ?_
    refine go_iz (run_V hx hb hml hown ht hK hP hD (c_BT_isByteIndex) (cw_V ht km_BT_173 ki_BT_isByteIndex ks_BT_isByteIndex ini_BT kd_BT_isByteIndex kh_BT_isByteIndex ⟨Nat.le_of_ble_eq_true rfl, Nat.le_of_ble_eq_true rfl⟩ rfl rfl) (q0 := 0) (ci := 0) (As := [.int p1]) (rest := [.ref (ad 0)]) rfl rfl rfl hl.1 rfl (Nat.le_of_ble_eq_true rfl) d_BT_poke_14 ⟨Nat.zero_le _, Nat.zero_le _⟩) hD hS hA (fun z_14 H locs hz_14 hP hD hS => ?_)
    have hres := bindc_eq hz_14 hres
    have hok := bindp_eq hz_14 hok
    have hP : va_P G.1 classes (cC G ad nb nt cfa cle cwr csl cst cen cby cto csh cdz cch cva css cve cro crc cma cbi ces cbl crt) H := hP
    have hD : va_D A (cC G ad nb nt cfa cle cwr csl cst cen cby cto csh cdz cch cva css cve cro crc cma cbi ces cbl crt) := hD
    refine lv_if_eq (tgt := 36) hx hb d_BT_poke_17 (by decide) (fun c_17 => ?_) (fun c_17 => ?_)
    · have hres := it_t c_17 hres
      have hok := hok.1 c_17
      exact w_BT_poke_36 hC p0 p1 p2 cby _ _ _ hok hres hP hD hS (lv_sub hl [0, 1, 2, 3] rfl)
    · have hres := it_f c_17 hres
      have hok := hok.2 c_17
      refine lv_iload_n hx hb d_BT_poke_20 rfl (lv_at hl 3 rfl) ?_
      refine lv_iconst (v := (1 : Int32)) hx hb d_BT_poke_21 (by decide) ?_
      refine lv_icmp_lt (tgt := 36) hx hb d_BT_poke_22 (by decide) (fun c_22 => ?_) (fun c_22 => ?_)
      · have hres := it_t c_22 hres
        have hok := hok.1 c_22
        exact w_BT_poke_36 hC p0 p1 p2 cby _ _ _ hok hres hP hD hS (lv_sub hl [0, 1, 2, 3] rfl)
      · have hres := it_f c_22 hres
        have hok := hok.2 c_22
        refine lv_iload_n hx hb d_BT_poke_25 rfl (lv_at hl 3 rfl) ?_
        refine lv_sipush (v := (255 : Int32)) hx hb d_BT_poke_26 (by decide) ?_
        refine lv_icmp_gt (tgt := 36) hx hb d_BT_poke_29 (by decide) (fun c_29 => ?_) (fun c_29 => ?_)
        · have hres := it_t c_29 hres
          have hok := hok.1 c_29
          exact w_BT_poke_36 hC p0 p1 p2 cby _ _ _ hok hres hP hD hS (lv_sub hl [0, 1, 2, 3] rfl)
        · have hres := it_f c_29 hres
          have hok := hok.2 c_29
          refine lv_iconst (v := (1 : Int32)) hx hb d_BT_poke_32 (by decide) ?_
          refine lv_goto (tgt := 37) hx hb d_BT_poke_33 (by decide) ?_
          obtain ⟨hk_37, hok⟩ := hok
          refine go_vz (run_V hx hb hml hown ht hK hP hD (c_BT_requireArgument hk_37) (cw_V ht km_BT_50 ki_BT_requireArgument ks_BT_requireArgument ini_BT kd_BT_requireArgument kh_BT_requireArgument ⟨Nat.le_of_ble_eq_true rfl, Nat.le_of_ble_eq_true rfl⟩ rfl rfl) (q0 := 0) (ci := 0) (As := [.int (1 : Int32)]) (rest := []) rfl rfl rfl hl.1 rfl (Nat.le_of_ble_eq_true rfl) d_BT_poke_37 ⟨Nat.zero_le _, Nat.zero_le _⟩) hD hS hA (fun z_37 H locs hz_37 hP hD hS => ?_)
          have hres := bindc_eq hz_37 hres
          have hok := bindp_eq hz_37 hok
          have hP : va_P G.1 classes (cC G ad nb nt cfa cle cwr csl cst cen cby cto csh cdz cch cva css cve cro crc cma cbi ces cbl crt) H := hP
          have hD : va_D A (cC G ad nb nt cfa cle cwr csl cst cen cby cto csh cdz cch cva css cve cro crc cma cbi ces cbl crt) := hD
          refine lv_aload_n hx hb d_BT_poke_40 rfl (lv_at hl 0 rfl) ?_
          obtain ⟨hk_41, hok⟩ := hok
          refine go_vz (run_V hx hb hml hown ht hK hP hD (c_BT_requirePower hk_41) (cw_V ht km_BT_54 ki_BT_requirePower ks_BT_requirePower ini_BT kd_BT_requirePower kh_BT_requirePower ⟨Nat.le_of_ble_eq_true rfl, Nat.le_of_ble_eq_true rfl⟩ rfl rfl) (q0 := 0) (ci := 0) (As := []) (rest := []) rfl rfl rfl hl.1 rfl (Nat.le_of_ble_eq_true rfl) d_BT_poke_41 ⟨Nat.zero_le _, Nat.zero_le _⟩) hD hS hA (fun z_41 H locs hz_41 hP hD hS => ?_)
          have hres := bindc_eq hz_41 hres
          have hok := bindp_eq hz_41 hok
          have hP : va_P G.1 classes (cC G ad nb nt cfa cle cwr csl cst cen cby cto csh cdz cch cva css cve cro crc cma cbi ces cbl crt) H := hP
          have hD : va_D A (cC G ad nb nt cfa cle cwr csl cst cen cby cto csh cdz cch cva css cve cro crc cma cbi ces cbl crt) := hD
          refine lv_aload_n hx hb d_BT_poke_44 rfl (lv_at hl 0 rfl) ?_
          refine va_get (D := G.1) (ci := 0) (C := R_BT) (T := F_BT) (N := 5) hx hb ht in_BT hown hK hP 0 rfl rfl 1 (by decide) (ht _ kf_BT_21) (fun _ h9 => h9) rfl d_BT_poke_45 ?_
          refine lv_iload_n hx hb d_BT_poke_48 rfl (lv_at hl 1 rfl) ?_
          refine lv_iload_n hx hb d_BT_poke_49 rfl (lv_at hl 2 rfl) ?_
          refine lv_iload_n hx hb d_BT_poke_50 rfl (lv_at hl 3 rfl) ?_
          obtain ⟨hk_51, hok⟩ := hok
          refine go_vz (run_V hx hb hml hown ht hK hP hD (c_RL_alter hk_51) (cw_V ht km_BT_179 ki_RL_alter ks_RL_alter ini_RL kd_RL_alter kh_RL_alter ⟨Nat.le_of_ble_eq_true rfl, Nat.le_of_ble_eq_true rfl⟩ rfl rfl) (q0 := 2) (ci := 2) (As := [.int p0, .int p1, .int p2]) (rest := []) rfl rfl rfl hl.1 rfl (Nat.le_of_ble_eq_true rfl) d_BT_poke_51 ⟨Nat.zero_le _, Nat.zero_le _⟩) hD hS hA (fun z_51 H locs hz_51 hP hD hS => ?_)
          have hres := bindc_eq hz_51 hres
          have hok := bindp_eq hz_51 hok
          have hP : va_P G.1 classes (cC G ad nb nt cfa cle cwr csl cst cen z_51 cto csh cdz cch cva css cve cro crc cma cbi ces cbl crt) H := hP
          have hD : va_D A (cC G ad nb nt cfa cle cwr csl cst cen z_51 cto csh cdz cch cva css cve cro crc cma cbi ces cbl crt) := hD
          refine lv_aload_n hx hb d_BT_poke_54 rfl (lv_at hl 0 rfl) ?_
          refine va_get (D := G.1) (ci := 0) (C := R_BT) (T := F_BT) (N := 5) hx hb ht in_BT hown hK hP 0 rfl rfl 1 (by decide) (ht _ kf_BT_21) (fun _ h9 => h9) rfl d_BT_poke_55 ?_
          refine lv_iload_n hx hb d_BT_poke_58 rfl (lv_at hl 1 rfl) ?_
          refine lv_iload_n hx hb d_BT_poke_59 rfl (lv_at hl 2 rfl) ?_
          have hk_60 := hok
          refine go_iz (run_V hx hb hml hown ht hK hP hD (c_RL_byteOf hk_60) (cw_V ht km_BT_176 ki_RL_byteOf ks_RL_byteOf ini_RL kd_RL_byteOf kh_RL_byteOf ⟨Nat.le_of_ble_eq_true rfl, Nat.le_of_ble_eq_true rfl⟩ rfl rfl) (q0 := 2) (ci := 2) (As := [.int p0, .int p1]) (rest := []) rfl rfl rfl hl.1 rfl (Nat.le_of_ble_eq_true rfl) d_BT_poke_60 ⟨Nat.zero_le _, Nat.zero_le _⟩) hD hS hA (fun z_60 H locs hz_60 hP hD hS => ?_)
          have hres := bindc_eq hz_60 hres
          have hP : va_P G.1 classes (cC G ad nb nt cfa cle cwr csl cst cen z_51 cto csh cdz cch cva css cve cro crc cma cbi ces cbl crt) H := hP
          have hD : va_D A (cC G ad nb nt cfa cle cwr csl cst cen z_51 cto csh cdz cch cva css cve cro crc cma cbi ces cbl crt) := hD
          exact en_i (w1 := (fun u : (Nat → Int32) => (cC G ad nb nt cfa cle cwr csl cst cen u cto csh cdz cch cva css cve cro crc cma cbi ces cbl crt))) z_51 hx hb hr hlocks hK hP hD hS hres d_BT_poke_63
/-! ===== BookTrees.badAt(I)I ===== -/
abbrev rm_BT_badAt : Room := { frames := 3, cells := 0, slots := 0, locals := 71 }
def f_BT_badAt_27 : Nat → Int32 → Int32 → Int32 → Int32 → Int32 → Int32 → Int32 → (Nat → Int32) → (Nat → Int32) → Int32 × Unit
  | 0, x1, x2, x3, cfa, csl, cst, cen, cby, cto => (0, ())
  | n + 1, x1, x2, x3, cfa, csl, cst, cen, cby, cto => bindc (f_RL_end cen) (fun z_32 => if z_32.1 ≤ x3 then ((-1 : Int32), ()) else bindc (f_RL_isSound x3 csl cby cto) (fun z_43 => if z_43.1 = 0 then (if x2 = x1 then (x3, ()) else f_BT_badAt_27 n x1 (x2 + (1 : Int32)) (x3 + (1 : Int32)) cfa csl cst cen cby cto) else f_BT_badAt_27 n x1 x2 (x3 + (1 : Int32)) cfa csl cst cen cby cto))
def ok_BT_badAt_27 (nb : Nat) (nt : Nat) : Nat → Int32 → Int32 → Int32 → Int32 → Int32 → Int32 → Int32 → (Nat → Int32) → (Nat → Int32) → Prop
  | 0, _, _, _, _, _, _, _, _, _ => False
  | n + 1, x1, x2, x3, cfa, csl, cst, cen, cby, cto => bindp (f_RL_end cen) (fun z_32 => (z_32.1 ≤ x3 → True) ∧ (¬ z_32.1 ≤ x3 → ok_RL_isSound nb nt x3 csl cby cto ∧ bindp (f_RL_isSound x3 csl cby cto) (fun z_43 => (z_43.1 = 0 → (x2 = x1 → True) ∧ (¬ x2 = x1 → ok_BT_badAt_27 nb nt  n x1 (x2 + (1 : Int32)) (x3 + (1 : Int32)) cfa csl cst cen cby cto)) ∧ (¬ z_43.1 = 0 → ok_BT_badAt_27 nb nt  n x1 x2 (x3 + (1 : Int32)) cfa csl cst cen cby cto))))
set_option maxHeartbeats 4000000 in
set_option maxRecDepth 100000 in
theorem w_BT_badAt_27 {p : Program} {l : Launch} {e : Env} {s : State} {m : MethodId} {args : Array Value} {below : List Frame} {meth : Method} {c : Code} {A : Nat → Prop} {G : GG} {ad : Nat → Nat} {nb : Nat} {nt : Nat} {cfa : Int32} {cle : Int32} {cwr : Int32} {csl : Int32} {cst : Int32} {cen : Int32} {cby : (Nat → Int32)} {cto : (Nat → Int32)} {csh : (Nat → Int32)} {cdz : Int32} {cch : (Nat → Int32)} {cva : (Nat → Int32)} {css : Int32} {cve : (Nat → Int32)} {cro : (Nat → Int32)} {crc : Int32} {cma : (Nat → Int32)} {cbi : (Nat → Int32)} {ces : (Nat → Int32)} {cbl : (Nat → Int32)} {crt : (Nat → Int32)} {res : Int32 × Unit} (hC : Cx p l e s m args meth c y_BT_badAt b_BT_badAt 4 (some .int) "BookTrees" G A) : ∀ (n : Nat) (x1 : Int32) (x2 : Int32) (x3 : Int32)  (H : Heap) (locs : List Loc) (ls : Array Slot), ok_BT_badAt_27 nb nt n x1 x2 x3 cfa csl cst cen cby cto → f_BT_badAt_27 n x1 x2 x3 cfa csl cst cen cby cto = res → va_P G.1 classes (cC G ad nb nt cfa cle cwr csl cst cen cby cto csh cdz cch cva css cve cro crc cma cbi ces cbl crt) H → va_D A (cC G ad nb nt cfa cle cwr csl cst cen cby cto csh cdz cch cva css cve cro crc cma cbi ces cbl crt) → va_S A s.heap H locs → lv_has ls 4 [(0, .ref (ad 0)), (1, .int x1), (2, .int x2), (3, .int x3)] → W p l e rm_BT_badAt s m args below meth c H locs 0 0 (MQ below (va_Qi (eqP res) (Wb G A (fun _ : Unit => (cC G ad nb nt cfa cle cwr csl cst cen cby cto csh cdz cch cva css cve cro crc cma cbi ces cbl crt))) A) args s 0 0 A) (F0 m 27 ls []) := by
  obtain ⟨hx, hb, hr, hml, hown, hlocks, ht, hK, hA⟩ := id hC
  intro n
  induction n with
  | zero => intro x1 x2 x3 H locs ls hok; exact hok.elim
  | succ n ih =>
    intro x1 x2 x3 H locs ls hok hres hP hD hS hl
    rw [f_BT_badAt_27] at hres
    rw [ok_BT_badAt_27] at hok
    refine lv_iload_n hx hb d_BT_badAt_27 rfl (lv_at hl 3 rfl) ?_
    refine lv_aload_n hx hb d_BT_badAt_28 rfl (lv_at hl 0 rfl) ?_
    refine va_get (D := G.1) (ci := 0) (C := R_BT) (T := F_BT) (N := 5) hx hb ht in_BT hown hK hP 0 rfl rfl 1 (by decide) (ht _ kf_BT_21) (fun _ h9 => h9) rfl d_BT_badAt_29 ?_
    refine go_iz (run_V hx hb hml hown ht hK hP hD (c_RL_end) (cw_V ht km_BT_186 ki_RL_end ks_RL_end ini_RL kd_RL_end kh_RL_end ⟨Nat.le_of_ble_eq_true rfl, Nat.le_of_ble_eq_true rfl⟩ rfl rfl) (q0 := 2) (ci := 2) (As := []) (rest := [.int x3]) rfl rfl rfl hl.1 rfl (Nat.le_of_ble_eq_true rfl) d_BT_badAt_32 ⟨Nat.zero_le _, Nat.zero_le _⟩) hD hS hA (fun z_32 H locs hz_32 hP hD hS => ?_)
    have hres := bindc_eq hz_32 hres
    have hok := bindp_eq hz_32 hok
    have hP : va_P G.1 classes (cC G ad nb nt cfa cle cwr csl cst cen cby cto csh cdz cch cva css cve cro crc cma cbi ces cbl crt) H := hP
    have hD : va_D A (cC G ad nb nt cfa cle cwr csl cst cen cby cto csh cdz cch cva css cve cro crc cma cbi ces cbl crt) := hD
    refine lv_icmp_ge (tgt := 65) hx hb d_BT_badAt_35 (by decide) (fun c_35 => ?_) (fun c_35 => ?_)
    · have hres := it_t c_35 hres
      refine lv_iconst (v := (-1 : Int32)) hx hb d_BT_badAt_65 (by decide) ?_
      exact en_i (w1 := (fun _ : Unit => (cC G ad nb nt cfa cle cwr csl cst cen cby cto csh cdz cch cva css cve cro crc cma cbi ces cbl crt))) () hx hb hr hlocks hK hP hD hS hres d_BT_badAt_66
    · have hres := it_f c_35 hres
      have hok := hok.2 c_35
      refine lv_aload_n hx hb d_BT_badAt_38 rfl (lv_at hl 0 rfl) ?_
      refine va_get (D := G.1) (ci := 0) (C := R_BT) (T := F_BT) (N := 5) hx hb ht in_BT hown hK hP 0 rfl rfl 1 (by decide) (ht _ kf_BT_21) (fun _ h9 => h9) rfl d_BT_badAt_39 ?_
      refine lv_iload_n hx hb d_BT_badAt_42 rfl (lv_at hl 3 rfl) ?_
      obtain ⟨hk_43, hok⟩ := hok
      refine go_iz (run_V hx hb hml hown ht hK hP hD (c_RL_isSound hk_43) (cw_V ht km_BT_189 ki_RL_isSound ks_RL_isSound ini_RL kd_RL_isSound kh_RL_isSound ⟨Nat.le_of_ble_eq_true rfl, Nat.le_of_ble_eq_true rfl⟩ rfl rfl) (q0 := 2) (ci := 2) (As := [.int x3]) (rest := []) rfl rfl rfl hl.1 rfl (Nat.le_of_ble_eq_true rfl) d_BT_badAt_43 ⟨Nat.zero_le _, Nat.zero_le _⟩) hD hS hA (fun z_43 H locs hz_43 hP hD hS => ?_)
      have hres := bindc_eq hz_43 hres
      have hok := bindp_eq hz_43 hok
      have hP : va_P G.1 classes (cC G ad nb nt cfa cle cwr csl cst cen cby cto csh cdz cch cva css cve cro crc cma cbi ces cbl crt) H := hP
      have hD : va_D A (cC G ad nb nt cfa cle cwr csl cst cen cby cto csh cdz cch cva css cve cro crc cma cbi ces cbl crt) := hD
      refine lv_if_ne (tgt := 59) hx hb d_BT_badAt_46 (by decide) (fun c_46 => ?_) (fun c_46 => ?_)
      · have hres := it_f c_46 hres
        have hok := hok.2 c_46
        refine lv_iinc (v := x3 + (1 : Int32)) (lv' := [(3, .int (x3 + (1 : Int32))), (0, .ref (ad 0)), (1, .int x1), (2, .int x2)]) hx hb d_BT_badAt_59 hl (k := 3) rfl rfl (by decide) rfl (fun ls hl => ?_)
        refine lv_goto (tgt := 27) hx hb d_BT_badAt_62 (by decide) ?_
        exact ih x1 x2 (x3 + (1 : Int32)) _ _ _ hok hres hP hD hS (lv_sub hl [1, 2, 3, 0] rfl)
      · have hres := it_t c_46 hres
        have hok := hok.1 c_46
        refine lv_iload_n hx hb d_BT_badAt_49 rfl (lv_at hl 2 rfl) ?_
        refine lv_iload_n hx hb d_BT_badAt_50 rfl (lv_at hl 1 rfl) ?_
        refine lv_icmp_ne (tgt := 56) hx hb d_BT_badAt_51 (by decide) (fun c_51 => ?_) (fun c_51 => ?_)
        · have hres := it_f c_51 hres
          have hok := hok.2 c_51
          refine lv_iinc (v := x2 + (1 : Int32)) (lv' := [(2, .int (x2 + (1 : Int32))), (0, .ref (ad 0)), (1, .int x1), (3, .int x3)]) hx hb d_BT_badAt_56 hl (k := 2) rfl rfl (by decide) rfl (fun ls hl => ?_)
          refine lv_iinc (v := x3 + (1 : Int32)) (lv' := [(3, .int (x3 + (1 : Int32))), (2, .int (x2 + (1 : Int32))), (0, .ref (ad 0)), (1, .int x1)]) hx hb d_BT_badAt_59 hl (k := 3) rfl rfl (by decide) rfl (fun ls hl => ?_)
          refine lv_goto (tgt := 27) hx hb d_BT_badAt_62 (by decide) ?_
          exact ih x1 (x2 + (1 : Int32)) (x3 + (1 : Int32)) _ _ _ hok hres hP hD hS (lv_sub hl [2, 3, 1, 0] rfl)
        · have hres := it_t c_51 hres
          refine lv_iload_n hx hb d_BT_badAt_54 rfl (lv_at hl 3 rfl) ?_
          exact en_i (w1 := (fun _ : Unit => (cC G ad nb nt cfa cle cwr csl cst cen cby cto csh cdz cch cva css cve cro crc cma cbi ces cbl crt))) () hx hb hr hlocks hK hP hD hS hres d_BT_badAt_55
def f_BT_badAt_10 (x1 : Int32) (y1 : Int32) (cfa : Int32) (csl : Int32) (cst : Int32) (cen : Int32) (cby : (Nat → Int32)) (cto : (Nat → Int32)) : Int32 × Unit := bindc (f_BT_requireArgument y1) (fun z_10 => bindc (f_BT_requirePower cfa) (fun z_14 => bindc (f_RL_start cst) (fun z_23 => f_BT_badAt_27 1024 x1 (0 : Int32) z_23.1 cfa csl cst cen cby cto)))
def ok_BT_badAt_10 (nb : Nat) (nt : Nat) (x1 : Int32) (y1 : Int32) (cfa : Int32) (csl : Int32) (cst : Int32) (cen : Int32) (cby : (Nat → Int32)) (cto : (Nat → Int32)) : Prop := ok_BT_requireArgument nb nt y1 ∧ bindp (f_BT_requireArgument y1) (fun z_10 => ok_BT_requirePower nb nt cfa ∧ bindp (f_BT_requirePower cfa) (fun z_14 => bindp (f_RL_start cst) (fun z_23 => ok_BT_badAt_27 nb nt  1024 x1 (0 : Int32) z_23.1 cfa csl cst cen cby cto)))
set_option maxHeartbeats 4000000 in
set_option maxRecDepth 100000 in
theorem w_BT_badAt_10 {p : Program} {l : Launch} {e : Env} {s : State} {m : MethodId} {args : Array Value} {below : List Frame} {meth : Method} {c : Code} {A : Nat → Prop} {G : GG} {ad : Nat → Nat} {nb : Nat} {nt : Nat} {cfa : Int32} {cle : Int32} {cwr : Int32} {csl : Int32} {cst : Int32} {cen : Int32} {cby : (Nat → Int32)} {cto : (Nat → Int32)} {csh : (Nat → Int32)} {cdz : Int32} {cch : (Nat → Int32)} {cva : (Nat → Int32)} {css : Int32} {cve : (Nat → Int32)} {cro : (Nat → Int32)} {crc : Int32} {cma : (Nat → Int32)} {cbi : (Nat → Int32)} {ces : (Nat → Int32)} {cbl : (Nat → Int32)} {crt : (Nat → Int32)} {res : Int32 × Unit} (hC : Cx p l e s m args meth c y_BT_badAt b_BT_badAt 4 (some .int) "BookTrees" G A) : ∀ (x1 : Int32) (y1 : Int32)  (H : Heap) (locs : List Loc) (ls : Array Slot), ok_BT_badAt_10 nb nt x1 y1 cfa csl cst cen cby cto → f_BT_badAt_10 x1 y1 cfa csl cst cen cby cto = res → va_P G.1 classes (cC G ad nb nt cfa cle cwr csl cst cen cby cto csh cdz cch cva css cve cro crc cma cbi ces cbl crt) H → va_D A (cC G ad nb nt cfa cle cwr csl cst cen cby cto csh cdz cch cva css cve cro crc cma cbi ces cbl crt) → va_S A s.heap H locs → lv_has ls 4 [(0, .ref (ad 0)), (1, .int x1)] → W p l e rm_BT_badAt s m args below meth c H locs 0 0 (MQ below (va_Qi (eqP res) (Wb G A (fun _ : Unit => (cC G ad nb nt cfa cle cwr csl cst cen cby cto csh cdz cch cva css cve cro crc cma cbi ces cbl crt))) A) args s 0 0 A) (F0 m 10 ls [.int y1, .ref (ad 0)]) := by
  obtain ⟨hx, hb, hr, hml, hown, hlocks, ht, hK, hA⟩ := id hC
  intro x1 y1 H locs ls hok hres hP hD hS hl
  rw [f_BT_badAt_10] at hres
  rw [ok_BT_badAt_10] at hok
  obtain ⟨hk_10, hok⟩ := hok
  refine go_vz (run_V hx hb hml hown ht hK hP hD (c_BT_requireArgument hk_10) (cw_V ht km_BT_50 ki_BT_requireArgument ks_BT_requireArgument ini_BT kd_BT_requireArgument kh_BT_requireArgument ⟨Nat.le_of_ble_eq_true rfl, Nat.le_of_ble_eq_true rfl⟩ rfl rfl) (q0 := 0) (ci := 0) (As := [.int y1]) (rest := []) rfl rfl rfl hl.1 rfl (Nat.le_of_ble_eq_true rfl) d_BT_badAt_10 ⟨Nat.zero_le _, Nat.zero_le _⟩) hD hS hA (fun z_10 H locs hz_10 hP hD hS => ?_)
  have hres := bindc_eq hz_10 hres
  have hok := bindp_eq hz_10 hok
  have hP : va_P G.1 classes (cC G ad nb nt cfa cle cwr csl cst cen cby cto csh cdz cch cva css cve cro crc cma cbi ces cbl crt) H := hP
  have hD : va_D A (cC G ad nb nt cfa cle cwr csl cst cen cby cto csh cdz cch cva css cve cro crc cma cbi ces cbl crt) := hD
  refine lv_aload_n hx hb d_BT_badAt_13 rfl (lv_at hl 0 rfl) ?_
  obtain ⟨hk_14, hok⟩ := hok
  refine go_vz (run_V hx hb hml hown ht hK hP hD (c_BT_requirePower hk_14) (cw_V ht km_BT_54 ki_BT_requirePower ks_BT_requirePower ini_BT kd_BT_requirePower kh_BT_requirePower ⟨Nat.le_of_ble_eq_true rfl, Nat.le_of_ble_eq_true rfl⟩ rfl rfl) (q0 := 0) (ci := 0) (As := []) (rest := []) rfl rfl rfl hl.1 rfl (Nat.le_of_ble_eq_true rfl) d_BT_badAt_14 ⟨Nat.zero_le _, Nat.zero_le _⟩) hD hS hA (fun z_14 H locs hz_14 hP hD hS => ?_)
  have hres := bindc_eq hz_14 hres
  have hok := bindp_eq hz_14 hok
  have hP : va_P G.1 classes (cC G ad nb nt cfa cle cwr csl cst cen cby cto csh cdz cch cva css cve cro crc cma cbi ces cbl crt) H := hP
  have hD : va_D A (cC G ad nb nt cfa cle cwr csl cst cen cby cto csh cdz cch cva css cve cro crc cma cbi ces cbl crt) := hD
  refine lv_iconst (v := (0 : Int32)) hx hb d_BT_badAt_17 (by decide) ?_
  refine lv_istore_n (lv' := [(2, .int (0 : Int32)), (0, .ref (ad 0)), (1, .int x1)]) hx hb d_BT_badAt_18 rfl hl (by decide) rfl (fun ls hl => ?_)
  refine lv_aload_n hx hb d_BT_badAt_19 rfl (lv_at hl 1 rfl) ?_
  refine va_get (D := G.1) (ci := 0) (C := R_BT) (T := F_BT) (N := 5) hx hb ht in_BT hown hK hP 0 rfl rfl 1 (by decide) (ht _ kf_BT_21) (fun _ h9 => h9) rfl d_BT_badAt_20 ?_
  refine go_iz (run_V hx hb hml hown ht hK hP hD (c_RL_start) (cw_V ht km_BT_183 ki_RL_start ks_RL_start ini_RL kd_RL_start kh_RL_start ⟨Nat.le_of_ble_eq_true rfl, Nat.le_of_ble_eq_true rfl⟩ rfl rfl) (q0 := 2) (ci := 2) (As := []) (rest := []) rfl rfl rfl hl.1 rfl (Nat.le_of_ble_eq_true rfl) d_BT_badAt_23 ⟨Nat.zero_le _, Nat.zero_le _⟩) hD hS hA (fun z_23 H locs hz_23 hP hD hS => ?_)
  have hres := bindc_eq hz_23 hres
  have hok := bindp_eq hz_23 hok
  have hP : va_P G.1 classes (cC G ad nb nt cfa cle cwr csl cst cen cby cto csh cdz cch cva css cve cro crc cma cbi ces cbl crt) H := hP
  have hD : va_D A (cC G ad nb nt cfa cle cwr csl cst cen cby cto csh cdz cch cva css cve cro crc cma cbi ces cbl crt) := hD
  refine lv_istore_n (lv' := [(3, .int z_23.1), (2, .int (0 : Int32)), (0, .ref (ad 0)), (1, .int x1)]) hx hb d_BT_badAt_26 rfl hl (by decide) rfl (fun ls hl => ?_)
  exact w_BT_badAt_27 hC 1024 x1 (0 : Int32) z_23.1 _ _ _ hok hres hP hD hS (lv_sub hl [2, 3, 1, 0] rfl)
def f_BT_badAt (p0 : Int32) (cfa : Int32) (csl : Int32) (cst : Int32) (cen : Int32) (cby : (Nat → Int32)) (cto : (Nat → Int32)) : Int32 × Unit := if p0 < 0 then f_BT_badAt_10 p0 (0 : Int32) cfa csl cst cen cby cto else f_BT_badAt_10 p0 (1 : Int32) cfa csl cst cen cby cto
def ok_BT_badAt (nb : Nat) (nt : Nat) (p0 : Int32) (cfa : Int32) (csl : Int32) (cst : Int32) (cen : Int32) (cby : (Nat → Int32)) (cto : (Nat → Int32)) : Prop := (p0 < 0 → ok_BT_badAt_10 nb nt  p0 (0 : Int32) cfa csl cst cen cby cto) ∧ (¬ p0 < 0 → ok_BT_badAt_10 nb nt  p0 (1 : Int32) cfa csl cst cen cby cto)
set_option maxHeartbeats 4000000 in
set_option maxRecDepth 100000 in
theorem c_BT_badAt {l : Launch} {G : GG} {ad : Nat → Nat} {nb : Nat} {nt : Nat} {sz : Nat} {cfa : Int32} {cle : Int32} {cwr : Int32} {csl : Int32} {cst : Int32} {cen : Int32} {cby : (Nat → Int32)} {cto : (Nat → Int32)} {csh : (Nat → Int32)} {cdz : Int32} {cch : (Nat → Int32)} {cva : (Nat → Int32)} {css : Int32} {cve : (Nat → Int32)} {cro : (Nat → Int32)} {crc : Int32} {cma : (Nat → Int32)} {cbi : (Nat → Int32)} {ces : (Nat → Int32)} {cbl : (Nat → Int32)} {crt : (Nat → Int32)} {p0 : Int32} (hok : ok_BT_badAt nb nt p0 cfa csl cst cen cby cto) : CtI l y_BT_badAt b_BT_badAt 4 (some .int) rm_BT_badAt G (cC G ad nb nt cfa cle cwr csl cst cen cby cto csh cdz cch cva css cve cro crc cma cbi ces cbl crt) sz [.ref (ad 0), .int p0] (eqP (f_BT_badAt p0 cfa csl cst cen cby cto)) (fun _ : Unit => (cC G ad nb nt cfa cle cwr csl cst cen cby cto csh cdz cch cva css cve cro crc cma cbi ces cbl crt)) := by
  generalize hres : f_BT_badAt p0 cfa csl cst cen cby cto = res
  refine Met_of (Qc := fun A => va_Qi (eqP res) (Wb G A (fun _ : Unit => (cC G ad nb nt cfa cle cwr csl cst cen cby cto csh cdz cch cva css cve cro crc cma cbi ces cbl crt))) A) (by decide) (Nat.le_of_ble_eq_true rfl) ?_
  intro p e s m below meth c hadm hx hb hr hml hown hlocks ht hK A hA hP hD hS ls hl
  have hC : Cx p l e s m (([.ref (ad 0), .int p0] : List Value)).toArray meth c y_BT_badAt b_BT_badAt 4 (some .int) "BookTrees" G A := ⟨hx, hb, hr, hml, hown, hlocks, ht, hK, hA⟩
  have hown : s.vm.findClass "BookTrees" = some m.cls := hown
  have hl : lv_has ls 4 [(0, .ref (ad 0)), (1, .int p0)] := hl
  rw [f_BT_badAt] at hres
  rw [ok_BT_badAt] at hok
  refine lv_aload_n hx hb d_BT_badAt_0 rfl (lv_at hl 0 rfl) ?_
  refine lv_iload_n hx hb d_BT_badAt_1 rfl (lv_at hl 1 rfl) ?_
  refine lv_if_lt (tgt := 9) hx hb d_BT_badAt_2 (by decide) (fun c_2 => ?_) (fun c_2 => ?_)
  · have hres := it_t c_2 hres
    have hok := hok.1 c_2
    refine lv_iconst (v := (0 : Int32)) hx hb d_BT_badAt_9 (by decide) ?_
    exact w_BT_badAt_10 hC p0 (0 : Int32) _ _ _ hok hres hP hD hS (lv_sub hl [0, 1] rfl)
  · have hres := it_f c_2 hres
    have hok := hok.2 c_2
    refine lv_iconst (v := (1 : Int32)) hx hb d_BT_badAt_5 (by decide) ?_
    refine lv_goto (tgt := 10) hx hb d_BT_badAt_6 (by decide) ?_
    exact w_BT_badAt_10 hC p0 (1 : Int32) _ _ _ hok hres hP hD hS (lv_sub hl [0, 1] rfl)
/-! ===== BookTrees$Power.written()I ===== -/
abbrev rm_PW_written : Room := { frames := 0, cells := 0, slots := 0, locals := 0 }
def f_PW_written  (cwr : Int32) : Int32 × Unit := (cwr, ())
set_option maxHeartbeats 4000000 in
set_option maxRecDepth 100000 in
theorem c_PW_written {l : Launch} {G : GG} {ad : Nat → Nat} {nb : Nat} {nt : Nat} {sz : Nat} {cfa : Int32} {cle : Int32} {cwr : Int32} {csl : Int32} {cst : Int32} {cen : Int32} {cby : (Nat → Int32)} {cto : (Nat → Int32)} {csh : (Nat → Int32)} {cdz : Int32} {cch : (Nat → Int32)} {cva : (Nat → Int32)} {css : Int32} {cve : (Nat → Int32)} {cro : (Nat → Int32)} {crc : Int32} {cma : (Nat → Int32)} {cbi : (Nat → Int32)} {ces : (Nat → Int32)} {cbl : (Nat → Int32)} {crt : (Nat → Int32)}  : CtI l y_PW_written b_PW_written 1 (some .int) rm_PW_written G (cC G ad nb nt cfa cle cwr csl cst cen cby cto csh cdz cch cva css cve cro crc cma cbi ces cbl crt) sz [.ref (ad 1)] (eqP (f_PW_written cwr)) (fun _ : Unit => (cC G ad nb nt cfa cle cwr csl cst cen cby cto csh cdz cch cva css cve cro crc cma cbi ces cbl crt)) := by
  generalize hres : f_PW_written cwr = res
  refine Met_of (Qc := fun A => va_Qi (eqP res) (Wb G A (fun _ : Unit => (cC G ad nb nt cfa cle cwr csl cst cen cby cto csh cdz cch cva css cve cro crc cma cbi ces cbl crt))) A) (by decide) (Nat.le_of_ble_eq_true rfl) ?_
  intro p e s m below meth c hadm hx hb hr hml hown hlocks ht hK A hA hP hD hS ls hl
  have hC : Cx p l e s m (([.ref (ad 1)] : List Value)).toArray meth c y_PW_written b_PW_written 1 (some .int) "BookTrees$Power" G A := ⟨hx, hb, hr, hml, hown, hlocks, ht, hK, hA⟩
  have hown : s.vm.findClass "BookTrees$Power" = some m.cls := hown
  have hl : lv_has ls 1 [(0, .ref (ad 1))] := hl
  rw [f_PW_written] at hres
  refine lv_aload_n hx hb d_PW_written_0 rfl (lv_at hl 0 rfl) ?_
  refine va_get (D := G.1) (ci := 1) (C := R_PW) (T := F_PW) (N := 3) hx hb ht in_PW hown hK hP 1 rfl rfl 2 (by decide) (ht _ kf_PW_19) (fun _ h9 => h9) rfl d_PW_written_1 ?_
  exact en_i (w1 := (fun _ : Unit => (cC G ad nb nt cfa cle cwr csl cst cen cby cto csh cdz cch cva css cve cro crc cma cbi ces cbl crt))) () hx hb hr hlocks hK hP hD hS hres d_PW_written_4
/-! ===== BookTrees.told(I)I ===== -/
abbrev rm_BT_told : Room := { frames := 2, cells := 0, slots := 0, locals := 40 }
def f_BT_told_15 (x1 : Int32) (y1 : Int32) (cfa : Int32) (cwr : Int32) (cst : Int32) (cen : Int32) (cdz : Int32) (css : Int32) (cve : (Nat → Int32)) : Int32 × Unit := bindc (f_BT_requireArgument y1) (fun z_15 => bindc (f_BT_requirePower cfa) (fun z_19 => if x1 = (0 : Int32) then bindc (f_RL_start cst) (fun z_56 => (z_56.1, ())) else if x1 = (1 : Int32) then bindc (f_RL_end cen) (fun z_64 => (z_64.1, ())) else if x1 = (2 : Int32) then bindc (f_SH_newest css cve) (fun z_72 => (z_72.1, ())) else if x1 = (3 : Int32) then bindc (f_PW_written cwr) (fun z_80 => (z_80.1, ())) else bindc (f_DR_size cdz) (fun z_88 => (z_88.1, ()))))
def ok_BT_told_15 (nb : Nat) (nt : Nat) (x1 : Int32) (y1 : Int32) (cfa : Int32) (cwr : Int32) (cst : Int32) (cen : Int32) (cdz : Int32) (css : Int32) (cve : (Nat → Int32)) : Prop := ok_BT_requireArgument nb nt y1 ∧ bindp (f_BT_requireArgument y1) (fun z_15 => ok_BT_requirePower nb nt cfa ∧ bindp (f_BT_requirePower cfa) (fun z_19 => (x1 = (0 : Int32) → True) ∧ (¬ x1 = (0 : Int32) → (x1 = (1 : Int32) → True) ∧ (¬ x1 = (1 : Int32) → (x1 = (2 : Int32) → ok_SH_newest nb nt css cve) ∧ (¬ x1 = (2 : Int32) → True)))))
set_option maxHeartbeats 4000000 in
set_option maxRecDepth 100000 in
theorem w_BT_told_15 {p : Program} {l : Launch} {e : Env} {s : State} {m : MethodId} {args : Array Value} {below : List Frame} {meth : Method} {c : Code} {A : Nat → Prop} {G : GG} {ad : Nat → Nat} {nb : Nat} {nt : Nat} {cfa : Int32} {cle : Int32} {cwr : Int32} {csl : Int32} {cst : Int32} {cen : Int32} {cby : (Nat → Int32)} {cto : (Nat → Int32)} {csh : (Nat → Int32)} {cdz : Int32} {cch : (Nat → Int32)} {cva : (Nat → Int32)} {css : Int32} {cve : (Nat → Int32)} {cro : (Nat → Int32)} {crc : Int32} {cma : (Nat → Int32)} {cbi : (Nat → Int32)} {ces : (Nat → Int32)} {cbl : (Nat → Int32)} {crt : (Nat → Int32)} {res : Int32 × Unit} (hC : Cx p l e s m args meth c y_BT_told b_BT_told 2 (some .int) "BookTrees" G A) : ∀ (x1 : Int32) (y1 : Int32)  (H : Heap) (locs : List Loc) (ls : Array Slot), ok_BT_told_15 nb nt x1 y1 cfa cwr cst cen cdz css cve → f_BT_told_15 x1 y1 cfa cwr cst cen cdz css cve = res → va_P G.1 classes (cC G ad nb nt cfa cle cwr csl cst cen cby cto csh cdz cch cva css cve cro crc cma cbi ces cbl crt) H → va_D A (cC G ad nb nt cfa cle cwr csl cst cen cby cto csh cdz cch cva css cve cro crc cma cbi ces cbl crt) → va_S A s.heap H locs → lv_has ls 2 [(0, .ref (ad 0)), (1, .int x1)] → W p l e rm_BT_told s m args below meth c H locs 0 0 (MQ below (va_Qi (eqP res) (Wb G A (fun _ : Unit => (cC G ad nb nt cfa cle cwr csl cst cen cby cto csh cdz cch cva css cve cro crc cma cbi ces cbl crt))) A) args s 0 0 A) (F0 m 15 ls [.int y1, .ref (ad 0)]) := by
  obtain ⟨hx, hb, hr, hml, hown, hlocks, ht, hK, hA⟩ := id hC
  intro x1 y1 H locs ls hok hres hP hD hS hl
  rw [f_BT_told_15] at hres
  rw [ok_BT_told_15] at hok
  obtain ⟨hk_15, hok⟩ := hok
  refine go_vz (run_V hx hb hml hown ht hK hP hD (c_BT_requireArgument hk_15) (cw_V ht km_BT_50 ki_BT_requireArgument ks_BT_requireArgument ini_BT kd_BT_requireArgument kh_BT_requireArgument ⟨Nat.le_of_ble_eq_true rfl, Nat.le_of_ble_eq_true rfl⟩ rfl rfl) (q0 := 0) (ci := 0) (As := [.int y1]) (rest := []) rfl rfl rfl hl.1 rfl (Nat.le_of_ble_eq_true rfl) d_BT_told_15 ⟨Nat.zero_le _, Nat.zero_le _⟩) hD hS hA (fun z_15 H locs hz_15 hP hD hS => ?_)
  have hres := bindc_eq hz_15 hres
  have hok := bindp_eq hz_15 hok
  have hP : va_P G.1 classes (cC G ad nb nt cfa cle cwr csl cst cen cby cto csh cdz cch cva css cve cro crc cma cbi ces cbl crt) H := hP
  have hD : va_D A (cC G ad nb nt cfa cle cwr csl cst cen cby cto csh cdz cch cva css cve cro crc cma cbi ces cbl crt) := hD
  refine lv_aload_n hx hb d_BT_told_18 rfl (lv_at hl 0 rfl) ?_
  obtain ⟨hk_19, hok⟩ := hok
  refine go_vz (run_V hx hb hml hown ht hK hP hD (c_BT_requirePower hk_19) (cw_V ht km_BT_54 ki_BT_requirePower ks_BT_requirePower ini_BT kd_BT_requirePower kh_BT_requirePower ⟨Nat.le_of_ble_eq_true rfl, Nat.le_of_ble_eq_true rfl⟩ rfl rfl) (q0 := 0) (ci := 0) (As := []) (rest := []) rfl rfl rfl hl.1 rfl (Nat.le_of_ble_eq_true rfl) d_BT_told_19 ⟨Nat.zero_le _, Nat.zero_le _⟩) hD hS hA (fun z_19 H locs hz_19 hP hD hS => ?_)
  have hres := bindc_eq hz_19 hres
  have hok := bindp_eq hz_19 hok
  have hP : va_P G.1 classes (cC G ad nb nt cfa cle cwr csl cst cen cby cto csh cdz cch cva css cve cro crc cma cbi ces cbl crt) H := hP
  have hD : va_D A (cC G ad nb nt cfa cle cwr csl cst cen cby cto csh cdz cch cva css cve cro crc cma cbi ces cbl crt) := hD
  refine lv_iload_n hx hb d_BT_told_22 rfl (lv_at hl 1 rfl) ?_
  by_cases c_23_0 : x1 = (0 : Int32)
  · have hres := it_t c_23_0 hres
    refine lv_tableIn (off := 29) (tgt := 52) hx hb d_BT_told_23 (by rw [c_23_0]; decide) (by rw [c_23_0]; decide) (by rw [c_23_0]; rfl) (by decide) ?_
    refine lv_aload_n hx hb d_BT_told_52 rfl (lv_at hl 0 rfl) ?_
    refine va_get (D := G.1) (ci := 0) (C := R_BT) (T := F_BT) (N := 5) hx hb ht in_BT hown hK hP 0 rfl rfl 1 (by decide) (ht _ kf_BT_21) (fun _ h9 => h9) rfl d_BT_told_53 ?_
    refine go_iz (run_V hx hb hml hown ht hK hP hD (c_RL_start) (cw_V ht km_BT_183 ki_RL_start ks_RL_start ini_RL kd_RL_start kh_RL_start ⟨Nat.le_of_ble_eq_true rfl, Nat.le_of_ble_eq_true rfl⟩ rfl rfl) (q0 := 2) (ci := 2) (As := []) (rest := []) rfl rfl rfl hl.1 rfl (Nat.le_of_ble_eq_true rfl) d_BT_told_56 ⟨Nat.zero_le _, Nat.zero_le _⟩) hD hS hA (fun z_56 H locs hz_56 hP hD hS => ?_)
    have hres := bindc_eq hz_56 hres
    have hP : va_P G.1 classes (cC G ad nb nt cfa cle cwr csl cst cen cby cto csh cdz cch cva css cve cro crc cma cbi ces cbl crt) H := hP
    have hD : va_D A (cC G ad nb nt cfa cle cwr csl cst cen cby cto csh cdz cch cva css cve cro crc cma cbi ces cbl crt) := hD
    exact en_i (w1 := (fun _ : Unit => (cC G ad nb nt cfa cle cwr csl cst cen cby cto csh cdz cch cva css cve cro crc cma cbi ces cbl crt))) () hx hb hr hlocks hK hP hD hS hres d_BT_told_59
  · have hres := it_f c_23_0 hres
    have hok := hok.2 c_23_0
    by_cases c_23_1 : x1 = (1 : Int32)
    · have hres := it_t c_23_1 hres
      refine lv_tableIn (off := 37) (tgt := 60) hx hb d_BT_told_23 (by rw [c_23_1]; decide) (by rw [c_23_1]; decide) (by rw [c_23_1]; rfl) (by decide) ?_
      refine lv_aload_n hx hb d_BT_told_60 rfl (lv_at hl 0 rfl) ?_
      refine va_get (D := G.1) (ci := 0) (C := R_BT) (T := F_BT) (N := 5) hx hb ht in_BT hown hK hP 0 rfl rfl 1 (by decide) (ht _ kf_BT_21) (fun _ h9 => h9) rfl d_BT_told_61 ?_
      refine go_iz (run_V hx hb hml hown ht hK hP hD (c_RL_end) (cw_V ht km_BT_186 ki_RL_end ks_RL_end ini_RL kd_RL_end kh_RL_end ⟨Nat.le_of_ble_eq_true rfl, Nat.le_of_ble_eq_true rfl⟩ rfl rfl) (q0 := 2) (ci := 2) (As := []) (rest := []) rfl rfl rfl hl.1 rfl (Nat.le_of_ble_eq_true rfl) d_BT_told_64 ⟨Nat.zero_le _, Nat.zero_le _⟩) hD hS hA (fun z_64 H locs hz_64 hP hD hS => ?_)
      have hres := bindc_eq hz_64 hres
      have hP : va_P G.1 classes (cC G ad nb nt cfa cle cwr csl cst cen cby cto csh cdz cch cva css cve cro crc cma cbi ces cbl crt) H := hP
      have hD : va_D A (cC G ad nb nt cfa cle cwr csl cst cen cby cto csh cdz cch cva css cve cro crc cma cbi ces cbl crt) := hD
      exact en_i (w1 := (fun _ : Unit => (cC G ad nb nt cfa cle cwr csl cst cen cby cto csh cdz cch cva css cve cro crc cma cbi ces cbl crt))) () hx hb hr hlocks hK hP hD hS hres d_BT_told_67
    · have hres := it_f c_23_1 hres
      have hok := hok.2 c_23_1
      by_cases c_23_2 : x1 = (2 : Int32)
      · have hres := it_t c_23_2 hres
        have hok := hok.1 c_23_2
        refine lv_tableIn (off := 45) (tgt := 68) hx hb d_BT_told_23 (by rw [c_23_2]; decide) (by rw [c_23_2]; decide) (by rw [c_23_2]; rfl) (by decide) ?_
        refine lv_aload_n hx hb d_BT_told_68 rfl (lv_at hl 0 rfl) ?_
        refine va_get (D := G.1) (ci := 0) (C := R_BT) (T := F_BT) (N := 5) hx hb ht in_BT hown hK hP 0 rfl rfl 3 (by decide) (ht _ kf_BT_35) (fun _ h9 => h9) rfl d_BT_told_69 ?_
        have hk_72 := hok
        refine go_iz (run_V hx hb hml hown ht hK hP hD (c_SH_newest hk_72) (cw_V ht km_BT_91 ki_SH_newest ks_SH_newest ini_SH kd_SH_newest kh_SH_newest ⟨Nat.le_of_ble_eq_true rfl, Nat.le_of_ble_eq_true rfl⟩ rfl rfl) (q0 := 9) (ci := 4) (As := []) (rest := []) rfl rfl rfl hl.1 rfl (Nat.le_of_ble_eq_true rfl) d_BT_told_72 ⟨Nat.zero_le _, Nat.zero_le _⟩) hD hS hA (fun z_72 H locs hz_72 hP hD hS => ?_)
        have hres := bindc_eq hz_72 hres
        have hP : va_P G.1 classes (cC G ad nb nt cfa cle cwr csl cst cen cby cto csh cdz cch cva css cve cro crc cma cbi ces cbl crt) H := hP
        have hD : va_D A (cC G ad nb nt cfa cle cwr csl cst cen cby cto csh cdz cch cva css cve cro crc cma cbi ces cbl crt) := hD
        exact en_i (w1 := (fun _ : Unit => (cC G ad nb nt cfa cle cwr csl cst cen cby cto csh cdz cch cva css cve cro crc cma cbi ces cbl crt))) () hx hb hr hlocks hK hP hD hS hres d_BT_told_75
      · have hres := it_f c_23_2 hres
        by_cases c_23_3 : x1 = (3 : Int32)
        · have hres := it_t c_23_3 hres
          refine lv_tableIn (off := 53) (tgt := 76) hx hb d_BT_told_23 (by rw [c_23_3]; decide) (by rw [c_23_3]; decide) (by rw [c_23_3]; rfl) (by decide) ?_
          refine lv_aload_n hx hb d_BT_told_76 rfl (lv_at hl 0 rfl) ?_
          refine va_get (D := G.1) (ci := 0) (C := R_BT) (T := F_BT) (N := 5) hx hb ht in_BT hown hK hP 0 rfl rfl 0 (by decide) (ht _ kf_BT_10) (fun _ h9 => h9) rfl d_BT_told_77 ?_
          refine go_iz (run_V hx hb hml hown ht hK hP hD (c_PW_written) (cw_V ht km_BT_192 ki_PW_written ks_PW_written ini_PW kd_PW_written kh_PW_written ⟨Nat.le_of_ble_eq_true rfl, Nat.le_of_ble_eq_true rfl⟩ rfl rfl) (q0 := 1) (ci := 1) (As := []) (rest := []) rfl rfl rfl hl.1 rfl (Nat.le_of_ble_eq_true rfl) d_BT_told_80 ⟨Nat.zero_le _, Nat.zero_le _⟩) hD hS hA (fun z_80 H locs hz_80 hP hD hS => ?_)
          have hres := bindc_eq hz_80 hres
          have hP : va_P G.1 classes (cC G ad nb nt cfa cle cwr csl cst cen cby cto csh cdz cch cva css cve cro crc cma cbi ces cbl crt) H := hP
          have hD : va_D A (cC G ad nb nt cfa cle cwr csl cst cen cby cto csh cdz cch cva css cve cro crc cma cbi ces cbl crt) := hD
          exact en_i (w1 := (fun _ : Unit => (cC G ad nb nt cfa cle cwr csl cst cen cby cto csh cdz cch cva css cve cro crc cma cbi ces cbl crt))) () hx hb hr hlocks hK hP hD hS hres d_BT_told_83
        · have hres := it_f c_23_3 hres
          refine lv_tableOut hx hb d_BT_told_23 (tb_out4 c_23_0 c_23_1 c_23_2 c_23_3) (tgt := 84) (by decide) ?_
          refine lv_aload_n hx hb d_BT_told_84 rfl (lv_at hl 0 rfl) ?_
          refine va_get (D := G.1) (ci := 0) (C := R_BT) (T := F_BT) (N := 5) hx hb ht in_BT hown hK hP 0 rfl rfl 2 (by decide) (ht _ kf_BT_28) (fun _ h9 => h9) rfl d_BT_told_85 ?_
          refine go_iz (run_V hx hb hml hown ht hK hP hD (c_DR_size) (cw_V ht km_BT_61 ki_DR_size ks_DR_size ini_DR kd_DR_size kh_DR_size ⟨Nat.le_of_ble_eq_true rfl, Nat.le_of_ble_eq_true rfl⟩ rfl rfl) (q0 := 6) (ci := 3) (As := []) (rest := []) rfl rfl rfl hl.1 rfl (Nat.le_of_ble_eq_true rfl) d_BT_told_88 ⟨Nat.zero_le _, Nat.zero_le _⟩) hD hS hA (fun z_88 H locs hz_88 hP hD hS => ?_)
          have hres := bindc_eq hz_88 hres
          have hP : va_P G.1 classes (cC G ad nb nt cfa cle cwr csl cst cen cby cto csh cdz cch cva css cve cro crc cma cbi ces cbl crt) H := hP
          have hD : va_D A (cC G ad nb nt cfa cle cwr csl cst cen cby cto csh cdz cch cva css cve cro crc cma cbi ces cbl crt) := hD
          exact en_i (w1 := (fun _ : Unit => (cC G ad nb nt cfa cle cwr csl cst cen cby cto csh cdz cch cva css cve cro crc cma cbi ces cbl crt))) () hx hb hr hlocks hK hP hD hS hres d_BT_told_91
def f_BT_told_14 (x1 : Int32) (cfa : Int32) (cwr : Int32) (cst : Int32) (cen : Int32) (cdz : Int32) (css : Int32) (cve : (Nat → Int32)) : Int32 × Unit := f_BT_told_15 x1 (0 : Int32) cfa cwr cst cen cdz css cve
def ok_BT_told_14 (nb : Nat) (nt : Nat) (x1 : Int32) (cfa : Int32) (cwr : Int32) (cst : Int32) (cen : Int32) (cdz : Int32) (css : Int32) (cve : (Nat → Int32)) : Prop := ok_BT_told_15 nb nt  x1 (0 : Int32) cfa cwr cst cen cdz css cve
set_option maxHeartbeats 4000000 in
set_option maxRecDepth 100000 in
theorem w_BT_told_14 {p : Program} {l : Launch} {e : Env} {s : State} {m : MethodId} {args : Array Value} {below : List Frame} {meth : Method} {c : Code} {A : Nat → Prop} {G : GG} {ad : Nat → Nat} {nb : Nat} {nt : Nat} {cfa : Int32} {cle : Int32} {cwr : Int32} {csl : Int32} {cst : Int32} {cen : Int32} {cby : (Nat → Int32)} {cto : (Nat → Int32)} {csh : (Nat → Int32)} {cdz : Int32} {cch : (Nat → Int32)} {cva : (Nat → Int32)} {css : Int32} {cve : (Nat → Int32)} {cro : (Nat → Int32)} {crc : Int32} {cma : (Nat → Int32)} {cbi : (Nat → Int32)} {ces : (Nat → Int32)} {cbl : (Nat → Int32)} {crt : (Nat → Int32)} {res : Int32 × Unit} (hC : Cx p l e s m args meth c y_BT_told b_BT_told 2 (some .int) "BookTrees" G A) : ∀ (x1 : Int32)  (H : Heap) (locs : List Loc) (ls : Array Slot), ok_BT_told_14 nb nt x1 cfa cwr cst cen cdz css cve → f_BT_told_14 x1 cfa cwr cst cen cdz css cve = res → va_P G.1 classes (cC G ad nb nt cfa cle cwr csl cst cen cby cto csh cdz cch cva css cve cro crc cma cbi ces cbl crt) H → va_D A (cC G ad nb nt cfa cle cwr csl cst cen cby cto csh cdz cch cva css cve cro crc cma cbi ces cbl crt) → va_S A s.heap H locs → lv_has ls 2 [(0, .ref (ad 0)), (1, .int x1)] → W p l e rm_BT_told s m args below meth c H locs 0 0 (MQ below (va_Qi (eqP res) (Wb G A (fun _ : Unit => (cC G ad nb nt cfa cle cwr csl cst cen cby cto csh cdz cch cva css cve cro crc cma cbi ces cbl crt))) A) args s 0 0 A) (F0 m 14 ls [.ref (ad 0)]) := by
  obtain ⟨hx, hb, hr, hml, hown, hlocks, ht, hK, hA⟩ := id hC
  intro x1 H locs ls hok hres hP hD hS hl
  rw [f_BT_told_14] at hres
  rw [ok_BT_told_14] at hok
  refine lv_iconst (v := (0 : Int32)) hx hb d_BT_told_14 (by decide) ?_
  exact w_BT_told_15 hC x1 (0 : Int32) _ _ _ hok hres hP hD hS (lv_sub hl [0, 1] rfl)
def f_BT_told (p0 : Int32) (cfa : Int32) (cwr : Int32) (cst : Int32) (cen : Int32) (cdz : Int32) (css : Int32) (cve : (Nat → Int32)) : Int32 × Unit := if p0 < 0 then f_BT_told_14 p0 cfa cwr cst cen cdz css cve else if (4 : Int32) < p0 then f_BT_told_14 p0 cfa cwr cst cen cdz css cve else f_BT_told_15 p0 (1 : Int32) cfa cwr cst cen cdz css cve
def ok_BT_told (nb : Nat) (nt : Nat) (p0 : Int32) (cfa : Int32) (cwr : Int32) (cst : Int32) (cen : Int32) (cdz : Int32) (css : Int32) (cve : (Nat → Int32)) : Prop := (p0 < 0 → ok_BT_told_14 nb nt  p0 cfa cwr cst cen cdz css cve) ∧ (¬ p0 < 0 → ((4 : Int32) < p0 → ok_BT_told_14 nb nt  p0 cfa cwr cst cen cdz css cve) ∧ (¬ (4 : Int32) < p0 → ok_BT_told_15 nb nt  p0 (1 : Int32) cfa cwr cst cen cdz css cve))
set_option maxHeartbeats 4000000 in
set_option maxRecDepth 100000 in
theorem c_BT_told {l : Launch} {G : GG} {ad : Nat → Nat} {nb : Nat} {nt : Nat} {sz : Nat} {cfa : Int32} {cle : Int32} {cwr : Int32} {csl : Int32} {cst : Int32} {cen : Int32} {cby : (Nat → Int32)} {cto : (Nat → Int32)} {csh : (Nat → Int32)} {cdz : Int32} {cch : (Nat → Int32)} {cva : (Nat → Int32)} {css : Int32} {cve : (Nat → Int32)} {cro : (Nat → Int32)} {crc : Int32} {cma : (Nat → Int32)} {cbi : (Nat → Int32)} {ces : (Nat → Int32)} {cbl : (Nat → Int32)} {crt : (Nat → Int32)} {p0 : Int32} (hok : ok_BT_told nb nt p0 cfa cwr cst cen cdz css cve) : CtI l y_BT_told b_BT_told 2 (some .int) rm_BT_told G (cC G ad nb nt cfa cle cwr csl cst cen cby cto csh cdz cch cva css cve cro crc cma cbi ces cbl crt) sz [.ref (ad 0), .int p0] (eqP (f_BT_told p0 cfa cwr cst cen cdz css cve)) (fun _ : Unit => (cC G ad nb nt cfa cle cwr csl cst cen cby cto csh cdz cch cva css cve cro crc cma cbi ces cbl crt)) := by
  generalize hres : f_BT_told p0 cfa cwr cst cen cdz css cve = res
  refine Met_of (Qc := fun A => va_Qi (eqP res) (Wb G A (fun _ : Unit => (cC G ad nb nt cfa cle cwr csl cst cen cby cto csh cdz cch cva css cve cro crc cma cbi ces cbl crt))) A) (by decide) (Nat.le_of_ble_eq_true rfl) ?_
  intro p e s m below meth c hadm hx hb hr hml hown hlocks ht hK A hA hP hD hS ls hl
  have hC : Cx p l e s m (([.ref (ad 0), .int p0] : List Value)).toArray meth c y_BT_told b_BT_told 2 (some .int) "BookTrees" G A := ⟨hx, hb, hr, hml, hown, hlocks, ht, hK, hA⟩
  have hown : s.vm.findClass "BookTrees" = some m.cls := hown
  have hl : lv_has ls 2 [(0, .ref (ad 0)), (1, .int p0)] := hl
  rw [f_BT_told] at hres
  rw [ok_BT_told] at hok
  refine lv_aload_n hx hb d_BT_told_0 rfl (lv_at hl 0 rfl) ?_
  refine lv_iload_n hx hb d_BT_told_1 rfl (lv_at hl 1 rfl) ?_
  refine lv_if_lt (tgt := 14) hx hb d_BT_told_2 (by decide) (fun c_2 => ?_) (fun c_2 => ?_)
  · have hres := it_t c_2 hres
    have hok := hok.1 c_2
    exact w_BT_told_14 hC p0 _ _ _ hok hres hP hD hS (lv_sub hl [0, 1] rfl)
  · have hres := it_f c_2 hres
    have hok := hok.2 c_2
    refine lv_iload_n hx hb d_BT_told_5 rfl (lv_at hl 1 rfl) ?_
    refine lv_iconst (v := (4 : Int32)) hx hb d_BT_told_6 (by decide) ?_
    refine lv_icmp_gt (tgt := 14) hx hb d_BT_told_7 (by decide) (fun c_7 => ?_) (fun c_7 => ?_)
    · have hres := it_t c_7 hres
      have hok := hok.1 c_7
      exact w_BT_told_14 hC p0 _ _ _ hok hres hP hD hS (lv_sub hl [0, 1] rfl)
    · have hres := it_f c_7 hres
      have hok := hok.2 c_7
      refine lv_iconst (v := (1 : Int32)) hx hb d_BT_told_10 (by decide) ?_
      refine lv_goto (tgt := 15) hx hb d_BT_told_11 (by decide) ?_
      exact w_BT_told_15 hC p0 (1 : Int32) _ _ _ hok hres hP hD hS (lv_sub hl [0, 1] rfl)
