/-! a version appended, as a whole -/
theorem ver_agree {j N S E r : Nat} (h1 : 16 ≤ N) (h2 : N ≤ 200) (hj : j < 512) {cve cro mve mrb : Nat → Int32} {mnw : Int32} (hRo : IRo j N S E r (nI S) (nI E) (nI S) (nI E) (nI r) cve cro (nI r) mve mrb mnw) {cma cbi ces mic mlb mrw mnb mlk mnk : Nat → Int32} {mtb : Int32} (hMK : MK cma mic) (hRT : RT cma cbi ces mic mtb mlb mrw mnb mlk mnk) {crt : Nat → Int32} (hRt : IRt crt) {cle cwr : Int32} {cby cto csh mro mit : Nat → Int32} (hI : WI N cle cby cto csh mro mit) (hne : ¬ cle = 0) (p0 rc mnx : Int32) (hp : p0 = 0 ∨ p0 = 1) (cbl mmd : Nat → Int32) :
    ∃ n tb nb', f_MO_settle mtb mic mlb mnb = (n, tb, nb') ∧ ok_MO_settle mtb mic mlb mnb ∧ ok_BT_appendVersion (N * 64) N p0 0 cle cwr (nI N) (nI S) (nI E) cby cto csh (nI r) cve cro rc cma cbi ces cbl crt ∧
    ((¬ n ≤ nI N - nI E + nI S ∧ ∃ cbi' ces' cbl', f_BT_appendVersion p0 0 cle cwr (nI N) (nI S) (nI E) cby cto csh (nI r) cve cro rc cma cbi ces cbl crt = (-3, 0, cle, cwr, nI S, nI E, cby, cto, csh, nI r, cve, cro, cbi', ces', cbl', crt)) ∨
     (n ≤ nI N - nI E + nI S ∧ ok_MO_writeAll (if p0 = 0 then nI S else nI E) (nI N) (nI S) (nI E) mnw 0 cle cwr (nI r) tb rc mnx mro mit mve mrb mic mlb mrw nb' mlk mnk mmd ∧
       ((∃ cle' cwr' cby' cto' csh' cbi' ces' cbl' crt' nx' mro' mit' mlk' mnk' mmd', f_BT_appendVersion p0 0 cle cwr (nI N) (nI S) (nI E) cby cto csh (nI r) cve cro rc cma cbi ces cbl crt = (-4, 1, cle', cwr', nI S, nI E, cby', cto', csh', nI r, cve, cro, cbi', ces', cbl', crt') ∧
         f_MO_writeAll (if p0 = 0 then nI S else nI E) (nI N) (nI S) (nI E) mnw 0 cle cwr (nI r) tb rc mnx mro mit mve mrb mic mlb mrw nb' mlk mnk mmd = (-4, nI S, nI E, mnw, 1, cle', cwr', nI r, nx', mro', mit', mve, mrb, mlk', mnk', mmd') ∧ WI N cle' cby' cto' csh' mro' mit' ∧ IRt crt') ∨
        (∃ ver S' E' r' cle' cwr' cby' cto' csh' cve' cro' cbi' ces' cbl' crt' nx' mro' mit' mve' mrb' mlk' mnk' mmd', f_BT_appendVersion p0 0 cle cwr (nI N) (nI S) (nI E) cby cto csh (nI r) cve cro rc cma cbi ces cbl crt = (ver, 0, cle', cwr', nI S', nI E', cby', cto', csh', nI r', cve', cro', cbi', ces', cbl', crt') ∧
         f_MO_writeAll (if p0 = 0 then nI S else nI E) (nI N) (nI S) (nI E) mnw 0 cle cwr (nI r) tb rc mnx mro mit mve mrb mic mlb mrw nb' mlk mnk mmd = (ver, nI S', nI E', ver, 0, cle', cwr', nI r', nx', mro', mit', mve', mrb', mlk', mnk', mmd') ∧ WI N cle' cby' cto' csh' mro' mit' ∧ IRt crt' ∧ ¬ cle' = 0 ∧ IRo (j + 1) N S' E' r' (nI S') (nI E') (nI S') (nI E') (nI r') cve' cro' (nI r') mve' mrb' ver ∧ ¬ ver ≤ 0 ∧ ¬ ver = -4)))) := by
  obtain ⟨V, vv, v1, v2, v3, v4⟩ := newest_v hRo hj
  have hnew := newest_eq (nb := N * 64) (nt := N) hRo h2
  have hRo2 := hRo
  obtain ⟨-, ⟨g1, g2, g3, g4⟩, g5, g6, g7⟩ := hRo2
  obtain ⟨nb', s1, s2, s3⟩ := settle_of mic mlb mnb mtb
  obtain ⟨oP, cbi', ces', cbl', p1, p2⟩ := plc_of (nb := N * 64) (nt := N) (E := E) hMK hRT cbl
  have h64 := cL_le mic mlb 64
  have h8 := cN_le mic mlb mnb 8
  have ht := thr_le (FTp mic mlb mnb mtb)
  have hRdef : ∃ R, R = E + cL mic mlb 64 + cN mic mlb mnb 8 + thr (FTp mic mlb mnb mtb) := ⟨_, rfl⟩
  obtain ⟨R, hR⟩ := hRdef
  rw [← hR] at p1
  have hn : 1 + cL mic mlb 64 + cN mic mlb mnb 8 + thr (FTp mic mlb mnb mtb) = R + 1 - E := by omega
  rw [hn] at s1
  have hroomC := room_c (N := N) (S := S) (E := E) (R := R) g1 (by omega) (by omega) h2
  have hroomM := room_m (N := N) (S := S) (E := E) (by omega) h2 (by omega)
  have hle : nI (R + 1 - E) ≤ nI (N + S - E) ↔ ¬ N < R + 1 - S := by
    rw [nI_leI (by omega) (by omega)]; omega
  refine ⟨_, _, nb', s1, s2, ?_⟩
  rw [hroomM]
  unfold f_BT_appendVersion ok_BT_appendVersion
  simp only [bindc_def, bindp_iff, f_RL_end, f_RL_start, p1, hroomC, hnew.1]
  by_cases q : N < R + 1 - S
  · simp only [if_pos q, if_true]
    exact ⟨⟨oP, fun _ => trivial, fun z => (z trivial).elim⟩, Or.inl ⟨fun z => hle.mp z q, cbi', ces', cbl', rfl⟩⟩
  · simp only [if_neg q, if_neg no1]
    have hst : ∀ (a b : Int32 × Int32 × Int32 × Int32 × Int32 × Int32 × (Nat → Int32) × (Nat → Int32) × (Nat → Int32) × Int32 × (Nat → Int32) × (Nat → Int32) × (Nat → Int32) × (Nat → Int32) × (Nat → Int32) × (Nat → Int32)), True := fun _ _ => trivial
    have A := app_agree h1 h2 (show E + 80 < 2 ^ 30 by omega) hMK p2 s3 hRt p0 (if p0 = 0 then nI S else nI E) (nI S) (nI E) (nI r) (nI S) mnw (nI r) rc mnx cve cro mve mrb (cwr := cwr) (mmd := mmd) hI hne hR
    have e61 : (if p0 = 0 then f_BT_appendVersion_61 p0 (nI R) (mnw + 1) (nI S) 0 cle cwr (nI N) (nI S) (nI E) cby cto csh (nI r) cve cro rc cma cbi' ces' cbl' crt else f_BT_appendVersion_61 p0 (nI R) (mnw + 1) (nI E) 0 cle cwr (nI N) (nI S) (nI E) cby cto csh (nI r) cve cro rc cma cbi' ces' cbl' crt) = f_BT_appendVersion_61 p0 (nI R) (mnw + 1) (if p0 = 0 then nI S else nI E) 0 cle cwr (nI N) (nI S) (nI E) cby cto csh (nI r) cve cro rc cma cbi' ces' cbl' crt := by
      rcases hp with e | e
      · rw [if_pos e, if_pos e]
      · rw [if_neg (by rw [e]; exact no1), if_neg (by rw [e]; exact no1)]
    rw [e61]
    have o61 : ok_BT_appendVersion_61 (N * 64) N p0 (nI R) (mnw + 1) (if p0 = 0 then nI S else nI E) 0 cle cwr (nI N) (nI S) (nI E) cby cto csh (nI r) cve cro rc cma cbi' ces' cbl' crt → ((p0 = 0 → ok_BT_appendVersion_61 (N * 64) N p0 (nI R) (mnw + 1) (nI S) 0 cle cwr (nI N) (nI S) (nI E) cby cto csh (nI r) cve cro rc cma cbi' ces' cbl' crt) ∧ (¬ p0 = 0 → ok_BT_appendVersion_61 (N * 64) N p0 (nI R) (mnw + 1) (nI E) 0 cle cwr (nI N) (nI S) (nI E) cby cto csh (nI r) cve cro rc cma cbi' ces' cbl' crt)) := by
      intro o
      refine ⟨fun e => ?_, fun e => ?_⟩
      · rw [if_pos e] at o; exact o
      · rw [if_neg e] at o; exact o
    have hv1 : mnw + 1 = nI (V + 1) := by rw [v1, nI_1]
    have hvp : ¬ nI (V + 1) ≤ 0 := nI_nle (by omega) (by omega)
    have hv4 : ¬ nI (V + 1) = (-4 : Int32) := by
      intro z
      have := congrArg Int32.toInt z
      rw [nI_toInt (by omega), show (-4 : Int32).toInt = -4 by decide] at this
      omega
    rcases A with ⟨cle', cwr', cby', cto', csh', crt', mro', mit', mlk', mnk', mmd', a1, a2, a3, a4, a5, a6, a7⟩ | ⟨cle', cwr', cby', cto', csh', crt', nx', mro', mit', mlk', mnk', mmd', a1, a2, a3, a4, a5, a6⟩
    · rcases hp with e | e
      · -- a commit: all versions stay
        subst e
        simp only [if_true] at a1 a2 a3 a4 ⊢
        obtain ⟨d1, d2⟩ := add_end (nb := N * 64) (nt := N) (r := r) (x := V + 1) (q := R) (cro := cro) (by omega) (by omega) v3 v4
        rw [← hv1] at d1 d2
        have K := f176_keep (r := r) (S := nI S) (msl := nI N) (men := nI (R + 1)) (mnw := mnw + 1) (mdn := 0) (mpw := cle') (mwr := cwr') (mtb := FTp mic mlb mnb mtb) (mrc := rc) (mnx := nI (R + 1)) (mro := mro') (mit := mit') (mve := mve) (mrb := mrb) (mic := mic) (mlb := mlb) (mrw := mrw) (mnb := nb') (mlk := mlk') (mnk := mnk') (mmd := mmd') (by omega) (fun k hk => by
          obtain ⟨-, c1, v, qq, -, c2, -, -, c3, c4⟩ := g5 k hk
          rw [c1, c2]; exact nI_nlt c3 (by omega)) 1024 0 (by omega) (by omega)
        rw [nI_0] at K
        have hpred : nI (R + 1) - (1 : Int32) = nI R := nI_pred R
        rw [hpred] at K
        refine ⟨⟨oP, fun z => absurd z no1, fun _ => ⟨hnew.2, (fun _ => a2 d2), (fun z => (z trivial).elim)⟩⟩, Or.inr ⟨hle.mpr q, a4 K.2, Or.inr ⟨mnw + 1, S, R + 1, r + 1, cle', cwr', cby', cto', csh', upd cve r (mnw + 1), upd cro r (nI R), cbi', ces', cbl', crt', nI (R + 1), mro', mit', upd mve r (mnw + 1), upd mrb r (nI R), mlk', mnk', mmd', a1 _ d1, a3.trans K.1, a5, a6, a7, ?_, by rw [hv1]; exact hvp, by rw [hv1]; exact hv4⟩⟩⟩
        refine ⟨⟨rfl, rfl, rfl, rfl, rfl, rfl⟩, ⟨by omega, by omega, by omega, by omega⟩, fun i hi => ?_, fun i k hik hk => ?_, ?_⟩
        · by_cases ei : i = r
          · subst ei
            rw [pk_us, pk_us, pk_us, pk_us]
            exact ⟨rfl, rfl, V + 1, R, hv1, rfl, by omega, by omega, by omega, by omega⟩
          · rw [pk_un ei, pk_un ei, pk_un ei, pk_un ei]
            obtain ⟨b1, b2, v, qq, b3, b4, b5, b6, b7, b8⟩ := g5 i (by omega)
            exact ⟨b1, b2, v, qq, b3, b4, b5, by omega, b7, by omega⟩
        · by_cases ek : k = r
          · subst ek
            rw [pk_us, pk_un (by omega), hv1, (v3 i hik).1]
            exact nI_lt (v3 i hik).2 (by omega)
          · rw [pk_un ek, pk_un (by omega)]; exact g6 i k hik (by omega)
        · rw [if_neg (by omega), show r + 1 - 1 = r by omega, pk_us]
      · -- a copy: none of them stays
        subst e
        simp only [if_neg no1] at a1 a2 a3 a4 ⊢
        obtain ⟨d1, d2⟩ := add_end (nb := N * 64) (nt := N) (r := 0) (x := V + 1) (q := R) (v := fun _ => 0) (cve := cve) (cro := cro) (by omega) (by omega) (fun i hi => absurd hi (by omega)) (fun i k _ hk => absurd hk (by omega))
        rw [← hv1, nI_0] at d1 d2
        have K := f176_drop (r := r) (S := nI E) (msl := nI N) (men := nI (R + 1)) (mnw := mnw + 1) (mdn := 0) (mpw := cle') (mwr := cwr') (mtb := FTp mic mlb mnb mtb) (mrc := rc) (mnx := nI (R + 1)) (mro := mro') (mit := mit') (mve := mve) (mrb := mrb) (mic := mic) (mlb := mlb) (mrw := mrw) (mnb := nb') (mlk := mlk') (mnk := mnk') (mmd := mmd') (by omega) (fun k hk => by
          obtain ⟨-, c1, v, qq, -, c2, -, -, -, c3⟩ := g5 k hk
          rw [c1, c2]; exact nI_lt c3 (by omega)) 1024 0 (by omega) (by omega)
        rw [nI_0] at K
        have hpred : nI (R + 1) - (1 : Int32) = nI R := nI_pred R
        rw [hpred] at K
        refine ⟨⟨oP, fun z => absurd z no1, fun _ => ⟨hnew.2, (fun z => absurd z no1), (fun _ => a2 d2)⟩⟩, Or.inr ⟨hle.mpr q, a4 K.2, Or.inr ⟨mnw + 1, E, R + 1, 1, cle', cwr', cby', cto', csh', upd cve 0 (mnw + 1), upd cro 0 (nI R), cbi', ces', cbl', crt', nI (R + 1), mro', mit', upd mve 0 (mnw + 1), upd mrb 0 (nI R), mlk', mnk', mmd', a1 _ d1, a3.trans K.1, a5, a6, a7, ?_, by rw [hv1]; exact hvp, by rw [hv1]; exact hv4⟩⟩⟩
        refine ⟨⟨rfl, rfl, rfl, rfl, rfl, rfl⟩, ⟨by omega, by omega, by omega, by omega⟩, fun i hi => ?_, fun i k hik hk => absurd hk (by omega), ?_⟩
        · have ei : i = 0 := by omega
          subst ei
          rw [pk_us, pk_us, pk_us, pk_us]
          exact ⟨rfl, rfl, V + 1, R, hv1, rfl, by omega, by omega, by omega, by omega⟩
        · rw [if_neg (by omega), show 1 - 1 = 0 from rfl, pk_us]
    · exact ⟨⟨oP, fun z => absurd z no1, fun _ => ⟨hnew.2, o61 a2⟩⟩, Or.inr ⟨hle.mpr q, a4, Or.inl ⟨cle', cwr', cby', cto', csh', cbi', ces', cbl', crt', nx', mro', mit', mlk', mnk', mmd', a1, a3, a5, a6⟩⟩⟩
