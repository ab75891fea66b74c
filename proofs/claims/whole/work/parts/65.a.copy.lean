/-! copy -/
set_option maxHeartbeats 1000000 in
theorem sim_copy : SIM_copy INV := by
  intro j N cfa cle cwr csl cst cen cby cto csh cdz cch cva css cve cro crc cma cbi ces cbl crt mrf msl mst men mnw mdn mpw mwr mrs mdr mtb mrc mnx mro mit mve mrb mch mva mic mlb mrw mnb mlk mnk mmd  lou hj hinv
  obtain ⟨hN1, hN2, hcsl, hmsl, hPow, hDr, hBy, hTo, hSh, hRt, S, E, r, hRo⟩ := hinv
  obtain ⟨h1, h2, h3, h4, h5, h6⟩ := hPow
  subst h2
  subst h3
  subst h4
  have hRR := rr_of hN1 hN2 hBy hTo
  obtain ⟨hE, hS⟩ := hRo.lt hj
  have hRo2 := hRo
  obtain ⟨⟨rfl, rfl, rfl, rfl, rfl, rfl⟩, -⟩ := hRo2
  subst hcsl hmsl
  rcases h1 with rfl | rfl
  · have t : th_BT_copy 0 = 0 := by unfold th_BT_copy; rw [if_pos rfl]
    obtain ⟨oc, cma1, cbi1, ces1, c1, c2, c3⟩ := pg_clr (nb := N * 64) (nt := N) crc cma cbi ces
    obtain ⟨oa, ea⟩ := pg_all (nb := N * 64) (nt := N) cma1
    obtain ⟨r1, r2, r3, r4⟩ := nroot_of (nb := N * 64) (nt := N) hRo hj hN2
    obtain ⟨-, -, a3, a4, -⟩ := roots_of (nb := N * 64) (nt := N) hRo hN2 mnw
    obtain ⟨mic', m1, m2, m3⟩ := c11_l (mrf := 0) (msl := nI N) (mst := nI S) (men := nI E) (mnw := mnw) (mdn := 0) (mpw := mpw) (mwr := mwr) (mrs := nI r) (mtb := mtb) (mrc := mrc) (mnx := mnx) (mro := mro) (mit := mit) (mve := mve) (mrb := mrb) (mlb := mlb) (mrw := mrw) (mnb := mnb) (mlk := mlk) (mnk := mnk) (mmd := mmd) 64 960 0 mic (by omega) (fun k hk => by omega)
    have z4 : (960 : Nat) + 64 = 1024 := rfl
    have z5 : (960 : Nat) = 959 + 1 := rfl
    rw [z4, nI_0] at m2 m3
    have eM : ∀ mrf, f_MO_copy mrf (nI N) (nI S) (nI E) mnw 0 mpw mwr (nI r) mtb mrc mnx mro mit mve mrb mic mlb mrw mnb mlk mnk mmd = f_MO_copy_11 1024 0 0 (nI N) (nI S) (nI E) mnw 0 mpw mwr (nI r) mtb mrc mnx mro mit mve mrb mic mlb mrw mnb mlk mnk mmd := fun mrf => by
      unfold f_MO_copy; rw [isUp_0, bindc_def, if_neg no1]
    have oMM : ∀ mrf, ok_MO_copy_11 1024 0 0 (nI N) (nI S) (nI E) mnw 0 mpw mwr (nI r) mtb mrc mnx mro mit mve mrb mic mlb mrw mnb mlk mnk mmd → ok_MO_copy mrf (nI N) (nI S) (nI E) mnw 0 mpw mwr (nI r) mtb mrc mnx mro mit mve mrb mic mlb mrw mnb mlk mnk mmd := fun mrf o => by
      unfold ok_MO_copy; rw [isUp_0, bindp_iff]; exact ⟨fun z => absurd z no1, fun _ => o⟩
    have c64 : (64 : Int32) ≤ nI 64 := by decide
    generalize f_MO_copy_11 1024 0 0 (nI N) (nI S) (nI E) mnw 0 mpw mwr (nI r) mtb mrc mnx mro mit mve mrb mic mlb mrw mnb mlk mnk mmd = L at m2 eM
    generalize ok_MO_copy_11 1024 0 0 (nI N) (nI S) (nI E) mnw 0 mpw mwr (nI r) mtb mrc mnx mro mit mve mrb mic mlb mrw mnb mlk mnk mmd = LO at m3 oMM
    rw [z5, f_MO_copy_11, if_pos c64] at m2
    rw [z5, ok_MO_copy_11] at m3
    generalize hcma : f_PG_markAll cma1 = cma2 at ea
    have hMK : MK cma2 mic' := by
      refine ⟨fun l hl => ?_, fun m hm => ?_, ?_⟩
      · rw [ea l (by omega), m1 l hl]
      · rw [ea (64 + m) (by omega)]
        refine ⟨fun z => absurd z no1, fun z => ?_⟩
        have := z 0 (by omega)
        rw [m1 _ (by omega)] at this
        exact this
      · rw [ea 72 (by omega)]; exact no1
    obtain ⟨oR, oM, rd⟩ := read_agree hRR hE hS (x := rootV r cve cro mnw) (mnw := mnw) (mrs := nI r) (mve := mve) (mrb := mrb) r4 (fun e => ⟨a3, a4, r3 e⟩) hMK (fun p hp => (c2 p hp).2) c3 mtb mrc mlb mrw mnb mlk mnk
    have hWI : WI N mpw cby cto csh mro mit := ⟨hBy, hTo, hSh, h5⟩
    have hne : ¬ mpw = 0 := h6 rfl
    rcases rd with ⟨rc, cbi2, ces2, mtb2, mlb2, mrw2, mnb2, mlk2, mnk2, d1, d2, d3⟩ | ⟨rc, cbi2, ces2, w, d1, d2⟩
    · obtain ⟨n, tb, nb', s1, s2, s3, s4⟩ := ver_agree hN1 hN2 hj hRo hMK d3 hRt (cwr := mwr) hWI hne 1 rc mnx (Or.inr rfl) cbl mmd
      simp only [if_neg no1] at s4
      have okC : ok_BT_copy (N * 64) N 0 mpw mwr (nI N) (nI S) (nI E) cby cto csh (nI r) cve cro crc cma cbi ces cbl crt := by
        unfold ok_BT_copy
        simp only [bindp_iff, c1, hcma, r1, d1]
        exact ⟨okRP_0, oc, oa, r2, oR, fun z => absurd z no1, fun _ => s3⟩
      rcases s4 with ⟨s4, cbi3, ces3, cbl3, s5⟩ | ⟨s4, s5, s6⟩
      · -- full
        have fC : f_BT_copy 0 mpw mwr (nI N) (nI S) (nI E) cby cto csh (nI r) cve cro crc cma cbi ces cbl crt = (-3, 0, mpw, mwr, nI S, nI E, cby, cto, csh, nI r, cve, cro, rc, cma2, cbi3, ces3, cbl3, crt) := by
          unfold f_BT_copy
          simp only [bindc_def, c1, hcma, r1, d1, if_neg no1, s5]
        have fM := (eM mrf).trans m2
        simp only [bindc_def, d2, if_neg no1, s1, if_neg s4] at fM
        refine ⟨isB_0, fun _ => okC, oMM _ (m3 ⟨fun _ => ?_, fun z => absurd c64 z⟩), ?_⟩
        · simp only [bindp_iff, d2, s1]
          exact ⟨oM, fun z => absurd z no1, fun _ => ⟨s2, fun z => absurd z s4, fun _ => trivial⟩⟩
        · intro z1 z2 q1 q2
          simp only [g_LA_copy, t, if_true, fC, bindc_def] at q1
          rw [fM] at q2
          subst q1 q2
          exact ⟨rfl, fun _ => by simp [pk_uLs], INV_mk hN1 hN2 rfl rfl ⟨Or.inl rfl, rfl, rfl, rfl, h5, h6⟩ hDr hBy hTo hSh hRt hRo.mono⟩
      · rcases s6 with ⟨cle', cwr', cby', cto', csh', cbi3, ces3, cbl3, crt', nx', mro', mit', mlk', mnk', mmd', u1, u2, ⟨u3, u4, u5, u6⟩, u7⟩ | ⟨ver, S', E', r', cle', cwr', cby', cto', csh', cve', cro', cbi3, ces3, cbl3, crt', nx', mro', mit', mve', mrb', mlk', mnk', mmd', u1, u2, ⟨u3, u4, u5, u6⟩, u7, u8, u9, u10, u11⟩
        · have fC : f_BT_copy 0 mpw mwr (nI N) (nI S) (nI E) cby cto csh (nI r) cve cro crc cma cbi ces cbl crt = (-4, 1, cle', cwr', nI S, nI E, cby', cto', csh', nI r, cve, cro, rc, cma2, cbi3, ces3, cbl3, crt') := by
            unfold f_BT_copy
            simp only [bindc_def, c1, hcma, r1, d1, if_neg no1, u1]
          have fM := (eM mrf).trans m2
          simp only [bindc_def, d2, if_neg no1, s1, if_pos s4, u2] at fM
          refine ⟨isB_0, fun _ => okC, oMM _ (m3 ⟨fun _ => ?_, fun z => absurd c64 z⟩), ?_⟩
          · simp only [bindp_iff, d2, s1]
            exact ⟨oM, fun z => absurd z no1, fun _ => ⟨s2, fun _ => s5, fun z => absurd s4 z⟩⟩
          · intro z1 z2 q1 q2
            simp only [g_LA_copy, t, if_true, fC, bindc_def] at q1
            rw [fM] at q2
            subst q1 q2
            exact ⟨rfl, fun _ => by simp [pk_uLs], INV_mk hN1 hN2 rfl rfl ⟨Or.inr rfl, rfl, rfl, rfl, u6, fun z => absurd z no1⟩ hDr u3 u4 u5 u7 hRo.mono⟩
        · have fC : f_BT_copy 0 mpw mwr (nI N) (nI S) (nI E) cby cto csh (nI r) cve cro crc cma cbi ces cbl crt = (ver, 0, cle', cwr', nI S', nI E', cby', cto', csh', nI r', cve', cro', rc, cma2, cbi3, ces3, cbl3, crt') := by
            unfold f_BT_copy
            simp only [bindc_def, c1, hcma, r1, d1, if_neg no1, u1]
          have fM := (eM mrf).trans m2
          simp only [bindc_def, d2, if_neg no1, s1, if_pos s4, u2] at fM
          refine ⟨isB_0, fun _ => okC, oMM _ (m3 ⟨fun _ => ?_, fun z => absurd c64 z⟩), ?_⟩
          · simp only [bindp_iff, d2, s1]
            exact ⟨oM, fun z => absurd z no1, fun _ => ⟨s2, fun _ => s5, fun z => absurd s4 z⟩⟩
          · intro z1 z2 q1 q2
            simp only [g_LA_copy, t, if_true, fC, bindc_def] at q1
            rw [fM] at q2
            subst q1 q2
            exact ⟨rfl, fun _ => by simp [pk_uLs], INV_mk hN1 hN2 rfl rfl ⟨Or.inl rfl, rfl, rfl, rfl, u6, fun _ => u8⟩ hDr u3 u4 u5 u7 u9⟩
    · -- a bad block
      have fC : f_BT_copy 0 mpw mwr (nI N) (nI S) (nI E) cby cto csh (nI r) cve cro crc cma cbi ces cbl crt = (-2, 0, mpw, mwr, nI S, nI E, cby, cto, csh, nI r, cve, cro, rc, cma2, cbi2, ces2, cbl, crt) := by
        unfold f_BT_copy
        simp only [bindc_def, c1, hcma, r1, d1, if_true]
      have fM := (eM mrf).trans m2
      simp only [bindc_def, d2, if_true] at fM
      refine ⟨isB_0, fun _ => ?_, oMM _ (m3 ⟨fun _ => ?_, fun z => absurd c64 z⟩), ?_⟩
      · unfold ok_BT_copy
        simp only [bindp_iff, c1, hcma, r1, d1]
        exact ⟨okRP_0, oc, oa, r2, oR, fun _ => trivial, fun z => (z trivial).elim⟩
      · simp only [bindp_iff, d2]
        exact ⟨oM, fun _ => trivial, fun z => (z trivial).elim⟩
      · intro z1 z2 q1 q2
        simp only [g_LA_copy, t, if_true, fC, bindc_def] at q1
        rw [fM] at q2
        subst q1 q2
        exact ⟨rfl, fun _ => by simp [pk_uLs], INV_mk hN1 hN2 rfl rfl ⟨Or.inl rfl, rfl, rfl, rfl, h5, h6⟩ hDr hBy hTo hSh hRt hRo.mono⟩
  · have t : th_BT_copy 1 = 2 := by unfold th_BT_copy; rw [if_neg no1]
    refine ⟨isB_1, fun h => absurd (t.symm.trans h) (by decide), ?_, ?_⟩
    · unfold ok_MO_copy; rw [isUp_1, bindp_iff]; exact ⟨fun _ => trivial, fun z => (z rfl).elim⟩
    · intro z1 z2 q1 q2
      simp only [g_LA_copy, t, if_neg (show ¬ (2 : Nat) = 0 by decide)] at q1
      unfold f_MO_copy at q2
      rw [isUp_1, bindc_def, if_pos rfl] at q2
      subst q1 q2
      exact ⟨rfl, fun h => absurd h no1, INV_mk hN1 hN2 rfl rfl ⟨Or.inr rfl, rfl, rfl, rfl, h5, h6⟩ hDr hBy hTo hSh hRt hRo.mono⟩
