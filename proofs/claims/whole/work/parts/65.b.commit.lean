/-! commit -/
theorem change_of {nb nt : Nat} {cch cva mch mva mic : Nat → Int32} (hd : ∀ k, k < 512 → mch k = cch k ∧ (cch k = 0 ∨ cch k = 1 ∨ cch k = 2) ∧ (cch k = 1 → mva k = cva k)) (hmic : ∀ k, k < 512 → ¬ mch k = 0 → ¬ mic (k / 8) = 0) {rc mtb : Int32} {cma cbi ces mlb mrw mnb mlk mnk : Nat → Int32} (h : RT cma cbi ces mic mtb mlb mrw mnb mlk mnk) :
    ok_PG_change nb nt cch cva rc cbi ces ∧ ok_MO_applyDraft rc mch mva mlb mrw ∧ ∃ rc' cbi' ces' mlb' mrw', f_PG_change cch cva rc cbi ces = (rc', cbi', ces') ∧ f_MO_applyDraft rc mch mva mlb mrw = (rc', mlb', mrw') ∧ RT cma cbi' ces' mic mtb mlb' mrw' mnb mlk mnk := by
  obtain ⟨t1, t2, t3⟩ := h
  obtain ⟨o1, o2, rc', cbi', ces', mlb', mrw', r1, r2, r3, r4, r5⟩ := change_l (nb := nb) (nt := nt) hd hmic 1024 0 rc cbi ces mlb mrw (by omega) (by omega) t3
  rw [nI_0] at o1 o2 r1 r2
  refine ⟨?_, ?_, rc', cbi', ces', mlb', mrw', ?_, ?_, ?_⟩
  · unfold ok_PG_change; exact o1
  · unfold ok_MO_applyDraft; exact o2
  · unfold f_PG_change; exact r1
  · unfold f_MO_applyDraft; exact r2
  · refine ⟨⟨by rw [r4 72 (by omega)]; exact t1.1, t1.2.1, fun m hm => by rw [r5 _ (by omega)]; exact t1.2.2 m hm⟩, fun m hm hc => ?_, r3⟩
    obtain ⟨f1, f2, f3⟩ := t2 m hm hc
    exact ⟨by rw [r4 _ (by omega)]; exact f1, f2, fun k hk => by rw [r5 _ (by omega)]; exact f3 k hk⟩
set_option maxHeartbeats 1000000 in
theorem sim_commit : SIM_commit INV := by
  intro j N cfa cle cwr csl cst cen cby cto csh cdz cch cva css cve cro crc cma cbi ces cbl crt mrf msl mst men mnw mdn mpw mwr mrs mdr mtb mrc mnx mro mit mve mrb mch mva mic mlb mrw mnb mlk mnk mmd  lou hj hinv
  obtain ⟨hN1, hN2, hcsl, hmsl, hPow, hDr, hBy, hTo, hSh, hRt, S, E, r, hRo⟩ := hinv
  obtain ⟨h1, h2, h3, h4, h5, h6⟩ := hPow
  subst h2
  subst h3
  subst h4
  have hRR := rr_of hN1 hN2 hBy hTo
  obtain ⟨hE, hS⟩ := hRo.lt hj
  have hRo2 := hRo
  obtain ⟨⟨rfl, rfl, rfl, rfl, rfl, rfl⟩, -⟩ := hRo2
  subst hcsl hmsl
  have hDr2 := hDr
  obtain ⟨e0, e2, e3⟩ := hDr2
  subst e0
  rcases h1 with rfl | rfl
  · have t : th_BT_commit 0 = 0 := by unfold th_BT_commit; rw [if_pos rfl]
    by_cases hz : mdr = 0
    · -- nothing to commit
      have hn := newest_eq (nb := N * 64) (nt := N) hRo hN2
      refine ⟨isB_0, fun _ => ?_, ?_, ?_⟩
      · unfold ok_BT_commit
        simp only [bindp_iff, f_DR_size]
        exact ⟨okRP_0, fun _ => hn.2, fun z => absurd hz z⟩
      · unfold ok_MO_commit; rw [isUp_0, bindp_iff]
        exact ⟨fun z => absurd z no1, fun _ => ⟨fun _ => trivial, fun z => absurd hz z⟩⟩
      · intro z1 z2 q1 q2
        simp only [g_LA_commit, t, if_true, f_BT_commit, bindc_def, f_DR_size, if_pos hz, hn.1] at q1
        simp only [f_MO_commit, isUp_0, bindc_def, if_neg no1, if_pos hz] at q2
        subst q1 q2
        exact ⟨rfl, fun _ => by simp [pk_uLs], INV_mk hN1 hN2 rfl rfl ⟨Or.inl rfl, rfl, rfl, rfl, h5, h6⟩ hDr hBy hTo hSh hRt hRo.mono⟩
    · obtain ⟨oc, cma1, cbi1, ces1, c1, c2, c3⟩ := pg_clr (nb := N * 64) (nt := N) crc cma cbi ces
      obtain ⟨oa, ea⟩ := pg_mark (nb := N * 64) (nt := N) cch (cma := cma1) (fun k hk => (c2 k hk).1)
      obtain ⟨r1, r2, r3, r4⟩ := nroot_of (nb := N * 64) (nt := N) hRo hj hN2
      obtain ⟨-, -, a3, a4, -⟩ := roots_of (nb := N * 64) (nt := N) hRo hN2 mnw
      obtain ⟨mic0, k1, k2, k3⟩ := c23_l (mrf := 0) (msl := nI N) (mst := nI S) (men := nI E) (mnw := mnw) (mdn := 0) (mpw := mpw) (mwr := mwr) (mrs := nI r) (mdr := mdr) (mtb := mtb) (mrc := mrc) (mnx := mnx) (mro := mro) (mit := mit) (mve := mve) (mrb := mrb) (mch := mch) (mva := mva) (mlb := mlb) (mrw := mrw) (mnb := mnb) (mlk := mlk) (mnk := mnk) (mmd := mmd) 1024 0 mic (by omega) (by omega) (fun k hk => by omega)
      obtain ⟨mic', m1, m2, m3⟩ := c44_l (mrf := 0) (msl := nI N) (mst := nI S) (men := nI E) (mnw := mnw) (mdn := 0) (mpw := mpw) (mwr := mwr) (mrs := nI r) (mdr := mdr) (mtb := mtb) (mrc := mrc) (mnx := mnx) (mro := mro) (mit := mit) (mve := mve) (mrb := mrb) (mch := mch) (mva := mva) (mlb := mlb) (mrw := mrw) (mnb := mnb) (mlk := mlk) (mnk := mnk) (mmd := mmd) 512 512 0 mic0 (by omega) (fun l hl => ⟨fun _ k _ z => by omega, fun _ => k1 l hl⟩)
      have z4 : (512 : Nat) + 512 = 1024 := rfl
      rw [z4, nI_0] at m2 m3
      rw [nI_0] at k2 k3
      have m2' := k2.trans m2
      have m3' := fun o => k3 (m3 o)
      clear k2 k3 m2 m3
      have eM : ∀ mrf, f_MO_commit mrf (nI N) (nI S) (nI E) mnw 0 mpw mwr (nI r) mdr mtb mrc mnx mro mit mve mrb mch mva mic mlb mrw mnb mlk mnk mmd = f_MO_commit_23 1024 0 0 (nI N) (nI S) (nI E) mnw 0 mpw mwr (nI r) mdr mtb mrc mnx mro mit mve mrb mch mva mic mlb mrw mnb mlk mnk mmd := fun mrf => by
        unfold f_MO_commit; rw [isUp_0, bindc_def, if_neg no1, if_neg hz]
      have oMM : ∀ mrf, ok_MO_commit_23 1024 0 0 (nI N) (nI S) (nI E) mnw 0 mpw mwr (nI r) mdr mtb mrc mnx mro mit mve mrb mch mva mic mlb mrw mnb mlk mnk mmd → ok_MO_commit mrf (nI N) (nI S) (nI E) mnw 0 mpw mwr (nI r) mdr mtb mrc mnx mro mit mve mrb mch mva mic mlb mrw mnb mlk mnk mmd := fun mrf o => by
        unfold ok_MO_commit; rw [isUp_0, bindp_iff]; exact ⟨fun z => absurd z no1, fun _ => ⟨fun z => absurd z hz, fun _ => o⟩⟩
      have c512 : (512 : Int32) ≤ nI 512 := by decide
      generalize f_MO_commit_23 1024 0 0 (nI N) (nI S) (nI E) mnw 0 mpw mwr (nI r) mdr mtb mrc mnx mro mit mve mrb mch mva mic mlb mrw mnb mlk mnk mmd = L at m2' eM
      generalize ok_MO_commit_23 1024 0 0 (nI N) (nI S) (nI E) mnw 0 mpw mwr (nI r) mdr mtb mrc mnx mro mit mve mrb mch mva mic mlb mrw mnb mlk mnk mmd = LO at m3' oMM
      have cb : ∀ f, f_MO_commit_44 (f + 1) (nI 512) 0 (nI N) (nI S) (nI E) mnw 0 mpw mwr (nI r) mdr mtb mrc mnx mro mit mve mrb mch mva mic' mlb mrw mnb mlk mnk mmd = f_MO_commit_44 (0 + 1) (nI 512) 0 (nI N) (nI S) (nI E) mnw 0 mpw mwr (nI r) mdr mtb mrc mnx mro mit mve mrb mch mva mic' mlb mrw mnb mlk mnk mmd := fun f => by
        rw [f_MO_commit_44, f_MO_commit_44, if_pos c512, if_pos c512]
      have cbo : ∀ f, ok_MO_commit_44 (0 + 1) (nI 512) 0 (nI N) (nI S) (nI E) mnw 0 mpw mwr (nI r) mdr mtb mrc mnx mro mit mve mrb mch mva mic' mlb mrw mnb mlk mnk mmd → ok_MO_commit_44 (f + 1) (nI 512) 0 (nI N) (nI S) (nI E) mnw 0 mpw mwr (nI r) mdr mtb mrc mnx mro mit mve mrb mch mva mic' mlb mrw mnb mlk mnk mmd := fun f o => by
        rw [ok_MO_commit_44] at o ⊢
        exact ⟨fun z => o.1 z, fun z => absurd c512 z⟩
      have z5 : (512 : Nat) = 511 + 1 := rfl
      have m2 : L = f_MO_commit_44 (0 + 1) (nI 512) 0 (nI N) (nI S) (nI E) mnw 0 mpw mwr (nI r) mdr mtb mrc mnx mro mit mve mrb mch mva mic' mlb mrw mnb mlk mnk mmd := m2'.trans (cb 511)
      have m3 : ok_MO_commit_44 (0 + 1) (nI 512) 0 (nI N) (nI S) (nI E) mnw 0 mpw mwr (nI r) mdr mtb mrc mnx mro mit mve mrb mch mva mic' mlb mrw mnb mlk mnk mmd → LO := fun o => m3' (cbo 511 o)
      rw [f_MO_commit_44, if_pos c512] at m2
      rw [ok_MO_commit_44] at m3
      generalize hcma : f_PG_markKeysOf cch cma1 = cma2 at ea
      obtain ⟨hMK, hmic⟩ := mk_of ea m1 (fun k hk => (e2 k hk).1) (e3.resolve_left hz)
      obtain ⟨oR, oM, rd⟩ := read_agree hRR hE hS (x := rootV r cve cro mnw) (mnw := mnw) (mrs := nI r) (mve := mve) (mrb := mrb) r4 (fun e => ⟨a3, a4, r3 e⟩) hMK (fun p hp => (c2 p hp).2) c3 mtb mrc mlb mrw mnb mlk mnk
      have hWI : WI N mpw cby cto csh mro mit := ⟨hBy, hTo, hSh, h5⟩
      have hne : ¬ mpw = 0 := h6 rfl
      rcases rd with ⟨rc0, cbi0, ces0, mtb2, mlb0, mrw0, mnb2, mlk2, mnk2, d1, d2, d3⟩ | ⟨rc, cbi2, ces2, w, d1, d2⟩
      · obtain ⟨oG, oD, rc, cbi2, ces2, mlb2, mrw2, g1, g2, g3⟩ := change_of (nb := N * 64) (nt := N) (rc := rc0) e2 hmic d3
        obtain ⟨n, tb, nb', s1, s2, s3, s4⟩ := ver_agree hN1 hN2 hj hRo hMK g3 hRt (cwr := mwr) hWI hne 0 rc mnx (Or.inl rfl) cbl mmd
        simp only [if_true] at s4
        obtain ⟨cl1, -, -⟩ := @dr_clear (N * 64) N mdr cch
        obtain ⟨cm1, -, -⟩ := mo_clear mdr mch
        have hcl := IDr_clear (nb := N * 64) (nt := N) mdr mdr cch mch cva mva
        have okC : ok_BT_commit (N * 64) N 0 mpw mwr (nI N) (nI S) (nI E) cby cto csh mdr cch cva (nI r) cve cro crc cma cbi ces cbl crt := by
          unfold ok_BT_commit
          simp only [bindp_iff, f_DR_size, c1, hcma, r1, d1, g1]
          exact ⟨okRP_0, fun z => absurd z hz, fun _ => ⟨oc, oa, r2, oR, fun z => absurd z no1, fun _ => ⟨oG, s3, fun _ => trivial, fun _ => cl1⟩⟩⟩
        rcases s4 with ⟨s4, cbi3, ces3, cbl3, s5⟩ | ⟨s4, s5, s6⟩
        · -- full
          have hn3 : (-3 : Int32) ≤ 0 := by decide
          have fC : f_BT_commit 0 mpw mwr (nI N) (nI S) (nI E) cby cto csh mdr cch cva (nI r) cve cro crc cma cbi ces cbl crt = (-3, 0, mpw, mwr, nI S, nI E, cby, cto, csh, mdr, cch, nI r, cve, cro, rc, cma2, cbi3, ces3, cbl3, crt) := by
            unfold f_BT_commit
            simp only [bindc_def, f_DR_size, if_neg hz, c1, hcma, r1, d1, if_neg no1, g1, s5, if_pos hn3]
          have fM := (eM mrf).trans m2
          simp only [bindc_def, d2, if_neg no1, g2, s1, if_neg s4] at fM
          refine ⟨isB_0, fun _ => okC, oMM _ (m3 ⟨fun _ => ?_, fun z => absurd c512 z⟩), ?_⟩
          · simp only [bindp_iff, d2, g2, s1]
            exact ⟨oM, fun z => absurd z no1, fun _ => ⟨oD, s2, fun z => absurd z s4, fun _ => trivial⟩⟩
          · intro z1 z2 q1 q2
            simp only [g_LA_commit, t, if_true, fC, bindc_def] at q1
            rw [fM] at q2
            subst q1 q2
            exact ⟨rfl, fun _ => by simp [pk_uLs], INV_mk hN1 hN2 rfl rfl ⟨Or.inl rfl, rfl, rfl, rfl, h5, h6⟩ hDr hBy hTo hSh hRt hRo.mono⟩
        · rcases s6 with ⟨cle', cwr', cby', cto', csh', cbi3, ces3, cbl3, crt', nx', mro', mit', mlk', mnk', mmd', u1, u2, ⟨u3, u4, u5, u6⟩, u7⟩ | ⟨ver, S', E', r', cle', cwr', cby', cto', csh', cve', cro', cbi3, ces3, cbl3, crt', nx', mro', mit', mve', mrb', mlk', mnk', mmd', u1, u2, ⟨u3, u4, u5, u6⟩, u7, u8, u9, u10, u11⟩
          · have hn4 : (-4 : Int32) ≤ 0 := by decide
            have fC : f_BT_commit 0 mpw mwr (nI N) (nI S) (nI E) cby cto csh mdr cch cva (nI r) cve cro crc cma cbi ces cbl crt = (-4, 1, cle', cwr', nI S, nI E, cby', cto', csh', mdr, cch, nI r, cve, cro, rc, cma2, cbi3, ces3, cbl3, crt') := by
              unfold f_BT_commit
              simp only [bindc_def, f_DR_size, if_neg hz, c1, hcma, r1, d1, if_neg no1, g1, u1, if_pos hn4]
            have fM := (eM mrf).trans m2
            simp only [bindc_def, d2, if_neg no1, g2, s1, if_pos s4, u2, if_true] at fM
            refine ⟨isB_0, fun _ => okC, oMM _ (m3 ⟨fun _ => ?_, fun z => absurd c512 z⟩), ?_⟩
            · simp only [bindp_iff, d2, g2, s1, u2]
              exact ⟨oM, fun z => absurd z no1, fun _ => ⟨oD, s2, fun _ => ⟨s5, fun _ => trivial, fun z => (z trivial).elim⟩, fun z => absurd s4 z⟩⟩
            · intro z1 z2 q1 q2
              simp only [g_LA_commit, t, if_true, fC, bindc_def] at q1
              rw [fM] at q2
              subst q1 q2
              exact ⟨rfl, fun _ => by simp [pk_uLs], INV_mk hN1 hN2 rfl rfl ⟨Or.inr rfl, rfl, rfl, rfl, u6, fun z => absurd z no1⟩ hDr u3 u4 u5 u7 hRo.mono⟩
          · have fC : f_BT_commit 0 mpw mwr (nI N) (nI S) (nI E) cby cto csh mdr cch cva (nI r) cve cro crc cma cbi ces cbl crt = (ver, 0, cle', cwr', nI S', nI E', cby', cto', csh', (f_DR_clear mdr cch).1, (f_DR_clear mdr cch).2, nI r', cve', cro', rc, cma2, cbi3, ces3, cbl3, crt') := by
              unfold f_BT_commit
              simp only [bindc_def, f_DR_size, if_neg hz, c1, hcma, r1, d1, if_neg no1, g1, u1, if_neg u10]
            have fM := (eM mrf).trans m2
            simp only [bindc_def, d2, if_neg no1, g2, s1, if_pos s4, u2, if_neg u11] at fM
            refine ⟨isB_0, fun _ => okC, oMM _ (m3 ⟨fun _ => ?_, fun z => absurd c512 z⟩), ?_⟩
            · simp only [bindp_iff, d2, g2, s1, u2]
              exact ⟨oM, fun z => absurd z no1, fun _ => ⟨oD, s2, fun _ => ⟨s5, fun z => absurd z u11, fun _ => cm1⟩, fun z => absurd s4 z⟩⟩
            · intro z1 z2 q1 q2
              simp only [g_LA_commit, t, if_true, fC, bindc_def] at q1
              rw [fM] at q2
              generalize f_DR_clear mdr cch = zc at q1 hcl
              generalize f_MO_clear mdr mch = zm at q2 hcl
              subst q1 q2
              exact ⟨rfl, fun _ => by simp [pk_uLs], INV_mk hN1 hN2 rfl rfl ⟨Or.inl rfl, rfl, rfl, rfl, u6, fun _ => u8⟩ hcl u3 u4 u5 u7 u9⟩
      · -- a bad block
        have fC : f_BT_commit 0 mpw mwr (nI N) (nI S) (nI E) cby cto csh mdr cch cva (nI r) cve cro crc cma cbi ces cbl crt = (-2, 0, mpw, mwr, nI S, nI E, cby, cto, csh, mdr, cch, nI r, cve, cro, rc, cma2, cbi2, ces2, cbl, crt) := by
          unfold f_BT_commit
          simp only [bindc_def, f_DR_size, if_neg hz, c1, hcma, r1, d1, if_true]
        have fM := (eM mrf).trans m2
        simp only [bindc_def, d2, if_true] at fM
        refine ⟨isB_0, fun _ => ?_, oMM _ (m3 ⟨fun _ => ?_, fun z => absurd c512 z⟩), ?_⟩
        · unfold ok_BT_commit
          simp only [bindp_iff, f_DR_size, c1, hcma, r1, d1]
          exact ⟨okRP_0, fun z => absurd z hz, fun _ => ⟨oc, oa, r2, oR, fun _ => trivial, fun z => (z trivial).elim⟩⟩
        · simp only [bindp_iff, d2]
          exact ⟨oM, fun _ => trivial, fun z => (z trivial).elim⟩
        · intro z1 z2 q1 q2
          simp only [g_LA_commit, t, if_true, fC, bindc_def] at q1
          rw [fM] at q2
          subst q1 q2
          exact ⟨rfl, fun _ => by simp [pk_uLs], INV_mk hN1 hN2 rfl rfl ⟨Or.inl rfl, rfl, rfl, rfl, h5, h6⟩ hDr hBy hTo hSh hRt hRo.mono⟩
  · have t : th_BT_commit 1 = 2 := by unfold th_BT_commit; rw [if_neg no1]
    refine ⟨isB_1, fun h => absurd (t.symm.trans h) (by decide), ?_, ?_⟩
    · unfold ok_MO_commit; rw [isUp_1, bindp_iff]; exact ⟨fun _ => trivial, fun z => (z rfl).elim⟩
    · intro z1 z2 q1 q2
      simp only [g_LA_commit, t, if_neg (show ¬ (2 : Nat) = 0 by decide)] at q1
      unfold f_MO_commit at q2
      rw [isUp_1, bindc_def, if_pos rfl] at q2
      subst q1 q2
      exact ⟨rfl, fun h => absurd h no1, INV_mk hN1 hN2 rfl rfl ⟨Or.inr rfl, rfl, rfl, rfl, h5, h6⟩ hDr hBy hTo hSh hRt hRo.mono⟩
