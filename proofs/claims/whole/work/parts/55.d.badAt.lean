/-! badAt, the call -/
set_option maxHeartbeats 1000000 in
theorem sim_badAt : SIM_badAt INV := by
  intro j N cfa cle cwr csl cst cen cby cto csh cdz cch cva css cve cro crc cma cbi ces cbl crt mrf msl mst men mnw mdn mpw mwr mrs mdr mtb mrc mnx mro mit mve mrb mch mva mic mlb mrw mnb mlk mnk mmd p0 lou hj hinv
  obtain ⟨hN1, hN2, hcsl, hmsl, hPow, hDr, hBy, hTo, hSh, hRt, S, E, r, hRo⟩ := hinv
  obtain ⟨h1, h2, h3, h4, h5, h6⟩ := hPow
  subst h2
  have hRR := rr_of hN1 hN2 hBy hTo
  obtain ⟨hE, hS⟩ := hRo.lt hj
  have hRo2 := hRo
  obtain ⟨⟨rfl, rfl, rfl, rfl, -, -⟩, ⟨-, hES, -⟩, -⟩ := hRo2
  subst hcsl hmsl
  have hb := isB_of h1
  have hinv : ∀ mrf, INV (j + 1) N mdn cle cwr (nI N) (nI S) (nI E) cby cto csh cdz cch cva css cve cro crc cma cbi ces cbl crt mrf (nI N) (nI S) (nI E) mnw mdn mpw mwr mrs mdr mtb mrc mnx mro mit mve mrb mch mva mic mlb mrw mnb mlk mnk mmd := fun _ => INV_mk hN1 hN2 rfl rfl ⟨h1, rfl, h3, h4, h5, h6⟩ hDr hBy hTo hSh hRt hRo.mono
  have hokT : okT_BT_badAt (N * 64) N p0 mdn := by
    simp only [okT_BT_badAt]
    exact ⟨fun _ z => (z trivial).elim, fun _ _ => hb⟩
  refine ⟨hokT, ?_⟩
  by_cases a : p0 < 0
  · have t : th_BT_badAt p0 mdn = 1 := by simp [th_BT_badAt, a]
    refine ⟨fun h => absurd (t.symm.trans h) (by decide), ?_, ?_⟩
    · simp [ok_MO_badAt, ok_MO_badAt_10, a, bindp_iff, goes_0]
    · intro z1 z2 q1 q2
      simp [g_LA_badAt, t] at q1
      simp [f_MO_badAt, f_MO_badAt_10, a, bindc_def, goes_0] at q2
      subst q1 q2
      exact ⟨rfl, fun h => absurd h no1, hinv _⟩
  · rcases h1 with rfl | rfl
    · have t : th_BT_badAt p0 0 = 0 := by simp [th_BT_badAt, a]
      obtain ⟨l1, l2, l3⟩ := badAt_l (S := S) hRR hE p0 0 0 1024 S 0 hS (by omega)
      refine ⟨fun _ => ?_, ?_, ?_⟩
      · simp only [ok_BT_badAt, ok_BT_badAt_10, bindp_iff, f_RL_start]
        exact ⟨fun z => absurd z a, fun _ => ⟨okRA_1, okRP_0, l3⟩⟩
      · simp only [ok_MO_badAt, ok_MO_badAt_10, bindp_iff, goes_10]
        exact ⟨fun z => absurd z a, fun _ => ⟨fun z => absurd z no1, fun _ => l2⟩⟩
      · intro z1 z2 q1 q2
        simp only [g_LA_badAt, t, if_true, f_BT_badAt, if_neg a, f_BT_badAt_10, bindc_def, f_RL_start] at q1
        simp only [f_MO_badAt, if_neg a, f_MO_badAt_10, bindc_def, goes_10, if_neg no1, l1] at q2
        generalize f_BT_badAt_27 1024 p0 0 (nI S) 0 (nI N) (nI S) (nI E) cby cto = y at q1 q2
        subst q1 q2
        exact ⟨rfl, fun _ => by simp [pk_uLs], hinv _⟩
    · have t : th_BT_badAt p0 1 = 2 := by simp [th_BT_badAt, a]
      refine ⟨fun h => absurd (t.symm.trans h) (by decide), ?_, ?_⟩
      · simp [ok_MO_badAt, ok_MO_badAt_10, a, bindp_iff, goes_11]
      · intro z1 z2 q1 q2
        simp [g_LA_badAt, t] at q1
        simp [f_MO_badAt, f_MO_badAt_10, a, bindc_def, goes_11] at q2
        subst q1 q2
        exact ⟨rfl, fun h => absurd h no2, hinv _⟩
