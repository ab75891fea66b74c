/-! get and find -/
theorem nroot_of {j N S E r : Nat} {cst cen mst men css : Int32} {cve cro : Nat → Int32} {mrs : Int32} {mve mrb : Nat → Int32} {mnw : Int32} (h : IRo j N S E r cst cen mst men css cve cro mrs mve mrb mnw) (hj : j < 512) (hN : N ≤ 200) {nb nt : Nat} : f_SH_newestRoot (nI r) cro = (rootV r cve cro mnw, ()) ∧ ok_SH_newestRoot nb nt (nI r) cro ∧ (¬ mnw = 0 → ∃ q, S ≤ q ∧ q < E ∧ rootV r cve cro mnw = nI q) ∧ (mnw = 0 → rootV r cve cro mnw = -1) := by
  have h0 := root0 h hj hN
  obtain ⟨-, -, -, -, h5⟩ := roots_of (nb := nb) (nt := nt) h hN mnw
  have hv := fun i => ver_ne0 (i := i) h hj
  obtain ⟨-, ⟨h1, h2, h3, h4⟩, h6, h7, h8⟩ := h
  rcases Nat.eq_zero_or_pos r with rfl | hr
  · rw [if_pos rfl] at h8
    subst h8
    rw [h0]
    refine ⟨?_, ⟨fun _ => trivial, fun z => (z rfl).elim⟩, fun z => (z rfl).elim, fun _ => rfl⟩
    unfold f_SH_newestRoot; rw [nI_0, if_pos rfl]
  · rw [if_neg (show ¬ r = 0 by omega)] at h8
    have e : ¬ nI r = 0 := nI_ne0 hr (by omega)
    have e2 : nI r - (1 : Int32) = nI (r - 1) := by rw [show (1 : Int32) = nI 1 from rfl, pk_sub hr]
    have hx : rootV r cve cro mnw = cro (r - 1) := by
      rcases h5 with ⟨-, h5⟩ | ⟨k, q, k1, k2, k3, -⟩
      · exact absurd h8.symm (h5 (r - 1) (by omega))
      · rw [k3]
        by_cases e3 : k = r - 1
        · rw [e3]
        · have := h7 k (r - 1) (by omega) (by omega)
          rw [k2, h8] at this
          exact absurd this Int32.lt_irrefl
    obtain ⟨-, -, v, q, -, c2, -, -, c3, c4⟩ := h6 (r - 1) (by omega)
    refine ⟨?_, ⟨fun z => absurd z e, fun _ => ?_⟩, fun _ => ⟨q, c3, c4, hx.trans c2⟩, fun z => ?_⟩
    · unfold f_SH_newestRoot; rw [if_neg e, e2, nI_clamp (by omega), hx]
    · rw [e2]; exact vp_in_nI (by omega) (by omega)
    · rw [h8] at z; exact absurd z (hv (r - 1) (by omega))
set_option maxHeartbeats 1000000 in
theorem sim_get : SIM_get INV := by
  intro j N cfa cle cwr csl cst cen cby cto csh cdz cch cva css cve cro crc cma cbi ces cbl crt mrf msl mst men mnw mdn mpw mwr mrs mdr mtb mrc mnx mro mit mve mrb mch mva mic mlb mrw mnb mlk mnk mmd p0 lou hj hinv
  obtain ⟨hN1, hN2, hcsl, hmsl, hPow, hDr, hBy, hTo, hSh, hRt, S, E, r, hRo⟩ := hinv
  obtain ⟨h1, h2, h3, h4, h5, h6⟩ := hPow
  subst h2
  have hRR := rr_of hN1 hN2 hBy hTo
  obtain ⟨hE, hS⟩ := hRo.lt hj
  have hRo2 := hRo
  obtain ⟨⟨rfl, rfl, rfl, rfl, rfl, rfl⟩, -⟩ := hRo2
  subst hcsl hmsl
  have hb := isB_of h1
  have hinv : ∀ mrf, INV (j + 1) N mdn cle cwr (nI N) (nI S) (nI E) cby cto csh cdz cch cva (nI r) cve cro crc cma cbi ces cbl crt mrf (nI N) (nI S) (nI E) mnw mdn mpw mwr (nI r) mdr mtb mrc mnx mro mit mve mrb mch mva mic mlb mrw mnb mlk mnk mmd := fun _ => INV_mk hN1 hN2 rfl rfl ⟨h1, rfl, h3, h4, h5, h6⟩ hDr hBy hTo hSh hRt hRo.mono
  have hokT : okT_BT_get (N * 64) N p0 mdn := by unfold okT_BT_get; rw [bindp_iff]; exact fun _ => hb
  refine ⟨hokT, ?_⟩
  rcases key_cases p0 with ⟨k1, k2, k3⟩ | ⟨k1, k2⟩
  · obtain ⟨i, hi, rfl⟩ := vp_in_of k3 (by omega)
    rcases h1 with rfl | rfl
    · obtain ⟨n1, n2, n3, n4⟩ := nroot_of (nb := N * 64) (nt := N) hRo hj hN2
      obtain ⟨-, -, a3, a4, -⟩ := roots_of (nb := N * 64) (nt := N) hRo hN2 mnw
      have hOKB : OKB S E (rootV r cve cro mnw) := by
        by_cases e : mnw = 0
        · exact Or.inl (n4 e)
        · exact Or.inr (Or.inr (n3 e))
      obtain ⟨w1, w2⟩ := row_of hRR hE hS hOKB hi
      obtain ⟨v1, v2⟩ := look_of hRR hE hS (nI r) mve mrb (p := mnw) (fun e => ⟨a3, a4, n3 e⟩) n4 hi
      obtain ⟨d1, d2, d3⟩ := hDr.2.1 i hi
      have t : th_BT_get (nI i) 0 = 0 := by simp [th_BT_get, k1, bindc_def]
      refine ⟨fun _ => ?_, ?_, ?_⟩
      · simp only [ok_BT_get, bindp_iff, k1, n1]
        exact ⟨okRA_1, okRP_0, k3, fun _ => ⟨k3, fun _ => ⟨n2, w2⟩, fun _ => k3⟩, fun _ => trivial⟩
      · simp only [ok_MO_get, bindp_iff, k2, goes_10]
        exact ⟨fun _ => trivial, fun _ => ⟨k3, fun _ => k3, fun _ => ⟨k3, fun _ => trivial, fun _ => v2⟩⟩⟩
      · intro z1 z2 q1 q2
        simp only [g_LA_get, t, if_true, f_BT_get, bindc_def, k1, n1, w1, f_DR_isDropped, f_DR_has, f_DR_valueOf, nI_clamp (show i < 2 ^ 31 by omega)] at q1
        simp only [f_MO_get, bindc_def, k2, goes_10, if_neg no1, v1, d1, nI_clamp (show i < 2 ^ 31 by omega)] at q2
        rcases d2 with c | c | c
        · simp only [c, if_true, if_neg (show ¬ (0 : Int32) = 1 by decide), if_neg (show ¬ (0 : Int32) = 2 by decide)] at q1 q2
          subst q1 q2
          exact ⟨rfl, fun _ => by simp [pk_uLs], hinv _⟩
        · rw [d3 c] at q2
          simp only [c, if_true, if_neg no1, if_neg (show ¬ (1 : Int32) = 2 by decide)] at q1 q2
          subst q1 q2
          exact ⟨rfl, fun _ => by simp [pk_uLs], hinv _⟩
        · simp only [c, if_true, if_neg no1, if_neg (show ¬ (2 : Int32) = 1 by decide)] at q1 q2
          subst q1 q2
          exact ⟨rfl, fun _ => by simp [pk_uLs], hinv _⟩
    · have t : th_BT_get (nI i) 1 = 2 := by simp [th_BT_get, k1, bindc_def]
      refine ⟨fun h => absurd (t.symm.trans h) (by decide), ?_, ?_⟩
      · simp [ok_MO_get, k2, bindp_iff, goes_11]
      · intro z1 z2 q1 q2
        simp [g_LA_get, t] at q1
        simp [f_MO_get, k2, bindc_def, goes_11] at q2
        subst q1 q2
        exact ⟨rfl, fun h => absurd h no2, hinv _⟩
  · have t : th_BT_get p0 mdn = 1 := by simp [th_BT_get, k1, bindc_def]
    refine ⟨fun h => absurd (t.symm.trans h) (by decide), ?_, ?_⟩
    · simp [ok_MO_get, k2, bindp_iff, goes_0]
    · intro z1 z2 q1 q2
      simp [g_LA_get, t] at q1
      simp [f_MO_get, k2, bindc_def, goes_0] at q2
      subst q1 q2
      exact ⟨rfl, fun h => absurd h no1, hinv _⟩
set_option maxHeartbeats 1000000 in
theorem sim_find : SIM_find INV := by
  intro j N cfa cle cwr csl cst cen cby cto csh cdz cch cva css cve cro crc cma cbi ces cbl crt mrf msl mst men mnw mdn mpw mwr mrs mdr mtb mrc mnx mro mit mve mrb mch mva mic mlb mrw mnb mlk mnk mmd p0 p1 lou hj hinv
  obtain ⟨hN1, hN2, hcsl, hmsl, hPow, hDr, hBy, hTo, hSh, hRt, S, E, r, hRo⟩ := hinv
  obtain ⟨h1, h2, h3, h4, h5, h6⟩ := hPow
  subst h2
  have hRR := rr_of hN1 hN2 hBy hTo
  obtain ⟨hE, hS⟩ := hRo.lt hj
  have hRo2 := hRo
  obtain ⟨⟨rfl, rfl, rfl, rfl, rfl, rfl⟩, -⟩ := hRo2
  subst hcsl hmsl
  have hb := isB_of h1
  have hinv : ∀ mrf, INV (j + 1) N mdn cle cwr (nI N) (nI S) (nI E) cby cto csh cdz cch cva (nI r) cve cro crc cma cbi ces cbl crt mrf (nI N) (nI S) (nI E) mnw mdn mpw mwr (nI r) mdr mtb mrc mnx mro mit mve mrb mch mva mic mlb mrw mnb mlk mnk mmd := fun _ => INV_mk hN1 hN2 rfl rfl ⟨h1, rfl, h3, h4, h5, h6⟩ hDr hBy hTo hSh hRt hRo.mono
  obtain ⟨g1, g2, g3⟩ := kept_of (nb := N * 64) (nt := N) hRo hj hN2 p0
  obtain ⟨a1, a2, a3, a4, -⟩ := roots_of (nb := N * 64) (nt := N) hRo hN2 p0
  have hokT : okT_BT_find (N * 64) N p0 p1 mdn (nI S) (nI r) cve cro := by
    unfold okT_BT_find; simp only [bindp_iff]
    exact ⟨g1, fun _ z => (z trivial).elim, fun _ => ⟨fun _ z => (z trivial).elim, fun _ _ => hb⟩⟩
  refine ⟨hokT, ?_⟩
  rcases g3 with ⟨g3, g4⟩ | ⟨g3, g4, g5⟩
  · have t : th_BT_find p0 p1 mdn (nI S) (nI r) cve cro = 1 := by simp [th_BT_find, g3, bindc_def]
    refine ⟨fun h => absurd (t.symm.trans h) (by decide), ?_, ?_⟩
    · simp only [ok_MO_find, g4, bindp_iff, goes_0]
      exact ⟨g2, fun _ => ⟨fun _ => trivial, fun z => (z trivial).elim⟩, fun z => (z trivial).elim⟩
    · intro z1 z2 q1 q2
      simp [g_LA_find, t] at q1
      simp [f_MO_find, g4, bindc_def, goes_0] at q2
      subst q1 q2
      exact ⟨rfl, fun h => absurd h no1, hinv _⟩
  · rcases key_cases p1 with ⟨k1, k2, k3⟩ | ⟨k1, k2⟩
    · obtain ⟨i, hi, rfl⟩ := vp_in_of k3 (by omega)
      have n4 : p0 = 0 → rootV r cve cro p0 = -1 := fun z => by rw [z]; exact root0 hRo hj hN2
      have n3 : ¬ p0 = 0 → ∃ q, S ≤ q ∧ q < E ∧ rootV r cve cro p0 = nI q := fun z => by
        rcases g5 with g5 | ⟨-, g5⟩
        · exact absurd g5 z
        · exact g5
      rcases h1 with rfl | rfl
      · have hOKB : OKB S E (rootV r cve cro p0) := by
          by_cases e : p0 = 0
          · exact Or.inl (n4 e)
          · exact Or.inr (Or.inr (n3 e))
        obtain ⟨w1, w2⟩ := row_of hRR hE hS hOKB hi
        obtain ⟨v1, v2⟩ := look_of hRR hE hS (nI r) mve mrb (p := p0) (fun e => ⟨a3, a4, n3 e⟩) n4 hi
        have t : th_BT_find p0 (nI i) 0 (nI S) (nI r) cve cro = 0 := by simp [th_BT_find, k1, g3, bindc_def]
        refine ⟨fun _ => ?_, ?_, ?_⟩
        · simp only [ok_BT_find, bindp_iff, k1, g3, a1]
          exact ⟨g1, fun z => absurd z no1, fun _ => ⟨fun z => absurd z no1, fun _ => ⟨okRA_1, okRP_0, a2, w2⟩⟩⟩
        · simp only [ok_MO_find, bindp_iff, k2, g4, goes_10]
          exact ⟨g2, fun z => absurd z no1, fun _ => ⟨fun z => absurd z no1, fun _ => ⟨fun _ => trivial, fun _ => v2⟩⟩⟩
        · intro z1 z2 q1 q2
          simp only [g_LA_find, t, if_true, f_BT_find, bindc_def, k1, g3, if_neg no1, a1, w1] at q1
          simp only [f_MO_find, bindc_def, k2, g4, goes_10, if_neg no1, v1] at q2
          subst q1 q2
          exact ⟨rfl, fun _ => by simp [pk_uLs], hinv _⟩
      · have t : th_BT_find p0 (nI i) 1 (nI S) (nI r) cve cro = 2 := by simp [th_BT_find, k1, g3, bindc_def]
        refine ⟨fun h => absurd (t.symm.trans h) (by decide), ?_, ?_⟩
        · simp [ok_MO_find, k2, g4, bindp_iff, goes_11, g2]
        · intro z1 z2 q1 q2
          simp [g_LA_find, t] at q1
          simp [f_MO_find, k2, g4, bindc_def, goes_11] at q2
          subst q1 q2
          exact ⟨rfl, fun h => absurd h no2, hinv _⟩
    · have t : th_BT_find p0 p1 mdn (nI S) (nI r) cve cro = 1 := by simp [th_BT_find, g3, k1, bindc_def]
      refine ⟨fun h => absurd (t.symm.trans h) (by decide), ?_, ?_⟩
      · simp [ok_MO_find, g4, k2, bindp_iff, goes_0, g2]
      · intro z1 z2 q1 q2
        simp [g_LA_find, t] at q1
        simp [f_MO_find, g4, k2, bindc_def, goes_0] at q2
        subst q1 q2
        exact ⟨rfl, fun h => absurd h no1, hinv _⟩
