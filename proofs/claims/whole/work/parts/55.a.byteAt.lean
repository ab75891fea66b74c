/-! byteAt, poke, badAt -/
theorem rr_of {N : Nat} {cby cto mro mit : Nat → Int32} (h1 : 16 ≤ N) (h2 : N ≤ 200) (hBy : IBy N cby mro) (hTo : ITo N cto mit) : RR N cby cto mro mit := ⟨h1, h2, hBy.rd, hTo⟩
theorem IRo.lt {j N S E r : Nat} {cst cen mst men css : Int32} {cve cro : Nat → Int32} {mrs : Int32} {mve mrb : Nat → Int32} {mnw : Int32} (h : IRo j N S E r cst cen mst men css cve cro mrs mve mrb mnw) (hj : j < 512) : E < 2 ^ 30 ∧ S ≤ E := by
  obtain ⟨-, ⟨h2, h3, h4, h5⟩, -⟩ := h
  omega
theorem ix_cases (p : Int32) : (f_BT_isByteIndex p = (0, ()) ∧ (p < 0 ∨ ¬ p < 0 ∧ (64 : Int32) ≤ p)) ∨ (f_BT_isByteIndex p = (1, ()) ∧ ¬ p < 0 ∧ ¬ (64 : Int32) ≤ p ∧ ∃ i, i < 64 ∧ p = nI i) := by
  unfold f_BT_isByteIndex
  by_cases h1 : p < 0
  · left; simp [h1]
  · by_cases h2 : (64 : Int32) ≤ p
    · left; simp [h1, h2]
    · right
      refine ⟨by simp [h1, h2], h1, h2, ?_⟩
      obtain ⟨k, hk, rfl⟩ := nI_of h1
      refine ⟨k, ?_, rfl⟩
      rcases Nat.lt_or_ge k 64 with q | q
      · exact q
      · exact absurd (nI_le (a := 64) q hk) h2
set_option maxHeartbeats 1000000 in
theorem sim_byteAt : SIM_byteAt INV := by
  intro j N cfa cle cwr csl cst cen cby cto csh cdz cch cva css cve cro crc cma cbi ces cbl crt mrf msl mst men mnw mdn mpw mwr mrs mdr mtb mrc mnx mro mit mve mrb mch mva mic mlb mrw mnb mlk mnk mmd p0 p1 lou hj hinv
  obtain ⟨hN1, hN2, hcsl, hmsl, hPow, hDr, hBy, hTo, hSh, hRt, S, E, r, hRo⟩ := hinv
  obtain ⟨h1, h2, h3, h4, h5, h6⟩ := hPow
  subst h2
  have hRR := rr_of hN1 hN2 hBy hTo
  obtain ⟨hE, hS⟩ := hRo.lt hj
  have hRo2 := hRo
  obtain ⟨⟨rfl, rfl, rfl, rfl, -, -⟩, -⟩ := hRo2
  subst hcsl hmsl
  have hb := isB_of h1
  have hinv : ∀ mrf, INV (j + 1) N mdn cle cwr (nI N) (nI S) (nI E) cby cto csh cdz cch cva css cve cro crc cma cbi ces cbl crt mrf (nI N) (nI S) (nI E) mnw mdn mpw mwr mrs mdr mtb mrc mnx mro mit mve mrb mch mva mic mlb mrw mnb mlk mnk mmd := fun _ => INV_mk hN1 hN2 rfl rfl ⟨h1, rfl, h3, h4, h5, h6⟩ hDr hBy hTo hSh hRt hRo.mono
  have hokT : okT_BT_byteAt (N * 64) N p0 p1 mdn (nI S) (nI E) := by
    simp only [okT_BT_byteAt, bindp_iff]
    exact ⟨fun _ z => (z trivial).elim, fun _ => ⟨fun _ z => (z trivial).elim, fun _ _ => hb⟩⟩
  refine ⟨hokT, ?_⟩
  rcases used_of hE hS p0 with ⟨u1, -⟩ | ⟨u1, b, hb1, hb2, rfl⟩
  · have t : th_BT_byteAt p0 p1 mdn (nI S) (nI E) = 1 := by simp [th_BT_byteAt, used_eq, u1, bindc_def]
    refine ⟨fun h => absurd (t.symm.trans h) (by decide), ?_, ?_⟩
    · simp [ok_MO_byteAt, u1, bindp_iff, goes_0]
    · intro z1 z2 q1 q2
      simp [g_LA_byteAt, t] at q1
      simp [f_MO_byteAt, u1, bindc_def, goes_0] at q2
      subst q1 q2
      exact ⟨rfl, fun h => absurd h no1, hinv _⟩
  · rcases ix_cases p1 with ⟨i1, i2⟩ | ⟨i1, i2, i3, i, hi, rfl⟩
    · have t : th_BT_byteAt (nI b) p1 mdn (nI S) (nI E) = 1 := by simp [th_BT_byteAt, used_eq, u1, bindc_def, i1]
      refine ⟨fun h => absurd (t.symm.trans h) (by decide), ?_, ?_⟩
      · rcases i2 with i2 | ⟨i2, i3⟩
        · simp [ok_MO_byteAt, u1, bindp_iff, goes_0, i2]
        · simp [ok_MO_byteAt, u1, bindp_iff, goes_0, i2, i3]
      · intro z1 z2 q1 q2
        simp [g_LA_byteAt, t] at q1
        have q3 : z2 = (0, 1) := by
          rcases i2 with i2 | ⟨i2, i3⟩
          · simpa [f_MO_byteAt, u1, bindc_def, goes_0, i2] using q2
          · simpa [f_MO_byteAt, u1, bindc_def, goes_0, i2, i3] using q2
        subst q1 q3
        exact ⟨rfl, fun h => absurd h no1, hinv _⟩
    · have hb30 : b < 2 ^ 30 := by omega
      have hp := pl (b := b) hN1
      obtain ⟨c1, c2⟩ := rr_byte hRR hb30 hi
      obtain ⟨p1, p2⟩ := @place_of b N hb30 (by omega) hN2
      obtain ⟨a1, b1⟩ := @at_k (b % N * 64) i 12800 (by omega) (by omega)
      rcases h1 with rfl | rfl
      · have t : th_BT_byteAt (nI b) (nI i) 0 (nI S) (nI E) = 0 := by simp [th_BT_byteAt, used_eq, u1, bindc_def, i1]
        refine ⟨fun _ => ?_, ?_, ?_⟩
        · simp only [ok_BT_byteAt, used_eq, u1, bindp_iff, i1]
          exact ⟨fun z => absurd z no1, fun _ => ⟨fun z => absurd z no1, fun _ => ⟨okRA_1, okRP_0, c2⟩⟩⟩
        · simp only [ok_MO_byteAt, u1, bindp_iff, goes_10, p1]
          exact ⟨fun z => absurd z no1, fun _ => ⟨fun z => absurd z i2, fun _ => ⟨fun z => absurd z i3, fun _ => ⟨fun z => absurd z no1, fun _ => ⟨p2, b1⟩⟩⟩⟩⟩
        · intro z1 z2 q1 q2
          simp only [g_LA_byteAt, t, if_true, f_BT_byteAt, used_eq, u1, bindc_def, if_neg no1, i1, c1] at q1
          simp only [f_MO_byteAt, u1, bindc_def, if_neg no1, if_neg i2, if_neg i3, goes_10, p1, a1] at q2
          subst q1 q2
          exact ⟨rfl, fun _ => by simp [pk_uLs], hinv _⟩
      · have t : th_BT_byteAt (nI b) (nI i) 1 (nI S) (nI E) = 2 := by simp [th_BT_byteAt, used_eq, u1, bindc_def, i1]
        refine ⟨fun h => absurd (t.symm.trans h) (by decide), ?_, ?_⟩
        · simp [ok_MO_byteAt, u1, bindp_iff, goes_11, i2, i3]
        · intro z1 z2 q1 q2
          simp [g_LA_byteAt, t] at q1
          simp [f_MO_byteAt, u1, bindc_def, goes_11, i2, i3] at q2
          subst q1 q2
          exact ⟨rfl, fun h => absurd h no2, hinv _⟩
