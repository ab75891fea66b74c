/-! poke -/
theorem nxor (a b : Nat) : nI a ^^^ nI b = nI (a ^^^ b) := by
  apply Int32.toBitVec_inj.mp
  show BitVec.ofNat 32 a ^^^ BitVec.ofNat 32 b = BitVec.ofNat 32 (a ^^^ b)
  exact (BitVec.ofNat_xor).symm
theorem byte_low (x : Int32) : x.toInt8.toInt32 = (nI (x.toBitVec.toNat % 256)).toInt8.toInt32 := by
  congr 1
  apply Int8.toBitVec_inj.mp
  apply BitVec.eq_of_toNat_eq
  rw [Int32.toBitVec_toInt8, Int32.toBitVec_toInt8, BitVec.signExtend_eq_setWidth_of_le _ (by omega), BitVec.signExtend_eq_setWidth_of_le _ (by omega), BitVec.toNat_setWidth, BitVec.toNat_setWidth, pk_tn (by omega)]
  omega
theorem byte_of (x : Int32) : x.toInt8.toInt32.toBitVec.toNat % 256 = x.toBitVec.toNat % 256 := by
  have h := byte_up (x.toBitVec.toNat % 256) (by omega)
  rw [← byte_low] at h
  have h2 := pk_and x.toInt8.toInt32 (m := 255) 8 (by decide)
  rw [h] at h2
  have h3 := congrArg (fun y : Int32 => y.toBitVec.toNat) h2
  rw [pk_tn (by omega), pk_tn (by omega)] at h3
  omega
theorem byte_xor {b m : Nat} (hb : b < 256) (hm : m < 256) : ((nI b).toInt8.toInt32 ^^^ nI m).toInt8.toInt32 = (nI (b ^^^ m)).toInt8.toInt32 := by
  rw [byte_low]
  congr 2
  show nI (((nI b).toInt8.toInt32.toBitVec ^^^ (nI m).toBitVec).toNat % 256) = nI (b ^^^ m)
  rw [BitVec.toNat_xor, show (256 : Nat) = 2 ^ 8 from rfl, Nat.xor_mod_two_pow, show (2 : Nat) ^ 8 = 256 from rfl, byte_of, pk_tn (by omega), pk_tn (by omega), Nat.mod_eq_of_lt hb, Nat.mod_eq_of_lt hm]
theorem mask_cases (p : Int32) : (p < (1 : Int32) ∨ ¬ p < (1 : Int32) ∧ (255 : Int32) < p) ∨ (¬ p < (1 : Int32) ∧ ¬ (255 : Int32) < p ∧ ∃ m, m < 256 ∧ p = nI m) := by
  by_cases h1 : p < (1 : Int32)
  · exact Or.inl (Or.inl h1)
  · by_cases h2 : (255 : Int32) < p
    · exact Or.inl (Or.inr ⟨h1, h2⟩)
    · refine Or.inr ⟨h1, h2, ?_⟩
      have h3 : ¬ p < 0 := fun z => h1 (Int32.lt_trans z (by decide))
      obtain ⟨k, hk, rfl⟩ := nI_of h3
      refine ⟨k, ?_, rfl⟩
      rcases Nat.lt_or_ge k 256 with q | q
      · exact q
      · exact absurd (nI_lt (a := 255) q hk) h2
theorem IBy_poke {N : Nat} {cby mro : Nat → Int32} (h : IBy N cby mro) {a m : Nat} (ha : a < N * 64) (hm : m < 256) : IBy N (upd cby a (vp_nar .byte ((cby a ^^^ nI m).toInt8.toInt32))) (upd mro a (mro a ^^^ nI m)) := by
  intro i hi
  by_cases e : i = a
  · subst e
    obtain ⟨b, h1, h2, h3⟩ := h i hi
    rw [pk_us, pk_us, pk_vb, h2, h3, byte_xor h1 hm, nxor]
    exact ⟨b ^^^ m, Nat.xor_lt_two_pow (n := 8) h1 hm, rfl, rfl⟩
  · rw [pk_un e, pk_un e]; exact h i hi
set_option maxHeartbeats 1000000 in
theorem sim_poke : SIM_poke INV := by
  intro j N cfa cle cwr csl cst cen cby cto csh cdz cch cva css cve cro crc cma cbi ces cbl crt mrf msl mst men mnw mdn mpw mwr mrs mdr mtb mrc mnx mro mit mve mrb mch mva mic mlb mrw mnb mlk mnk mmd p0 p1 p2 lou hj hinv
  obtain ⟨hN1, hN2, hcsl, hmsl, hPow, hDr, hBy, hTo, hSh, hRt, S, E, r, hRo⟩ := hinv
  obtain ⟨h1, h2, h3, h4, h5, h6⟩ := hPow
  subst h2
  have hRR := rr_of hN1 hN2 hBy hTo
  obtain ⟨hE, hS⟩ := hRo.lt hj
  have hRo2 := hRo
  obtain ⟨⟨rfl, rfl, rfl, rfl, -, -⟩, -⟩ := hRo2
  subst hcsl hmsl
  have hb := isB_of h1
  have hinv : ∀ mrf cby mro, IBy N cby mro → INV (j + 1) N mdn cle cwr (nI N) (nI S) (nI E) cby cto csh cdz cch cva css cve cro crc cma cbi ces cbl crt mrf (nI N) (nI S) (nI E) mnw mdn mpw mwr mrs mdr mtb mrc mnx mro mit mve mrb mch mva mic mlb mrw mnb mlk mnk mmd := fun _ _ _ hBy => INV_mk hN1 hN2 rfl rfl ⟨h1, rfl, h3, h4, h5, h6⟩ hDr hBy hTo hSh hRt hRo.mono
  have hokT : okT_BT_poke (N * 64) N p0 p1 p2 mdn (nI S) (nI E) := by
    simp only [okT_BT_poke, bindp_iff]
    exact ⟨fun _ z => (z trivial).elim, fun _ => ⟨fun _ z => (z trivial).elim, fun _ => ⟨fun _ z => (z trivial).elim, fun _ => ⟨fun _ z => (z trivial).elim, fun _ _ => hb⟩⟩⟩⟩
  refine ⟨hokT, ?_⟩
  have hbad : th_BT_poke p0 p1 p2 mdn (nI S) (nI E) = 1 → f_MO_poke p0 p1 p2 mrf (nI N) (nI S) (nI E) mdn mro = f_MO_poke_35 p0 p1 p2 mrf (nI N) (nI S) (nI E) mdn mro → ok_MO_poke p0 p1 p2 mrf (nI N) (nI S) (nI E) mdn mro → (th_BT_poke p0 p1 p2 mdn (nI S) (nI E) = 0 → ok_BT_poke (N * 64) N p0 p1 p2 mdn (nI N) (nI S) (nI E) cby) ∧ ok_MO_poke p0 p1 p2 mrf (nI N) (nI S) (nI E) mdn mro ∧ ∀ z1 z2, z1 = g_LA_poke p0 p1 p2 lou mdn (nI N) (nI S) (nI E) cby → z2 = f_MO_poke p0 p1 p2 mrf (nI N) (nI S) (nI E) mdn mro → z2.2.1 = z1.1 ∧ (z1.1 = 0 → z1.2.1 (0 : Int32).toNatClampNeg = z2.1.toInt64) ∧ INV (j + 1) N mdn cle cwr (nI N) (nI S) (nI E) z1.2.2 cto csh cdz cch cva css cve cro crc cma cbi ces cbl crt z2.2.1 (nI N) (nI S) (nI E) mnw mdn mpw mwr mrs mdr mtb mrc mnx z2.2.2 mit mve mrb mch mva mic mlb mrw mnb mlk mnk mmd := by
    intro t e o
    refine ⟨fun h => absurd (t.symm.trans h) (by decide), o, ?_⟩
    intro z1 z2 q1 q2
    simp [g_LA_poke, t] at q1
    rw [e] at q2
    simp [f_MO_poke_35, f_MO_poke_36, bindc_def, goes_0] at q2
    subst q1 q2
    exact ⟨rfl, fun h => absurd h no1, hinv _ _ _ hBy⟩
  have o35 : ok_MO_poke_35 p0 p1 p2 mrf (nI N) (nI S) (nI E) mdn mro := by simp [ok_MO_poke_35, ok_MO_poke_36, bindp_iff, goes_0]
  rcases used_of hE hS p0 with ⟨u1, -⟩ | ⟨u1, b, hb1, hb2, e0⟩
  · refine hbad ?_ ?_ ?_
    · simp [th_BT_poke, used_eq, u1, bindc_def]
    · simp [f_MO_poke, u1, bindc_def]
    · simp [ok_MO_poke, u1, bindp_iff, o35]
  · rcases ix_cases p1 with ⟨i1, i2⟩ | ⟨i1, i2, i3, i, hi, e1⟩
    · refine hbad ?_ ?_ ?_
      · simp [th_BT_poke, used_eq, u1, bindc_def, i1]
      · rcases i2 with i2 | ⟨i2, i3⟩
        · simp [f_MO_poke, u1, bindc_def, i2]
        · simp [f_MO_poke, u1, bindc_def, i2, i3]
      · rcases i2 with i2 | ⟨i2, i3⟩
        · simp [ok_MO_poke, u1, bindp_iff, i2, o35]
        · simp [ok_MO_poke, u1, bindp_iff, i2, i3, o35]
    · rcases mask_cases p2 with m2 | ⟨m2, m3, m, hm, e2⟩
      · refine hbad ?_ ?_ ?_
        · rcases m2 with m2 | ⟨m2, m3⟩
          · simp [th_BT_poke, used_eq, u1, bindc_def, i1, m2]
          · simp [th_BT_poke, used_eq, u1, bindc_def, i1, m2, m3]
        · rcases m2 with m2 | ⟨m2, m3⟩
          · simp [f_MO_poke, u1, bindc_def, i2, i3, m2]
          · simp [f_MO_poke, u1, bindc_def, i2, i3, m2, m3]
        · rcases m2 with m2 | ⟨m2, m3⟩
          · simp [ok_MO_poke, u1, bindp_iff, i2, i3, m2, o35]
          · simp [ok_MO_poke, u1, bindp_iff, i2, i3, m2, m3, o35]
      · subst e0 e1 e2
        have hb30 : b < 2 ^ 30 := by omega
        have hp := pl (b := b) hN1
        have hnew := IBy_poke hBy (a := b % N * 64 + i) (m := m) (by omega) hm
        have hRR' := rr_of hN1 hN2 hnew hTo
        obtain ⟨c1, c2⟩ := rr_byte hRR' hb30 hi
        obtain ⟨p1, p2⟩ := @place_of b N hb30 (by omega) hN2
        obtain ⟨o1, o2⟩ := @off_of b N hb30 (by omega) hN2 (N * 64) N
        obtain ⟨a1, b1⟩ := @at_k (b % N * 64) i 12800 (by omega) (by omega)
        obtain ⟨a2, b2⟩ := @at_k (b % N * 64) i (N * 64) (by omega) (by omega)
        rcases h1 with rfl | rfl
        · have t : th_BT_poke (nI b) (nI i) (nI m) 0 (nI S) (nI E) = 0 := by simp [th_BT_poke, used_eq, u1, bindc_def, i1, m2, m3]
          refine ⟨fun _ => ?_, ?_, ?_⟩
          · simp only [ok_BT_poke, used_eq, u1, bindp_iff, i1, ok_RL_alter, f_RL_alter, bindc_def, o1, a1]
            exact ⟨fun z => absurd z no1, fun _ => ⟨fun z => absurd z no1, fun _ => ⟨fun z => absurd z m2, fun _ => ⟨fun z => absurd z m3, fun _ => ⟨okRA_1, okRP_0, ⟨o2, b2, b2⟩, c2⟩⟩⟩⟩⟩
          · simp only [ok_MO_poke, ok_MO_poke_36, u1, bindp_iff, goes_10, p1]
            exact ⟨fun z => absurd z no1, fun _ => ⟨fun z => absurd z i2, fun _ => ⟨fun z => absurd z i3, fun _ => ⟨fun z => absurd z m2, fun _ => ⟨fun z => absurd z m3, fun _ => ⟨fun z => absurd z no1, fun _ => ⟨p2, b1, b1, b1⟩⟩⟩⟩⟩⟩⟩
          · intro z1 z2 q1 q2
            simp only [g_LA_poke, t, if_true, f_BT_poke, used_eq, u1, bindc_def, if_neg no1, i1, if_neg m2, if_neg m3, f_RL_alter, o1, a1, c1] at q1
            simp only [f_MO_poke, f_MO_poke_36, u1, bindc_def, if_neg no1, if_neg i2, if_neg i3, if_neg m2, if_neg m3, goes_10, p1, a1] at q2
            subst q1 q2
            exact ⟨rfl, fun _ => by simp [pk_uLs], hinv _ _ _ hnew⟩
        · have t : th_BT_poke (nI b) (nI i) (nI m) 1 (nI S) (nI E) = 2 := by simp [th_BT_poke, used_eq, u1, bindc_def, i1, m2, m3]
          refine ⟨fun h => absurd (t.symm.trans h) (by decide), ?_, ?_⟩
          · simp [ok_MO_poke, ok_MO_poke_36, u1, bindp_iff, goes_11, i2, i3, m2, m3]
          · intro z1 z2 q1 q2
            simp [g_LA_poke, t] at q1
            simp [f_MO_poke, f_MO_poke_36, u1, bindc_def, goes_11, i2, i3, m2, m3] at q2
            subst q1 q2
            exact ⟨rfl, fun h => absurd h no2, hinv _ _ _ hBy⟩
