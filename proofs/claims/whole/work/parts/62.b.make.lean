/-! the class makes a block up -/
theorem su_l {nb nt : Nat} {c : Nat → Nat} {csh : Nat → Int32} (h : ∀ i, i < 56 → csh i = sgb (c i) ∧ c i < 256) : ∀ (f i : Nat), i ≤ 56 → 56 < i + f → f_RL_sumOf_v2_5 f (nI 0) (hs (fun i => nI (c i)) 0 i) (nI i) csh = (SU c, ()) ∧ ok_RL_sumOf_v2_5 nb nt f (nI 0) (hs (fun i => nI (c i)) 0 i) (nI i) csh := by
  intro f
  induction f with
  | zero => intro i h1 h2; omega
  | succ f ih =>
    intro i h1 h2
    rw [f_RL_sumOf_v2_5, ok_RL_sumOf_v2_5]
    by_cases e : i = 56
    · subst e
      have c : (56 : Int32) ≤ nI 56 := by decide
      rw [if_pos c]
      exact ⟨rfl, fun _ => trivial, fun z => absurd c z⟩
    · have c8 : ¬ (56 : Int32) ≤ nI i := nI_ge (a := i) (b := 56) (by omega) (by omega)
      obtain ⟨a1, b1⟩ := @at_k 0 i 64 (by omega) (by omega)
      have hb : csh (0 + i) &&& (255 : Int32) = nI (c (0 + i)) := by
        rw [(h (0 + i) (by omega)).1]; exact byte_up _ (h (0 + i) (by omega)).2
      have := ih (i + 1) (by omega) (by omega)
      rw [if_neg c8, a1, hb, nI_1]
      exact ⟨this.1, fun z => absurd z c8, fun _ => ⟨b1, this.2⟩⟩
theorem su_of {nb nt : Nat} {c : Nat → Nat} {csh : Nat → Int32} (h : ∀ i, i < 56 → csh i = sgb (c i) ∧ c i < 256) : f_RL_sumOf_v2 0 csh = (SU c, ()) ∧ ok_RL_sumOf_v2 nb nt 0 csh := by
  have := su_l (nb := nb) (nt := nt) h 1024 0 (by omega) (by omega)
  rw [nI_0] at this
  unfold f_RL_sumOf_v2 ok_RL_sumOf_v2
  exact this
theorem su_lo (s : Int64) {k : Nat} (hk : k < 4) : by4 s.toInt32 k = uL s / 2 ^ (24 - 8 * k) % 256 := by
  unfold by4
  rw [lo32, pk_tn (by have := uL_lt s; omega)]
  generalize uL s = u
  rcases (show k = 0 ∨ k = 1 ∨ k = 2 ∨ k = 3 by omega) with rfl | rfl | rfl | rfl
  · show u % 4294967296 / 2 ^ 24 % 256 = u / 2 ^ 24 % 256; omega
  · show u % 4294967296 / 2 ^ 16 % 256 = u / 2 ^ 16 % 256; omega
  · show u % 4294967296 / 2 ^ 8 % 256 = u / 2 ^ 8 % 256; omega
  · show u % 4294967296 / 2 ^ 0 % 256 = u / 2 ^ 0 % 256; omega
theorem su_hi (s : Int64) {k : Nat} (hk : k < 4) : by4 ((s.toUInt64 >>> ((32 : Int32).toInt64.toUInt64 &&& Int64.toUInt64 63)).toInt64.toInt32) k = uL s / 2 ^ (56 - 8 * k) % 256 := by
  unfold by4
  rw [lo32, pk_tn (by omega), sh64 s (k := 32) (by decide)]
  have hu := uL_lt s
  generalize uL s = u at hu ⊢
  rcases (show k = 0 ∨ k = 1 ∨ k = 2 ∨ k = 3 by omega) with rfl | rfl | rfl | rfl
  · show u / 2 ^ 32 % 4294967296 / 2 ^ 24 % 256 = u / 2 ^ 56 % 256; omega
  · show u / 2 ^ 32 % 4294967296 / 2 ^ 16 % 256 = u / 2 ^ 48 % 256; omega
  · show u / 2 ^ 32 % 4294967296 / 2 ^ 8 % 256 = u / 2 ^ 40 % 256; omega
  · show u / 2 ^ 32 % 4294967296 / 2 ^ 0 % 256 = u / 2 ^ 32 % 256; omega
theorem mku_l {nb nt o : Nat} (ho : o + 8 ≤ 584) {kind bits ver blk : Int32} {ent : Nat → Int32} {ces : Nat → Int32} (hent : ∀ k, k < 8 → ces (o + k) = ent k) :
    ∀ (f k : Nat) (csh : Nat → Int32), k ≤ 8 → 8 < k + f → (∀ i, i < 8 + 4 * k → csh i = sgb (CT kind bits ver blk ent i)) → (∀ i, 44 ≤ i → i < 56 → csh i = 0) →
    ok_RL_makeUp_26 nb nt f blk (nI o) (nI k) csh ces ∧ ∀ i, i < 64 → f_RL_makeUp_26 f blk (nI o) (nI k) csh ces i = sgb (CB (CT kind bits ver blk ent) i) := by
  intro f
  induction f with
  | zero => intro k csh h1 h2; omega
  | succ f ih =>
    intro k csh h1 h2 h3 h4
    rw [ok_RL_makeUp_26, f_RL_makeUp_26]
    by_cases e : k = 8
    · subst e
      have c : (8 : Int32) ≤ nI 8 := by decide
      obtain ⟨o1, r1⟩ := @rl_set nb nt 40 (by omega) blk csh
      have r40 : ∀ i, i < 56 → f_RL_setInt (40 : Int32) blk csh i = sgb (CT kind bits ver blk ent i) := by
        intro i hi
        have := r1 i
        have e40 : f_RL_setInt (nI 40) blk csh i = f_RL_setInt (40 : Int32) blk csh i := rfl
        rw [e40] at this
        rw [this]
        by_cases c2 : 40 ≤ i ∧ i < 40 + 4
        · rw [if_pos c2]
          unfold CT
          rw [if_neg (by omega), if_neg (by omega), if_neg (by omega), if_neg (by omega), if_pos (by omega)]
        · rw [if_neg c2]
          by_cases c3 : i < 40
          · exact h3 i (by omega)
          · rw [h4 i (by omega) hi]
            unfold CT
            rw [if_neg (by omega), if_neg (by omega), if_neg (by omega), if_neg (by omega), if_neg (by omega)]; rfl
      obtain ⟨su1, su2⟩ := su_of (nb := nb) (nt := nt) (c := CT kind bits ver blk ent) (csh := f_RL_setInt (40 : Int32) blk csh) (fun i hi => ⟨r40 i hi, CT_lt _ _ _ _ _ _⟩)
      obtain ⟨o2, r2⟩ := @rl_set nb nt 56 (by omega) (((SU (CT kind bits ver blk ent)).toUInt64 >>> ((32 : Int32).toInt64.toUInt64 &&& Int64.toUInt64 63)).toInt64.toInt32) (f_RL_setInt (40 : Int32) blk csh)
      obtain ⟨o3, r3⟩ := @rl_set nb nt 60 (by omega) (SU (CT kind bits ver blk ent)).toInt32 (f_RL_setInt (56 : Int32) (((SU (CT kind bits ver blk ent)).toUInt64 >>> ((32 : Int32).toInt64.toUInt64 &&& Int64.toUInt64 63)).toInt64.toInt32) (f_RL_setInt (40 : Int32) blk csh))
      simp only [if_pos c, bindc_def, bindp_iff, su1]
      refine ⟨⟨fun _ => ⟨o1, su2, o2, o3⟩, fun z => absurd c z⟩, fun i hi => ?_⟩
      have e60 : ∀ v g, f_RL_setInt (60 : Int32) v g i = f_RL_setInt (nI 60) v g i := fun _ _ => rfl
      have e56 : ∀ v g, f_RL_setInt (56 : Int32) v g i = f_RL_setInt (nI 56) v g i := fun _ _ => rfl
      rw [e60, r3 i]
      unfold CB
      by_cases c60 : 60 ≤ i ∧ i < 60 + 4
      · rw [if_pos c60, if_neg (by omega), su_lo _ (show i - 60 < 4 by omega), show 56 - 8 * (i - 56) = 24 - 8 * (i - 60) by omega]
      · rw [if_neg c60, e56, r2 i]
        by_cases c56 : 56 ≤ i ∧ i < 56 + 4
        · rw [if_pos c56, if_neg (by omega), su_hi _ (show i - 56 < 4 by omega)]
        · rw [if_neg c56, if_pos (by omega)]
          exact r40 i (by omega)
    · have c : ¬ (8 : Int32) ≤ nI k := nI_ge (a := k) (b := 8) (by omega) (by omega)
      have e4 : (8 : Int32) + (4 : Int32) * nI k = nI (8 + 4 * k) := by rw [show (4 : Int32) * nI k = nI (4 * k) from pk_mul 4 k, show (8 : Int32) + nI (4 * k) = nI (8 + 4 * k) from nI_add 8 _]
      obtain ⟨o1, r1⟩ := @rl_set nb nt (8 + 4 * k) (by omega) (ent k) csh
      simp only [if_neg c, bindc_def, bindp_iff, e4, nI_add, nI_1, nI_clamp (show o + k < 2 ^ 31 by omega), hent k (by omega)]
      obtain ⟨oI, rI⟩ := ih (k + 1) (f_RL_setInt (nI (8 + 4 * k)) (ent k) csh) (by omega) (by omega) (fun i hi => by
        rw [r1 i]
        by_cases c2 : 8 + 4 * k ≤ i ∧ i < 8 + 4 * k + 4
        · rw [if_pos c2]
          unfold CT
          rw [if_neg (by omega), if_neg (by omega), if_neg (by omega), if_pos (by omega), show (i - 8) / 4 = k by omega, show (i - 8) % 4 = i - (8 + 4 * k) by omega]
        · rw [if_neg c2]; exact h3 i (by omega)) (fun i z1 z2 => by rw [r1 i, if_neg (by omega)]; exact h4 i z1 z2)
      exact ⟨⟨fun z => absurd z c, fun _ => ⟨vp_in_nI (by omega) (by omega), o1, oI⟩⟩, rI⟩
theorem mku_of {nb nt o : Nat} (ho : o + 8 ≤ 584) {kind bits ver blk : Int32} {ent : Nat → Int32} {ces csh : Nat → Int32} (hent : ∀ k, k < 8 → ces (o + k) = ent k) (hsh : ISh csh) :
    ok_RL_makeUp nb nt blk kind bits ver (nI o) csh ces ∧ ∀ i, i < 64 → f_RL_makeUp blk kind bits ver (nI o) csh ces i = sgb (CB (CT kind bits ver blk ent) i) := by
  obtain ⟨s2, s3, s4⟩ := hsh
  have n0 : vp_nar .byte kind.toInt8.toInt32 = sgb (kind.toBitVec.toNat % 256) := by rw [pk_vb, byte_low]; rfl
  have n1 : vp_nar .byte bits.toInt8.toInt32 = sgb (bits.toBitVec.toNat % 256) := by rw [pk_vb, byte_low]; rfl
  unfold ok_RL_makeUp f_RL_makeUp
  rw [n0, n1, bindc_def, bindp_iff, show (0 : Int32).toNatClampNeg = 0 from rfl, show (1 : Int32).toNatClampNeg = 1 from rfl]
  obtain ⟨o1, r1⟩ := @rl_set nb nt 4 (by omega) ver (upd (upd csh 0 (sgb (kind.toBitVec.toNat % 256))) 1 (sgb (bits.toBitVec.toNat % 256)))
  have e4 : ∀ v g i, f_RL_setInt (4 : Int32) v g i = f_RL_setInt (nI 4) v g i := fun _ _ _ => rfl
  obtain ⟨oI, rI⟩ := mku_l (nb := nb) (nt := nt) ho (kind := kind) (bits := bits) (ver := ver) (blk := blk) hent 1024 0 (f_RL_setInt (4 : Int32) ver (upd (upd csh 0 (sgb (kind.toBitVec.toNat % 256))) 1 (sgb (bits.toBitVec.toNat % 256)))) (by omega) (by omega) (fun i hi => by
    rw [e4, r1 i]
    by_cases c2 : 4 ≤ i ∧ i < 4 + 4
    · rw [if_pos c2]
      unfold CT
      rw [if_neg (by omega), if_neg (by omega), if_pos (by omega)]
    · rw [if_neg c2]
      unfold CT
      by_cases c1 : i = 1
      · subst c1; rw [pk_us, if_neg (by omega), if_pos rfl]
      · rw [pk_un c1]
        by_cases c0 : i = 0
        · subst c0; rw [pk_us, if_pos rfl]
        · rw [pk_un c0, if_neg c0, if_neg c1, if_neg (by omega), if_neg (by omega), if_neg (by omega), sgb_0]
          rcases (show i = 2 ∨ i = 3 by omega) with e | e
          · rw [e]; exact s2
          · rw [e]; exact s3) (fun i z1 z2 => by
    rw [e4, r1 i, if_neg (by omega), pk_un (by omega), pk_un (by omega)]
    exact s4 i z1 z2)
  rw [nI_0] at oI rI
  exact ⟨⟨(show vp_in (nI 0) 64 from vp_in_nI (by omega) (by omega)), (show vp_in (nI 1) 64 from vp_in_nI (by omega) (by omega)), o1, oI⟩, rI⟩
theorem mku_v2_l {nb nt o : Nat} (ho : o + 8 ≤ 8) {kind bits ver blk : Int32} {ent : Nat → Int32} {ces : Nat → Int32} (hent : ∀ k, k < 8 → ces (o + k) = ent k) :
    ∀ (f k : Nat) (csh : Nat → Int32), k ≤ 8 → 8 < k + f → (∀ i, i < 8 + 4 * k → csh i = sgb (CT kind bits ver blk ent i)) → (∀ i, 44 ≤ i → i < 56 → csh i = 0) →
    ok_RL_makeUp_v2_26 nb nt f blk (nI o) (nI k) csh ces ∧ ∀ i, i < 64 → f_RL_makeUp_v2_26 f blk (nI o) (nI k) csh ces i = sgb (CB (CT kind bits ver blk ent) i) := by
  intro f
  induction f with
  | zero => intro k csh h1 h2; omega
  | succ f ih =>
    intro k csh h1 h2 h3 h4
    rw [ok_RL_makeUp_v2_26, f_RL_makeUp_v2_26]
    by_cases e : k = 8
    · subst e
      have c : (8 : Int32) ≤ nI 8 := by decide
      obtain ⟨o1, r1⟩ := @rl_set nb nt 40 (by omega) blk csh
      have r40 : ∀ i, i < 56 → f_RL_setInt (40 : Int32) blk csh i = sgb (CT kind bits ver blk ent i) := by
        intro i hi
        have := r1 i
        have e40 : f_RL_setInt (nI 40) blk csh i = f_RL_setInt (40 : Int32) blk csh i := rfl
        rw [e40] at this
        rw [this]
        by_cases c2 : 40 ≤ i ∧ i < 40 + 4
        · rw [if_pos c2]
          unfold CT
          rw [if_neg (by omega), if_neg (by omega), if_neg (by omega), if_neg (by omega), if_pos (by omega)]
        · rw [if_neg c2]
          by_cases c3 : i < 40
          · exact h3 i (by omega)
          · rw [h4 i (by omega) hi]
            unfold CT
            rw [if_neg (by omega), if_neg (by omega), if_neg (by omega), if_neg (by omega), if_neg (by omega)]; rfl
      obtain ⟨su1, su2⟩ := su_of (nb := nb) (nt := nt) (c := CT kind bits ver blk ent) (csh := f_RL_setInt (40 : Int32) blk csh) (fun i hi => ⟨r40 i hi, CT_lt _ _ _ _ _ _⟩)
      obtain ⟨o2, r2⟩ := @rl_set nb nt 56 (by omega) (((SU (CT kind bits ver blk ent)).toUInt64 >>> ((32 : Int32).toInt64.toUInt64 &&& Int64.toUInt64 63)).toInt64.toInt32) (f_RL_setInt (40 : Int32) blk csh)
      obtain ⟨o3, r3⟩ := @rl_set nb nt 60 (by omega) (SU (CT kind bits ver blk ent)).toInt32 (f_RL_setInt (56 : Int32) (((SU (CT kind bits ver blk ent)).toUInt64 >>> ((32 : Int32).toInt64.toUInt64 &&& Int64.toUInt64 63)).toInt64.toInt32) (f_RL_setInt (40 : Int32) blk csh))
      simp only [if_pos c, bindc_def, bindp_iff, su1]
      refine ⟨⟨fun _ => ⟨o1, su2, o2, o3⟩, fun z => absurd c z⟩, fun i hi => ?_⟩
      have e60 : ∀ v g, f_RL_setInt (60 : Int32) v g i = f_RL_setInt (nI 60) v g i := fun _ _ => rfl
      have e56 : ∀ v g, f_RL_setInt (56 : Int32) v g i = f_RL_setInt (nI 56) v g i := fun _ _ => rfl
      rw [e60, r3 i]
      unfold CB
      by_cases c60 : 60 ≤ i ∧ i < 60 + 4
      · rw [if_pos c60, if_neg (by omega), su_lo _ (show i - 60 < 4 by omega), show 56 - 8 * (i - 56) = 24 - 8 * (i - 60) by omega]
      · rw [if_neg c60, e56, r2 i]
        by_cases c56 : 56 ≤ i ∧ i < 56 + 4
        · rw [if_pos c56, if_neg (by omega), su_hi _ (show i - 56 < 4 by omega)]
        · rw [if_neg c56, if_pos (by omega)]
          exact r40 i (by omega)
    · have c : ¬ (8 : Int32) ≤ nI k := nI_ge (a := k) (b := 8) (by omega) (by omega)
      have e4 : (8 : Int32) + (4 : Int32) * nI k = nI (8 + 4 * k) := by rw [show (4 : Int32) * nI k = nI (4 * k) from pk_mul 4 k, show (8 : Int32) + nI (4 * k) = nI (8 + 4 * k) from nI_add 8 _]
      obtain ⟨o1, r1⟩ := @rl_set nb nt (8 + 4 * k) (by omega) (ent k) csh
      simp only [if_neg c, bindc_def, bindp_iff, e4, nI_add, nI_1, nI_clamp (show o + k < 2 ^ 31 by omega), hent k (by omega)]
      obtain ⟨oI, rI⟩ := ih (k + 1) (f_RL_setInt (nI (8 + 4 * k)) (ent k) csh) (by omega) (by omega) (fun i hi => by
        rw [r1 i]
        by_cases c2 : 8 + 4 * k ≤ i ∧ i < 8 + 4 * k + 4
        · rw [if_pos c2]
          unfold CT
          rw [if_neg (by omega), if_neg (by omega), if_neg (by omega), if_pos (by omega), show (i - 8) / 4 = k by omega, show (i - 8) % 4 = i - (8 + 4 * k) by omega]
        · rw [if_neg c2]; exact h3 i (by omega)) (fun i z1 z2 => by rw [r1 i, if_neg (by omega)]; exact h4 i z1 z2)
      exact ⟨⟨fun z => absurd z c, fun _ => ⟨vp_in_nI (by omega) (by omega), o1, oI⟩⟩, rI⟩
theorem mku_v2_of {nb nt o : Nat} (ho : o + 8 ≤ 8) {kind bits ver blk : Int32} {ent : Nat → Int32} {ces csh : Nat → Int32} (hent : ∀ k, k < 8 → ces (o + k) = ent k) (hsh : ISh csh) :
    ok_RL_makeUp_v2 nb nt blk kind bits ver (nI o) csh ces ∧ ∀ i, i < 64 → f_RL_makeUp_v2 blk kind bits ver (nI o) csh ces i = sgb (CB (CT kind bits ver blk ent) i) := by
  obtain ⟨s2, s3, s4⟩ := hsh
  have n0 : vp_nar .byte kind.toInt8.toInt32 = sgb (kind.toBitVec.toNat % 256) := by rw [pk_vb, byte_low]; rfl
  have n1 : vp_nar .byte bits.toInt8.toInt32 = sgb (bits.toBitVec.toNat % 256) := by rw [pk_vb, byte_low]; rfl
  unfold ok_RL_makeUp_v2 f_RL_makeUp_v2
  rw [n0, n1, bindc_def, bindp_iff, show (0 : Int32).toNatClampNeg = 0 from rfl, show (1 : Int32).toNatClampNeg = 1 from rfl]
  obtain ⟨o1, r1⟩ := @rl_set nb nt 4 (by omega) ver (upd (upd csh 0 (sgb (kind.toBitVec.toNat % 256))) 1 (sgb (bits.toBitVec.toNat % 256)))
  have e4 : ∀ v g i, f_RL_setInt (4 : Int32) v g i = f_RL_setInt (nI 4) v g i := fun _ _ _ => rfl
  obtain ⟨oI, rI⟩ := mku_v2_l (nb := nb) (nt := nt) ho (kind := kind) (bits := bits) (ver := ver) (blk := blk) hent 1024 0 (f_RL_setInt (4 : Int32) ver (upd (upd csh 0 (sgb (kind.toBitVec.toNat % 256))) 1 (sgb (bits.toBitVec.toNat % 256)))) (by omega) (by omega) (fun i hi => by
    rw [e4, r1 i]
    by_cases c2 : 4 ≤ i ∧ i < 4 + 4
    · rw [if_pos c2]
      unfold CT
      rw [if_neg (by omega), if_neg (by omega), if_pos (by omega)]
    · rw [if_neg c2]
      unfold CT
      by_cases c1 : i = 1
      · subst c1; rw [pk_us, if_neg (by omega), if_pos rfl]
      · rw [pk_un c1]
        by_cases c0 : i = 0
        · subst c0; rw [pk_us, if_pos rfl]
        · rw [pk_un c0, if_neg c0, if_neg c1, if_neg (by omega), if_neg (by omega), if_neg (by omega), sgb_0]
          rcases (show i = 2 ∨ i = 3 by omega) with e | e
          · rw [e]; exact s2
          · rw [e]; exact s3) (fun i z1 z2 => by
    rw [e4, r1 i, if_neg (by omega), pk_un (by omega), pk_un (by omega)]
    exact s4 i z1 z2)
  rw [nI_0] at oI rI
  exact ⟨⟨(show vp_in (nI 0) 64 from vp_in_nI (by omega) (by omega)), (show vp_in (nI 1) 64 from vp_in_nI (by omega) (by omega)), o1, oI⟩, rI⟩
