/-! the bytes of a block -/
def sgb (b : Nat) : Int32 := (nI b).toInt8.toInt32
def by4 (v : Int32) (k : Nat) : Nat := v.toBitVec.toNat / 2 ^ (24 - 8 * k) % 256
theorem by4_lt (v : Int32) (k : Nat) : by4 v k < 256 := Nat.mod_lt _ (by omega)
theorem by4_0 (k : Nat) : by4 0 k = 0 := by unfold by4; rw [show (0 : Int32).toBitVec.toNat = 0 from rfl, Nat.zero_div, Nat.zero_mod]
theorem sgb_0 : sgb 0 = 0 := by decide
theorem shr_byte (v s : Int32) {k : Nat} (hs : (s.toBitVec.smod 32).toNat = k) (hk : k = 0 ∨ k = 8 ∨ k = 16 ∨ k = 24) : (v >>> s).toBitVec.toNat % 256 = v.toBitVec.toNat / 2 ^ k % 256 := by
  have h := pk_shr v s k hs
  rw [show (v >>> s).toInt = (v >>> s).toBitVec.toInt from rfl, show v.toInt = v.toBitVec.toInt from rfl, BitVec.toInt_eq_toNat_cond, BitVec.toInt_eq_toNat_cond, Int.shiftRight_eq_div_pow] at h
  have h1 := (v >>> s).toBitVec.isLt
  have h2 := v.toBitVec.isLt
  generalize (v >>> s).toBitVec.toNat = a at h h1 ⊢
  generalize v.toBitVec.toNat = b at h h2 ⊢
  rcases hk with rfl | rfl | rfl | rfl
  · by_cases c1 : 2 * a < 2 ^ 32 <;> by_cases c2 : 2 * b < 2 ^ 32 <;> simp only [c1, c2, if_true, if_false] at h <;> omega
  · by_cases c1 : 2 * a < 2 ^ 32 <;> by_cases c2 : 2 * b < 2 ^ 32 <;> simp only [c1, c2, if_true, if_false] at h <;> omega
  · by_cases c1 : 2 * a < 2 ^ 32 <;> by_cases c2 : 2 * b < 2 ^ 32 <;> simp only [c1, c2, if_true, if_false] at h <;> omega
  · by_cases c1 : 2 * a < 2 ^ 32 <;> by_cases c2 : 2 * b < 2 ^ 32 <;> simp only [c1, c2, if_true, if_false] at h <;> omega
theorem sh4 : ∀ k, k < 4 → (((((24 : Int32) - ((8 : Int32) * nI k)) &&& 31).toBitVec).smod 32).toNat = 24 - 8 * k := by decide +kernel
theorem put_byte (v : Int32) {k : Nat} (hk : k < 4) : (v >>> (((24 : Int32) - ((8 : Int32) * nI k)) &&& 31)) &&& (255 : Int32) = nI (by4 v k) := by
  rw [pk_and _ 8 (by decide), show (2 : Nat) ^ 8 = 256 from rfl, shr_byte v _ (sh4 k hk) (by omega)]; rfl
theorem mo_put_l {a : Nat} (ha : a + 4 ≤ 64) (v : Int32) : ∀ (f k : Nat) (mmd : Nat → Int32), k ≤ 4 → 4 < k + f → ok_MO_putNumber_2 f (nI a) v (nI k) mmd ∧ ∀ i, f_MO_putNumber_2 f (nI a) v (nI k) mmd i = if a + k ≤ i ∧ i < a + 4 then nI (by4 v (i - a)) else mmd i := by
  intro f
  induction f with
  | zero => intro k mmd h1 h2; omega
  | succ f ih =>
    intro k mmd h1 h2
    rw [ok_MO_putNumber_2, f_MO_putNumber_2]
    by_cases e : k = 4
    · subst e
      have c : (4 : Int32) ≤ nI 4 := by decide
      rw [if_pos c]
      exact ⟨⟨fun _ => trivial, fun z => absurd c z⟩, fun i => by rw [if_neg (by omega)]⟩
    · have c : ¬ (4 : Int32) ≤ nI k := nI_ge (a := k) (b := 4) (by omega) (by omega)
      rw [if_neg c, put_byte v (show k < 4 by omega), nI_add, nI_1, nI_clamp (show a + k < 2 ^ 31 by omega)]
      obtain ⟨o, r⟩ := ih (k + 1) (upd mmd (a + k) (nI (by4 v k))) (by omega) (by omega)
      refine ⟨⟨fun z => absurd z c, fun _ => ⟨vp_in_nI (by omega) (by omega), o⟩⟩, fun i => ?_⟩
      rw [r i]
      by_cases e2 : i = a + k
      · subst e2
        rw [if_neg (by omega), if_pos (by omega), pk_us, show a + k - a = k by omega]
      · rw [pk_un e2]
        by_cases e3 : a + k ≤ i ∧ i < a + 4
        · rw [if_pos e3, if_pos (by omega)]
        · rw [if_neg e3, if_neg (by omega)]
theorem mo_put {a : Nat} (ha : a + 4 ≤ 64) (v : Int32) (mmd : Nat → Int32) : ok_MO_putNumber (nI a) v mmd ∧ ∀ i, f_MO_putNumber (nI a) v mmd i = if a ≤ i ∧ i < a + 4 then nI (by4 v (i - a)) else mmd i := by
  have h := mo_put_l ha v 1024 0 mmd (by omega) (by omega)
  rw [nI_0] at h
  unfold ok_MO_putNumber f_MO_putNumber
  exact h
theorem rl_set {nb nt a : Nat} (ha : a + 4 ≤ 64) (v : Int32) (csh : Nat → Int32) : ok_RL_setInt nb nt (nI a) v csh ∧ ∀ i, f_RL_setInt (nI a) v csh i = if a ≤ i ∧ i < a + 4 then sgb (by4 v (i - a)) else csh i := by
  have e1 : nI a + (1 : Int32) = nI (a + 1) := nI_add a 1
  have e2 : nI a + (2 : Int32) = nI (a + 2) := nI_add a 2
  have e3 : nI a + (3 : Int32) = nI (a + 3) := nI_add a 3
  have b0 : vp_nar .byte (((v.toUInt32 >>> ((24 : Int32).toUInt32 &&& Int32.toUInt32 31)).toInt32).toInt8.toInt32) = sgb (by4 v 0) := by
    rw [pk_vb, byte_low, pk_ushr v 24 24 (by decide)]; rfl
  have b1 : vp_nar .byte (((v.toUInt32 >>> ((16 : Int32).toUInt32 &&& Int32.toUInt32 31)).toInt32).toInt8.toInt32) = sgb (by4 v 1) := by
    rw [pk_vb, byte_low, pk_ushr v 16 16 (by decide)]; rfl
  have b2 : vp_nar .byte (((v.toUInt32 >>> ((8 : Int32).toUInt32 &&& Int32.toUInt32 31)).toInt32).toInt8.toInt32) = sgb (by4 v 2) := by
    rw [pk_vb, byte_low, pk_ushr v 8 8 (by decide)]; rfl
  have b3 : vp_nar .byte v.toInt8.toInt32 = sgb (by4 v 3) := by
    rw [pk_vb, byte_low]; unfold sgb by4; rw [show 24 - 8 * 3 = 0 from rfl, Nat.pow_zero, Nat.div_one]
  unfold ok_RL_setInt f_RL_setInt
  rw [e1, e2, e3, b0, b1, b2, b3, nI_clamp (show a < 2 ^ 31 by omega), nI_clamp (show a + 1 < 2 ^ 31 by omega), nI_clamp (show a + 2 < 2 ^ 31 by omega), nI_clamp (show a + 3 < 2 ^ 31 by omega)]
  refine ⟨⟨vp_in_nI (by omega) (by omega), vp_in_nI (by omega) (by omega), vp_in_nI (by omega) (by omega), vp_in_nI (by omega) (by omega)⟩, fun i => ?_⟩
  by_cases c3 : i = a + 3
  · subst c3; rw [pk_us, if_pos (by omega), show a + 3 - a = 3 by omega]
  rw [pk_un c3]
  by_cases c2 : i = a + 2
  · subst c2; rw [pk_us, if_pos (by omega), show a + 2 - a = 2 by omega]
  rw [pk_un c2]
  by_cases c1 : i = a + 1
  · subst c1; rw [pk_us, if_pos (by omega), show a + 1 - a = 1 by omega]
  rw [pk_un c1]
  by_cases c0 : i = a
  · subst c0; rw [pk_us, if_pos (by omega), show i - i = 0 by omega]
  rw [pk_un c0, if_neg (by omega)]
/-- the contents of a block, but for its sum -/
def CT (kind bits ver blk : Int32) (ent : Nat → Int32) (i : Nat) : Nat :=
  if i = 0 then kind.toBitVec.toNat % 256 else if i = 1 then bits.toBitVec.toNat % 256 else if 4 ≤ i ∧ i < 8 then by4 ver (i - 4) else if 8 ≤ i ∧ i < 40 then by4 (ent ((i - 8) / 4)) ((i - 8) % 4) else if 40 ≤ i ∧ i < 44 then by4 blk (i - 40) else 0
theorem CT_lt (kind bits ver blk : Int32) (ent : Nat → Int32) (i : Nat) : CT kind bits ver blk ent i < 256 := by
  unfold CT
  by_cases c0 : i = 0
  · rw [if_pos c0]; omega
  rw [if_neg c0]
  by_cases c1 : i = 1
  · rw [if_pos c1]; omega
  rw [if_neg c1]
  by_cases c2 : 4 ≤ i ∧ i < 8
  · rw [if_pos c2]; exact by4_lt _ _
  rw [if_neg c2]
  by_cases c3 : 8 ≤ i ∧ i < 40
  · rw [if_pos c3]; exact by4_lt _ _
  rw [if_neg c3]
  by_cases c4 : 40 ≤ i ∧ i < 44
  · rw [if_pos c4]; exact by4_lt _ _
  rw [if_neg c4]; omega
theorem CT_ent {kind bits ver blk : Int32} {e1 e2 : Nat → Int32} (h : ∀ j, j < 8 → e1 j = e2 j) (i : Nat) : CT kind bits ver blk e1 i = CT kind bits ver blk e2 i := by
  unfold CT
  by_cases c3 : 8 ≤ i ∧ i < 40
  · rw [h ((i - 8) / 4) (by omega)]
  · rw [if_neg c3, if_neg c3]
theorem hs_congr {g1 g2 : Nat → Int32} {a : Nat} : ∀ n, (∀ i, i < n → g1 (a + i) = g2 (a + i)) → hs g1 a n = hs g2 a n := by
  intro n
  induction n with
  | zero => intro _; rfl
  | succ n ih => intro h; rw [hs, hs, ih (fun i hi => h i (by omega)), h n (by omega)]
/-- the sum of contents -/
def SU (c : Nat → Nat) : Int64 := hs (fun i => nI (c i)) 0 56
/-- all bytes of a block -/
def CB (c : Nat → Nat) (i : Nat) : Nat := if i < 56 then c i else uL (SU c) / 2 ^ (56 - 8 * (i - 56)) % 256
theorem CB_lt {c : Nat → Nat} (h : ∀ i, c i < 256) (i : Nat) : CB c i < 256 := by
  unfold CB
  by_cases e : i < 56
  · rw [if_pos e]; exact h i
  · rw [if_neg e]; exact Nat.mod_lt _ (by omega)
