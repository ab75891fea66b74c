/-! reading the roll: both sides alike -/
theorem off_of {b N : Nat} (hb : b < 2 ^ 30) (h1 : 0 < N) (h2 : N ≤ 200) {nb nt : Nat} : f_RL_offsetOf (nI b) (nI N) = (nI (b % N * 64), ()) ∧ ok_RL_offsetOf nb nt (nI b) (nI N) := by
  have hr : nI b - nI b / nI N * nI N = nI (b % N) := pk_rem (by omega) h1 (by omega)
  have hx : 0 ≤ (nI b ^^^ nI N) := by
    have e : nI b ^^^ nI N = nI (b ^^^ N) := by
      apply Int32.toBitVec_inj.mp
      show BitVec.ofNat 32 b ^^^ BitVec.ofNat 32 N = BitVec.ofNat 32 (b ^^^ N)
      exact (BitVec.ofNat_xor).symm
    rw [e]
    exact nI_pos' (Nat.lt_of_lt_of_le (Nat.xor_lt_two_pow (n := 30) hb (by omega)) (by decide))
  refine ⟨?_, ?_⟩
  · simp only [f_RL_offsetOf, f_JM_floorMod, bindc_def, if_pos hx, hr]
    rw [show nI (b % N) * (64 : Int32) = nI (b % N * 64) from pk_mul _ 64]
  · simp only [ok_RL_offsetOf, ok_JM_floorMod]; exact nI_ne0 h1 (by omega)
/-- the slot of a place -/
theorem slot_at {b N : Nat} (h1 : 0 < N) (h2 : N ≤ 200) : nI (b % N * 64) / (64 : Int32) = nI (b % N) := by
  have hm := Nat.mod_lt b h1
  rw [show nI (b % N * 64) / (64 : Int32) = nI (b % N * 64 / 64) from pk_div (d := 64) (by omega) (by omega) (by omega), Nat.mul_div_cancel _ (by decide)]
theorem place_of {b N : Nat} (hb : b < 2 ^ 30) (h1 : 0 < N) (h2 : N ≤ 200) : f_MO_placeOf (nI b) (nI N) = (nI (b % N * 64), ()) ∧ ok_MO_placeOf (nI b) (nI N) := by
  have hr : nI b - nI b / nI N * nI N = nI (b % N) := pk_rem (by omega) h1 (by omega)
  refine ⟨?_, nI_ne0 h1 (by omega)⟩
  simp only [f_MO_placeOf, hr]
  rw [show (64 : Int32) * nI (b % N) = nI (64 * (b % N)) from pk_mul 64 _, Nat.mul_comm]
/-- the bytes as both sides have them -/
def RD (n : Nat) (cby mro : Nat → Int32) : Prop := ∀ i, i < n → cby i &&& (255 : Int32) = mro i ∧ ∃ b, b < 256 ∧ mro i = nI b
theorem IBy.rd {N : Nat} {cby mro : Nat → Int32} (h : IBy N cby mro) : RD (N * 64) cby mro := fun i hi => by
  obtain ⟨b, h1, h2, h3⟩ := h i hi
  exact ⟨by rw [h2, byte_up b h1, h3], b, h1, h3⟩
/-- four bytes of the roll as a number, wherever they lie -/
def num (mro : Nat → Int32) (a : Nat) : Int32 := (((mro a <<< ((24 : Int32) &&& 31)) ||| (mro (a + 1) <<< ((16 : Int32) &&& 31))) ||| (mro (a + 2) <<< ((8 : Int32) &&& 31))) ||| mro (a + 3)
theorem at_k {a k n : Nat} (h : a + k < n) (hn : n ≤ 12800) : (nI a + nI k).toNatClampNeg = a + k ∧ vp_in (nI a + nI k) n := by
  rw [nI_add]
  exact ⟨nI_clamp (by omega), vp_in_nI h (by omega)⟩
theorem mo_num {mro : Nat → Int32} {a : Nat} (h : a + 3 < 12800) : f_MO_number (nI a) mro = (num mro a, ()) ∧ ok_MO_number (nI a) mro := by
  obtain ⟨a1, b1⟩ := @at_k a 1 12800 (by omega) (by omega)
  obtain ⟨a2, b2⟩ := @at_k a 2 12800 (by omega) (by omega)
  obtain ⟨a3, b3⟩ := @at_k a 3 12800 (by omega) (by omega)
  have a1' : (nI a + (1 : Int32)).toNatClampNeg = a + 1 := a1
  have a2' : (nI a + (2 : Int32)).toNatClampNeg = a + 2 := a2
  have a3' : (nI a + (3 : Int32)).toNatClampNeg = a + 3 := a3
  refine ⟨?_, vp_in_nI (by omega) (by omega), b1, b2, b3⟩
  simp only [f_MO_number, num, a1', a2', a3', nI_clamp (show a < 2 ^ 31 by omega)]
theorem rl_num {cby mro : Nat → Int32} {a n nt : Nat} (hR : RD n cby mro) (h : a + 3 < n) (hn : n ≤ 12800) : f_RL_intAt (nI a) cby = (num mro a, ()) ∧ ok_RL_intAt n nt (nI a) cby := by
  obtain ⟨a1, b1⟩ := @at_k a 1 n (by omega) (by omega)
  obtain ⟨a2, b2⟩ := @at_k a 2 n (by omega) (by omega)
  obtain ⟨a3, b3⟩ := @at_k a 3 n (by omega) (by omega)
  have a1' : (nI a + (1 : Int32)).toNatClampNeg = a + 1 := a1
  have a2' : (nI a + (2 : Int32)).toNatClampNeg = a + 2 := a2
  have a3' : (nI a + (3 : Int32)).toNatClampNeg = a + 3 := a3
  refine ⟨?_, vp_in_nI (by omega) (by omega), b1, b2, b3⟩
  simp only [f_RL_intAt, num, a1', a2', a3', nI_clamp (show a < 2 ^ 31 by omega), (hR a (by omega)).1, (hR (a + 1) (by omega)).1, (hR (a + 2) (by omega)).1, (hR (a + 3) (by omega)).1]
/-- the sum over the first k bytes from a place on -/
def hs (g : Nat → Int32) (a : Nat) : Nat → Int64
  | 0 => 0
  | k + 1 => (f_MO_mixed (hs g a k) (g (a + k))).1
theorem rl_sum_l {cby mro : Nat → Int32} {a n nt : Nat} (hR : RD n cby mro) (h : a + 56 ≤ n) (hn : n ≤ 12800) : ∀ (f i : Nat), i ≤ 56 → 56 < i + f → f_RL_sumOf_5 f (nI a) (hs mro a i) (nI i) cby = (hs mro a 56, ()) ∧ ok_RL_sumOf_5 n nt f (nI a) (hs mro a i) (nI i) cby := by
  intro f
  induction f with
  | zero => intro i h1 h2; omega
  | succ f ih =>
    intro i h1 h2
    rw [f_RL_sumOf_5, ok_RL_sumOf_5]
    by_cases e : i = 56
    · subst e
      have c : (56 : Int32) ≤ nI 56 := by decide
      rw [if_pos c]
      exact ⟨rfl, fun _ => trivial, fun z => absurd c z⟩
    · have c : ¬ (56 : Int32) ≤ nI i := nI_ge (a := i) (b := 56) (by omega) (by omega)
      obtain ⟨a1, b1⟩ := @at_k a i n (by omega) (by omega)
      have := ih (i + 1) (by omega) (by omega)
      rw [if_neg c, a1, (hR (a + i) (by omega)).1, nI_1]
      exact ⟨this.1, fun z => absurd z c, fun _ => ⟨b1, this.2⟩⟩
theorem rl_sum {cby mro : Nat → Int32} {a n nt : Nat} (hR : RD n cby mro) (h : a + 56 ≤ n) (hn : n ≤ 12800) : f_RL_sumOf (nI a) cby = (hs mro a 56, ()) ∧ ok_RL_sumOf n nt (nI a) cby := by
  have := rl_sum_l (nt := nt) hR h hn 1024 0 (by omega) (by omega)
  rw [nI_0] at this
  unfold f_RL_sumOf ok_RL_sumOf
  exact this
/-- byte k of a sum -/
def dg (s : Int64) (k : Nat) : Int32 := nI (uL s / 2 ^ (56 - 8 * k) % 256)
theorem dg_eq : ∀ k, k < 8 → (((56 : Int32) - ((8 : Int32) * nI k)).toInt64.toUInt64 &&& Int64.toUInt64 63).toNat % 64 = 56 - 8 * k := by decide +kernel
theorem dg_of (s : Int64) {k : Nat} (hk : k < 8) : (((s.toUInt64 >>> (((56 : Int32) - ((8 : Int32) * nI k)).toInt64.toUInt64 &&& Int64.toUInt64 63)).toInt64) &&& (255 : Int64)).toInt32 = dg s k := by
  rw [and255, sh64 s (dg_eq k hk)]; rfl
theorem mo_cmp_l {mro mit : Nat → Int32} {a : Nat} {s : Int64} (h : a + 64 ≤ 12800) : ∀ (f k : Nat) (x : Int32), k ≤ 8 → 8 < k + f → (x = 0 ∨ x = 1) →
    ((f_MO_hasSum_38 f (nI a) s x (nI k) mro mit).1 = 1 ↔ x = 1 ∧ (∀ i, k ≤ i → i < 8 → mro (a + 56 + i) = dg s i) ∧ mit (a / 64) = 0) ∧ ((f_MO_hasSum_38 f (nI a) s x (nI k) mro mit).1 = 0 ∨ (f_MO_hasSum_38 f (nI a) s x (nI k) mro mit).1 = 1) ∧ ok_MO_hasSum_38 f (nI a) s x (nI k) mro mit := by
  intro f
  induction f with
  | zero => intro k x h1 h2; omega
  | succ f ih =>
    intro k x h1 h2 hx
    rw [f_MO_hasSum_38, ok_MO_hasSum_38]
    have hdiv : (nI a / (64 : Int32)) = nI (a / 64) := pk_div (d := 64) (by omega) (by omega) (by omega)
    by_cases e : k = 8
    · subst e
      have c : (8 : Int32) ≤ nI 8 := by decide
      rw [if_pos c, hdiv, nI_clamp (show a / 64 < 2 ^ 31 by omega)]
      refine ⟨?_, ?_, fun _ => ⟨fun _ => trivial, fun _ => vp_in_nI (by omega) (by omega)⟩, fun z => absurd c z⟩
      · rcases hx with rfl | rfl
        · simp
        · by_cases q : mit (a / 64) = 0
          · simp [q]; intro i h3 h4; omega
          · simp [q]
      · rcases hx with rfl | rfl
        · simp
        · by_cases q : mit (a / 64) = 0 <;> simp [q]
    · have c : ¬ (8 : Int32) ≤ nI k := nI_ge (a := k) (b := 8) (by omega) (by omega)
      rw [if_neg c]
      have b1 : vp_in ((nI a + (56 : Int32)) + nI k) 12800 := by
        rw [show nI a + (56 : Int32) = nI (a + 56) from nI_add a 56, nI_add]; exact vp_in_nI (by omega) (by omega)
      have a1 : ((nI a + (56 : Int32)) + nI k).toNatClampNeg = a + 56 + k := by
        rw [show nI a + (56 : Int32) = nI (a + 56) from nI_add a 56, nI_add]; exact nI_clamp (by omega)
      rw [a1, dg_of s (show k < 8 by omega), nI_1]
      obtain ⟨i01, i02, i03⟩ := ih (k + 1) 0 (by omega) (by omega) (Or.inl rfl)
      obtain ⟨i11, i12, i13⟩ := ih (k + 1) 1 (by omega) (by omega) (Or.inr rfl)
      refine ⟨?_, ?_, fun z => absurd z c, fun _ => ⟨fun _ => i03, fun _ => ⟨b1, fun _ => i13, fun _ => i03⟩⟩⟩
      · rcases hx with rfl | rfl
        · rw [if_pos rfl, i01]; simp
        · rw [if_neg no1]
          by_cases q : mro (a + 56 + k) = dg s k
          · rw [if_pos q, i11]
            constructor
            · rintro ⟨-, h3, h4⟩
              exact ⟨rfl, fun i h5 h6 => (Nat.eq_or_lt_of_le h5).elim (fun e => e ▸ q) (fun h7 => h3 i h7 h6), h4⟩
            · rintro ⟨-, h3, h4⟩
              exact ⟨rfl, fun i h5 h6 => h3 i (by omega) h6, h4⟩
          · rw [if_neg q, i01]
            constructor
            · rintro ⟨h3, -⟩; exact absurd h3 (by decide)
            · rintro ⟨-, h3, -⟩; exact absurd (h3 k (Nat.le_refl _) (by omega)) q
      · rcases hx with rfl | rfl
        · rw [if_pos rfl]; exact i02
        · rw [if_neg no1]
          by_cases q : mro (a + 56 + k) = dg s k
          · rw [if_pos q]; exact i12
          · rw [if_neg q]; exact i02
