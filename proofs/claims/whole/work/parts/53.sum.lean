/-! the sum's test on both sides; blocks read alike -/
theorem mo_sum_l {mro mit : Nat → Int32} {a : Nat} (h : a + 64 ≤ 12800) : ∀ (f i : Nat), i ≤ 56 → 56 < i + f → f_MO_hasSum_5 f (nI a) (hs mro a i) (nI i) mro mit = f_MO_hasSum_38 1024 (nI a) (hs mro a 56) 1 0 mro mit ∧ (ok_MO_hasSum_38 1024 (nI a) (hs mro a 56) 1 0 mro mit → ok_MO_hasSum_5 f (nI a) (hs mro a i) (nI i) mro mit) := by
  intro f
  induction f with
  | zero => intro i h1 h2; omega
  | succ f ih =>
    intro i h1 h2
    rw [f_MO_hasSum_5, ok_MO_hasSum_5]
    by_cases e : i = 56
    · subst e
      have c : (56 : Int32) ≤ nI 56 := by decide
      rw [if_pos c]
      exact ⟨rfl, fun h => ⟨fun _ => h, fun z => absurd c z⟩⟩
    · have c : ¬ (56 : Int32) ≤ nI i := nI_ge (a := i) (b := 56) (by omega) (by omega)
      obtain ⟨a1, b1⟩ := @at_k a i 12800 (by omega) (by omega)
      have := ih (i + 1) (by omega) (by omega)
      rw [if_neg c, a1, nI_1, bindc_def, bindp_iff]
      exact ⟨this.1, fun h => ⟨fun z => absurd z c, fun _ => ⟨b1, this.2 h⟩⟩⟩
def SumIs (mro mit : Nat → Int32) (a : Nat) : Prop := (∀ i, i < 8 → mro (a + 56 + i) = dg (hs mro a 56) i) ∧ mit (a / 64) = 0
theorem mo_sum {mro mit : Nat → Int32} {a : Nat} (h : a + 64 ≤ 12800) : ((f_MO_hasSum (nI a) mro mit).1 = 1 ↔ SumIs mro mit a) ∧ ((f_MO_hasSum (nI a) mro mit).1 = 0 ∨ (f_MO_hasSum (nI a) mro mit).1 = 1) ∧ ok_MO_hasSum (nI a) mro mit := by
  have h1 := mo_sum_l (mro := mro) (mit := mit) h 1024 0 (by omega) (by omega)
  have h2 := mo_cmp_l (mro := mro) (mit := mit) (s := hs mro a 56) h 1024 0 1 (by omega) (by omega) (Or.inr rfl)
  rw [nI_0] at h1 h2
  unfold f_MO_hasSum ok_MO_hasSum
  have e : hs mro a 0 = 0 := rfl
  rw [e] at h1
  rw [h1.1]
  refine ⟨?_, h2.2.1, h1.2 h2.2.2⟩
  rw [h2.1]
  exact ⟨fun q => ⟨fun i hi => q.2.1 i (Nat.zero_le _) hi, q.2.2⟩, fun q => ⟨rfl, fun i _ hi => q.1 i hi, q.2⟩⟩
theorem words {u b0 b1 b2 b3 b4 b5 b6 b7 : Nat} (hu : u < 18446744073709551616) (h0 : b0 < 256) (h1 : b1 < 256) (h2 : b2 < 256) (h3 : b3 < 256) (h4 : b4 < 256) (h5 : b5 < 256) (h6 : b6 < 256) (h7 : b7 < 256) :
    (b0 * 16777216 + b1 * 65536 + b2 * 256 + b3 = u / 4294967296 % 4294967296 ∧ b4 * 16777216 + b5 * 65536 + b6 * 256 + b7 = u % 4294967296) ↔ (b0 = u / 2 ^ 56 % 256 ∧ b1 = u / 2 ^ 48 % 256 ∧ b2 = u / 2 ^ 40 % 256 ∧ b3 = u / 2 ^ 32 % 256 ∧ b4 = u / 2 ^ 24 % 256 ∧ b5 = u / 2 ^ 16 % 256 ∧ b6 = u / 2 ^ 8 % 256 ∧ b7 = u / 2 ^ 0 % 256) := by
  have q1 : u / 2 ^ 56 = u / 4294967296 / 16777216 := by omega
  have q2 : u / 2 ^ 48 = u / 4294967296 / 65536 := by omega
  have q3 : u / 2 ^ 40 = u / 4294967296 / 256 := by omega
  have q4 : u / 2 ^ 32 = u / 4294967296 := by omega
  have hh : u / 4294967296 < 4294967296 := by omega
  have e4 : u / 2 ^ 24 % 256 = u % 4294967296 / 16777216 := by omega
  have e5 : u / 2 ^ 16 % 256 = u % 4294967296 / 65536 % 256 := by omega
  have e6 : u / 2 ^ 8 % 256 = u % 4294967296 / 256 % 256 := by omega
  have e7 : u / 2 ^ 0 % 256 = u % 4294967296 % 256 := by omega
  rw [q1, q2, q3, q4, e4, e5, e6, e7]
  have hl : u % 4294967296 < 4294967296 := by omega
  generalize u / 4294967296 = H at *
  generalize u % 4294967296 = L at *
  clear q1 q2 q3 q4 e4 e5 e6 e7 hu
  omega
theorem num_of {mro : Nat → Int32} {a b0 b1 b2 b3 : Nat} (e0 : mro a = nI b0) (e1 : mro (a + 1) = nI b1) (e2 : mro (a + 2) = nI b2) (e3 : mro (a + 3) = nI b3) (h0 : b0 < 256) (h1 : b1 < 256) (h2 : b2 < 256) (h3 : b3 < 256) : num mro a = nI (b0 * 16777216 + b1 * 65536 + b2 * 256 + b3) := by
  unfold num; rw [e0, e1, e2, e3]; exact four h0 h1 h2 h3
theorem sum_words {mro : Nat → Int32} {a : Nat} {s : Int64} (hb : ∀ i, i < 8 → ∃ b, b < 256 ∧ mro (a + i) = nI b) : (num mro a = ((s.toUInt64 >>> ((32 : Int32).toInt64.toUInt64 &&& Int64.toUInt64 63)).toInt64).toInt32 ∧ num mro (a + 4) = s.toInt32) ↔ ∀ i, i < 8 → mro (a + i) = dg s i := by
  obtain ⟨b0, h0, e0⟩ := hb 0 (by omega)
  obtain ⟨b1, h1, e1⟩ := hb 1 (by omega)
  obtain ⟨b2, h2, e2⟩ := hb 2 (by omega)
  obtain ⟨b3, h3, e3⟩ := hb 3 (by omega)
  obtain ⟨b4, h4, e4⟩ := hb 4 (by omega)
  obtain ⟨b5, h5, e5⟩ := hb 5 (by omega)
  obtain ⟨b6, h6, e6⟩ := hb 6 (by omega)
  obtain ⟨b7, h7, e7⟩ := hb 7 (by omega)
  have hu := uL_lt s
  rw [num_of (a := a) e0 e1 e2 e3 h0 h1 h2 h3, num_of e4 e5 e6 e7 h4 h5 h6 h7, lo32, lo32, sh64 (k := 32) s (by decide), n_inj (by omega) (by omega), n_inj (by omega) (by omega), words hu h0 h1 h2 h3 h4 h5 h6 h7]
  have key : ∀ i b, b < 256 → mro (a + i) = nI b → (mro (a + i) = dg s i ↔ b = uL s / 2 ^ (56 - 8 * i) % 256) := by
    intro i b hb e
    rw [e, dg, n_inj (by omega) (by omega)]
  constructor
  · rintro ⟨q0, q1, q2, q3, q4, q5, q6, q7⟩ i hi
    rcases (show i = 0 ∨ i = 1 ∨ i = 2 ∨ i = 3 ∨ i = 4 ∨ i = 5 ∨ i = 6 ∨ i = 7 by omega) with rfl | rfl | rfl | rfl | rfl | rfl | rfl | rfl
    · exact (key 0 b0 h0 e0).mpr q0
    · exact (key 1 b1 h1 e1).mpr q1
    · exact (key 2 b2 h2 e2).mpr q2
    · exact (key 3 b3 h3 e3).mpr q3
    · exact (key 4 b4 h4 e4).mpr q4
    · exact (key 5 b5 h5 e5).mpr q5
    · exact (key 6 b6 h6 e6).mpr q6
    · exact (key 7 b7 h7 e7).mpr q7
  · intro q
    exact ⟨(key 0 b0 h0 e0).mp (q 0 (by omega)), (key 1 b1 h1 e1).mp (q 1 (by omega)), (key 2 b2 h2 e2).mp (q 2 (by omega)), (key 3 b3 h3 e3).mp (q 3 (by omega)), (key 4 b4 h4 e4).mp (q 4 (by omega)), (key 5 b5 h5 e5).mp (q 5 (by omega)), (key 6 b6 h6 e6).mp (q 6 (by omega)), (key 7 b7 h7 e7).mp (q 7 (by omega))⟩
/-- one roll, seen from both sides -/
def RR (N : Nat) (cby cto mro mit : Nat → Int32) : Prop := 16 ≤ N ∧ N ≤ 200 ∧ RD (N * 64) cby mro ∧ ITo N cto mit
theorem pl {b N : Nat} (h : 16 ≤ N) : b % N * 64 + 64 ≤ N * 64 := by
  have := Nat.mod_lt b (show 0 < N by omega)
  omega
theorem rr_sum {N : Nat} {cby cto mro mit : Nat → Int32} (h : RR N cby cto mro mit) (b : Nat) : f_RL_isSumRight (nI (b % N * 64)) cby cto = f_MO_hasSum (nI (b % N * 64)) mro mit ∧ ok_RL_isSumRight (N * 64) N (nI (b % N * 64)) cby cto := by
  obtain ⟨h1, h2, h3, h4⟩ := h
  have hp := pl (b := b) h1
  have hm := Nat.mod_lt b (show 0 < N by omega)
  have s1 := @slot_at b N (by omega) h2
  obtain ⟨m1, m2, m3⟩ := mo_sum (mro := mro) (mit := mit) (a := b % N * 64) (by omega)
  obtain ⟨u1, u2⟩ := rl_sum (a := b % N * 64) (nt := N) h3 (by omega) (by omega)
  obtain ⟨n1, n2⟩ := rl_num (a := b % N * 64 + 56) (nt := N) h3 (by omega) (by omega)
  obtain ⟨n3, n4⟩ := rl_num (a := b % N * 64 + 60) (nt := N) h3 (by omega) (by omega)
  have w := sum_words (mro := mro) (a := b % N * 64 + 56) (s := hs mro (b % N * 64) 56) (fun i hi => (h3 (b % N * 64 + 56 + i) (by omega)).2)
  have e1 : nI (b % N * 64) + (56 : Int32) = nI (b % N * 64 + 56) := nI_add _ 56
  have e2 : nI (b % N * 64 + 56) + (4 : Int32) = nI (b % N * 64 + 60) := nI_add _ 4
  have e3 : b % N * 64 / 64 = b % N := by omega
  obtain ⟨t1, t2⟩ := h4 (b % N) hm
  unfold f_RL_isSumRight ok_RL_isSumRight
  simp only [s1, bindc_def, bindp_iff, u1, e1, e2, n1, n3, nI_clamp (show b % N < 2 ^ 31 by omega)]
  unfold SumIs at m1
  rw [e3, t1] at m1
  generalize f_MO_hasSum (nI (b % N * 64)) mro mit = z at m1 m2 ⊢
  obtain ⟨z, ⟨⟩⟩ := z
  dsimp only at m1 m2
  refine ⟨?_, u2, vp_in_nI hm (by omega), fun _ => ⟨n2, fun _ => n4, fun _ => trivial⟩, fun _ => trivial⟩
  by_cases q1 : cto (b % N) = 0
  · rw [if_pos q1]
    by_cases q2 : num mro (b % N * 64 + 56) = (((hs mro (b % N * 64) 56).toUInt64 >>> ((32 : Int32).toInt64.toUInt64 &&& Int64.toUInt64 63)).toInt64).toInt32
    · rw [if_pos q2]
      by_cases q3 : num mro (b % N * 64 + 60) = (hs mro (b % N * 64) 56).toInt32
      · rw [if_pos q3]
        rw [m1.mpr ⟨w.mp ⟨q2, q3⟩, q1⟩]
      · rw [if_neg q3]
        rw [m2.resolve_right (fun z => q3 (w.mpr (m1.mp z).1).2)]
    · rw [if_neg q2]
      rw [m2.resolve_right (fun z => q2 (w.mpr (m1.mp z).1).1)]
  · rw [if_neg q1]
    rw [m2.resolve_right (fun z => q1 (m1.mp z).2)]
