/-! reopen: which slots hold whole roots, on both sides -/
def whl (N : Nat) (mro mit : Nat → Int32) (s : Nat) : Int32 := (f_MO_isWhole (nI s) (nI N) mro mit).1
theorem rr_whole {N : Nat} {cby cto mro mit : Nat → Int32} (h : RR N cby cto mro mit) {s : Nat} (hs : s < N) :
    f_RL_isWholeRoot (nI s) (nI N) cby cto = (whl N mro mit s, ()) ∧ ok_RL_isWholeRoot (N * 64) N (nI s) (nI N) cby cto ∧ f_MO_isWhole (nI s) (nI N) mro mit = (whl N mro mit s, ()) ∧ ok_MO_isWhole (nI s) (nI N) mro mit ∧
    (whl N mro mit s = 0 ∨ whl N mro mit s = 1 ∧ ∃ n v a, num mro (s * 64 + 40) = nI n ∧ num mro (s * 64 + 4) = nI v ∧ num mro (s * 64 + 16) = nI a ∧ n ≤ 1000000 ∧ 1 ≤ v ∧ v ≤ 1000000 ∧ a ≤ n ∧ n < a + N ∧ n % N = s) := by
  have hRR := h
  obtain ⟨h1, h2, h3, h4⟩ := h
  have hb : s < 2 ^ 30 := by omega
  have hm : s % N = s := Nat.mod_eq_of_lt hs
  obtain ⟨n1, n2⟩ := rr_number hRR hb
  obtain ⟨v1, v2⟩ := rr_version hRR hb
  obtain ⟨e1, e2, -, -⟩ := rr_entry (k := 2) hRR hb (by omega)
  obtain ⟨b1, b2⟩ := rr_byte (k := 0) hRR hb (by omega)
  obtain ⟨s1, s2⟩ := rr_sum hRR s
  obtain ⟨o1, o2⟩ := @off_of s N hb (by omega) h2 (N * 64) N
  rw [hm] at n1 v1 e1 b1 s1 s2 o1
  have e1' : f_RL_entryOf (nI s) (2 : Int32) (nI N) cby = (num mro (s * 64 + 16), ()) := e1
  have b1' : f_RL_byteOf (nI s) (0 : Int32) (nI N) cby = (mro (s * 64), ()) := b1
  have e2' : ok_RL_entryOf (N * 64) N (nI s) (2 : Int32) (nI N) cby := e2
  have b2' : ok_RL_byteOf (N * 64) N (nI s) (0 : Int32) (nI N) cby := b2
  obtain ⟨m40, k40⟩ := mo_num (mro := mro) (a := s * 64 + 40) (by omega)
  obtain ⟨m4, k4⟩ := mo_num (mro := mro) (a := s * 64 + 4) (by omega)
  obtain ⟨m16, k16⟩ := mo_num (mro := mro) (a := s * 64 + 16) (by omega)
  obtain ⟨c1, c2, c3⟩ := mo_sum (mro := mro) (mit := mit) (a := s * 64) (by omega)
  have p64 : (64 : Int32) * nI s = nI (s * 64) := by rw [show (64 : Int32) * nI s = nI (64 * s) from pk_mul 64 s, Nat.mul_comm]
  have p40 : nI (s * 64) + (40 : Int32) = nI (s * 64 + 40) := nI_add _ 40
  have p4 : nI (s * 64) + (4 : Int32) = nI (s * 64 + 4) := nI_add _ 4
  have p16 : nI (s * 64) + (16 : Int32) = nI (s * 64 + 16) := nI_add _ 16
  have hN0 : ¬ nI N = 0 := nI_ne0 (by omega) (by omega)
  unfold whl f_RL_isWholeRoot ok_RL_isWholeRoot f_MO_isWhole ok_MO_isWhole
  simp only [bindc_def, bindp_iff, o1, n1, v1, e1', b1', s1, p64, p40, p4, p16, m40, m4, m16, nI_clamp (show s * 64 < 2 ^ 31 by omega)]
  generalize num mro (s * 64 + 40) = x40
  generalize num mro (s * 64 + 4) = x4
  generalize num mro (s * 64 + 16) = x16
  generalize mro (s * 64) = y
  generalize f_MO_hasSum (nI (s * 64)) mro mit = z at c2 c3 ⊢
  have okM : ok_MO_number (nI (s * 64 + 40)) mro ∧ ok_MO_number (nI (s * 64 + 4)) mro ∧ ok_MO_number (nI (s * 64 + 16)) mro ∧ ok_MO_hasSum (nI (s * 64)) mro mit ∧ (z.1 = 0 → True) ∧ (¬ z.1 = 0 → vp_in (nI (s * 64)) 12800 ∧ ((y = (4 : Int32) → (x40 < 0 → True) ∧ (¬ x40 < 0 → ((1000000 : Int32) < x40 → True) ∧ (¬ (1000000 : Int32) < x40 → ¬ nI N = 0))) ∧ (¬ y = (4 : Int32) → True))) :=
    ⟨k40, k4, k16, c3, fun _ => trivial, fun _ => ⟨vp_in_nI (by omega) (by omega), fun _ => ⟨fun _ => trivial, fun _ => ⟨fun _ => trivial, fun _ => hN0⟩⟩, fun _ => trivial⟩⟩
  by_cases a2 : x40 < 0
  · simp only [if_pos a2]
    refine ⟨?_, ?_, ?_, okM, ?_⟩
    · by_cases a1 : y = 4 <;> rcases c2 with c2 | c2 <;> simp [a1, c2]
    · exact ⟨o2, n2, v2, e2', b2', fun _ => ⟨fun _ => trivial, fun q => absurd a2 q⟩, fun _ => trivial⟩
    · trivial
    · left; by_cases a1 : y = 4 <;> rcases c2 with c2 | c2 <;> simp [a1, c2]
  · simp only [if_neg a2]
    by_cases a3 : (1000000 : Int32) < x40
    · simp only [if_pos a3]
      refine ⟨?_, ?_, ?_, okM, ?_⟩
      · by_cases a1 : y = 4 <;> rcases c2 with c2 | c2 <;> simp [a1, c2]
      · exact ⟨o2, n2, v2, e2', b2', fun _ => ⟨fun _ => trivial, fun _ => ⟨fun _ => trivial, fun q => absurd a3 q⟩⟩, fun _ => trivial⟩
      · trivial
      · left; by_cases a1 : y = 4 <;> rcases c2 with c2 | c2 <;> simp [a1, c2]
    · simp only [if_neg a3]
      obtain ⟨n, hn, rfl⟩ := nI_of a2
      have hn2 : n ≤ 1000000 := Nat.le_of_not_lt (fun q => a3 (nI_lt (a := 1000000) q hn))
      obtain ⟨t1, t2⟩ := @off_of n N (by omega) (by omega) h2 (N * 64) N
      have t3 : nI n - nI n / nI N * nI N = nI (n % N) := pk_rem (by omega) (by omega) (by omega)
      have t4 : nI (n % N * 64) = nI (s * 64) ↔ nI (n % N) = nI s := by
        have hmod := Nat.mod_lt n (show 0 < N by omega)
        rw [nI_eq (by omega) (by omega), nI_eq (by omega) (by omega)]
        omega
      simp only [t1, t3, t4]
      refine ⟨?_, ?_, ?_, okM, ?_⟩
      · by_cases a1 : y = 4
        · simp only [if_pos a1]
          by_cases a4 : nI (n % N) = nI s
          · simp only [if_pos a4]
            by_cases a5 : x4 < (1 : Int32)
            · rcases c2 with c2 | c2 <;> simp [a5, c2]
            · by_cases a6 : (1000000 : Int32) < x4
              · rcases c2 with c2 | c2 <;> simp [a5, a6, c2]
              · by_cases a7 : x16 < 0
                · rcases c2 with c2 | c2 <;> simp [a5, a6, a7, c2]
                · by_cases a8 : nI n < x16
                  · rcases c2 with c2 | c2 <;> simp [a5, a6, a7, a8, c2]
                  · by_cases a9 : nI N ≤ nI n - x16
                    · rcases c2 with c2 | c2 <;> simp [a5, a6, a7, a8, a9, c2]
                    · rcases c2 with c2 | c2 <;> simp [a5, a6, a7, a8, a9, c2]
          · simp only [if_neg a4]
            rcases c2 with c2 | c2 <;> simp [c2]
        · simp only [if_neg a1]
          rcases c2 with c2 | c2 <;> simp [c2]
      · exact ⟨o2, n2, v2, e2', b2', fun _ => ⟨fun _ => trivial, fun _ => ⟨fun _ => trivial, fun _ => ⟨t2, fun _ => ⟨fun _ => trivial, fun _ => ⟨fun _ => trivial, fun _ => ⟨fun _ => trivial, fun _ => ⟨fun _ => trivial, fun _ => ⟨fun _ => trivial, fun _ => s2⟩⟩⟩⟩⟩, fun _ => trivial⟩⟩⟩, fun _ => trivial⟩
      · trivial
      · rcases c2 with c2 | c2
        · left; simp [c2]
        · rw [c2, if_neg no1]
          by_cases a1 : y = 4
          · rw [if_pos a1]
            by_cases a4 : nI (n % N) = nI s
            · rw [if_pos a4]
              by_cases a5 : x4 < (1 : Int32)
              · rw [if_pos a5]; exact Or.inl rfl
              rw [if_neg a5]
              by_cases a6 : (1000000 : Int32) < x4
              · rw [if_pos a6]; exact Or.inl rfl
              rw [if_neg a6]
              by_cases a7 : x16 < 0
              · rw [if_pos a7]; exact Or.inl rfl
              rw [if_neg a7]
              by_cases a8 : nI n < x16
              · rw [if_pos a8]; exact Or.inl rfl
              rw [if_neg a8]
              by_cases a9 : nI N ≤ nI n - x16
              · rw [if_pos a9]; exact Or.inl rfl
              rw [if_neg a9]
              right
              have hv0 : ¬ x4 < 0 := fun q => a5 (Int32.lt_trans q (by decide))
              obtain ⟨v, hv, rfl⟩ := nI_of hv0
              obtain ⟨a, ha, rfl⟩ := nI_of a7
              have g1 : 1 ≤ v := Nat.le_of_not_lt (fun q => a5 (nI_lt (b := 1) q (by omega)))
              have g2 : v ≤ 1000000 := Nat.le_of_not_lt (fun q => a6 (nI_lt (a := 1000000) q hv))
              have g3 : a ≤ n := Nat.le_of_not_lt (fun q => a8 (nI_lt q ha))
              rw [pk_sub g3] at a9
              have g4 : n - a < N := Nat.lt_of_not_le (fun q => a9 (nI_le q (by omega)))
              have hmod := Nat.mod_lt n (show 0 < N by omega)
              have g5 : n % N = s := (nI_eq (by omega) (by omega)).mp a4
              exact ⟨rfl, n, v, a, rfl, rfl, rfl, hn2, g1, g2, g3, by omega, g5⟩
            · rw [if_neg a4]; exact Or.inl rfl
          · rw [if_neg a1]; exact Or.inl rfl
