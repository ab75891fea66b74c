/-! reopen's first loop: the newest whole root -/
def RN (N i : Nat) (mro mit : Nat → Int32) (x1 mst men mnw : Int32) : Prop :=
  (x1 = -1 ∧ mst = 0 ∧ men = 0 ∧ mnw = 0 ∧ ∀ s, s < i → whl N mro mit s = 0) ∨
  ∃ t n v a : Nat, t < i ∧ x1 = nI t ∧ whl N mro mit t = 1 ∧ num mro (t * 64 + 40) = nI n ∧ num mro (t * 64 + 4) = nI v ∧ num mro (t * 64 + 16) = nI a ∧ mst = nI a ∧ men = nI (n + 1) ∧ mnw = nI v ∧ (n ≤ 1000000 ∧ 1 ≤ v ∧ v ≤ 1000000 ∧ a ≤ n ∧ n < a + N ∧ n % N = t) ∧ ∀ s, s < i → whl N mro mit s = 1 → ∃ v', num mro (s * 64 + 4) = nI v' ∧ v' ≤ v
theorem newest_l {N : Nat} {cby cto mro mit : Nat → Int32} (h : RR N cby cto mro mit) (mrf mdn mpw mrs mdr : Int32) (mve mrb mch : Nat → Int32) : ∀ (f i : Nat) (x1 mst men mnw : Int32), i ≤ N → N < i + f → RN N i mro mit x1 mst men mnw →
    ∃ x1' mst' men' mnw', RN N N mro mit x1' mst' men' mnw' ∧ f_RL_newestRootSlot_4 f x1 (nI i) (nI N) cby cto = (x1', ()) ∧ ok_RL_newestRootSlot_4 (N * 64) N f x1 (nI i) (nI N) cby cto ∧
    f_MO_reopen_41 f (nI i) mrf (nI N) mst men mnw mdn mpw mrs mdr mro mit mve mrb mch = f_MO_reopen_150 1024 0 mrf (nI N) mst' men' mnw' mdn mpw mrs mdr mro mit mve mrb mch ∧
    (ok_MO_reopen_150 1024 0 mrf (nI N) mst' men' mnw' mdn mpw mrs mdr mro mit mve mrb mch → ok_MO_reopen_41 f (nI i) mrf (nI N) mst men mnw mdn mpw mrs mdr mro mit mve mrb mch) := by
  have hRR := h
  obtain ⟨g1, g2, g3, g4⟩ := h
  intro f
  induction f with
  | zero => intro i x1 mst men mnw h1 h2; omega
  | succ f ih =>
    intro i x1 mst men mnw h1 h2 hN
    rw [f_RL_newestRootSlot_4, ok_RL_newestRootSlot_4, f_MO_reopen_41, ok_MO_reopen_41]
    by_cases e : i = N
    · subst e
      have c : nI i ≤ nI i := nI_le (Nat.le_refl _) (by omega)
      rw [if_pos c, if_pos c]
      exact ⟨x1, mst, men, mnw, hN, rfl, ⟨fun _ => trivial, fun z => absurd c z⟩, rfl, fun o => ⟨fun _ => o, fun z => absurd c z⟩⟩
    · have c : ¬ nI N ≤ nI i := nI_ge (by omega) (by omega)
      have hiN : i < N := by omega
      obtain ⟨w1, w2, w3, w4, w5⟩ := rr_whole hRR hiN
      have p64 : (64 : Int32) * nI i = nI (i * 64) := by rw [show (64 : Int32) * nI i = nI (64 * i) from pk_mul 64 i, Nat.mul_comm]
      have p40 : nI (i * 64) + (40 : Int32) = nI (i * 64 + 40) := nI_add _ 40
      have p4 : nI (i * 64) + (4 : Int32) = nI (i * 64 + 4) := nI_add _ 4
      have p16 : nI (i * 64) + (16 : Int32) = nI (i * 64 + 16) := nI_add _ 16
      obtain ⟨m40, k40⟩ := mo_num (mro := mro) (a := i * 64 + 40) (by omega)
      obtain ⟨m4, k4⟩ := mo_num (mro := mro) (a := i * 64 + 4) (by omega)
      obtain ⟨m16, k16⟩ := mo_num (mro := mro) (a := i * 64 + 16) (by omega)
      simp only [if_neg c, bindc_def, bindp_iff, w1, w3, p64, p40, p4, p16, m40, m4, m16, nI_1]
      rcases w5 with w5 | ⟨w5, n, v, a, e40, e4, e16, b1, b2, b3, b4, b5, b6⟩
      · -- not whole
        rw [w5]
        simp only [if_true]
        have hN' : RN N (i + 1) mro mit x1 mst men mnw := by
          rcases hN with ⟨q1, q2, q3, q4, q5⟩ | ⟨t, n, v, a, t1, t2, t3, t4, t5, t6, t7, t8, t9, t10, t11⟩
          · refine Or.inl ⟨q1, q2, q3, q4, fun s hs => ?_⟩
            by_cases e2 : s = i
            · rw [e2]; exact w5
            · exact q5 s (by omega)
          · refine Or.inr ⟨t, n, v, a, by omega, t2, t3, t4, t5, t6, t7, t8, t9, t10, fun s hs hw => ?_⟩
            by_cases e2 : s = i
            · rw [e2, w5] at hw; exact absurd hw (by decide)
            · exact t11 s (by omega) hw
        obtain ⟨x1', mst', men', mnw', r1, r2, r3, r4, r5⟩ := ih (i + 1) x1 mst men mnw (by omega) (by omega) hN'
        exact ⟨x1', mst', men', mnw', r1, r2, ⟨fun z => absurd z c, fun _ => ⟨w2, fun _ => r3, fun z => (z trivial).elim⟩⟩, r4, fun o => ⟨fun z => absurd z c, fun _ => ⟨w4, fun _ => r5 o, fun z => (z trivial).elim⟩⟩⟩
      · rw [w5, e40, e4, e16]
        simp only [if_neg no1, nI_1]
        rcases hN with ⟨q1, q2, q3, q4, q5⟩ | ⟨t, n', v', a', t1, t2, t3, t4, t5, t6, t7, t8, t9, t10, t11⟩
        · -- the first whole one
          subst q1 q2 q3 q4
          have c2 : (0 : Int32) < nI v := nI_lt (a := 0) (b := v) (by omega) (by omega)
          simp only [if_true, if_pos c2]
          have hN' : RN N (i + 1) mro mit (nI i) (nI a) (nI (n + 1)) (nI v) := by
            refine Or.inr ⟨i, n, v, a, by omega, rfl, w5, e40, e4, e16, rfl, rfl, rfl, ⟨b1, b2, b3, b4, b5, b6⟩, fun s hs hw => ?_⟩
            by_cases e2 : s = i
            · rw [e2]; exact ⟨v, e4, Nat.le_refl _⟩
            · rw [q5 s (by omega)] at hw; exact absurd hw (by decide)
          obtain ⟨x1', mst', men', mnw', r1, r2, r3, r4, r5⟩ := ih (i + 1) (nI i) (nI a) (nI (n + 1)) (nI v) (by omega) (by omega) hN'
          refine ⟨x1', mst', men', mnw', r1, r2, ⟨fun z => absurd z c, fun _ => ⟨w2, fun z => absurd z no1, fun _ => ⟨fun _ => r3, fun z => (z trivial).elim⟩⟩⟩, r4, fun o => ⟨fun z => absurd z c, fun _ => ⟨w4, fun z => absurd z no1, fun _ => ⟨k4, fun _ => ⟨k4, k40, k16, r5 o⟩, fun z => absurd c2 z⟩⟩⟩⟩
        · subst t2 t7 t8 t9
          have c1 : ¬ nI t = (-1 : Int32) := m1_ne (by omega)
          have htm : t % N = t := Nat.mod_eq_of_lt (by omega)
          have him : i % N = i := Nat.mod_eq_of_lt hiN
          obtain ⟨vi1, vi2⟩ := rr_version hRR (show i < 2 ^ 30 by omega)
          obtain ⟨vt1, vt2⟩ := rr_version hRR (show t < 2 ^ 30 by omega)
          obtain ⟨ni1, ni2⟩ := rr_number hRR (show i < 2 ^ 30 by omega)
          obtain ⟨nt1, nt2⟩ := rr_number hRR (show t < 2 ^ 30 by omega)
          rw [him, e4] at vi1
          rw [htm, t5] at vt1
          rw [him, e40] at ni1
          rw [htm, t4] at nt1
          have okn : ok_RL_isNewer (N * 64) N (nI i) (nI t) (nI N) cby := by
            unfold ok_RL_isNewer; simp only [bindp_iff]
            exact ⟨vi2, vt2, fun _ => trivial, fun _ => ⟨fun _ => ⟨ni2, nt2⟩, fun _ => trivial⟩⟩
          have hnew : v' < v ∨ v = v' ∧ n' < n → f_RL_isNewer (nI i) (nI t) (nI N) cby = (1, ()) := by
            intro z
            unfold f_RL_isNewer; simp only [bindc_def, vi1, vt1, ni1, nt1]
            rcases z with z | ⟨z1, z2⟩
            · rw [if_pos (nI_lt z (by omega))]
            · rw [if_neg (nI_nlt (by omega) (by omega)), if_pos (by rw [z1]), if_neg (nI_ge z2 (by omega))]
          have hold : ¬ (v' < v ∨ v = v' ∧ n' < n) → f_RL_isNewer (nI i) (nI t) (nI N) cby = (0, ()) := by
            intro z
            unfold f_RL_isNewer; simp only [bindc_def, vi1, vt1, ni1, nt1]
            rw [if_neg (nI_nlt (by omega) (by omega))]
            by_cases z1 : v = v'
            · rw [if_pos (by rw [z1]), if_pos (nI_le (by omega) (by omega))]
            · rw [if_neg (fun y => z1 ((nI_eq (by omega) (by omega)).mp y))]
          simp only [if_neg c1]
          obtain ⟨u1, u2, u3, u4, u5, u6⟩ := t10
          by_cases hz : v' < v ∨ v = v' ∧ n' < n
          · rw [hnew hz]
            simp only [if_neg no1]
            have hN' : RN N (i + 1) mro mit (nI i) (nI a) (nI (n + 1)) (nI v) := by
              refine Or.inr ⟨i, n, v, a, by omega, rfl, w5, e40, e4, e16, rfl, rfl, rfl, ⟨b1, b2, b3, b4, b5, b6⟩, fun s hs hw => ?_⟩
              by_cases e2 : s = i
              · rw [e2]; exact ⟨v, e4, Nat.le_refl _⟩
              · obtain ⟨v2, y1, y2⟩ := t11 s (by omega) hw
                exact ⟨v2, y1, by omega⟩
            obtain ⟨x1', mst', men', mnw', r1, r2, r3, r4, r5⟩ := ih (i + 1) (nI i) (nI a) (nI (n + 1)) (nI v) (by omega) (by omega) hN'
            refine ⟨x1', mst', men', mnw', r1, r2, ⟨fun z => absurd z c, fun _ => ⟨w2, fun z => absurd z no1, fun _ => ⟨fun z => absurd z c1, fun _ => ⟨okn, fun z => absurd z no1, fun _ => r3⟩⟩⟩⟩, ?_, fun o => ⟨fun z => absurd z c, fun _ => ⟨w4, fun z => absurd z no1, fun _ => ⟨k4, fun _ => ⟨k4, k40, k16, r5 o⟩, fun y1 => ⟨k4, fun y2 => ⟨k40, fun y3 => ?_, fun y3 => ⟨k4, k40, k16, r5 o⟩⟩, fun y2 => ?_⟩⟩⟩⟩⟩
            · rcases hz with hz | ⟨z1, z2⟩
              · rw [if_pos (nI_lt hz (by omega))]; exact r4
              · rw [if_neg (nI_nlt (by omega) (by omega)), if_pos (by rw [z1]), if_neg (nI_nlt (by omega) (by omega))]; exact r4
            · exfalso
              rcases hz with hz | ⟨z1, z2⟩
              · exact y1 (nI_lt hz (by omega))
              · exact nI_nlt (by omega) (by omega) y3
            · exfalso
              rcases hz with hz | ⟨z1, z2⟩
              · exact y1 (nI_lt hz (by omega))
              · exact y2 (by rw [z1])
          · rw [hold hz]
            simp only [if_true]
            have hN' : RN N (i + 1) mro mit (nI t) (nI a') (nI (n' + 1)) (nI v') := by
              refine Or.inr ⟨t, n', v', a', by omega, rfl, t3, t4, t5, t6, rfl, rfl, rfl, ⟨u1, u2, u3, u4, u5, u6⟩, fun s hs hw => ?_⟩
              by_cases e2 : s = i
              · rw [e2]; exact ⟨v, e4, by omega⟩
              · exact t11 s (by omega) hw
            obtain ⟨x1', mst', men', mnw', r1, r2, r3, r4, r5⟩ := ih (i + 1) (nI t) (nI a') (nI (n' + 1)) (nI v') (by omega) (by omega) hN'
            have d1 : ¬ nI v' < nI v := nI_nlt (by omega) (by omega)
            refine ⟨x1', mst', men', mnw', r1, r2, ⟨fun z => absurd z c, fun _ => ⟨w2, fun z => absurd z no1, fun _ => ⟨fun z => absurd z c1, fun _ => ⟨okn, fun _ => r3, fun z => (z trivial).elim⟩⟩⟩⟩, ?_, fun o => ⟨fun z => absurd z c, fun _ => ⟨w4, fun z => absurd z no1, fun _ => ⟨k4, fun z => absurd z d1, fun y1 => ⟨k4, fun y2 => ⟨k40, fun y3 => r5 o, fun y3 => ?_⟩, fun y2 => r5 o⟩⟩⟩⟩⟩
            · rw [if_neg d1]
              by_cases z1 : v = v'
              · rw [if_pos (by rw [z1]), if_pos (nI_lt (by omega) (by omega))]; exact r4
              · rw [if_neg (fun y => z1 ((nI_eq (by omega) (by omega)).mp y))]; exact r4
            · exfalso
              have z1 : v = v' := (nI_eq (by omega) (by omega)).mp y2
              exact y3 (nI_lt (by omega) (by omega))
