/-! reopen -/
theorem newest_at {nb nt r : Nat} {cve : Nat → Int32} (hr : r ≤ 200) : ok_SH_newest nb nt (nI r) cve ∧ f_SH_newest (nI r) cve = (if r = 0 then 0 else cve (r - 1), ()) := by
  rcases Nat.eq_zero_or_pos r with rfl | h
  · refine ⟨?_, by simp [f_SH_newest, nI_0]⟩
    simp [ok_SH_newest, nI_0]
  · have e : ¬ nI r = 0 := nI_ne0 h (by omega)
    have e2 : nI r - (1 : Int32) = nI (r - 1) := by rw [show (1 : Int32) = nI 1 from rfl, pk_sub h]
    refine ⟨?_, ?_⟩
    · simp only [ok_SH_newest, e2]
      exact ⟨fun z => absurd z e, fun _ => vp_in_nI (by omega) (by omega)⟩
    · simp only [f_SH_newest, if_neg e, e2, nI_clamp (show r - 1 < 2 ^ 31 by omega), if_neg (show ¬ r = 0 by omega)]
theorem keep_l {N S E V t : Nat} {cby cto mro mit : Nat → Int32} (h : RR N cby cto mro mit) (hE : E < 2 ^ 30) (hS : S ≤ E) (hV : V ≤ 1000000) (htV : num mro (t * 64 + 4) = nI V) (hVs : ∀ s, s < N → whl N mro mit s = 1 → ∃ v', num mro (s * 64 + 4) = nI v' ∧ v' ≤ V) (htN : t < N) (htw : whl N mro mit t = 1) (htn : ∃ n, num mro (t * 64 + 40) = nI n ∧ S ≤ n ∧ n < E) (cfa cle cdz mrf mnw mdn mpw mdr : Int32) (cch mch : Nat → Int32) :
    ∀ (f i r : Nat) (cve cro mve mrb : Nat → Int32), i ≤ N → N < i + f → r ≤ i → r ≤ CN N S i (E - S) → KS i r S E V t cve cro mve mrb →
    ∃ r' cve' cro' mve' mrb', f_BT_reopen_79 f (nI i) cfa cle (nI N) (nI S) (nI E) cby cto cdz cch (nI r) cve cro = ((f_SH_newest (nI r') cve').1, cfa, cle, nI S, nI E, cdz, cch, nI r', cve', cro') ∧ ok_BT_reopen_79 (N * 64) N f (nI i) cfa cle (nI N) (nI S) (nI E) cby cto cdz cch (nI r) cve cro ∧
    f_MO_reopen_150 f (nI i) mrf (nI N) (nI S) (nI E) mnw mdn mpw (nI r) mdr mro mit mve mrb mch = (mnw, mrf, nI S, nI E, mnw, mdn, mpw, nI r', mdr, mve', mrb', mch) ∧ ok_MO_reopen_150 f (nI i) mrf (nI N) (nI S) (nI E) mnw mdn mpw (nI r) mdr mro mit mve mrb mch ∧
    r' ≤ N ∧ r' ≤ CN N S N (E - S) ∧ KS N r' S E V t cve' cro' mve' mrb' := by
  have hRR := h
  obtain ⟨g1, g2, g3, g4⟩ := h
  intro f
  induction f with
  | zero => intro i r cve cro mve mrb h1 h2; omega
  | succ f ih =>
    intro i r cve cro mve mrb h1 h2 h3 h4 hK
    rw [f_BT_reopen_79, ok_BT_reopen_79, f_MO_reopen_150, ok_MO_reopen_150]
    simp only [f_RL_slots, bindc_def, bindp_iff]
    by_cases e : i = N
    · subst e
      have c : nI i ≤ nI i := nI_le (Nat.le_refl _) (by omega)
      simp only [if_pos c]
      obtain ⟨n1, n2⟩ := newest_at (nb := i * 64) (nt := i) (r := r) (cve := cve) (by omega)
      exact ⟨r, cve, cro, mve, mrb, rfl, ⟨fun _ => n1, fun z => absurd c z⟩, rfl, ⟨fun _ => trivial, fun z => absurd c z⟩, h3, h4, hK⟩
    · have c : ¬ nI N ≤ nI i := nI_ge (by omega) (by omega)
      have hiN : i < N := by omega
      have him : i % N = i := Nat.mod_eq_of_lt hiN
      obtain ⟨w1, w2, w3, w4, w5⟩ := rr_whole hRR hiN
      have p64 : (64 : Int32) * nI i = nI (i * 64) := by rw [show (64 : Int32) * nI i = nI (64 * i) from pk_mul 64 i, Nat.mul_comm]
      have p40 : nI (i * 64) + (40 : Int32) = nI (i * 64 + 40) := nI_add _ 40
      have p4 : nI (i * 64) + (4 : Int32) = nI (i * 64 + 4) := nI_add _ 4
      obtain ⟨m40, k40⟩ := mo_num (mro := mro) (a := i * 64 + 40) (by omega)
      obtain ⟨m4, k4⟩ := mo_num (mro := mro) (a := i * 64 + 4) (by omega)
      obtain ⟨vi1, vi2⟩ := rr_version hRR (show i < 2 ^ 30 by omega)
      obtain ⟨ni1, ni2⟩ := rr_number hRR (show i < 2 ^ 30 by omega)
      rw [him] at vi1 ni1
      simp only [if_neg c, w1, w3, p64, p40, p4, m40, m4, vi1, ni1, nI_1, used_eq]
      have hCN := CN_mono N S i (E - S)
      have skip : whl N mro mit i = 0 ∨ (∃ n, num mro (i * 64 + 40) = nI n ∧ ¬ (S ≤ n ∧ n < E) ∧ n < 2 ^ 30) → KS (i + 1) r S E V t cve cro mve mrb := by
        intro hno
        obtain ⟨v, q, k1, k2, k3⟩ := hK
        refine ⟨v, q, k1, k2, fun z => ?_⟩
        by_cases z2 : t = i
        · exfalso
          subst z2
          rcases hno with hno | ⟨n, y1, y2, y3⟩
          · rw [hno] at htw; exact absurd htw (by decide)
          · obtain ⟨n', x1, x2, x3⟩ := htn
            rw [x1] at y1
            have := (nI_eq (by omega) (by omega)).mp y1
            exact y2 (by omega)
        · exact k3 (by omega)
      rcases w5 with w5 | ⟨w5, n, v, a, e40, e4, e16, b1, b2, b3, b4, b5, b6⟩
      · rw [w5]
        simp only [if_true]
        obtain ⟨r', cve', cro', mve', mrb', y1, y2, y3, y4, y5⟩ := ih (i + 1) r cve cro mve mrb (by omega) (by omega) (by omega) (by omega) (skip (Or.inl w5))
        exact ⟨r', cve', cro', mve', mrb', y1, ⟨fun z => absurd z c, fun _ => ⟨w2, fun _ => y2, fun z => (z trivial).elim⟩⟩, y3, ⟨fun z => absurd z c, fun _ => ⟨w4, fun _ => y4, fun z => (z trivial).elim⟩⟩, y5⟩
      · rw [w5, e40, e4]
        simp only [if_neg no1]
        rcases used_of hE hS (nI n) with ⟨u1, u2⟩ | ⟨u1, b, u2, u3, u4⟩
        · rw [u1]
          simp only [if_true]
          obtain ⟨r', cve', cro', mve', mrb', y1, y2, y3, y4, y5⟩ := ih (i + 1) r cve cro mve mrb (by omega) (by omega) (by omega) (by omega) (skip (Or.inr ⟨n, e40, u2 n rfl (by omega), by omega⟩))
          exact ⟨r', cve', cro', mve', mrb', y1, ⟨fun z => absurd z c, fun _ => ⟨w2, fun z => absurd z no1, fun _ => ⟨ni2, fun _ => y2, fun z => (z trivial).elim⟩⟩⟩, y3, ⟨fun z => absurd z c, fun _ => ⟨w4, fun z => absurd z no1, fun _ => ⟨k40, fun _ => y4, fun z => (z trivial).elim⟩⟩⟩, y5⟩
        · rw [u1]
          simp only [if_neg no1]
          have hnb : n = b := (nI_eq (by omega) (by omega)).mp u4
          obtain ⟨v', x1, x2⟩ := hVs i hiN w5
          have hvv : v = v' := by rw [e4] at x1; exact (nI_eq (by omega) (by omega)).mp x1
          obtain ⟨r2, cve2, cro2, mve2, mrb2, a1, a2, a3, a4, a5, a6⟩ := keep_step (nb := N * 64) (nt := N) (x := v) (b := n) hK (by omega) (by omega) hE b2 (by omega) (by omega) (by omega) (fun z => by
            subst z; rw [e4] at htV; exact (nI_eq (by omega) (by omega)).mp htV)
          rw [a1, a3]
          dsimp only
          have hh := CN_hit (N := N) (S := S) (i := i) (E - S) ⟨n - S, by omega, by rw [show S + (n - S) = n by omega]; exact b6⟩
          obtain ⟨r', cve', cro', mve', mrb', y1, y2, y3, y4, y5⟩ := ih (i + 1) r2 cve2 cro2 mve2 mrb2 (by omega) (by omega) (by omega) (by omega) a6
          exact ⟨r', cve', cro', mve', mrb', y1, ⟨fun z => absurd z c, fun _ => ⟨w2, fun z => absurd z no1, fun _ => ⟨ni2, fun z => absurd z no1, fun _ => ⟨vi2, ni2, a2, y2⟩⟩⟩⟩, y3, ⟨fun z => absurd z c, fun _ => ⟨w4, fun z => absurd z no1, fun _ => ⟨k40, fun z => absurd z no1, fun _ => ⟨k4, k40, a4, y4⟩⟩⟩⟩, y5⟩
set_option maxHeartbeats 1000000 in
theorem sim_reopen : SIM_reopen INV := by
  intro j N cfa cle cwr csl cst cen cby cto csh cdz cch cva css cve cro crc cma cbi ces cbl crt mrf msl mst men mnw mdn mpw mwr mrs mdr mtb mrc mnx mro mit mve mrb mch mva mic mlb mrw mnb mlk mnk mmd  hj hinv
  obtain ⟨hN1, hN2, hcsl, hmsl, hPow, hDr, hBy, hTo, hSh, hRt, S, E, r, hRo⟩ := hinv
  obtain ⟨h1, h2, h3, h4, h5, h6⟩ := hPow
  subst h2
  have hRR := rr_of hN1 hN2 hBy hTo
  subst hcsl hmsl
  obtain ⟨cl1, cl2, cl3⟩ := @dr_clear (N * 64) N cdz cch
  obtain ⟨cm1, cm2, cm3⟩ := mo_clear mdr mch
  have hcl := IDr_clear (nb := N * 64) (nt := N) cdz mdr cch mch cva mva
  unfold f_BT_reopen ok_BT_reopen f_MO_reopen ok_MO_reopen
  simp only [bindc_def, bindp_iff, f_PW_restore, f_SH_clear, f_RL_use]
  generalize f_DR_clear cdz cch = zc at hcl ⊢
  generalize f_MO_clear mdr mch = zm at hcl ⊢
  obtain ⟨x1, mst', men', mnw', r1, r2, r3, r4, r5⟩ := newest_l hRR 0 0 (-1) 0 zm.1 mve mrb zm.2 1024 0 (-1) 0 0 0 (by omega) (by omega) (Or.inl ⟨rfl, rfl, rfl, rfl, fun s hs => by omega⟩)
  rw [nI_0] at r2 r3 r4 r5
  have e4 : f_RL_newestRootSlot (nI N) cby cto = f_RL_newestRootSlot_4 1024 (-1) 0 (nI N) cby cto := by unfold f_RL_newestRootSlot; rfl
  have o4 : ok_RL_newestRootSlot (N * 64) N (nI N) cby cto := by unfold ok_RL_newestRootSlot; exact r3
  rw [e4, r2, r4]
  dsimp only
  have hPow' : IPow 0 (-1) cwr 0 (-1) mwr := ⟨Or.inl rfl, rfl, rfl, h4, Or.inl rfl, fun _ => by decide⟩
  rcases r1 with ⟨q1, q2, q3, q4, q5⟩ | ⟨t, n, v, a, t1, t2, t3, t4, t5, t6, t7, t8, t9, t10, t11⟩
  · -- no whole root
    subst q1 q2 q3 q4
    have hl : ∀ (f i : Nat), i ≤ N → N < i + f → f_MO_reopen_150 f (nI i) 0 (nI N) 0 0 0 0 (-1) 0 zm.1 mro mit mve mrb zm.2 = (0, 0, 0, 0, 0, 0, -1, 0, zm.1, mve, mrb, zm.2) ∧ ok_MO_reopen_150 f (nI i) 0 (nI N) 0 0 0 0 (-1) 0 zm.1 mro mit mve mrb zm.2 := by
      intro f
      induction f with
      | zero => intro i a1 a2; omega
      | succ f ih =>
        intro i a1 a2
        rw [f_MO_reopen_150, ok_MO_reopen_150]
        by_cases e : i = N
        · subst e
          have c : nI i ≤ nI i := nI_le (Nat.le_refl _) (by omega)
          rw [if_pos c]
          exact ⟨rfl, fun _ => trivial, fun z => absurd c z⟩
        · have c : ¬ nI N ≤ nI i := nI_ge (by omega) (by omega)
          obtain ⟨w1, w2, w3, w4, -⟩ := rr_whole hRR (show i < N by omega)
          have := ih (i + 1) (by omega) (by omega)
          simp only [if_neg c, bindc_def, bindp_iff, w3, q5 i (by omega), if_true, nI_1]
          exact ⟨this.1, fun z => absurd z c, fun _ => ⟨w4, fun _ => this.2, fun z => (z trivial).elim⟩⟩
    obtain ⟨l1, l2⟩ := hl 1024 0 (by omega) (by omega)
    rw [nI_0] at l1 l2
    rw [l1]
    obtain ⟨n1, n2⟩ := newest_at (nb := N * 64) (nt := N) (r := 0) (cve := cve) (by omega)
    rw [nI_0] at n1 n2
    rw [n2]
    simp only [if_true]
    refine ⟨⟨cl1, o4, fun _ => n1, fun z => (z trivial).elim⟩, ⟨cm1, r5 l2⟩, ?_⟩
    intro z1 z2 q1 q2
    subst q1 q2
    refine ⟨rfl, ?_⟩
    refine INV_mk hN1 hN2 rfl rfl hPow' hcl hBy hTo hSh hRt (S := 0) (E := 0) (r := 0) ?_
    exact ⟨⟨rfl, rfl, rfl, rfl, rfl, rfl⟩, ⟨Nat.le_refl _, by omega, by omega, Nat.le_refl _⟩, fun i hi => absurd hi (by omega), fun i k _ hk => absurd hk (by omega), by rw [if_pos rfl]⟩
  · subst t2 t7 t8 t9
    obtain ⟨u1, u2, u3, u4, u5, u6⟩ := t10
    have c1 : ¬ nI t = (-1 : Int32) := m1_ne (by omega)
    have htm : t % N = t := Nat.mod_eq_of_lt t1
    obtain ⟨e1, e2, -, -⟩ := rr_entry (k := 2) hRR (show t < 2 ^ 30 by omega) (by omega)
    obtain ⟨n1, n2⟩ := rr_number hRR (show t < 2 ^ 30 by omega)
    rw [htm] at e1 n1
    have e1' : f_RL_entryOf (nI t) (2 : Int32) (nI N) cby = (num mro (t * 64 + 16), ()) := e1
    have e2' : ok_RL_entryOf (N * 64) N (nI t) (2 : Int32) (nI N) cby := e2
    simp only [if_neg c1, e1', n1, t4, t6, nI_1]
    obtain ⟨r', cve', cro', mve', mrb', y1, y2, y3, y4, y5, y6, y7⟩ := keep_l (S := a) (E := n + 1) (V := v) (t := t) hRR (by omega) (by omega) u3 t5 t11 t1 t3 ⟨n, t4, u4, by omega⟩ 0 (-1) zc.1 0 (nI v) 0 (-1) zm.1 zc.2 zm.2 1024 0 0 cve cro mve mrb (by omega) (by omega) (by omega) (by omega) ⟨fun _ => 0, fun _ => 0, fun k hk => absurd hk (by omega), fun a b _ hb => absurd hb (by omega), fun z => absurd z (by omega)⟩
    rw [nI_0] at y1 y2 y3 y4
    rw [y1, y3]
    obtain ⟨s1, s2⟩ := newest_at (nb := N * 64) (nt := N) (r := r') (cve := cve') (by omega)
    obtain ⟨vv, qq, k1, k2, k3⟩ := y7
    obtain ⟨k4, k5⟩ := k3 t1
    rw [if_neg (show ¬ r' = 0 by omega), (k1 (r' - 1) (by omega)).1, k5] at s2
    rw [s2]
    refine ⟨⟨cl1, o4, fun z => absurd z c1, fun _ => ⟨e2', n2, y2⟩⟩, ⟨cm1, r5 y4⟩, ?_⟩
    intro z1 z2 q1 q2
    subst q1 q2
    refine ⟨rfl, ?_⟩
    have hc := CN_le N a N (n + 1 - a)
    refine INV_mk hN1 hN2 rfl rfl hPow' hcl hBy hTo hSh hRt (S := a) (E := n + 1) (r := r') ?_
    refine ⟨⟨rfl, rfl, rfl, rfl, rfl, rfl⟩, ⟨by omega, by omega, by omega, by omega⟩, fun i hi => ?_, fun i k hik hk => ?_, ?_⟩
    · obtain ⟨f1, f2, f3, f4, f5, f6, f7, f8⟩ := k1 i hi
      exact ⟨f2.trans f1.symm, f4.trans f3.symm, vv i, qq i, f1, f3, f5, by omega, f7, f8⟩
    · dsimp only
      rw [(k1 i (by omega)).1, (k1 k hk).1]
      have := (k1 k hk).2.2.2.2.2.1
      exact nI_lt (k2 i k hik hk) (by omega)
    · dsimp only
      rw [if_neg (show ¬ r' = 0 by omega), (k1 (r' - 1) (by omega)).1, k5]
