/-! the nodes are written, on both sides -/
theorem wn_seg {N E : Nat} (h1 : 16 ≤ N) (h2 : N ≤ 200) (hE : E + 80 < 2 ^ 30) {mic mlb mrw mnb0 mnb mlk cma cbi ces cbl : Nat → Int32} (hMK : ∀ m, m < 8 → (ncv mic m = 0 ↔ cma (64 + m) = 0)) (hnb : ∀ m, m < 8 → mnb m = FN mic mlb mnb0 m) (hW : ∀ m, m < 8 → ¬ ncv mic m = 0 → cbi (64 + m) = FN mic mlb mnb0 m ∧ BY (FN mic mlb mnb0 m) ∧ (¬ FN mic mlb mnb0 m = 0 → cbl (64 + m) = nI (E + cL mic mlb 64 + cN mic mlb mnb0 m)) ∧ ∀ k, k < 8 → ces (512 + 8 * m + k) = if bt (FN mic mlb mnb0 m) k = 0 then 0 else mlk (8 * m + k)) (x1 mst men mnw mrs mtb mrc : Int32) (mve mrb mnk0 : Nat → Int32) :
    ∀ (d f1 f2 m : Nat) (cle cwr : Int32) (cby cto csh mro mit mnk mmd : Nat → Int32), m + d = 8 → WI N cle cby cto csh mro mit → ¬ cle = 0 → (∀ j, j < 8 → mnk j = if j < m ∧ ¬ ncv mic j = 0 ∧ ¬ FN mic mlb mnb0 j = 0 then nI (E + cL mic mlb 64 + cN mic mlb mnb0 j) else mnk0 j) →
    (∃ cle' cwr' cby' cto' csh' mro' mit' mnk' mmd', f_PG_writeTree_2 (f1 + d) (mnw + 1) (nI (64 + m)) 0 cle cwr (nI N) cby cto csh cma cbi ces cbl = f_PG_writeTree_2 f1 (mnw + 1) (nI 72) 0 cle' cwr' (nI N) cby' cto' csh' cma cbi ces cbl ∧ (ok_PG_writeTree_2 (N * 64) N f1 (mnw + 1) (nI 72) 0 cle' cwr' (nI N) cby' cto' csh' cma cbi ces cbl → ok_PG_writeTree_2 (N * 64) N (f1 + d) (mnw + 1) (nI (64 + m)) 0 cle cwr (nI N) cby cto csh cma cbi ces cbl) ∧
      f_MO_writeAll_62 (f2 + 1 + d) x1 1 (nI m) (nI N) mst men mnw 0 cle cwr mrs mtb mrc (nI (E + cL mic mlb 64 + cN mic mlb mnb0 m)) mro mit mve mrb mic mlb mrw mnb mlk mnk mmd = f_MO_writeAll_109 x1 1 (nI N) mst men mnw 0 cle' cwr' mrs mtb mrc (nI (E + cL mic mlb 64 + cN mic mlb mnb0 8)) mro' mit' mve mrb mic mlb mrw mnb mlk mnk' mmd' ∧ (ok_MO_writeAll_109 x1 1 (nI N) mst men mnw 0 cle' cwr' mrs mtb mrc (nI (E + cL mic mlb 64 + cN mic mlb mnb0 8)) mro' mit' mve mrb mic mlb mrw mnb mlk mnk' mmd' → ok_MO_writeAll_62 (f2 + 1 + d) x1 1 (nI m) (nI N) mst men mnw 0 cle cwr mrs mtb mrc (nI (E + cL mic mlb 64 + cN mic mlb mnb0 m)) mro mit mve mrb mic mlb mrw mnb mlk mnk mmd) ∧
      WI N cle' cby' cto' csh' mro' mit' ∧ ¬ cle' = 0 ∧ ∀ j, j < 8 → mnk' j = if ¬ ncv mic j = 0 ∧ ¬ FN mic mlb mnb0 j = 0 then nI (E + cL mic mlb 64 + cN mic mlb mnb0 j) else mnk0 j) ∨
    (∃ cle' cwr' cby' cto' csh' nx' mro' mit' mnk' mmd', f_PG_writeTree_2 (f1 + d) (mnw + 1) (nI (64 + m)) 0 cle cwr (nI N) cby cto csh cma cbi ces cbl = (0, 1, cle', cwr', cby', cto', csh') ∧ ok_PG_writeTree_2 (N * 64) N (f1 + d) (mnw + 1) (nI (64 + m)) 0 cle cwr (nI N) cby cto csh cma cbi ces cbl ∧
      f_MO_writeAll_62 (f2 + 1 + d) x1 1 (nI m) (nI N) mst men mnw 0 cle cwr mrs mtb mrc (nI (E + cL mic mlb 64 + cN mic mlb mnb0 m)) mro mit mve mrb mic mlb mrw mnb mlk mnk mmd = (-4, mst, men, mnw, 1, cle', cwr', mrs, nx', mro', mit', mve, mrb, mlk, mnk', mmd') ∧ ok_MO_writeAll_62 (f2 + 1 + d) x1 1 (nI m) (nI N) mst men mnw 0 cle cwr mrs mtb mrc (nI (E + cL mic mlb 64 + cN mic mlb mnb0 m)) mro mit mve mrb mic mlb mrw mnb mlk mnk mmd ∧ WI N cle' cby' cto' csh' mro' mit') := by
  have h64 := cL_le mic mlb 64
  intro d
  induction d with
  | zero =>
    intro f1 f2 m cle cwr cby cto csh mro mit mnk mmd hl hI hne hnk
    have e : m = 8 := by omega
    subst e
    have c : (8 : Int32) ≤ nI 8 := by decide
    refine Or.inl ⟨cle, cwr, cby, cto, csh, mro, mit, mnk, mmd, rfl, fun o => o, ?_, fun o => ?_, hI, hne, fun j hj => ?_⟩
    · rw [Nat.add_zero, f_MO_writeAll_62, if_pos c]
    · rw [Nat.add_zero, ok_MO_writeAll_62]
      exact ⟨fun _ => o, fun z => absurd c z⟩
    · rw [hnk j hj]
      by_cases q : ¬ ncv mic j = 0 ∧ ¬ FN mic mlb mnb0 j = 0
      · rw [if_pos q, if_pos (show j < 8 ∧ ¬ ncv mic j = 0 ∧ ¬ FN mic mlb mnb0 j = 0 from ⟨hj, q⟩)]
      · rw [if_neg q, if_neg (fun z => q z.2)]
  | succ d ih =>
    intro f1 f2 m cle cwr cby cto csh mro mit mnk mmd hl hI hne hnk
    have hm : m < 8 := by omega
    have c : ¬ (8 : Int32) ≤ nI m := nI_ge (a := m) (b := 8) (by omega) (by omega)
    have w : vp_in (nI m) 8 := vp_in_nI hm (by omega)
    have hcN := cN_le mic mlb mnb0 m
    have hcNs : cN mic mlb mnb0 (m + 1) = cN mic mlb mnb0 m + if ncv mic m = 0 then 0 else thr (FN mic mlb mnb0 m) := rfl
    obtain ⟨n1, n2, n3, n4⟩ := nc_of mic hm
    rw [show f1 + (d + 1) = (f1 + d) + 1 by omega, show f2 + 1 + (d + 1) = (f2 + 1 + d) + 1 by omega, f_MO_writeAll_62, ok_MO_writeAll_62]
    simp only [if_neg c, if_neg no1, nI_clamp (show m < 2 ^ 31 by omega), nI_1, bindc_def, bindp_iff, n1, hnb m hm]
    by_cases q : ncv mic m = 0 ∨ FN mic mlb mnb0 m = 0
    · have qc : cma (64 + m) = 0 ∨ cbi (64 + m) = 0 := by
        by_cases qm : ncv mic m = 0
        · exact Or.inl ((hMK m hm).mp qm)
        · right; rw [(hW m hm qm).1]; exact q.resolve_left qm
      have hcs : cN mic mlb mnb0 (m + 1) = cN mic mlb mnb0 m := by
        rw [hcNs]
        by_cases qm : ncv mic m = 0
        · rw [if_pos qm]; omega
        · rw [if_neg qm, thr_0 (q.resolve_left qm)]; omega
      obtain ⟨s1, s2⟩ := @wt_skip (N * 64) N (f1 + d) (64 + m) (by omega) (mnw + 1) 0 cle cwr (nI N) cby cto csh cma cbi ces cbl qc
      have r := ih f1 f2 (m + 1) cle cwr cby cto csh mro mit mnk mmd (by omega) hI hne (fun j hj => by
        rw [hnk j hj]
        by_cases e : j < m ∧ ¬ ncv mic j = 0 ∧ ¬ FN mic mlb mnb0 j = 0
        · rw [if_pos e, if_pos (show j < m + 1 ∧ ¬ ncv mic j = 0 ∧ ¬ FN mic mlb mnb0 j = 0 from ⟨by omega, e.2⟩)]
        · rw [if_neg e, if_neg (fun z => e ⟨by
            rcases Nat.lt_or_ge j m with y | y
            · exact y
            · exfalso; have : j = m := by omega
              rw [this] at z
              rcases q with q | q
              · exact z.2.1 q
              · exact z.2.2 q, z.2⟩)])
      rw [hcs, show 64 + (m + 1) = 64 + m + 1 by omega] at r
      rw [s1]
      have hif : ∀ (α : Type) (a b : α), (if ncv mic m = 0 then a else if FN mic mlb mnb0 m = 0 then a else b) = a := by
        intro α a b
        by_cases qm : ncv mic m = 0
        · rw [if_pos qm]
        · rw [if_neg qm, if_pos (q.resolve_left qm)]
      rw [hif]
      rcases r with ⟨cle', cwr', cby', cto', csh', mro', mit', mnk', mmd', r1, r2, r3, r4, r5⟩ | ⟨cle', cwr', cby', cto', csh', nx', mro', mit', mnk', mmd', r1, r2, r3, r4, r5⟩
      · exact Or.inl ⟨cle', cwr', cby', cto', csh', mro', mit', mnk', mmd', r1, fun o => s2 (r2 o), r3, fun o => ⟨fun z => absurd z c, fun _ => ⟨fun z => absurd z no1, fun _ => ⟨n2, fun _ => r4 o, fun z1 => ⟨w, fun _ => r4 o, fun z2 => absurd q (fun y => y.elim z1 z2)⟩⟩⟩⟩, r5⟩
      · exact Or.inr ⟨cle', cwr', cby', cto', csh', nx', mro', mit', mnk', mmd', r1, s2 r2, r3, ⟨fun z => absurd z c, fun _ => ⟨fun z => absurd z no1, fun _ => ⟨n2, fun _ => r4, fun z1 => ⟨w, fun _ => r4, fun z2 => absurd q (fun y => y.elim z1 z2)⟩⟩⟩⟩, r5⟩
    · have qm : ¬ ncv mic m = 0 := fun z => q (Or.inl z)
      have qb : ¬ FN mic mlb mnb0 m = 0 := fun z => q (Or.inr z)
      obtain ⟨a1, a2, a3, a4⟩ := hW m hm qm
      obtain ⟨i1, i2, i3, i4⟩ := hI
      have qcm : ¬ cma (64 + m) = 0 := fun z => qm ((hMK m hm).mpr z)
      have qcb : ¬ cbi (64 + m) = 0 := by rw [a1]; exact qb
      have hnm := hnb m hm
      obtain ⟨x, cfa1, cle1, cwr1, cby1, cto1, csh1, mro1, mit1, mmd1, w1, w2, w3, w4, w5, w6, w7, w8, w9⟩ := wNode_agree (b := E + cL mic mlb 64 + cN mic mlb mnb0 m) h1 h2 (by omega) hm (cle := cle) (cwr := cwr) (mnw := mnw) (mnk := mnk) (mmd := mmd) (mnb := mnb) (mlk := mlk) (ces := ces) (by rw [hnm]; exact a2) (by rw [hnm]; exact a4) i1 i2 i3 i4 hne
      have hk1 : knd (64 + m) = 2 := by unfold knd; rw [if_neg (by omega), if_pos (by omega)]
      have w1' : f_RL_write (cbl (64 + m)) (knd (64 + m)) (cbi (64 + m)) (mnw + 1) (nI (512 + 8 * m)) 0 cle cwr (nI N) cby cto csh ces = (x, cfa1, cle1, cwr1, cby1, cto1, csh1) := by rw [a3 qb, a1, hk1, ← hnm]; exact w1
      have w2' : ok_RL_write (N * 64) N (cbl (64 + m)) (knd (64 + m)) (cbi (64 + m)) (mnw + 1) (nI (512 + 8 * m)) 0 cle cwr (nI N) cby cto csh ces := by rw [a3 qb, a1, hk1, ← hnm]; exact w2
      obtain ⟨s1, s2⟩ := @wt_go (N * 64) N (f1 + d) (64 + m) (512 + 8 * m) (by omega) (by omega) (mnw + 1) 0 cle cwr (nI N) x cfa1 cle1 cwr1 cby cto csh cma cbi ces cbl cby1 cto1 csh1 qcm qcb w1' w2'
      simp only [if_neg qm, if_neg qb, w3]
      rcases w9 with ⟨e1, e2, e3⟩ | ⟨e1, e2⟩
      · subst e1 e2
        obtain ⟨t1, t2⟩ := s2 rfl
        simp only [if_neg no1]
        have hcs : cN mic mlb mnb0 (m + 1) = cN mic mlb mnb0 m + 1 := by rw [hcNs, if_neg qm, thr_1 qb]
        have r := ih f1 f2 (m + 1) cle1 cwr1 cby1 cto1 csh1 mro1 mit1 (upd mnk m (nI (E + cL mic mlb 64 + cN mic mlb mnb0 m))) mmd1 (by omega) ⟨w5, w6, w7, w8⟩ e3 (fun j hj => by
          by_cases e : j = m
          · subst e
            rw [pk_us, if_pos (show j < j + 1 ∧ ¬ ncv mic j = 0 ∧ ¬ FN mic mlb mnb0 j = 0 from ⟨by omega, qm, qb⟩)]
          · rw [pk_un e, hnk j hj]
            by_cases e2 : j < m ∧ ¬ ncv mic j = 0 ∧ ¬ FN mic mlb mnb0 j = 0
            · rw [if_pos e2, if_pos (show j < m + 1 ∧ ¬ ncv mic j = 0 ∧ ¬ FN mic mlb mnb0 j = 0 from ⟨by omega, e2.2⟩)]
            · rw [if_neg e2, if_neg (fun z => e2 ⟨by omega, z.2⟩)])
        rw [hcs, show E + cL mic mlb 64 + (cN mic mlb mnb0 m + 1) = E + cL mic mlb 64 + cN mic mlb mnb0 m + 1 by omega, show 64 + (m + 1) = 64 + m + 1 by omega] at r
        rw [t1]
        rcases r with ⟨cle', cwr', cby', cto', csh', mro', mit', mnk', mmd', r1, r2, r3, r4, r5⟩ | ⟨cle', cwr', cby', cto', csh', nx', mro', mit', mnk', mmd', r1, r2, r3, r4, r5⟩
        · exact Or.inl ⟨cle', cwr', cby', cto', csh', mro', mit', mnk', mmd', r1, fun o => t2 (r2 o), r3, fun o => ⟨fun z => absurd z c, fun _ => ⟨fun z => absurd z no1, fun _ => ⟨n2, fun z => absurd z qm, fun _ => ⟨w, fun z => absurd z qb, fun _ => ⟨w4, fun z => absurd z no1, fun _ => r4 o⟩⟩⟩⟩⟩, r5⟩
        · exact Or.inr ⟨cle', cwr', cby', cto', csh', nx', mro', mit', mnk', mmd', r1, t2 r2, r3, ⟨fun z => absurd z c, fun _ => ⟨fun z => absurd z no1, fun _ => ⟨n2, fun z => absurd z qm, fun _ => ⟨w, fun z => absurd z qb, fun _ => ⟨w4, fun z => absurd z no1, fun _ => r4⟩⟩⟩⟩⟩, r5⟩
      · subst e1 e2
        obtain ⟨t1, t2⟩ := s1 rfl
        simp only [if_true]
        have k := fun (x3 : Int32) (mnk mmd : Nat → Int32) => @cut62 (f2 + d) x1 x3 (nI N) mst men mnw 1 cle1 cwr1 mrs mtb mrc (nI (E + cL mic mlb 64 + cN mic mlb mnb0 m + 1)) mro1 mit1 mve mrb mic mlb mrw mnb mlk mnk mmd
        rw [show f2 + d + 1 = f2 + 1 + d by omega] at k
        exact Or.inr ⟨cle1, cwr1, cby1, cto1, csh1, _, mro1, mit1, _, mmd1, t1, t2, (k _ _ _).1, ⟨fun z => absurd z c, fun _ => ⟨fun z => absurd z no1, fun _ => ⟨n2, fun z => absurd z qm, fun _ => ⟨w, fun z => absurd z qb, fun _ => ⟨w4, fun _ => (k _ _ _).2, fun z => (z trivial).elim⟩⟩⟩⟩⟩, w5, w6, w7, w8⟩
