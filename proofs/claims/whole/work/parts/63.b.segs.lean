/-! the leaves are written, on both sides -/
def WI (N : Nat) (cle : Int32) (cby cto csh mro mit : Nat → Int32) : Prop := IBy N cby mro ∧ ITo N cto mit ∧ ISh csh ∧ (cle = -1 ∨ 0 ≤ cle)
theorem wl_seg {N E : Nat} (h1 : 16 ≤ N) (h2 : N ≤ 200) (hE : E + 80 < 2 ^ 30) {mic mlb mrw cma cbi ces cbl : Nat → Int32} (hMK : ∀ l, l < 64 → (cma l = 0 ↔ mic l = 0)) (hW : ∀ l, l < 64 → ¬ mic l = 0 → cbi l = mlb l ∧ BY (mlb l) ∧ (¬ mlb l = 0 → cbl l = nI (E + cL mic mlb l)) ∧ ∀ k, k < 8 → ces (8 * l + k) = if bt (mlb l) k = 0 then 0 else mrw (8 * l + k)) (x1 mst men mnw mrs mtb mrc : Int32) (mve mrb mnb mnk mlk0 : Nat → Int32) :
    ∀ (d f1 f2 l : Nat) (cle cwr : Int32) (cby cto csh mro mit mlk mmd : Nat → Int32), l + d = 64 → WI N cle cby cto csh mro mit → ¬ cle = 0 → (∀ j, j < 64 → mlk j = if j < l ∧ ¬ mic j = 0 ∧ ¬ mlb j = 0 then nI (E + cL mic mlb j) else mlk0 j) →
    (∃ cle' cwr' cby' cto' csh' mro' mit' mlk' mmd', f_PG_writeTree_2 (f1 + d) (mnw + 1) (nI l) 0 cle cwr (nI N) cby cto csh cma cbi ces cbl = f_PG_writeTree_2 f1 (mnw + 1) (nI 64) 0 cle' cwr' (nI N) cby' cto' csh' cma cbi ces cbl ∧ (ok_PG_writeTree_2 (N * 64) N f1 (mnw + 1) (nI 64) 0 cle' cwr' (nI N) cby' cto' csh' cma cbi ces cbl → ok_PG_writeTree_2 (N * 64) N (f1 + d) (mnw + 1) (nI l) 0 cle cwr (nI N) cby cto csh cma cbi ces cbl) ∧
      f_MO_writeAll_12 (f2 + 1 + d) x1 1 (nI l) (nI N) mst men mnw 0 cle cwr mrs mtb mrc (nI (E + cL mic mlb l)) mro mit mve mrb mic mlb mrw mnb mlk mnk mmd = f_MO_writeAll_60 x1 1 (nI N) mst men mnw 0 cle' cwr' mrs mtb mrc (nI (E + cL mic mlb 64)) mro' mit' mve mrb mic mlb mrw mnb mlk' mnk mmd' ∧ (ok_MO_writeAll_60 x1 1 (nI N) mst men mnw 0 cle' cwr' mrs mtb mrc (nI (E + cL mic mlb 64)) mro' mit' mve mrb mic mlb mrw mnb mlk' mnk mmd' → ok_MO_writeAll_12 (f2 + 1 + d) x1 1 (nI l) (nI N) mst men mnw 0 cle cwr mrs mtb mrc (nI (E + cL mic mlb l)) mro mit mve mrb mic mlb mrw mnb mlk mnk mmd) ∧
      WI N cle' cby' cto' csh' mro' mit' ∧ ¬ cle' = 0 ∧ ∀ j, j < 64 → mlk' j = if ¬ mic j = 0 ∧ ¬ mlb j = 0 then nI (E + cL mic mlb j) else mlk0 j) ∨
    (∃ cle' cwr' cby' cto' csh' nx' mro' mit' mlk' mmd', f_PG_writeTree_2 (f1 + d) (mnw + 1) (nI l) 0 cle cwr (nI N) cby cto csh cma cbi ces cbl = (0, 1, cle', cwr', cby', cto', csh') ∧ ok_PG_writeTree_2 (N * 64) N (f1 + d) (mnw + 1) (nI l) 0 cle cwr (nI N) cby cto csh cma cbi ces cbl ∧
      f_MO_writeAll_12 (f2 + 1 + d) x1 1 (nI l) (nI N) mst men mnw 0 cle cwr mrs mtb mrc (nI (E + cL mic mlb l)) mro mit mve mrb mic mlb mrw mnb mlk mnk mmd = (-4, mst, men, mnw, 1, cle', cwr', mrs, nx', mro', mit', mve, mrb, mlk', mnk, mmd') ∧ ok_MO_writeAll_12 (f2 + 1 + d) x1 1 (nI l) (nI N) mst men mnw 0 cle cwr mrs mtb mrc (nI (E + cL mic mlb l)) mro mit mve mrb mic mlb mrw mnb mlk mnk mmd ∧ WI N cle' cby' cto' csh' mro' mit') := by
  intro d
  induction d with
  | zero =>
    intro f1 f2 l cle cwr cby cto csh mro mit mlk mmd hl hI hne hlk
    have e : l = 64 := by omega
    subst e
    have c : (64 : Int32) ≤ nI 64 := by decide
    refine Or.inl ⟨cle, cwr, cby, cto, csh, mro, mit, mlk, mmd, rfl, fun o => o, ?_, fun o => ?_, hI, hne, fun j hj => ?_⟩
    · rw [Nat.add_zero, f_MO_writeAll_12, if_pos c]
    · rw [Nat.add_zero, ok_MO_writeAll_12]
      exact ⟨fun _ => o, fun z => absurd c z⟩
    · rw [hlk j hj]
      by_cases q : ¬ mic j = 0 ∧ ¬ mlb j = 0
      · rw [if_pos q, if_pos (show j < 64 ∧ ¬ mic j = 0 ∧ ¬ mlb j = 0 from ⟨hj, q⟩)]
      · rw [if_neg q, if_neg (fun z => q z.2)]
  | succ d ih =>
    intro f1 f2 l cle cwr cby cto csh mro mit mlk mmd hl hI hne hlk
    have hl64 : l < 64 := by omega
    have c : ¬ (64 : Int32) ≤ nI l := nI_ge (a := l) (b := 64) (by omega) (by omega)
    have w : vp_in (nI l) 64 := vp_in_nI hl64 (by omega)
    have hcL := cL_le mic mlb l
    rw [show f1 + (d + 1) = (f1 + d) + 1 by omega, show f2 + 1 + (d + 1) = (f2 + 1 + d) + 1 by omega, f_MO_writeAll_12, ok_MO_writeAll_12]
    simp only [if_neg c, if_neg no1, nI_clamp (show l < 2 ^ 31 by omega), nI_1, bindc_def, bindp_iff]
    by_cases q : mic l = 0 ∨ mlb l = 0
    · -- nothing to write here
      have qc : cma l = 0 ∨ cbi l = 0 := by
        by_cases qm : mic l = 0
        · exact Or.inl ((hMK l hl64).mpr qm)
        · right; rw [(hW l hl64 qm).1]; exact q.resolve_left qm
      have hcs : cL mic mlb (l + 1) = cL mic mlb l := by
        rw [cL_s]
        by_cases qm : mic l = 0
        · rw [if_pos qm]; omega
        · rw [if_neg qm, thr_0 (q.resolve_left qm)]; omega
      obtain ⟨s1, s2⟩ := @wt_skip (N * 64) N (f1 + d) l (by omega) (mnw + 1) 0 cle cwr (nI N) cby cto csh cma cbi ces cbl qc
      have r := ih f1 f2 (l + 1) cle cwr cby cto csh mro mit mlk mmd (by omega) hI hne (fun j hj => by
        rw [hlk j hj]
        by_cases e : j < l ∧ ¬ mic j = 0 ∧ ¬ mlb j = 0
        · rw [if_pos e, if_pos (show j < l + 1 ∧ ¬ mic j = 0 ∧ ¬ mlb j = 0 from ⟨by omega, e.2⟩)]
        · rw [if_neg e, if_neg (fun z => e ⟨by
            rcases Nat.lt_or_ge j l with y | y
            · exact y
            · exfalso; have : j = l := by omega
              rw [this] at z
              rcases q with q | q
              · exact z.2.1 q
              · exact z.2.2 q, z.2⟩)])
      rw [hcs] at r
      rw [s1]
      have hif : ∀ (α : Type) (a b : α), (if mic l = 0 then a else if mlb l = 0 then a else b) = a := by
        intro α a b
        by_cases qm : mic l = 0
        · rw [if_pos qm]
        · rw [if_neg qm, if_pos (q.resolve_left qm)]
      rw [hif]
      rcases r with ⟨cle', cwr', cby', cto', csh', mro', mit', mlk', mmd', r1, r2, r3, r4, r5⟩ | ⟨cle', cwr', cby', cto', csh', nx', mro', mit', mlk', mmd', r1, r2, r3, r4, r5⟩
      · exact Or.inl ⟨cle', cwr', cby', cto', csh', mro', mit', mlk', mmd', r1, fun o => s2 (r2 o), r3, fun o => ⟨fun z => absurd z c, fun _ => ⟨fun z => absurd z no1, fun _ => ⟨w, fun _ => r4 o, fun z1 => ⟨w, fun _ => r4 o, fun z2 => absurd q (fun y => y.elim z1 z2)⟩⟩⟩⟩, r5⟩
      · exact Or.inr ⟨cle', cwr', cby', cto', csh', nx', mro', mit', mlk', mmd', r1, s2 r2, r3, ⟨fun z => absurd z c, fun _ => ⟨fun z => absurd z no1, fun _ => ⟨w, fun _ => r4, fun z1 => ⟨w, fun _ => r4, fun z2 => absurd q (fun y => y.elim z1 z2)⟩⟩⟩⟩, r5⟩
    · have qm : ¬ mic l = 0 := fun z => q (Or.inl z)
      have qb : ¬ mlb l = 0 := fun z => q (Or.inr z)
      obtain ⟨a1, a2, a3, a4⟩ := hW l hl64 qm
      obtain ⟨i1, i2, i3, i4⟩ := hI
      have qcm : ¬ cma l = 0 := fun z => qm ((hMK l hl64).mp z)
      have qcb : ¬ cbi l = 0 := by rw [a1]; exact qb
      obtain ⟨x, cfa1, cle1, cwr1, cby1, cto1, csh1, mro1, mit1, mmd1, w1, w2, w3, w4, w5, w6, w7, w8, w9⟩ := wLeaf_agree (b := E + cL mic mlb l) h1 h2 (by omega) hl64 (cle := cle) (cwr := cwr) (mnw := mnw) (mlk := mlk) (mmd := mmd) a2 a4 i1 i2 i3 i4 hne
      have hk1 : knd l = 1 := by unfold knd; rw [if_neg (by omega), if_neg (by omega)]
      have w1' : f_RL_write (cbl l) (knd l) (cbi l) (mnw + 1) (nI (8 * l)) 0 cle cwr (nI N) cby cto csh ces = (x, cfa1, cle1, cwr1, cby1, cto1, csh1) := by rw [a3 qb, a1, hk1]; exact w1
      have w2' : ok_RL_write (N * 64) N (cbl l) (knd l) (cbi l) (mnw + 1) (nI (8 * l)) 0 cle cwr (nI N) cby cto csh ces := by rw [a3 qb, a1, hk1]; exact w2
      obtain ⟨s1, s2⟩ := @wt_go (N * 64) N (f1 + d) l (8 * l) (by omega) (by omega) (mnw + 1) 0 cle cwr (nI N) x cfa1 cle1 cwr1 cby cto csh cma cbi ces cbl cby1 cto1 csh1 qcm qcb w1' w2'
      simp only [if_neg qm, if_neg qb, w3]
      rcases w9 with ⟨e1, e2, e3⟩ | ⟨e1, e2⟩
      · subst e1 e2
        obtain ⟨t1, t2⟩ := s2 rfl
        simp only [if_neg no1]
        have hcs : cL mic mlb (l + 1) = cL mic mlb l + 1 := by rw [cL_s, if_neg qm, thr_1 qb]
        have r := ih f1 f2 (l + 1) cle1 cwr1 cby1 cto1 csh1 mro1 mit1 (upd mlk l (nI (E + cL mic mlb l))) mmd1 (by omega) ⟨w5, w6, w7, w8⟩ e3 (fun j hj => by
          by_cases e : j = l
          · subst e
            rw [pk_us, if_pos (show j < j + 1 ∧ ¬ mic j = 0 ∧ ¬ mlb j = 0 from ⟨by omega, qm, qb⟩)]
          · rw [pk_un e, hlk j hj]
            by_cases e2 : j < l ∧ ¬ mic j = 0 ∧ ¬ mlb j = 0
            · rw [if_pos e2, if_pos (show j < l + 1 ∧ ¬ mic j = 0 ∧ ¬ mlb j = 0 from ⟨by omega, e2.2⟩)]
            · rw [if_neg e2, if_neg (fun z => e2 ⟨by omega, z.2⟩)])
        rw [hcs, show E + (cL mic mlb l + 1) = E + cL mic mlb l + 1 by omega] at r
        rw [t1]
        rcases r with ⟨cle', cwr', cby', cto', csh', mro', mit', mlk', mmd', r1, r2, r3, r4, r5⟩ | ⟨cle', cwr', cby', cto', csh', nx', mro', mit', mlk', mmd', r1, r2, r3, r4, r5⟩
        · exact Or.inl ⟨cle', cwr', cby', cto', csh', mro', mit', mlk', mmd', r1, fun o => t2 (r2 o), r3, fun o => ⟨fun z => absurd z c, fun _ => ⟨fun z => absurd z no1, fun _ => ⟨w, fun z => absurd z qm, fun _ => ⟨w, fun z => absurd z qb, fun _ => ⟨w4, fun z => absurd z no1, fun _ => r4 o⟩⟩⟩⟩⟩, r5⟩
        · exact Or.inr ⟨cle', cwr', cby', cto', csh', nx', mro', mit', mlk', mmd', r1, t2 r2, r3, ⟨fun z => absurd z c, fun _ => ⟨fun z => absurd z no1, fun _ => ⟨w, fun z => absurd z qm, fun _ => ⟨w, fun z => absurd z qb, fun _ => ⟨w4, fun z => absurd z no1, fun _ => r4⟩⟩⟩⟩⟩, r5⟩
      · subst e1 e2
        obtain ⟨t1, t2⟩ := s1 rfl
        simp only [if_true]
        have k := fun (x3 : Int32) (mlk mmd : Nat → Int32) => @cut12 (f2 + d) x1 x3 (nI N) mst men mnw 1 cle1 cwr1 mrs mtb mrc (nI (E + cL mic mlb l + 1)) mro1 mit1 mve mrb mic mlb mrw mnb mlk mnk mmd
        rw [show f2 + d + 1 = f2 + 1 + d by omega] at k
        exact Or.inr ⟨cle1, cwr1, cby1, cto1, csh1, _, mro1, mit1, _, mmd1, t1, t2, (k _ _ _).1, ⟨fun z => absurd z c, fun _ => ⟨fun z => absurd z no1, fun _ => ⟨w, fun z => absurd z qm, fun _ => ⟨w, fun z => absurd z qb, fun _ => ⟨w4, fun _ => (k _ _ _).2, fun z => (z trivial).elim⟩⟩⟩⟩⟩, w5, w6, w7, w8⟩
