/-! top and root are written, and so all -/
theorem top_seg {N B f : Nat} (h1 : 16 ≤ N) (h2 : N ≤ 200) (hB : B < 2 ^ 30) {cma cbi ces cbl : Nat → Int32} {mtb : Int32} (h72 : ¬ cma 72 = 0) (hbi : cbi 72 = mtb) (hby : BY mtb) (hbl : cbl 72 = if mtb = 0 then 0 else nI B) {mnk : Nat → Int32} (hent : ∀ k, k < 8 → ces (576 + k) = if bt mtb k = 0 then 0 else mnk k) (x1 mst men mnw mrs mrc : Int32) (mve mrb mic mlb mrw mnb mlk : Nat → Int32) {cle cwr : Int32} {cby cto csh mro mit mmd : Nat → Int32} (hI : WI N cle cby cto csh mro mit) (hne : ¬ cle = 0) :
    (∃ cle' cwr' cby' cto' csh' mro' mit' mmd', f_PG_writeTree_2 (f + 2) (mnw + 1) (nI 72) 0 cle cwr (nI N) cby cto csh cma cbi ces cbl = (1, 0, cle', cwr', cby', cto', csh') ∧ ok_PG_writeTree_2 (N * 64) N (f + 2) (mnw + 1) (nI 72) 0 cle cwr (nI N) cby cto csh cma cbi ces cbl ∧
      f_MO_writeAll_109 x1 1 (nI N) mst men mnw 0 cle cwr mrs mtb mrc (nI B) mro mit mve mrb mic mlb mrw mnb mlk mnk mmd = f_MO_writeAll_127 x1 (nI N) mst men mnw 0 cle' cwr' mrs mtb mrc (nI (B + thr mtb)) mro' mit' mve mrb mic mlb mrw mnb mlk mnk mmd' ∧ (ok_MO_writeAll_127 x1 (nI N) mst men mnw 0 cle' cwr' mrs mtb mrc (nI (B + thr mtb)) mro' mit' mve mrb mic mlb mrw mnb mlk mnk mmd' → ok_MO_writeAll_109 x1 1 (nI N) mst men mnw 0 cle cwr mrs mtb mrc (nI B) mro mit mve mrb mic mlb mrw mnb mlk mnk mmd) ∧ WI N cle' cby' cto' csh' mro' mit' ∧ ¬ cle' = 0) ∨
    (∃ cle' cwr' cby' cto' csh' nx' mro' mit' mmd', f_PG_writeTree_2 (f + 2) (mnw + 1) (nI 72) 0 cle cwr (nI N) cby cto csh cma cbi ces cbl = (0, 1, cle', cwr', cby', cto', csh') ∧ ok_PG_writeTree_2 (N * 64) N (f + 2) (mnw + 1) (nI 72) 0 cle cwr (nI N) cby cto csh cma cbi ces cbl ∧
      f_MO_writeAll_109 x1 1 (nI N) mst men mnw 0 cle cwr mrs mtb mrc (nI B) mro mit mve mrb mic mlb mrw mnb mlk mnk mmd = (-4, mst, men, mnw, 1, cle', cwr', mrs, nx', mro', mit', mve, mrb, mlk, mnk, mmd') ∧ ok_MO_writeAll_109 x1 1 (nI N) mst men mnw 0 cle cwr mrs mtb mrc (nI B) mro mit mve mrb mic mlb mrw mnb mlk mnk mmd ∧ WI N cle' cby' cto' csh' mro' mit') := by
  unfold f_MO_writeAll_109 ok_MO_writeAll_109
  simp only [if_neg no1, bindc_def, bindp_iff]
  rw [show f + 2 = (f + 1) + 1 by omega]
  by_cases q : mtb = 0
  · obtain ⟨s1, s2⟩ := @wt_skip (N * 64) N (f + 1) 72 (by omega) (mnw + 1) 0 cle cwr (nI N) cby cto csh cma cbi ces cbl (Or.inr (by rw [hbi]; exact q))
    obtain ⟨t1, t2⟩ := @wt_stop (N * 64) N f (mnw + 1) 0 cle cwr (nI N) cby cto csh cma cbi ces cbl
    simp only [if_pos q]
    refine Or.inl ⟨cle, cwr, cby, cto, csh, mro, mit, mmd, s1.trans t1, s2 t2, ?_, fun o => ⟨fun z => absurd z no1, fun _ => ⟨fun _ => ?_, fun z => absurd q z⟩⟩, hI, hne⟩
    · rw [thr_0 q, Nat.add_zero]
    · rw [thr_0 q, Nat.add_zero] at o; exact o
  · obtain ⟨i1, i2, i3, i4⟩ := hI
    rw [if_neg q] at hbl
    obtain ⟨x, cfa1, cle1, cwr1, cby1, cto1, csh1, mro1, mit1, mmd1, w1, w2, w3, w4, w5, w6, w7, w8, w9⟩ := wTop_agree (b := B) h1 h2 hB (cle := cle) (cwr := cwr) (mnw := mnw) (mnk := mnk) (mmd := mmd) (ces := ces) hby hent i1 i2 i3 i4 hne
    have w1' : f_RL_write (cbl 72) (knd 72) (cbi 72) (mnw + 1) (nI 576) 0 cle cwr (nI N) cby cto csh ces = (x, cfa1, cle1, cwr1, cby1, cto1, csh1) := by rw [hbl, hbi]; exact w1
    have w2' : ok_RL_write (N * 64) N (cbl 72) (knd 72) (cbi 72) (mnw + 1) (nI 576) 0 cle cwr (nI N) cby cto csh ces := by rw [hbl, hbi]; exact w2
    obtain ⟨s1, s2⟩ := @wt_go (N * 64) N (f + 1) 72 576 (by omega) (by omega) (mnw + 1) 0 cle cwr (nI N) x cfa1 cle1 cwr1 cby cto csh cma cbi ces cbl cby1 cto1 csh1 h72 (by rw [hbi]; exact q) w1' w2'
    simp only [if_neg q, w3]
    rcases w9 with ⟨e1, e2, e3⟩ | ⟨e1, e2⟩
    · subst e1 e2
      obtain ⟨t1, t2⟩ := s2 rfl
      obtain ⟨u1, u2⟩ := @wt_stop (N * 64) N f (mnw + 1) 0 cle1 cwr1 (nI N) cby1 cto1 csh1 cma cbi ces cbl
      simp only [if_neg no1]
      refine Or.inl ⟨cle1, cwr1, cby1, cto1, csh1, mro1, mit1, mmd1, t1.trans u1, t2 u2, ?_, fun o => ⟨fun z => absurd z no1, fun _ => ⟨fun z => absurd z q, fun _ => ⟨w4, fun z => absurd z no1, fun _ => ?_⟩⟩⟩, ⟨w5, w6, w7, w8⟩, e3⟩
      · rw [thr_1 q]
      · rw [thr_1 q] at o; exact o
    · subst e1 e2
      obtain ⟨t1, t2⟩ := s1 rfl
      simp only [if_true]
      exact Or.inr ⟨cle1, cwr1, cby1, cto1, csh1, _, mro1, mit1, mmd1, t1, t2, cut139.1, ⟨fun z => absurd z no1, fun _ => ⟨fun z => absurd z q, fun _ => ⟨w4, fun _ => cut139.2, fun z => (z trivial).elim⟩⟩⟩, w5, w6, w7, w8⟩
theorem root_seg {N R : Nat} (h1 : 16 ≤ N) (h2 : N ≤ 200) (hR : R < 2 ^ 30) {cbi cbl crt : Nat → Int32} {mtb : Int32} (hbi : cbi 72 = mtb) (hbl : cbl 72 = if mtb = 0 then 0 else nI R - 1) (hRt : IRt crt) (st mst men mnw mrs rc : Int32) (mve mrb mic mlb mrw mnb mlk mnk : Nat → Int32) {cle cwr : Int32} {cby cto csh mro mit mmd : Nat → Int32} (hI : WI N cle cby cto csh mro mit) (hne : ¬ cle = 0) :
    (∃ cle' cwr' cby' cto' csh' crt' mro' mit' mmd', f_PG_writeRoot (mnw + 1) (nI R) st 0 cle cwr (nI N) cby cto csh rc cbi cbl crt = (1, 0, cle', cwr', cby', cto', csh', crt') ∧ ok_PG_writeRoot (N * 64) N (mnw + 1) (nI R) st 0 cle cwr (nI N) cby cto csh rc cbi cbl crt ∧
      f_MO_writeAll_127 st (nI N) mst men mnw 0 cle cwr mrs mtb rc (nI R) mro mit mve mrb mic mlb mrw mnb mlk mnk mmd = f_MO_writeAll_176 1024 0 0 (nI N) st (nI (R + 1)) (mnw + 1) 0 cle' cwr' mrs mtb rc (nI (R + 1)) mro' mit' mve mrb mic mlb mrw mnb mlk mnk mmd' ∧ (ok_MO_writeAll_176 1024 0 0 (nI N) st (nI (R + 1)) (mnw + 1) 0 cle' cwr' mrs mtb rc (nI (R + 1)) mro' mit' mve mrb mic mlb mrw mnb mlk mnk mmd' → ok_MO_writeAll_127 st (nI N) mst men mnw 0 cle cwr mrs mtb rc (nI R) mro mit mve mrb mic mlb mrw mnb mlk mnk mmd) ∧ WI N cle' cby' cto' csh' mro' mit' ∧ IRt crt' ∧ ¬ cle' = 0) ∨
    (∃ cle' cwr' cby' cto' csh' crt' nx' mro' mit' mmd', f_PG_writeRoot (mnw + 1) (nI R) st 0 cle cwr (nI N) cby cto csh rc cbi cbl crt = (0, 1, cle', cwr', cby', cto', csh', crt') ∧ ok_PG_writeRoot (N * 64) N (mnw + 1) (nI R) st 0 cle cwr (nI N) cby cto csh rc cbi cbl crt ∧
      f_MO_writeAll_127 st (nI N) mst men mnw 0 cle cwr mrs mtb rc (nI R) mro mit mve mrb mic mlb mrw mnb mlk mnk mmd = (-4, mst, men, mnw, 1, cle', cwr', mrs, nx', mro', mit', mve, mrb, mlk, mnk, mmd') ∧ ok_MO_writeAll_127 st (nI N) mst men mnw 0 cle cwr mrs mtb rc (nI R) mro mit mve mrb mic mlb mrw mnb mlk mnk mmd ∧ WI N cle' cby' cto' csh' mro' mit' ∧ IRt crt') := by
  obtain ⟨i1, i2, i3, i4⟩ := hI
  obtain ⟨x, cfa1, cle1, cwr1, cby1, cto1, csh1, crt1, mro1, mit1, mmd1, w1, w2, w3, w4, w5, w6, w7, w8, w9, w10⟩ := wRoot_agree (b := R) h1 h2 hR (cle := cle) (cwr := cwr) (mnw := mnw) (rc := rc) (st := st) (mmd := mmd) hbi hbl hRt i1 i2 i3 i4 hne
  unfold f_MO_writeAll_127 ok_MO_writeAll_127
  simp only [bindc_def, bindp_iff, w3]
  rcases w10 with ⟨e1, e2, e3⟩ | ⟨e1, e2⟩
  · subst e1 e2
    simp only [if_neg no1]
    refine Or.inl ⟨cle1, cwr1, cby1, cto1, csh1, crt1, mro1, mit1, mmd1, w1, w2, ?_, fun o => ⟨w4, fun z => absurd z no1, fun _ => ?_⟩, ⟨w5, w6, w7, w9⟩, w8, e3⟩
    · unfold f_MO_writeAll_140; rw [if_neg no1]
    · unfold ok_MO_writeAll_140; exact ⟨fun _ => trivial, fun _ => o⟩
  · subst e1 e2
    simp only [if_true]
    exact Or.inr ⟨cle1, cwr1, cby1, cto1, csh1, crt1, _, mro1, mit1, mmd1, w1, w2, cut139.1, ⟨w4, fun _ => cut139.2, fun z => (z trivial).elim⟩, ⟨w5, w6, w7, w9⟩, w8⟩
