/-! the writing loops, step by step -/
theorem wt_stop {nb nt f : Nat} {ver cfa cle cwr csl : Int32} {cby cto csh cma cbi ces cbl : Nat → Int32} : f_PG_writeTree_2 (f + 1) ver (nI 73) cfa cle cwr csl cby cto csh cma cbi ces cbl = (1, cfa, cle, cwr, cby, cto, csh) ∧ ok_PG_writeTree_2 nb nt (f + 1) ver (nI 73) cfa cle cwr csl cby cto csh cma cbi ces cbl := by
  have c : (73 : Int32) ≤ nI 73 := by decide
  rw [f_PG_writeTree_2, ok_PG_writeTree_2]
  rw [if_pos c]
  exact ⟨rfl, fun _ => trivial, fun z => absurd c z⟩
theorem wt_skip {nb nt f p : Nat} (hp : p < 73) {ver cfa cle cwr csl : Int32} {cby cto csh cma cbi ces cbl : Nat → Int32} (h : cma p = 0 ∨ cbi p = 0) : f_PG_writeTree_2 (f + 1) ver (nI p) cfa cle cwr csl cby cto csh cma cbi ces cbl = f_PG_writeTree_2 f ver (nI (p + 1)) cfa cle cwr csl cby cto csh cma cbi ces cbl ∧ (ok_PG_writeTree_2 nb nt f ver (nI (p + 1)) cfa cle cwr csl cby cto csh cma cbi ces cbl → ok_PG_writeTree_2 nb nt (f + 1) ver (nI p) cfa cle cwr csl cby cto csh cma cbi ces cbl) := by
  have c : ¬ (73 : Int32) ≤ nI p := nI_ge (a := p) (b := 73) (by omega) (by omega)
  have w : vp_in (nI p) 73 := vp_in_nI hp (by omega)
  rw [f_PG_writeTree_2, ok_PG_writeTree_2]
  simp only [if_neg c, nI_clamp (show p < 2 ^ 31 by omega), nI_1]
  by_cases q : cma p = 0
  · simp only [if_pos q]
    exact ⟨trivial, fun o => ⟨fun z => absurd z c, fun _ => ⟨w, fun _ => o, fun z => absurd q z⟩⟩⟩
  · have q2 : cbi p = 0 := h.resolve_left q
    simp only [if_neg q, if_pos q2]
    exact ⟨trivial, fun o => ⟨fun z => absurd z c, fun _ => ⟨w, fun z => absurd z q, fun _ => ⟨w, fun _ => o, fun z => absurd q2 z⟩⟩⟩⟩
theorem wt_go {nb nt f p o : Nat} (hp : p < 73) (ho : o = p * 8) {ver cfa cle cwr csl x cfa' cle' cwr' : Int32} {cby cto csh cma cbi ces cbl cby' cto' csh' : Nat → Int32} (h1 : ¬ cma p = 0) (h2 : ¬ cbi p = 0) (hw : f_RL_write (cbl p) (knd p) (cbi p) ver (nI o) cfa cle cwr csl cby cto csh ces = (x, cfa', cle', cwr', cby', cto', csh')) (ow : ok_RL_write nb nt (cbl p) (knd p) (cbi p) ver (nI o) cfa cle cwr csl cby cto csh ces) :
    (x = 0 → f_PG_writeTree_2 (f + 1) ver (nI p) cfa cle cwr csl cby cto csh cma cbi ces cbl = (0, cfa', cle', cwr', cby', cto', csh') ∧ ok_PG_writeTree_2 nb nt (f + 1) ver (nI p) cfa cle cwr csl cby cto csh cma cbi ces cbl) ∧
    (x = 1 → f_PG_writeTree_2 (f + 1) ver (nI p) cfa cle cwr csl cby cto csh cma cbi ces cbl = f_PG_writeTree_2 f ver (nI (p + 1)) cfa' cle' cwr' csl cby' cto' csh' cma cbi ces cbl ∧ (ok_PG_writeTree_2 nb nt f ver (nI (p + 1)) cfa' cle' cwr' csl cby' cto' csh' cma cbi ces cbl → ok_PG_writeTree_2 nb nt (f + 1) ver (nI p) cfa cle cwr csl cby cto csh cma cbi ces cbl)) := by
  subst ho
  have c : ¬ (73 : Int32) ≤ nI p := nI_ge (a := p) (b := 73) (by omega) (by omega)
  have w : vp_in (nI p) 73 := vp_in_nI hp (by omega)
  have e8 : nI p * (8 : Int32) = nI (p * 8) := pk_mul p 8
  have hk := pg_kind hp
  rw [f_PG_writeTree_2, ok_PG_writeTree_2]
  simp only [if_neg c, nI_clamp (show p < 2 ^ 31 by omega), nI_1, if_neg h1, if_neg h2, bindc_def, bindp_iff, hk, e8, hw]
  refine ⟨fun e => ?_, fun e => ?_⟩
  · subst e
    simp only [if_true]
    exact ⟨trivial, fun z => absurd z c, fun _ => ⟨w, fun z => absurd z h1, fun _ => ⟨w, fun z => absurd z h2, fun _ => ⟨w, w, ow, fun _ => trivial, fun z => (z trivial).elim⟩⟩⟩⟩
  · subst e
    simp only [if_neg no1]
    exact ⟨trivial, fun o => ⟨fun z => absurd z c, fun _ => ⟨w, fun z => absurd z h1, fun _ => ⟨w, fun z => absurd z h2, fun _ => ⟨w, w, ow, fun z => absurd z no1, fun _ => o⟩⟩⟩⟩⟩
theorem cut139 {x1 msl mst men mnw mdn mpw mwr mrs mtb mrc mnx : Int32} {mro mit mve mrb mic mlb mrw mnb mlk mnk mmd : Nat → Int32} : f_MO_writeAll_139 x1 msl mst men mnw mdn mpw mwr mrs mtb mrc mnx mro mit mve mrb mic mlb mrw mnb mlk mnk mmd = (-4, mst, men, mnw, mdn, mpw, mwr, mrs, mnx, mro, mit, mve, mrb, mlk, mnk, mmd) ∧ ok_MO_writeAll_139 x1 msl mst men mnw mdn mpw mwr mrs mtb mrc mnx mro mit mve mrb mic mlb mrw mnb mlk mnk mmd := by
  unfold f_MO_writeAll_139 ok_MO_writeAll_139 f_MO_writeAll_140 ok_MO_writeAll_140
  rw [if_pos rfl]
  exact ⟨rfl, fun _ => trivial, fun z => (z rfl).elim⟩
theorem cut109 {x1 msl mst men mnw mdn mpw mwr mrs mtb mrc mnx : Int32} {mro mit mve mrb mic mlb mrw mnb mlk mnk mmd : Nat → Int32} : f_MO_writeAll_109 x1 0 msl mst men mnw mdn mpw mwr mrs mtb mrc mnx mro mit mve mrb mic mlb mrw mnb mlk mnk mmd = (-4, mst, men, mnw, mdn, mpw, mwr, mrs, mnx, mro, mit, mve, mrb, mlk, mnk, mmd) ∧ ok_MO_writeAll_109 x1 0 msl mst men mnw mdn mpw mwr mrs mtb mrc mnx mro mit mve mrb mic mlb mrw mnb mlk mnk mmd := by
  unfold f_MO_writeAll_109 ok_MO_writeAll_109
  rw [if_pos rfl]
  exact ⟨cut139.1, fun _ => cut139.2, fun z => (z rfl).elim⟩
theorem cut62 {f : Nat} {x1 x3 msl mst men mnw mdn mpw mwr mrs mtb mrc mnx : Int32} {mro mit mve mrb mic mlb mrw mnb mlk mnk mmd : Nat → Int32} : f_MO_writeAll_62 (f + 1) x1 0 x3 msl mst men mnw mdn mpw mwr mrs mtb mrc mnx mro mit mve mrb mic mlb mrw mnb mlk mnk mmd = (-4, mst, men, mnw, mdn, mpw, mwr, mrs, mnx, mro, mit, mve, mrb, mlk, mnk, mmd) ∧ ok_MO_writeAll_62 (f + 1) x1 0 x3 msl mst men mnw mdn mpw mwr mrs mtb mrc mnx mro mit mve mrb mic mlb mrw mnb mlk mnk mmd := by
  rw [f_MO_writeAll_62, ok_MO_writeAll_62]
  refine ⟨?_, fun _ => cut109.2, fun _ => ⟨fun _ => cut109.2, fun z => (z rfl).elim⟩⟩
  by_cases c : (8 : Int32) ≤ x3
  · rw [if_pos c]; exact cut109.1
  · rw [if_neg c, if_pos rfl]; exact cut109.1
theorem cut60 {x1 msl mst men mnw mdn mpw mwr mrs mtb mrc mnx : Int32} {mro mit mve mrb mic mlb mrw mnb mlk mnk mmd : Nat → Int32} : f_MO_writeAll_60 x1 0 msl mst men mnw mdn mpw mwr mrs mtb mrc mnx mro mit mve mrb mic mlb mrw mnb mlk mnk mmd = (-4, mst, men, mnw, mdn, mpw, mwr, mrs, mnx, mro, mit, mve, mrb, mlk, mnk, mmd) ∧ ok_MO_writeAll_60 x1 0 msl mst men mnw mdn mpw mwr mrs mtb mrc mnx mro mit mve mrb mic mlb mrw mnb mlk mnk mmd := by
  have h := @cut62 1023 x1 0 msl mst men mnw mdn mpw mwr mrs mtb mrc mnx mro mit mve mrb mic mlb mrw mnb mlk mnk mmd
  have z : (1023 : Nat) + 1 = 1024 := rfl
  rw [z] at h
  unfold f_MO_writeAll_60 ok_MO_writeAll_60
  exact h
theorem cut12 {f : Nat} {x1 x3 msl mst men mnw mdn mpw mwr mrs mtb mrc mnx : Int32} {mro mit mve mrb mic mlb mrw mnb mlk mnk mmd : Nat → Int32} : f_MO_writeAll_12 (f + 1) x1 0 x3 msl mst men mnw mdn mpw mwr mrs mtb mrc mnx mro mit mve mrb mic mlb mrw mnb mlk mnk mmd = (-4, mst, men, mnw, mdn, mpw, mwr, mrs, mnx, mro, mit, mve, mrb, mlk, mnk, mmd) ∧ ok_MO_writeAll_12 (f + 1) x1 0 x3 msl mst men mnw mdn mpw mwr mrs mtb mrc mnx mro mit mve mrb mic mlb mrw mnb mlk mnk mmd := by
  rw [f_MO_writeAll_12, ok_MO_writeAll_12]
  refine ⟨?_, fun _ => cut60.2, fun _ => ⟨fun _ => cut60.2, fun z => (z rfl).elim⟩⟩
  by_cases c : (64 : Int32) ≤ x3
  · rw [if_pos c]; exact cut60.1
  · rw [if_neg c, if_pos rfl]; exact cut60.1
