/-! a version is appended, on both sides -/
theorem app_agree {N E : Nat} (h1 : 16 ≤ N) (h2 : N ≤ 200) (hE : E + 80 < 2 ^ 30) {mic mlb mrw mnb0 mnb mlk0 mnk0 cma cbi ces cbl crt : Nat → Int32} {mtb0 : Int32} (hMK : MK cma mic) (hWT : WT E mic mlb mnb0 mtb0 mrw mlk0 mnk0 cbi ces cbl) (hnb : ∀ m, m < 8 → mnb m = FN mic mlb mnb0 m) (hRt : IRt crt) (x1 st cst cen css mst mnw mrs rc mnx : Int32) (cve cro mve mrb : Nat → Int32) {cle cwr : Int32} {cby cto csh mro mit mmd : Nat → Int32} (hI : WI N cle cby cto csh mro mit) (hne : ¬ cle = 0) {R : Nat} (hR : R = E + cL mic mlb 64 + cN mic mlb mnb0 8 + thr (FTp mic mlb mnb0 mtb0)) :
    (∃ cle' cwr' cby' cto' csh' crt' mro' mit' mlk' mnk' mmd', (∀ z, f_SH_add (mnw + 1) (nI R) (if x1 = 0 then css else 0) cve cro = z → f_BT_appendVersion_61 x1 (nI R) (mnw + 1) st 0 cle cwr (nI N) cst cen cby cto csh css cve cro rc cma cbi ces cbl crt = (mnw + 1, 0, cle', cwr', st, nI (R + 1), cby', cto', csh', z.1, z.2.1, z.2.2, cbi, ces, cbl, crt')) ∧ (ok_SH_add (N * 64) N (mnw + 1) (nI R) (if x1 = 0 then css else 0) cve cro → ok_BT_appendVersion_61 (N * 64) N x1 (nI R) (mnw + 1) st 0 cle cwr (nI N) cst cen cby cto csh css cve cro rc cma cbi ces cbl crt) ∧
      f_MO_writeAll st (nI N) mst (nI E) mnw 0 cle cwr mrs (FTp mic mlb mnb0 mtb0) rc mnx mro mit mve mrb mic mlb mrw mnb mlk0 mnk0 mmd = f_MO_writeAll_176 1024 0 0 (nI N) st (nI (R + 1)) (mnw + 1) 0 cle' cwr' mrs (FTp mic mlb mnb0 mtb0) rc (nI (R + 1)) mro' mit' mve mrb mic mlb mrw mnb mlk' mnk' mmd' ∧ (ok_MO_writeAll_176 1024 0 0 (nI N) st (nI (R + 1)) (mnw + 1) 0 cle' cwr' mrs (FTp mic mlb mnb0 mtb0) rc (nI (R + 1)) mro' mit' mve mrb mic mlb mrw mnb mlk' mnk' mmd' → ok_MO_writeAll st (nI N) mst (nI E) mnw 0 cle cwr mrs (FTp mic mlb mnb0 mtb0) rc mnx mro mit mve mrb mic mlb mrw mnb mlk0 mnk0 mmd) ∧ WI N cle' cby' cto' csh' mro' mit' ∧ IRt crt' ∧ ¬ cle' = 0) ∨
    (∃ cle' cwr' cby' cto' csh' crt' nx' mro' mit' mlk' mnk' mmd', f_BT_appendVersion_61 x1 (nI R) (mnw + 1) st 0 cle cwr (nI N) cst cen cby cto csh css cve cro rc cma cbi ces cbl crt = (-4, 1, cle', cwr', cst, cen, cby', cto', csh', css, cve, cro, cbi, ces, cbl, crt') ∧ ok_BT_appendVersion_61 (N * 64) N x1 (nI R) (mnw + 1) st 0 cle cwr (nI N) cst cen cby cto csh css cve cro rc cma cbi ces cbl crt ∧
      f_MO_writeAll st (nI N) mst (nI E) mnw 0 cle cwr mrs (FTp mic mlb mnb0 mtb0) rc mnx mro mit mve mrb mic mlb mrw mnb mlk0 mnk0 mmd = (-4, mst, nI E, mnw, 1, cle', cwr', mrs, nx', mro', mit', mve, mrb, mlk', mnk', mmd') ∧ ok_MO_writeAll st (nI N) mst (nI E) mnw 0 cle cwr mrs (FTp mic mlb mnb0 mtb0) rc mnx mro mit mve mrb mic mlb mrw mnb mlk0 mnk0 mmd ∧ WI N cle' cby' cto' csh' mro' mit' ∧ IRt crt') := by
  obtain ⟨k1, k2, k3⟩ := hMK
  obtain ⟨t1, t2, t3, t4, t5, t6⟩ := hWT
  have h64 := cL_le mic mlb 64
  have h8 := cN_le mic mlb mnb0 8
  have ht := thr_le (FTp mic mlb mnb0 mtb0)
  have hnc : ∀ m, m < 8 → (ncv mic m = 0 ↔ cma (64 + m) = 0) := fun m hm => by rw [(nc_of mic hm).2.2.2, k2 m hm]
  have z1 : nI (E + cL mic mlb 0) = nI E := rfl
  have z2 : nI (E + cL mic mlb 64 + cN mic mlb mnb0 0) = nI (E + cL mic mlb 64) := rfl
  have z3 : nI (64 + 0) = nI 64 := rfl
  have z4 : (960 : Nat) + 64 = 1024 := rfl
  have z5 : (952 : Nat) + 8 = 960 := rfl
  have z6 : (950 : Nat) + 2 = 952 := rfl
  have z7 : (959 : Nat) + 1 + 64 = 1024 := rfl
  have z8 : (1015 : Nat) + 1 + 8 = 1024 := rfl
  -- the unfolding of the class's end
  have cutT : ∀ cle' cwr' cby' cto' csh', f_PG_writeTree (mnw + 1) 0 cle cwr (nI N) cby cto csh cma cbi ces cbl = (0, 1, cle', cwr', cby', cto', csh') → ok_PG_writeTree (N * 64) N (mnw + 1) 0 cle cwr (nI N) cby cto csh cma cbi ces cbl → f_BT_appendVersion_61 x1 (nI R) (mnw + 1) st 0 cle cwr (nI N) cst cen cby cto csh css cve cro rc cma cbi ces cbl crt = (-4, 1, cle', cwr', cst, cen, cby', cto', csh', css, cve, cro, cbi, ces, cbl, crt) ∧ ok_BT_appendVersion_61 (N * 64) N x1 (nI R) (mnw + 1) st 0 cle cwr (nI N) cst cen cby cto csh css cve cro rc cma cbi ces cbl crt := by
    intro cle' cwr' cby' cto' csh' e o
    unfold f_BT_appendVersion_61 ok_BT_appendVersion_61
    simp only [bindc_def, bindp_iff, e, if_true]
    exact ⟨trivial, o, fun _ => trivial, fun z => (z trivial).elim⟩
  have okT : ∀ cle1 cwr1 cby1 cto1 csh1, f_PG_writeTree (mnw + 1) 0 cle cwr (nI N) cby cto csh cma cbi ces cbl = (1, 0, cle1, cwr1, cby1, cto1, csh1) → ok_PG_writeTree (N * 64) N (mnw + 1) 0 cle cwr (nI N) cby cto csh cma cbi ces cbl → ok_PG_writeRoot (N * 64) N (mnw + 1) (nI R) st 0 cle1 cwr1 (nI N) cby1 cto1 csh1 rc cbi cbl crt →
      (∀ cle' cwr' cby' cto' csh' crt', f_PG_writeRoot (mnw + 1) (nI R) st 0 cle1 cwr1 (nI N) cby1 cto1 csh1 rc cbi cbl crt = (0, 1, cle', cwr', cby', cto', csh', crt') → f_BT_appendVersion_61 x1 (nI R) (mnw + 1) st 0 cle cwr (nI N) cst cen cby cto csh css cve cro rc cma cbi ces cbl crt = (-4, 1, cle', cwr', cst, cen, cby', cto', csh', css, cve, cro, cbi, ces, cbl, crt') ∧ ok_BT_appendVersion_61 (N * 64) N x1 (nI R) (mnw + 1) st 0 cle cwr (nI N) cst cen cby cto csh css cve cro rc cma cbi ces cbl crt) ∧
      (∀ cle' cwr' cby' cto' csh' crt', f_PG_writeRoot (mnw + 1) (nI R) st 0 cle1 cwr1 (nI N) cby1 cto1 csh1 rc cbi cbl crt = (1, 0, cle', cwr', cby', cto', csh', crt') → (∀ z, f_SH_add (mnw + 1) (nI R) (if x1 = 0 then css else 0) cve cro = z → f_BT_appendVersion_61 x1 (nI R) (mnw + 1) st 0 cle cwr (nI N) cst cen cby cto csh css cve cro rc cma cbi ces cbl crt = (mnw + 1, 0, cle', cwr', st, nI (R + 1), cby', cto', csh', z.1, z.2.1, z.2.2, cbi, ces, cbl, crt')) ∧ (ok_SH_add (N * 64) N (mnw + 1) (nI R) (if x1 = 0 then css else 0) cve cro → ok_BT_appendVersion_61 (N * 64) N x1 (nI R) (mnw + 1) st 0 cle cwr (nI N) cst cen cby cto csh css cve cro rc cma cbi ces cbl crt)) := by
    intro cle1 cwr1 cby1 cto1 csh1 e o oR
    unfold f_BT_appendVersion_61 ok_BT_appendVersion_61
    simp only [bindc_def, bindp_iff, e, if_neg no1]
    refine ⟨fun cle' cwr' cby' cto' csh' crt' eR => ?_, fun cle' cwr' cby' cto' csh' crt' eR => ?_⟩
    · simp only [eR, if_true]
      exact ⟨trivial, o, fun z => absurd z no1, fun _ => ⟨oR, fun _ => trivial, fun z => (z trivial).elim⟩⟩
    · simp only [eR, if_neg no1, f_RL_use, f_SH_clear, nI_1]
      refine ⟨fun z hz => ?_, fun oA => ⟨o, fun z => absurd z no1, fun _ => ⟨oR, fun z => absurd z no1, fun _ => ⟨fun q => ?_, fun q => ?_⟩⟩⟩⟩
      · by_cases q : x1 = 0
        · rw [if_pos q] at hz ⊢; rw [hz]
        · rw [if_neg q] at hz ⊢; rw [hz]
      · rw [if_pos q] at oA; exact oA
      · rw [if_neg q] at oA; exact oA
  -- the loops
  have L := wl_seg h1 h2 hE (mrw := mrw) (ces := ces) (cbl := cbl) k1 t1 st mst (nI E) mnw mrs (FTp mic mlb mnb0 mtb0) rc mve mrb mnb mnk0 mlk0 64 960 959 0 cle cwr cby cto csh mro mit mlk0 mmd (by omega) hI hne (fun j hj => by rw [if_neg (fun z => absurd z.1 (by omega))])
  rw [z1, z4, nI_0] at L
  have eT : f_PG_writeTree (mnw + 1) 0 cle cwr (nI N) cby cto csh cma cbi ces cbl = f_PG_writeTree_2 1024 (mnw + 1) 0 0 cle cwr (nI N) cby cto csh cma cbi ces cbl := by unfold f_PG_writeTree; rfl
  have oT : ok_PG_writeTree_2 (N * 64) N 1024 (mnw + 1) 0 0 cle cwr (nI N) cby cto csh cma cbi ces cbl → ok_PG_writeTree (N * 64) N (mnw + 1) 0 cle cwr (nI N) cby cto csh cma cbi ces cbl := by unfold ok_PG_writeTree; exact fun o => o
  have eA : f_MO_writeAll st (nI N) mst (nI E) mnw 0 cle cwr mrs (FTp mic mlb mnb0 mtb0) rc mnx mro mit mve mrb mic mlb mrw mnb mlk0 mnk0 mmd = f_MO_writeAll_12 1024 st 1 0 (nI N) mst (nI E) mnw 0 cle cwr mrs (FTp mic mlb mnb0 mtb0) rc (nI E) mro mit mve mrb mic mlb mrw mnb mlk0 mnk0 mmd := by unfold f_MO_writeAll; rfl
  have oA : ok_MO_writeAll_12 1024 st 1 0 (nI N) mst (nI E) mnw 0 cle cwr mrs (FTp mic mlb mnb0 mtb0) rc (nI E) mro mit mve mrb mic mlb mrw mnb mlk0 mnk0 mmd → ok_MO_writeAll st (nI N) mst (nI E) mnw 0 cle cwr mrs (FTp mic mlb mnb0 mtb0) rc mnx mro mit mve mrb mic mlb mrw mnb mlk0 mnk0 mmd := by unfold ok_MO_writeAll; exact fun o => o
  rcases L with ⟨cleL, cwrL, cbyL, ctoL, cshL, mroL, mitL, mlkL, mmdL, L1, L2, L3, L4, L5, L6, L7⟩ | ⟨cle', cwr', cby', cto', csh', nx', mro', mit', mlk', mmd', L1, L2, L3, L4, L5⟩
  · have Nn := wn_seg h1 h2 hE (mrw := mrw) (mnb := mnb) (mlk := mlkL) (ces := ces) (cbl := cbl) hnc hnb (fun m hm hc => by
      obtain ⟨f1, f2, f3, f4⟩ := t2 m hm hc
      refine ⟨f1, f2, f3, fun k hk => ?_⟩
      rw [show 512 + 8 * m + k = 512 + (8 * m + k) by omega, f4 k hk, L7 (8 * m + k) (by omega)]) st mst (nI E) mnw mrs (FTp mic mlb mnb0 mtb0) rc mve mrb mnk0 8 952 1015 0 cleL cwrL cbyL ctoL cshL mroL mitL mnk0 mmdL (by omega) L5 L6 (fun j hj => by rw [if_neg (fun z => absurd z.1 (by omega))])
    rw [z2, z3, z5, z8, nI_0] at Nn
    have e60 : f_MO_writeAll_60 st 1 (nI N) mst (nI E) mnw 0 cleL cwrL mrs (FTp mic mlb mnb0 mtb0) rc (nI (E + cL mic mlb 64)) mroL mitL mve mrb mic mlb mrw mnb mlkL mnk0 mmdL = f_MO_writeAll_62 1024 st 1 0 (nI N) mst (nI E) mnw 0 cleL cwrL mrs (FTp mic mlb mnb0 mtb0) rc (nI (E + cL mic mlb 64)) mroL mitL mve mrb mic mlb mrw mnb mlkL mnk0 mmdL := by unfold f_MO_writeAll_60; rfl
    have o60 : ok_MO_writeAll_62 1024 st 1 0 (nI N) mst (nI E) mnw 0 cleL cwrL mrs (FTp mic mlb mnb0 mtb0) rc (nI (E + cL mic mlb 64)) mroL mitL mve mrb mic mlb mrw mnb mlkL mnk0 mmdL → ok_MO_writeAll_60 st 1 (nI N) mst (nI E) mnw 0 cleL cwrL mrs (FTp mic mlb mnb0 mtb0) rc (nI (E + cL mic mlb 64)) mroL mitL mve mrb mic mlb mrw mnb mlkL mnk0 mmdL := by unfold ok_MO_writeAll_60; exact fun o => o
    rcases Nn with ⟨cleN, cwrN, cbyN, ctoN, cshN, mroN, mitN, mnkN, mmdN, N1, N2, N3, N4, N5, N6, N7⟩ | ⟨cle', cwr', cby', cto', csh', nx', mro', mit', mnk', mmd', N1, N2, N3, N4, N5⟩
    · have T := top_seg (f := 950) (B := E + cL mic mlb 64 + cN mic mlb mnb0 8) h1 h2 (by omega) (ces := ces) (mnk := mnkN) k3 t3 t4 t5 (fun m hm => by rw [t6 m hm, N7 m hm]) st mst (nI E) mnw mrs rc mve mrb mic mlb mrw mnb mlkL (mmd := mmdN) (cwr := cwrN) N5 N6
      rw [z6] at T
      rcases T with ⟨cleT, cwrT, cbyT, ctoT, cshT, mroT, mitT, mmdT, T1, T2, T3, T4, T5, T6⟩ | ⟨cle', cwr', cby', cto', csh', nx', mro', mit', mmd', T1, T2, T3, T4, T5⟩
      · have tree : f_PG_writeTree (mnw + 1) 0 cle cwr (nI N) cby cto csh cma cbi ces cbl = (1, 0, cleT, cwrT, cbyT, ctoT, cshT) := eT.trans (L1.trans (N1.trans T1))
        have treeO := oT (L2 (N2 T2))
        rw [← hR] at T3 T4
        have hbl : cbl 72 = if FTp mic mlb mnb0 mtb0 = 0 then 0 else nI R - 1 := by
          rw [t5]
          by_cases q : FTp mic mlb mnb0 mtb0 = 0
          · rw [if_pos q, if_pos q]
          · rw [if_neg q, if_neg q, hR, thr_1 q, nI_pred]
        have Rr := root_seg h1 h2 (R := R) (by omega) (cbi := cbi) (cbl := cbl) (crt := crt) t3 hbl hRt st mst (nI E) mnw mrs rc mve mrb mic mlb mrw mnb mlkL mnkN (mmd := mmdT) (cwr := cwrT) T5 T6
        have chain := eA.trans (L3.trans (e60.trans (N3.trans T3)))
        rcases Rr with ⟨cle', cwr', cby', cto', csh', crt', mro', mit', mmd', R1, R2, R3, R4, R5, R6, R7⟩ | ⟨cle', cwr', cby', cto', csh', crt', nx', mro', mit', mmd', R1, R2, R3, R4, R5, R6⟩
        · obtain ⟨c1, c2⟩ := (okT _ _ _ _ _ tree treeO R2).2 _ _ _ _ _ _ R1
          exact Or.inl ⟨cle', cwr', cby', cto', csh', crt', mro', mit', mlkL, mnkN, mmd', c1, c2, chain.trans R3, fun o => oA (L4 (o60 (N4 (T4 (R4 o))))), R5, R6, R7⟩
        · obtain ⟨c1, c2⟩ := (okT _ _ _ _ _ tree treeO R2).1 _ _ _ _ _ _ R1
          exact Or.inr ⟨cle', cwr', cby', cto', csh', crt', nx', mro', mit', mlkL, mnkN, mmd', c1, c2, chain.trans R3, oA (L4 (o60 (N4 (T4 R4)))), R5, R6⟩
      · obtain ⟨c1, c2⟩ := cutT _ _ _ _ _ (eT.trans (L1.trans (N1.trans T1))) (oT (L2 (N2 T2)))
        exact Or.inr ⟨cle', cwr', cby', cto', csh', crt, nx', mro', mit', mlkL, mnkN, mmd', c1, c2, eA.trans (L3.trans (e60.trans (N3.trans T3))), oA (L4 (o60 (N4 T4))), T5, hRt⟩
    · obtain ⟨c1, c2⟩ := cutT _ _ _ _ _ (eT.trans (L1.trans N1)) (oT (L2 N2))
      exact Or.inr ⟨cle', cwr', cby', cto', csh', crt, nx', mro', mit', mlkL, mnk', mmd', c1, c2, eA.trans (L3.trans (e60.trans N3)), oA (L4 (o60 N4)), N5, hRt⟩
  · obtain ⟨c1, c2⟩ := cutT _ _ _ _ _ (eT.trans L1) (oT L2)
    exact Or.inr ⟨cle', cwr', cby', cto', csh', crt, nx', mro', mit', mlk', mnk0, mmd', c1, c2, eA.trans L3, oA L4, L5, hRt⟩
