/-! the pages as they are to be written -/
def WT (E : Nat) (mic mlb mnb : Nat → Int32) (mtb : Int32) (mrw mlk mnk cbi ces cbl : Nat → Int32) : Prop :=
  (∀ l, l < 64 → ¬ mic l = 0 → cbi l = mlb l ∧ BY (mlb l) ∧ (¬ mlb l = 0 → cbl l = nI (E + cL mic mlb l)) ∧ ∀ k, k < 8 → ces (8 * l + k) = if bt (mlb l) k = 0 then 0 else mrw (8 * l + k)) ∧
  (∀ m, m < 8 → ¬ ncv mic m = 0 → cbi (64 + m) = FN mic mlb mnb m ∧ BY (FN mic mlb mnb m) ∧ (¬ FN mic mlb mnb m = 0 → cbl (64 + m) = nI (E + cL mic mlb 64 + cN mic mlb mnb m)) ∧ ∀ k, k < 8 → ces (512 + (8 * m + k)) = if bt (FN mic mlb mnb m) k = 0 then 0 else if ¬ mic (8 * m + k) = 0 ∧ ¬ mlb (8 * m + k) = 0 then nI (E + cL mic mlb (8 * m + k)) else mlk (8 * m + k)) ∧
  (cbi 72 = FTp mic mlb mnb mtb ∧ BY (FTp mic mlb mnb mtb) ∧ cbl 72 = (if FTp mic mlb mnb mtb = 0 then 0 else nI (E + cL mic mlb 64 + cN mic mlb mnb 8)) ∧ ∀ m, m < 8 → ces (576 + m) = if bt (FTp mic mlb mnb mtb) m = 0 then 0 else if ¬ ncv mic m = 0 ∧ ¬ FN mic mlb mnb m = 0 then nI (E + cL mic mlb 64 + cN mic mlb mnb m) else mnk m)
theorem plc_of {nb nt E : Nat} {cma cbi ces mic mlb mrw mnb mlk mnk : Nat → Int32} {mtb : Int32} (hMK : MK cma mic) (hRT : RT cma cbi ces mic mtb mlb mrw mnb mlk mnk) (cbl : Nat → Int32) :
    ok_PG_place nb nt (nI E) cma cbi ces cbl ∧ ∃ cbi' ces' cbl', f_PG_place (nI E) cma cbi ces cbl = (nI (E + cL mic mlb 64 + cN mic mlb mnb 8 + thr (FTp mic mlb mnb mtb)), cbi', ces', cbl') ∧ WT E mic mlb mnb mtb mrw mlk mnk cbi' ces' cbl' := by
  obtain ⟨t1, t2, t3⟩ := hRT
  have hMK2 := hMK
  obtain ⟨k1, k2, k3⟩ := hMK2
  have hnc : ∀ m, m < 8 → (ncv mic m = 0 ↔ cma (64 + m) = 0) := fun m hm => by rw [(nc_of mic hm).2.2.2, k2 m hm]
  obtain ⟨cbi1, ces1, cbl1, a1, a2, a3⟩ := pla_l (nb := nb) (nt := nt) (E := E) (mnb := mnb) (ces0 := ces) hMK (fun l hl hc => (t3 l hl hc).1) 64 960 0 cbi ces cbl (by omega) ⟨fun l _ => rfl, fun i _ => rfl, fun m hm hc => by
    rw [show min 8 (0 - 8 * m) = 0 by omega, up]; exact (t2 m hm hc).1, fun l _ => by rw [if_neg (fun z => absurd z.1 (by omega))], ⟨rfl, fun m _ => rfl⟩, fun l hl => absurd hl (by omega)⟩
  obtain ⟨p1, p2, p3, p4, p5, p6⟩ := a1
  obtain ⟨cbi2, ces2, cbl2, b1, b2, b3⟩ := plb_l (nb := nb) (nt := nt) (E := E) (mtb := mtb) (mlb := mlb) (mnb := mnb) (cbi0 := cbi) (ces0 := ces) hnc 8 952 0 cbi1 ces1 cbl1 (by omega) (by
    refine ⟨p1, p2, fun j hj hc => ?_, fun l hl => ?_, ⟨?_, fun j hj => ?_⟩, fun l hl => p6 l hl, fun j hj => absurd hj (by omega)⟩
    · rw [p3 j hj (fun z => hc ((hnc j hj).mpr z)), show min 8 (64 - 8 * j) = 8 by omega]; rfl
    · rw [p4 l hl]
      by_cases e : mic l = 0
      · rw [if_neg (fun z => z.2 e), if_neg (fun z => z e)]
      · rw [if_pos ⟨hl, e⟩, if_pos e]
    · rw [p5.1, up]; exact t1.1
    · rw [p5.2 j hj, if_neg (fun z => absurd z.1 (by omega))])
  obtain ⟨c1, c2⟩ := @place_top nb nt 951 (E + cL mic mlb 64 + cN mic mlb mnb 8) cma cbi2 ces2 cbl2 k3
  obtain ⟨d1, d2⟩ := @place_stop nb nt 950 (nI (E + cL mic mlb 64 + cN mic mlb mnb 8 + thr (cbi2 72))) cma cbi2 ces2 (upd cbl2 72 (if cbi2 72 = 0 then 0 else nI (E + cL mic mlb 64 + cN mic mlb mnb 8)))
  obtain ⟨q1, q2, q3, q4, q5, q6, q7⟩ := b1
  have hF : cbi2 72 = FTp mic mlb mnb mtb := q5.1
  have z1 : nI (E + cL mic mlb 0) = nI E := rfl
  have z2 : nI (E + cL mic mlb 64 + cN mic mlb mnb 0) = nI (E + cL mic mlb 64) := rfl
  have z3 : nI (64 + 0) = nI 64 := rfl
  have z4 : (960 : Nat) + 64 = 1024 := rfl
  have z5 : (952 : Nat) + 8 = 960 := rfl
  have z6 : (951 : Nat) + 1 = 952 := rfl
  have z7 : (950 : Nat) + 1 = 951 := rfl
  rw [z1, z4, nI_0] at a2 a3
  rw [z2, z3, z5] at b2 b3
  rw [z6] at c1 c2
  rw [z7] at d1 d2
  have e1 : f_PG_place (nI E) cma cbi ces cbl = (nI (E + cL mic mlb 64 + cN mic mlb mnb 8 + thr (cbi2 72)), cbi2, ces2, upd cbl2 72 (if cbi2 72 = 0 then 0 else nI (E + cL mic mlb 64 + cN mic mlb mnb 8))) := by
    unfold f_PG_place
    exact a2.trans (b2.trans (c1.trans d1))
  have e2 : ok_PG_place nb nt (nI E) cma cbi ces cbl := by
    unfold ok_PG_place
    exact a3 (b3 (c2 d2))
  rw [hF] at e1
  refine ⟨e2, cbi2, ces2, _, e1, fun l hl hc => ?_, fun m hm hc => ?_, hF, ?_, ?_, fun m hm => ?_⟩
  · obtain ⟨f1, f2, f3⟩ := t3 l hl hc
    refine ⟨by rw [q1 l hl, f1], f2, fun hne => ?_, fun k hk => ?_⟩
    · rw [pk_un (by omega), q6 l hl hc]
      unfold BLk; rw [if_neg hne]
    · rw [q2 _ (by omega)]; exact f3 k hk
  · obtain ⟨f1, f2, f3⟩ := t2 m hm (fun z => hc ((hnc m hm).mpr z))
    refine ⟨q3 m hm hc, by_up f2 8 (Nat.le_refl _), fun hne => ?_, fun k hk => ?_⟩
    · rw [pk_un (by omega), q7 m hm hc]
      unfold BNk; rw [if_neg hne]
    · have hb := bt_up (c := fun k => mic (8 * m + k)) (L := fun k => mlb (8 * m + k)) f2 hk 8 (Nat.le_refl _)
      have hb' : bt (FN mic mlb mnb m) k = if k < 8 ∧ ¬ mic (8 * m + k) = 0 then (if mlb (8 * m + k) = 0 then 0 else 1) else bt (mnb m) k := hb
      rw [q4 _ (by omega)]
      by_cases e : mic (8 * m + k) = 0
      · rw [if_neg (fun z => z.2 e)] at hb'
        rw [hb', if_neg (fun z => z e), if_neg (show ¬ (¬ mic (8 * m + k) = 0 ∧ ¬ mlb (8 * m + k) = 0) from fun z => z.1 e)]
        exact f3 k hk
      · rw [if_pos ⟨hk, e⟩] at hb'
        rw [hb', if_pos e]
        unfold BLk
        by_cases e2 : mlb (8 * m + k) = 0
        · rw [if_pos e2, if_pos e2, if_pos rfl]
        · rw [if_neg e2, if_neg e2, if_neg no1, if_pos (show ¬ mic (8 * m + k) = 0 ∧ ¬ mlb (8 * m + k) = 0 from ⟨e, e2⟩)]
  · exact by_up t1.2.1 8 (Nat.le_refl _)
  · rw [pk_us]
  · have hb := bt_up (c := ncv mic) (L := FN mic mlb mnb) t1.2.1 hm 8 (Nat.le_refl _)
    have hb' : bt (FTp mic mlb mnb mtb) m = if m < 8 ∧ ¬ ncv mic m = 0 then (if FN mic mlb mnb m = 0 then 0 else 1) else bt mtb m := hb
    rw [q5.2 m hm]
    by_cases e : ncv mic m = 0
    · rw [if_neg (fun z => z.2 e)] at hb'
      rw [hb', if_neg (fun z => z.2 e), if_neg (show ¬ (¬ ncv mic m = 0 ∧ ¬ FN mic mlb mnb m = 0) from fun z => z.1 e)]
      exact t1.2.2 m hm
    · rw [if_pos ⟨hm, e⟩] at hb'
      rw [hb', if_pos (show m < 8 ∧ ¬ ncv mic m = 0 from ⟨hm, e⟩)]
      unfold BNk
      by_cases e2 : FN mic mlb mnb m = 0
      · rw [if_pos e2, if_pos e2, if_pos rfl]
      · rw [if_neg e2, if_neg e2, if_neg no1, if_pos (show ¬ ncv mic m = 0 ∧ ¬ FN mic mlb mnb m = 0 from ⟨e, e2⟩)]
