/-! where the pages go: the class -/
theorem place_stop {nb nt f : Nat} {x2 : Int32} {cma cbi ces cbl : Nat → Int32} : f_PG_place_4 (f + 1) x2 (nI 73) cma cbi ces cbl = (x2, cbi, ces, cbl) ∧ ok_PG_place_4 nb nt (f + 1) x2 (nI 73) cma cbi ces cbl := by
  have c : (73 : Int32) ≤ nI 73 := by decide
  rw [f_PG_place_4, ok_PG_place_4]
  rw [if_pos c]
  exact ⟨rfl, fun _ => trivial, fun z => absurd c z⟩
theorem place_skip {nb nt f p : Nat} {x2 : Int32} {cma cbi ces cbl : Nat → Int32} (hp : p < 73) (h : cma p = 0) : f_PG_place_4 (f + 1) x2 (nI p) cma cbi ces cbl = f_PG_place_4 f x2 (nI (p + 1)) cma cbi ces cbl ∧ (ok_PG_place_4 nb nt f x2 (nI (p + 1)) cma cbi ces cbl → ok_PG_place_4 nb nt (f + 1) x2 (nI p) cma cbi ces cbl) := by
  have c : ¬ (73 : Int32) ≤ nI p := nI_ge (a := p) (b := 73) (by omega) (by omega)
  have w : vp_in (nI p) 73 := vp_in_nI hp (by omega)
  rw [f_PG_place_4, ok_PG_place_4]
  simp only [if_neg c, nI_clamp (show p < 2 ^ 31 by omega), if_pos h, nI_1]
  exact ⟨trivial, fun o => ⟨fun z => absurd z c, fun _ => ⟨w, fun _ => o, fun z => absurd h z⟩⟩⟩
theorem place_go {nb nt f p n : Nat} {cma cbi ces cbl : Nat → Int32} (hp : p < 72) (h : ¬ cma p = 0) : f_PG_place_4 (f + 1) (nI n) (nI p) cma cbi ces cbl = f_PG_place_4 f (nI (n + thr (cbi p))) (nI (p + 1)) cma (upd cbi (64 + p / 8) (if cbi p = 0 then bclr (cbi (64 + p / 8)) (p % 8) else bset (cbi (64 + p / 8)) (p % 8))) (upd ces ((64 + p / 8) * 8 + p % 8) (if cbi p = 0 then 0 else nI n)) (upd cbl p (if cbi p = 0 then 0 else nI n)) ∧ (ok_PG_place_4 nb nt f (nI (n + thr (cbi p))) (nI (p + 1)) cma (upd cbi (64 + p / 8) (if cbi p = 0 then bclr (cbi (64 + p / 8)) (p % 8) else bset (cbi (64 + p / 8)) (p % 8))) (upd ces ((64 + p / 8) * 8 + p % 8) (if cbi p = 0 then 0 else nI n)) (upd cbl p (if cbi p = 0 then 0 else nI n)) → ok_PG_place_4 nb nt (f + 1) (nI n) (nI p) cma cbi ces cbl) := by
  have c : ¬ (73 : Int32) ≤ nI p := nI_ge (a := p) (b := 73) (by omega) (by omega)
  have c2 : ¬ (72 : Int32) ≤ nI p := nI_ge (a := p) (b := 72) (by omega) (by omega)
  have w : vp_in (nI p) 73 := vp_in_nI (by omega) (by omega)
  have hpp := pg_par (show p < 73 by omega)
  have hand := pg_and (show p < 73 by omega)
  rw [f_PG_place_4, ok_PG_place_4]
  by_cases q : cbi p = 0
  · obtain ⟨e1, e2⟩ := @pg_set nb nt (64 + p / 8) (p % 8) 0 0 cbi ces (by omega) (by omega)
    simp only [if_true] at e1
    simp only [if_neg c, if_neg c2, nI_clamp (show p < 2 ^ 31 by omega), if_neg h, if_pos q, if_true, bindc_def, bindp_iff, hpp, hand, pk_us, e1, nI_1, thr_0 q, Nat.add_zero, Int32.add_zero]
    exact ⟨trivial, fun o => ⟨fun z => absurd z c, fun _ => ⟨w, fun z => absurd z h, fun _ => ⟨w, fun _ => ⟨fun _ => ⟨w, fun _ => ⟨fun z => absurd z c2, fun _ => ⟨w, e2, o⟩⟩, fun z => (z trivial).elim⟩, fun z => (z trivial).elim⟩, fun z => absurd q z⟩⟩⟩⟩
  · obtain ⟨e1, e2⟩ := @pg_set nb nt (64 + p / 8) (p % 8) 1 (nI n) cbi ces (by omega) (by omega)
    simp only [if_neg no1] at e1
    simp only [if_neg c, if_neg c2, nI_clamp (show p < 2 ^ 31 by omega), if_neg h, if_neg q, if_neg no1, bindc_def, bindp_iff, hpp, hand, pk_us, e1, nI_1, thr_1 q]
    exact ⟨trivial, fun o => ⟨fun z => absurd z c, fun _ => ⟨w, fun z => absurd z h, fun _ => ⟨w, fun z => absurd z q, fun _ => ⟨fun z => absurd z no1, fun _ => ⟨w, fun z => absurd z no1, fun _ => ⟨fun z => absurd z c2, fun _ => ⟨w, e2, o⟩⟩⟩⟩⟩⟩⟩⟩
theorem place_top {nb nt f n : Nat} {cma cbi ces cbl : Nat → Int32} (h : ¬ cma 72 = 0) : f_PG_place_4 (f + 1) (nI n) (nI 72) cma cbi ces cbl = f_PG_place_4 f (nI (n + thr (cbi 72))) (nI 73) cma cbi ces (upd cbl 72 (if cbi 72 = 0 then 0 else nI n)) ∧ (ok_PG_place_4 nb nt f (nI (n + thr (cbi 72))) (nI 73) cma cbi ces (upd cbl 72 (if cbi 72 = 0 then 0 else nI n)) → ok_PG_place_4 nb nt (f + 1) (nI n) (nI 72) cma cbi ces cbl) := by
  have c : ¬ (73 : Int32) ≤ nI 72 := by decide
  have c2 : (72 : Int32) ≤ nI 72 := by decide
  have w : vp_in (nI 72) 73 := vp_in_nI (by omega) (by omega)
  rw [f_PG_place_4, ok_PG_place_4]
  by_cases q : cbi 72 = 0
  · simp only [if_neg c, if_pos c2, nI_clamp (show 72 < 2 ^ 31 by omega), if_neg h, if_pos q, if_true, nI_1, thr_0 q, Nat.add_zero, Int32.add_zero]
    exact ⟨trivial, fun o => ⟨fun z => absurd z c, fun _ => ⟨w, fun z => absurd z h, fun _ => ⟨w, fun _ => ⟨fun _ => ⟨w, fun _ => ⟨fun _ => o, fun z => absurd c2 z⟩, fun z => (z trivial).elim⟩, fun z => (z trivial).elim⟩, fun z => absurd q z⟩⟩⟩⟩
  · simp only [if_neg c, if_pos c2, nI_clamp (show 72 < 2 ^ 31 by omega), if_neg h, if_neg q, if_neg no1, nI_1, thr_1 q]
    exact ⟨trivial, fun o => ⟨fun z => absurd z c, fun _ => ⟨w, fun z => absurd z h, fun _ => ⟨w, fun z => absurd z q, fun _ => ⟨fun z => absurd z no1, fun _ => ⟨w, fun z => absurd z no1, fun _ => ⟨fun _ => o, fun z => absurd c2 z⟩⟩⟩⟩⟩⟩⟩
def BLk (E : Nat) (mic mlb : Nat → Int32) (l : Nat) : Int32 := if mlb l = 0 then 0 else nI (E + cL mic mlb l)
def BNk (E : Nat) (mic mlb mnb : Nat → Int32) (m : Nat) : Int32 := if FN mic mlb mnb m = 0 then 0 else nI (E + cL mic mlb 64 + cN mic mlb mnb m)
/-- the leaves below p have their blocks -/
def PLa (E : Nat) (cma mic mlb mnb cbi0 ces0 : Nat → Int32) (p : Nat) (cbi ces cbl : Nat → Int32) : Prop :=
  (∀ l, l < 64 → cbi l = cbi0 l) ∧ (∀ i, i < 512 → ces i = ces0 i) ∧
  (∀ m, m < 8 → ¬ cma (64 + m) = 0 → cbi (64 + m) = up (mnb m) (fun k => mic (8 * m + k)) (fun k => mlb (8 * m + k)) (min 8 (p - 8 * m))) ∧
  (∀ l, l < 64 → ces (512 + l) = if l < p ∧ ¬ mic l = 0 then BLk E mic mlb l else ces0 (512 + l)) ∧
  (cbi 72 = cbi0 72 ∧ ∀ m, m < 8 → ces (576 + m) = ces0 (576 + m)) ∧
  (∀ l, l < p → ¬ mic l = 0 → cbl l = BLk E mic mlb l)
theorem pla_l {nb nt E : Nat} {cma mic mlb mnb cbi0 ces0 : Nat → Int32} (hMK : MK cma mic) (h0 : ∀ l, l < 64 → ¬ mic l = 0 → cbi0 l = mlb l) :
    ∀ (d f p : Nat) (cbi ces cbl : Nat → Int32), p + d = 64 → PLa E cma mic mlb mnb cbi0 ces0 p cbi ces cbl →
    ∃ cbi' ces' cbl', PLa E cma mic mlb mnb cbi0 ces0 64 cbi' ces' cbl' ∧ f_PG_place_4 (f + d) (nI (E + cL mic mlb p)) (nI p) cma cbi ces cbl = f_PG_place_4 f (nI (E + cL mic mlb 64)) (nI 64) cma cbi' ces' cbl' ∧ (ok_PG_place_4 nb nt f (nI (E + cL mic mlb 64)) (nI 64) cma cbi' ces' cbl' → ok_PG_place_4 nb nt (f + d) (nI (E + cL mic mlb p)) (nI p) cma cbi ces cbl) := by
  obtain ⟨k1, k2, k3⟩ := hMK
  intro d
  induction d with
  | zero =>
    intro f p cbi ces cbl hp hP
    have e : p = 64 := by omega
    subst e
    exact ⟨cbi, ces, cbl, hP, rfl, fun o => o⟩
  | succ d ih =>
    intro f p cbi ces cbl hp hP
    obtain ⟨a1, a2, a3, a4, a5, a6⟩ := hP
    have hm : p / 8 < 8 := by omega
    rw [show f + (d + 1) = (f + d) + 1 by omega]
    by_cases q : mic p = 0
    · have qc : cma p = 0 := (k1 p (by omega)).mpr q
      obtain ⟨s1, s2⟩ := @place_skip nb nt (f + d) p (nI (E + cL mic mlb p)) cma cbi ces cbl (by omega) qc
      obtain ⟨cbi', ces', cbl', r1, r2, r3⟩ := ih f (p + 1) cbi ces cbl (by omega) (by
        refine ⟨a1, a2, fun m hm hc => ?_, fun l hl => ?_, a5, fun l hl hc => ?_⟩
        · rw [a3 m hm hc]
          by_cases e : m = p / 8
          · rw [show min 8 (p + 1 - 8 * m) = p % 8 + 1 by omega, show min 8 (p - 8 * m) = p % 8 by omega, up]
            rw [show 8 * m + p % 8 = p by omega, if_pos q]
          · rw [show min 8 (p + 1 - 8 * m) = min 8 (p - 8 * m) by omega]
        · rw [a4 l hl]
          by_cases e : l < p ∧ ¬ mic l = 0
          · rw [if_pos e, if_pos (show l < p + 1 ∧ ¬ mic l = 0 from ⟨by omega, e.2⟩)]
          · rw [if_neg e, if_neg (fun z => e ⟨by
              rcases Nat.lt_or_ge l p with y | y
              · exact y
              · exfalso; have : l = p := by omega
                rw [this] at z; exact z.2 q, z.2⟩)]
        · by_cases e : l = p
          · rw [e] at hc; exact absurd q hc
          · exact a6 l (by omega) hc)
      rw [cL_s mic mlb p, if_pos q, Nat.add_zero] at r2 r3
      exact ⟨cbi', ces', cbl', r1, s1.trans r2, fun o => s2 (r3 o)⟩
    · have qc : ¬ cma p = 0 := fun z => q ((k1 p (by omega)).mp z)
      have qn : ¬ cma (64 + p / 8) = 0 := fun z => by
        have := (k2 (p / 8) hm).mp z (p % 8) (by omega)
        rw [show 8 * (p / 8) + p % 8 = p by omega] at this
        exact q this
      have hb : cbi p = mlb p := by rw [a1 p (by omega)]; exact h0 p (by omega) q
      obtain ⟨s1, s2⟩ := @place_go nb nt (f + d) p (E + cL mic mlb p) cma cbi ces cbl (by omega) qc
      obtain ⟨cbi', ces', cbl', r1, r2, r3⟩ := ih f (p + 1) (upd cbi (64 + p / 8) (if cbi p = 0 then bclr (cbi (64 + p / 8)) (p % 8) else bset (cbi (64 + p / 8)) (p % 8))) (upd ces ((64 + p / 8) * 8 + p % 8) (if cbi p = 0 then 0 else nI (E + cL mic mlb p))) (upd cbl p (if cbi p = 0 then 0 else nI (E + cL mic mlb p))) (by omega) (by
        refine ⟨fun l hl => ?_, fun i hi => ?_, fun m hm hc => ?_, fun l hl => ?_, ⟨?_, fun m hm => ?_⟩, fun l hl hc => ?_⟩
        · rw [pk_un (by omega)]; exact a1 l hl
        · rw [pk_un (by omega)]; exact a2 i hi
        · by_cases e : m = p / 8
          · subst e
            rw [pk_us, show min 8 (p + 1 - 8 * (p / 8)) = p % 8 + 1 by omega, up]
            rw [show 8 * (p / 8) + p % 8 = p by omega, if_neg q, hb, a3 (p / 8) hm hc, show min 8 (p - 8 * (p / 8)) = p % 8 by omega]
          · rw [pk_un (by omega), a3 m hm hc, show min 8 (p + 1 - 8 * m) = min 8 (p - 8 * m) by omega]
        · by_cases e : l = p
          · subst e
            rw [show (64 + l / 8) * 8 + l % 8 = 512 + l by omega, pk_us, if_pos (show l < l + 1 ∧ ¬ mic l = 0 from ⟨by omega, q⟩), hb]; rfl
          · rw [pk_un (by omega), a4 l hl]
            by_cases e2 : l < p ∧ ¬ mic l = 0
            · rw [if_pos e2, if_pos (show l < p + 1 ∧ ¬ mic l = 0 from ⟨by omega, e2.2⟩)]
            · rw [if_neg e2, if_neg (fun z => e2 ⟨by omega, z.2⟩)]
        · rw [pk_un (by omega)]; exact a5.1
        · rw [pk_un (by omega)]; exact a5.2 m hm
        · by_cases e : l = p
          · subst e; rw [pk_us, hb]; rfl
          · rw [pk_un e]; exact a6 l (by omega) hc)
      rw [hb] at s1 s2
      rw [hb, cL_s mic mlb p, if_neg q, show E + (cL mic mlb p + thr (mlb p)) = E + cL mic mlb p + thr (mlb p) by omega] at r2 r3
      exact ⟨cbi', ces', cbl', r1, s1.trans r2, fun o => s2 (r3 o)⟩
/-- the leaves have their blocks, the nodes below m too -/
def PLb (E : Nat) (mtb : Int32) (mic mlb mnb cbi0 ces0 : Nat → Int32) (m : Nat) (cbi ces cbl : Nat → Int32) : Prop :=
  (∀ l, l < 64 → cbi l = cbi0 l) ∧ (∀ i, i < 512 → ces i = ces0 i) ∧
  (∀ j, j < 8 → ¬ ncv mic j = 0 → cbi (64 + j) = FN mic mlb mnb j) ∧
  (∀ l, l < 64 → ces (512 + l) = if ¬ mic l = 0 then BLk E mic mlb l else ces0 (512 + l)) ∧
  (cbi 72 = up mtb (ncv mic) (FN mic mlb mnb) m ∧ ∀ j, j < 8 → ces (576 + j) = if j < m ∧ ¬ ncv mic j = 0 then BNk E mic mlb mnb j else ces0 (576 + j)) ∧
  (∀ l, l < 64 → ¬ mic l = 0 → cbl l = BLk E mic mlb l) ∧ (∀ j, j < m → ¬ ncv mic j = 0 → cbl (64 + j) = BNk E mic mlb mnb j)
theorem plb_l {nb nt E : Nat} {mtb : Int32} {cma mic mlb mnb cbi0 ces0 : Nat → Int32} (hnc : ∀ m, m < 8 → (ncv mic m = 0 ↔ cma (64 + m) = 0)) :
    ∀ (d f m : Nat) (cbi ces cbl : Nat → Int32), m + d = 8 → PLb E mtb mic mlb mnb cbi0 ces0 m cbi ces cbl →
    ∃ cbi' ces' cbl', PLb E mtb mic mlb mnb cbi0 ces0 8 cbi' ces' cbl' ∧ f_PG_place_4 (f + d) (nI (E + cL mic mlb 64 + cN mic mlb mnb m)) (nI (64 + m)) cma cbi ces cbl = f_PG_place_4 f (nI (E + cL mic mlb 64 + cN mic mlb mnb 8)) (nI 72) cma cbi' ces' cbl' ∧ (ok_PG_place_4 nb nt f (nI (E + cL mic mlb 64 + cN mic mlb mnb 8)) (nI 72) cma cbi' ces' cbl' → ok_PG_place_4 nb nt (f + d) (nI (E + cL mic mlb 64 + cN mic mlb mnb m)) (nI (64 + m)) cma cbi ces cbl) := by
  intro d
  induction d with
  | zero =>
    intro f m cbi ces cbl hp hP
    have e : m = 8 := by omega
    subst e
    exact ⟨cbi, ces, cbl, hP, rfl, fun o => o⟩
  | succ d ih =>
    intro f m cbi ces cbl hp hP
    obtain ⟨a1, a2, a3, a4, a5, a6, a7⟩ := hP
    have hm : m < 8 := by omega
    have hcN : cN mic mlb mnb (m + 1) = cN mic mlb mnb m + if ncv mic m = 0 then 0 else thr (FN mic mlb mnb m) := rfl
    rw [show f + (d + 1) = (f + d) + 1 by omega]
    by_cases q : ncv mic m = 0
    · have qc : cma (64 + m) = 0 := (hnc m hm).mp q
      obtain ⟨s1, s2⟩ := @place_skip nb nt (f + d) (64 + m) (nI (E + cL mic mlb 64 + cN mic mlb mnb m)) cma cbi ces cbl (by omega) qc
      obtain ⟨cbi', ces', cbl', r1, r2, r3⟩ := ih f (m + 1) cbi ces cbl (by omega) (by
        refine ⟨a1, a2, a3, a4, ⟨?_, fun j hj => ?_⟩, a6, fun j hj hc => ?_⟩
        · rw [up, if_pos q]; exact a5.1
        · rw [a5.2 j hj]
          by_cases e : j < m ∧ ¬ ncv mic j = 0
          · rw [if_pos e, if_pos (show j < m + 1 ∧ ¬ ncv mic j = 0 from ⟨by omega, e.2⟩)]
          · rw [if_neg e, if_neg (fun z => e ⟨by
              rcases Nat.lt_or_ge j m with y | y
              · exact y
              · exfalso; have : j = m := by omega
                rw [this] at z; exact z.2 q, z.2⟩)]
        · by_cases e : j = m
          · rw [e] at hc; exact absurd q hc
          · exact a7 j (by omega) hc)
      rw [hcN, if_pos q, Nat.add_zero] at r2 r3
      rw [show 64 + (m + 1) = 64 + m + 1 by omega] at r2 r3
      exact ⟨cbi', ces', cbl', r1, s1.trans r2, fun o => s2 (r3 o)⟩
    · have qc : ¬ cma (64 + m) = 0 := fun z => q ((hnc m hm).mpr z)
      have hb : cbi (64 + m) = FN mic mlb mnb m := a3 m hm q
      obtain ⟨s1, s2⟩ := @place_go nb nt (f + d) (64 + m) (E + cL mic mlb 64 + cN mic mlb mnb m) cma cbi ces cbl (by omega) qc
      rw [show 64 + (64 + m) / 8 = 72 by omega, show (64 + m) % 8 = m by omega, show 72 * 8 + m = 576 + m by omega] at s1 s2
      obtain ⟨cbi', ces', cbl', r1, r2, r3⟩ := ih f (m + 1) (upd cbi 72 (if cbi (64 + m) = 0 then bclr (cbi 72) m else bset (cbi 72) m)) (upd ces (576 + m) (if cbi (64 + m) = 0 then 0 else nI (E + cL mic mlb 64 + cN mic mlb mnb m))) (upd cbl (64 + m) (if cbi (64 + m) = 0 then 0 else nI (E + cL mic mlb 64 + cN mic mlb mnb m))) (by omega) (by
        refine ⟨fun l hl => ?_, fun i hi => ?_, fun j hj hc => ?_, fun l hl => ?_, ⟨?_, fun j hj => ?_⟩, fun l hl hc => ?_, fun j hj hc => ?_⟩
        · rw [pk_un (by omega)]; exact a1 l hl
        · rw [pk_un (by omega)]; exact a2 i hi
        · rw [pk_un (by omega)]; exact a3 j hj hc
        · rw [pk_un (by omega)]; exact a4 l hl
        · rw [pk_us, up, if_neg q, hb, a5.1]
        · by_cases e : j = m
          · subst e
            rw [pk_us, if_pos (show j < j + 1 ∧ ¬ ncv mic j = 0 from ⟨by omega, q⟩), hb]; rfl
          · rw [pk_un (by omega), a5.2 j hj]
            by_cases e2 : j < m ∧ ¬ ncv mic j = 0
            · rw [if_pos e2, if_pos (show j < m + 1 ∧ ¬ ncv mic j = 0 from ⟨by omega, e2.2⟩)]
            · rw [if_neg e2, if_neg (fun z => e2 ⟨by omega, z.2⟩)]
        · rw [pk_un (by omega)]; exact a6 l hl hc
        · by_cases e : j = m
          · subst e; rw [pk_us, hb]; rfl
          · rw [pk_un (by omega)]; exact a7 j (by omega) hc)
      rw [hb] at s1 s2
      rw [hb, hcN, if_neg q, show E + cL mic mlb 64 + (cN mic mlb mnb m + thr (FN mic mlb mnb m)) = E + cL mic mlb 64 + cN mic mlb mnb m + thr (FN mic mlb mnb m) by omega, show 64 + (m + 1) = 64 + m + 1 by omega] at r2 r3
      exact ⟨cbi', ces', cbl', r1, s1.trans r2, fun o => s2 (r3 o)⟩
