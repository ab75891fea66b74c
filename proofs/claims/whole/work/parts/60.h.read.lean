/-! both sides read alike -/
def RT (cma cbi ces mic : Nat → Int32) (mtb : Int32) (mlb mrw mnb mlk mnk : Nat → Int32) : Prop :=
  (cbi 72 = mtb ∧ BY mtb ∧ ∀ m, m < 8 → ces (576 + m) = if bt mtb m = 0 then 0 else mnk m) ∧
  (∀ m, m < 8 → ¬ cma (64 + m) = 0 → cbi (64 + m) = mnb m ∧ BY (mnb m) ∧ ∀ k, k < 8 → ces (512 + (8 * m + k)) = if bt (mnb m) k = 0 then 0 else mlk (8 * m + k)) ∧
  (∀ l, l < 64 → ¬ mic l = 0 → cbi l = mlb l ∧ BY (mlb l) ∧ ∀ k, k < 8 → ces (8 * l + k) = if bt (mlb l) k = 0 then 0 else mrw (8 * l + k))
theorem mall_0 {msl mst men mnw mrs mtb mrc : Int32} {mro mit mve mrb mic mlb mrw mnb mlk mnk : Nat → Int32} (f : Nat) : ok_MO_readAll_7 (f + 1) 0 (nI 0) msl mst men mnw mrs mtb mrc mro mit mve mrb mic mlb mrw mnb mlk mnk ∧ f_MO_readAll_7 (f + 1) 0 (nI 0) msl mst men mnw mrs mtb mrc mro mit mve mrb mic mlb mrw mnb mlk mnk = (0, mtb, mrc, mlb, mrw, mnb, mlk, mnk) := by
  rw [ok_MO_readAll_7, f_MO_readAll_7]
  refine ⟨⟨fun _ => isB_0, fun _ => ⟨fun _ => isB_0, fun z => (z rfl).elim⟩⟩, ?_⟩
  rw [if_neg (show ¬ (8 : Int32) ≤ nI 0 by decide), if_pos rfl]
theorem read_agree {N S E : Nat} {cby cto mro mit : Nat → Int32} (h : RR N cby cto mro mit) (hE : E < 2 ^ 30) (hS : S ≤ E) {x mnw mrs : Int32} {mve mrb : Nat → Int32} (h0 : mnw = 0 → x = -1) (h1 : ¬ mnw = 0 → f_MO_rootOf mnw mrs mve mrb = (x, ()) ∧ ok_MO_rootOf mnw mrs mve mrb ∧ ∃ q, S ≤ q ∧ q < E ∧ x = nI q) {cma cbi ces mic : Nat → Int32} (hMK : MK cma mic) (hbi : ∀ p, p < 73 → cbi p = 0) (hes : ∀ i, i < 584 → ces i = 0) (mtb mrc : Int32) (mlb mrw mnb mlk mnk : Nat → Int32) :
    ok_PG_readTree (N * 64) N x (nI N) (nI S) (nI E) cby cto 0 cma cbi ces ∧ ok_MO_readAll (nI N) (nI S) (nI E) mnw mrs mtb mrc mro mit mve mrb mic mlb mrw mnb mlk mnk ∧
    ((∃ rc cbi' ces' mtb' mlb' mrw' mnb' mlk' mnk', f_PG_readTree x (nI N) (nI S) (nI E) cby cto 0 cma cbi ces = (1, rc, cbi', ces') ∧ f_MO_readAll (nI N) (nI S) (nI E) mnw mrs mtb mrc mro mit mve mrb mic mlb mrw mnb mlk mnk = (1, mtb', rc, mlb', mrw', mnb', mlk', mnk') ∧ RT cma cbi' ces' mic mtb' mlb' mrw' mnb' mlk' mnk') ∨
     (∃ rc cbi' ces' w, f_PG_readTree x (nI N) (nI S) (nI E) cby cto 0 cma cbi ces = (0, rc, cbi', ces') ∧ f_MO_readAll (nI N) (nI S) (nI E) mnw mrs mtb mrc mro mit mve mrb mic mlb mrw mnb mlk mnk = (0, w))) := by
  obtain ⟨k1, k2, k3⟩ := hMK
  have hx : x = -1 ∨ ∃ b, S ≤ b ∧ b < E ∧ x = nI b := by
    by_cases e : mnw = 0
    · exact Or.inl (h0 e)
    · exact Or.inr (h1 e).2.2
  have hOK : OKB S E x := by
    rcases hx with z | z
    · exact Or.inl z
    · exact Or.inr (Or.inr z)
  have hma : ∀ p, p < 72 → ¬ cma p = 0 → ¬ cma (64 + p / 8) = 0 := by
    intro p hp hc
    by_cases e : p < 64
    · intro z
      have := (k2 (p / 8) (by omega)).mp z (p % 8) (by omega)
      rw [show 8 * (p / 8) + p % 8 = p by omega] at this
      exact hc ((k1 p e).mpr this)
    · rw [show 64 + p / 8 = 72 by omega]; exact k3
  obtain ⟨oC, rC⟩ := rd_tree h hE hS hx hma k3 hbi hes
  obtain ⟨oT, rT⟩ := mtop_of h hE hS h0 h1 mtb mrc mnk
  have hrT : OKB S E (pgT N S E mro mit x) := by
    have := okb_T h hE hS hOK (p := 72) (by omega)
    unfold pgO at this
    rw [if_pos rfl] at this
    exact this
  have hpN : ∀ m, m < 8 → pgO N S E mro mit x (64 + m) = pgN N S E mro mit x m := fun m hm => by
    unfold pgO; rw [if_neg (by omega), if_pos (by omega), show 64 + m - 64 = m by omega]
  have hpL : ∀ l, l < 64 → pgO N S E mro mit x l = pgL N S E mro mit x l := fun l hl => by
    unfold pgO; rw [if_neg (by omega), if_neg (by omega)]
  have hpT : pgO N S E mro mit x 72 = pgT N S E mro mit x := by unfold pgO; rw [if_pos rfl]
  have hnc : ∀ m, m < 8 → (ncv mic m = 0 ↔ cma (64 + m) = 0) := fun m hm => by rw [(nc_of mic hm).2.2.2, k2 m hm]
  refine ⟨oC, ?_⟩
  unfold ok_MO_readAll f_MO_readAll
  simp only [bindc_def, bindp_iff]
  rcases rT with ⟨mnk', t1, t2, t3⟩ | ⟨⟨t, rc, t1⟩, t2⟩
  · rw [t1]
    dsimp only
    obtain ⟨oA, g, mlb', mrw', mnb', mlk', r1, r2⟩ := mall_l h hE hS (root := x) hrT t2 rfl t3 mnw mrs (RC N mro x) mve mrb mic 1024 0 mlb mrw mnb mlk (by omega) (by omega) (fun i hi => by omega)
    rw [nI_0] at oA r1
    refine ⟨⟨oT, oA⟩, ?_⟩
    rcases rC with ⟨cbi', ces', c1, c2, c3⟩ | ⟨⟨rc, cbi', ces', c1⟩, c2⟩
    · rcases r2 with ⟨s1, s2⟩ | ⟨s1, i, s2, s3, s4⟩
      · subst s1
        refine Or.inl ⟨_, cbi', ces', _, mlb', mrw', mnb', mlk', mnk', c1, r1, ?_⟩
        refine ⟨⟨?_, by_pB h _, fun m hm => ?_⟩, fun m hm hc => ?_, fun l hl hc => ?_⟩
        · have := ((c2 72 (by omega) k3).1 (by omega)).2.1
          rw [hpT] at this; exact this
        · have := ((c2 72 (by omega) k3).1 (by omega)).2.2 m hm
          rw [hpT, t3 m hm] at this; exact this
        · obtain ⟨a1, a2, a3, a4⟩ := s2 m hm (fun z => hc ((hnc m hm).mp z))
          obtain ⟨b1, b2, b3⟩ := (c2 (64 + m) (by omega) hc).1 (by omega)
          rw [hpN m hm] at b1 b2 b3
          refine ⟨by rw [b2, a2], by rw [a2]; exact by_pB h _, fun k hk => ?_⟩
          have := b3 k hk
          rw [show (64 + m) * 8 + k = 512 + (8 * m + k) by omega] at this
          rw [this]; exact a3 k hk
        · have hcm : ¬ cma l = 0 := fun z => hc ((k1 l hl).mp z)
          have hcn : ¬ ncv mic (l / 8) = 0 := fun z => by
            have := (nc_of mic (show l / 8 < 8 by omega)).2.2.2.mp z (l % 8) (by omega)
            rw [show 8 * (l / 8) + l % 8 = l by omega] at this
            exact hc this
          obtain ⟨a1, a2, a3, a4⟩ := s2 (l / 8) (by omega) hcn
          have a5 := a4 (l % 8) (by omega)
          rw [show 8 * (l / 8) + l % 8 = l by omega] at a5
          obtain ⟨f1, f2, f3⟩ := a5 hc
          obtain ⟨b1, b2, b3⟩ := (c2 l (by omega) hcm).1 (by omega)
          rw [hpL l hl] at b1 b2 b3
          refine ⟨by rw [b2, f2], by rw [f2]; exact by_pB h _, fun k hk => ?_⟩
          have := b3 k hk
          rw [show l * 8 + k = 8 * l + k by omega] at this
          rw [this]; exact f3 k hk
      · exfalso
        rcases s4 with s4 | ⟨j, z1, z2, z3⟩
        · have := ((c2 (64 + i) (by omega) (fun z => s3 ((hnc i s2).mpr z))).1 (by omega)).1
          rw [hpN i s2] at this; exact this s4
        · have := ((c2 (8 * i + j) (by omega) (fun z => z2 ((k1 _ (by omega)).mp z))).1 (by omega)).1
          rw [hpL _ (by omega)] at this; exact this z3
    · rcases r2 with ⟨s1, s2⟩ | ⟨s1, -⟩
      · exfalso
        rcases c2 with ⟨z1, z2⟩ | ⟨p, z1, z2, z3⟩
        · -- the root is bad: the reference would have said so
          by_cases e : mnw = 0
          · exact z1 (h0 e)
          · obtain ⟨y1, y2, b, y3, y4, y5⟩ := h1 e
            obtain ⟨-, -, d1, -, -⟩ := rr_bad h hE hS x 4
            unfold f_MO_readTop at t1
            simp only [if_neg e, bindc_def, y1, d1, if_neg z2] at t1
            exact absurd (congrArg Prod.fst t1) (show ¬ (0 : Int32) = 1 by decide)
        · by_cases e1 : p = 72
          · rw [e1, hpT] at z3; exact t2 z3
          · by_cases e2 : 64 ≤ p
            · have e3 : p = 64 + (p - 64) := by omega
              rw [e3] at z2 z3
              rw [hpN _ (by omega)] at z3
              exact (s2 (p - 64) (by omega) (fun z => z2 ((hnc _ (by omega)).mp z))).1 z3
            · have hl : p < 64 := by omega
              rw [hpL p hl] at z3
              have hc : ¬ mic p = 0 := fun z => z2 ((k1 p hl).mpr z)
              have hcn : ¬ ncv mic (p / 8) = 0 := fun z => by
                have := (nc_of mic (show p / 8 < 8 by omega)).2.2.2.mp z (p % 8) (by omega)
                rw [show 8 * (p / 8) + p % 8 = p by omega] at this
                exact hc this
              have a5 := (s2 (p / 8) (by omega) hcn).2.2.2 (p % 8) (by omega)
              rw [show 8 * (p / 8) + p % 8 = p by omega] at a5
              exact (a5 hc).1 z3
      · subst s1
        exact Or.inr ⟨rc, cbi', ces', _, c1, r1⟩
  · rw [t1]
    dsimp only
    have m0 := mall_0 (msl := nI N) (mst := nI S) (men := nI E) (mnw := mnw) (mrs := mrs) (mtb := t) (mrc := rc) (mro := mro) (mit := mit) (mve := mve) (mrb := mrb) (mic := mic) (mlb := mlb) (mrw := mrw) (mnb := mnb) (mlk := mlk) (mnk := mnk) 1023
    rw [nI_0] at m0
    refine ⟨⟨oT, m0.1⟩, ?_⟩
    rcases rC with ⟨cbi', ces', c1, c2, c3⟩ | ⟨⟨rc', cbi', ces', c1⟩, c2⟩
    · exfalso
      rcases t2 with ⟨z1, z2⟩ | z
      · rcases c3 with c3 | c3
        · exact z1 c3
        · exact z2 c3
      · have := ((c2 72 (by omega) k3).1 (by omega)).1
        rw [hpT] at this; exact this z
    · exact Or.inr ⟨rc', cbi', ces', _, c1, m0.2⟩
