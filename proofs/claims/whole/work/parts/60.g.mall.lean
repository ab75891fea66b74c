/-! the reference reads a node, and all -/
theorem mnode9_l {N S E : Nat} {cby cto mro mit : Nat → Int32} (h : RR N cby cto mro mit) (hE : E < 2 ^ 30) (hS : S ≤ E) {root : Int32} {m : Nat} (hm : m < 8) (hr : OKB S E (pgT N S E mro mit root)) (hT : ¬ pgT N S E mro mit root = -2) {mtb : Int32} {mnk : Nat → Int32} (htb : mtb = pB N mro (pgT N S E mro mit root)) (hnk : pE N mro (pgT N S E mro mit root) m = if bt mtb m = 0 then 0 else mnk m) (mic mnb : Nat → Int32) (hnb : mnb m = 0) :
    ∀ (f k : Nat) (mlb mrw mlk : Nat → Int32), k ≤ 8 → 8 < k + f → (∀ i, i < k → mlb (8 * m + i) = 0 ∧ mlk (8 * m + i) = 0) →
    ok_MO_readNode_9 f (nI m) (nI k) (nI N) (nI S) (nI E) mtb mro mit mic mlb mrw mnb mlk mnk ∧
    ∃ g mlb' mrw' mnb' mlk', f_MO_readNode_9 f (nI m) (nI k) (nI N) (nI S) (nI E) mtb mro mit mic mlb mrw mnb mlk mnk = (g, mlb', mrw', mnb', mlk') ∧
    ((g = 1 ∧ ND N S E mro mit root mic m mlb' mrw' mnb' mlk') ∨ (g = 0 ∧ NBAD N S E mro mit root mic m)) ∧
    (∀ l, l < 8 * m ∨ 8 * m + 8 ≤ l → mlb' l = mlb l ∧ mlk' l = mlk l) ∧ (∀ i, i < 8 * (8 * m) ∨ 8 * (8 * m + 8) ≤ i → mrw' i = mrw i) ∧ ∀ i, ¬ i = m → mnb' i = mnb i := by
  intro f
  induction f with
  | zero => intro k mlb mrw mlk h1 h2; omega
  | succ f ih =>
    intro k mlb mrw mlk h1 h2 hz
    rw [ok_MO_readNode_9, f_MO_readNode_9]
    by_cases e : k = 8
    · subst e
      have c : (8 : Int32) ≤ nI 8 := by decide
      have hby : BY mtb := by rw [htb]; exact by_pB h _
      have hsh := bt_sh hby hm
      have w : vp_in (nI m) 8 := vp_in_nI hm (by omega)
      obtain ⟨-, -, f1, f2, f5⟩ := rr_bad h hE hS (mnk m) 2
      have hN : pgN N S E mro mit root m = kid N S E mro mit (pgT N S E mro mit root) m 2 := rfl
      simp only [if_pos c, hsh, bindc_def, bindp_iff, nI_clamp (show m < 2 ^ 31 by omega), f1]
      by_cases q : bt mtb m = 0
      · simp only [if_pos q]
        have hm1 : pgN N S E mro mit root m = -1 := by
          rw [hN]
          rcases hr with z | z | ⟨b, z1, z2, z3⟩
          · rw [z, kid_m1]
          · exact absurd z hT
          · rw [z3, kid_b (by omega)]
            rw [htb, z3, pB_b (by omega)] at q
            have q' : BI N mro b m = 0 := q
            rw [if_pos q']
        refine ⟨⟨fun _ => ⟨fun _ => trivial, fun z => absurd q z⟩, fun z => absurd c z⟩, 1, mlb, mrw, mnb, mlk, rfl, Or.inl ⟨rfl, ?_⟩, fun l _ => ⟨rfl, rfl⟩, fun i _ => rfl, fun i _ => rfl⟩
        unfold ND
        rw [hm1, pB_m1, hnb]
        refine ⟨by decide, rfl, fun k hk => by rw [pE_m1 N mro hk, bt_z k hk, if_pos rfl], fun k hk _ => ?_⟩
        unfold LF pgL
        rw [show (8 * m + k) / 8 = m by omega, show (8 * m + k) % 8 = k by omega, hm1, kid_m1, pB_m1, (hz k hk).1]
        exact ⟨by decide, rfl, fun i hi => by rw [pE_m1 N mro hi, bt_z i hi, if_pos rfl]⟩
      · simp only [if_neg q]
        rw [if_neg q] at hnk
        have hTb : ∃ b, S ≤ b ∧ b < E ∧ pgT N S E mro mit root = nI b := by
          rcases hr with z | z | z
          · rw [htb, z, pB_m1, bt_z m hm] at q; exact absurd rfl q
          · exact absurd z hT
          · exact z
        obtain ⟨b, z1, z2, z3⟩ := hTb
        have hen : EN N mro b m = mnk m := by
          rw [← hnk]; unfold pE; rw [← htb, if_neg q, z3, nI_clamp (by omega)]
        have hN2 : pgN N S E mro mit root m = if bad N S E mro mit (mnk m) 2 = 0 then mnk m else -2 := by
          rw [hN, z3, kid_b (by omega), hen]
          rw [htb, z3, pB_b (by omega)] at q
          have q' : ¬ BI N mro b m = 0 := q
          rw [if_neg q']
        rcases f5 with f5 | ⟨f5, b', y1, y2, y3⟩
        · rw [f5, if_neg no1] at hN2
          rw [f5]
          simp only [if_neg no1]
          exact ⟨⟨fun _ => ⟨fun z => absurd z q, fun _ => ⟨w, f2, fun z => absurd z no1, fun _ => trivial⟩⟩, fun z => absurd c z⟩, 0, mlb, mrw, mnb, mlk, rfl, Or.inr ⟨rfl, Or.inl hN2⟩, fun l _ => ⟨rfl, rfl⟩, fun i _ => rfl, fun i _ => rfl⟩
        · rw [f5, if_pos rfl, y3] at hN2
          rw [y3] at f2 f5 ⊢
          rw [f5]
          simp only [if_true]
          obtain ⟨g1, g2⟩ := rr_bits h (show b' < 2 ^ 30 by omega)
          rw [g1]
          obtain ⟨o, g, mlb', mrw', mlk', r1, r2, r3, r4⟩ := mnode_l h hE hS (root := root) (m := m) (b := b') hm (by omega) hN2 mtb mic (upd mnb m (mro (b' % N * 64 + 1))) mnk 1024 0 1 mlb mrw mlk (by omega) (by omega) (Or.inr rfl) (fun i _ hi => (hz i hi).1)
          rw [nI_0] at o r1
          refine ⟨⟨fun _ => ⟨fun z => absurd z q, fun _ => ⟨w, f2, fun _ => ⟨g2, w, o⟩, fun z => (z trivial).elim⟩⟩, fun z => absurd c z⟩, g, mlb', mrw', _, mlk', r1, ?_, fun l hl => r3 l (by omega), fun i hi => r4 i (by omega), fun i hi => by rw [pk_un hi]⟩
          rcases r2 with ⟨s1, s2, s3⟩ | ⟨s1, s2⟩
          · refine Or.inl ⟨s1, ?_⟩
            unfold ND
            rw [hN2, pk_us, pB_b (by omega)]
            refine ⟨m2_ne (by omega), rfl, fun k hk => ?_, fun k hk => (s3 k (by omega) hk).2⟩
            rw [(s3 k (by omega) hk).1]
            have := pE_if N mro (nI b') k
            rw [pB_b (by omega)] at this
            exact this
          · refine Or.inr ⟨s1, Or.inr ?_⟩
            rcases s2 with s2 | ⟨i, z1, z2, z3, z4⟩
            · exact absurd s2 no1
            · exact ⟨i, z2, z3, z4⟩
    · have c : ¬ (8 : Int32) ≤ nI k := nI_ge (a := k) (b := 8) (by omega) (by omega)
      have e8 : (8 : Int32) * nI m + nI k = nI (8 * m + k) := by rw [show (8 : Int32) * nI m = nI (8 * m) from pk_mul 8 m, nI_add]
      have w : vp_in (nI (8 * m + k)) 64 := vp_in_nI (by omega) (by omega)
      simp only [if_neg c, e8, nI_1, nI_clamp (show 8 * m + k < 2 ^ 31 by omega)]
      obtain ⟨o, g, mlb', mrw', mnb', mlk', r1, r2, r3, r4, r5⟩ := ih (k + 1) (upd mlb (8 * m + k) 0) mrw (upd mlk (8 * m + k) 0) (by omega) (by omega) (fun i hi => by
        by_cases e2 : i = k
        · rw [e2]; exact ⟨pk_us, pk_us⟩
        · rw [pk_un (by omega), pk_un (by omega)]; exact hz i (by omega))
      refine ⟨⟨fun z => absurd z c, fun _ => ⟨w, w, o⟩⟩, g, mlb', mrw', mnb', mlk', r1, r2, fun l hl => ?_, r4, r5⟩
      obtain ⟨t1, t2⟩ := r3 l hl
      exact ⟨by rw [t1, pk_un (by omega)], by rw [t2, pk_un (by omega)]⟩
theorem mnode_of {N S E : Nat} {cby cto mro mit : Nat → Int32} (h : RR N cby cto mro mit) (hE : E < 2 ^ 30) (hS : S ≤ E) {root : Int32} {m : Nat} (hm : m < 8) (hr : OKB S E (pgT N S E mro mit root)) (hT : ¬ pgT N S E mro mit root = -2) {mtb : Int32} {mnk : Nat → Int32} (htb : mtb = pB N mro (pgT N S E mro mit root)) (hnk : pE N mro (pgT N S E mro mit root) m = if bt mtb m = 0 then 0 else mnk m) (mic mlb mrw mnb mlk : Nat → Int32) :
    ok_MO_readNode (nI m) (nI N) (nI S) (nI E) mtb mro mit mic mlb mrw mnb mlk mnk ∧
    ∃ g mlb' mrw' mnb' mlk', f_MO_readNode (nI m) (nI N) (nI S) (nI E) mtb mro mit mic mlb mrw mnb mlk mnk = (g, mlb', mrw', mnb', mlk') ∧
    ((g = 1 ∧ ND N S E mro mit root mic m mlb' mrw' mnb' mlk') ∨ (g = 0 ∧ NBAD N S E mro mit root mic m)) ∧
    (∀ l, l < 8 * m ∨ 8 * m + 8 ≤ l → mlb' l = mlb l ∧ mlk' l = mlk l) ∧ (∀ i, i < 8 * (8 * m) ∨ 8 * (8 * m + 8) ≤ i → mrw' i = mrw i) ∧ ∀ i, ¬ i = m → mnb' i = mnb i := by
  obtain ⟨o, g, mlb', mrw', mnb', mlk', r1, r2, r3, r4, r5⟩ := mnode9_l h hE hS (root := root) hm hr hT htb hnk mic (upd mnb m 0) pk_us 1024 0 mlb mrw mlk (by omega) (by omega) (fun i hi => by omega)
  rw [nI_0] at o r1
  unfold ok_MO_readNode f_MO_readNode
  rw [nI_clamp (show m < 2 ^ 31 by omega)]
  exact ⟨⟨vp_in_nI hm (by omega), o⟩, g, mlb', mrw', mnb', mlk', r1, r2, r3, r4, fun i hi => by rw [r5 i hi, pk_un hi]⟩
theorem ND_same {N S E : Nat} {mro mit : Nat → Int32} {root : Int32} {mic : Nat → Int32} {m : Nat} {mlb mrw mnb mlk mlb' mrw' mnb' mlk' : Nat → Int32} (h : ND N S E mro mit root mic m mlb mrw mnb mlk) (h1 : ∀ k, k < 8 → mlb' (8 * m + k) = mlb (8 * m + k) ∧ mlk' (8 * m + k) = mlk (8 * m + k)) (h2 : ∀ i, 8 * (8 * m) ≤ i → i < 8 * (8 * m + 8) → mrw' i = mrw i) (h3 : mnb' m = mnb m) : ND N S E mro mit root mic m mlb' mrw' mnb' mlk' := by
  obtain ⟨a1, a2, a3, a4⟩ := h
  refine ⟨a1, h3.trans a2, fun k hk => ?_, fun k hk hc => LF_same (a4 k hk hc) (h1 k hk).1 (fun i hi => h2 _ (by omega) (by omega))⟩
  rw [h3, (h1 k hk).2]; exact a3 k hk
theorem mall_l {N S E : Nat} {cby cto mro mit : Nat → Int32} (h : RR N cby cto mro mit) (hE : E < 2 ^ 30) (hS : S ≤ E) {root : Int32} (hr : OKB S E (pgT N S E mro mit root)) (hT : ¬ pgT N S E mro mit root = -2) {mtb : Int32} {mnk : Nat → Int32} (htb : mtb = pB N mro (pgT N S E mro mit root)) (hnk : ∀ m, m < 8 → pE N mro (pgT N S E mro mit root) m = if bt mtb m = 0 then 0 else mnk m) (mnw mrs mrc : Int32) (mve mrb mic : Nat → Int32) :
    ∀ (f m : Nat) (mlb mrw mnb mlk : Nat → Int32), m ≤ 8 → 8 < m + f → (∀ i, i < m → ¬ ncv mic i = 0 → ND N S E mro mit root mic i mlb mrw mnb mlk) →
    ok_MO_readAll_7 f 1 (nI m) (nI N) (nI S) (nI E) mnw mrs mtb mrc mro mit mve mrb mic mlb mrw mnb mlk mnk ∧
    ∃ g mlb' mrw' mnb' mlk', f_MO_readAll_7 f 1 (nI m) (nI N) (nI S) (nI E) mnw mrs mtb mrc mro mit mve mrb mic mlb mrw mnb mlk mnk = (g, mtb, mrc, mlb', mrw', mnb', mlk', mnk) ∧
    ((g = 1 ∧ ∀ i, i < 8 → ¬ ncv mic i = 0 → ND N S E mro mit root mic i mlb' mrw' mnb' mlk') ∨ (g = 0 ∧ ∃ i, i < 8 ∧ ¬ ncv mic i = 0 ∧ NBAD N S E mro mit root mic i)) := by
  intro f
  induction f with
  | zero => intro m mlb mrw mnb mlk h1 h2; omega
  | succ f ih =>
    intro m mlb mrw mnb mlk h1 h2 hz
    rw [ok_MO_readAll_7, f_MO_readAll_7]
    by_cases e : m = 8
    · subst e
      have c : (8 : Int32) ≤ nI 8 := by decide
      rw [if_pos c]
      exact ⟨⟨fun _ => isB_1, fun z => absurd c z⟩, 1, mlb, mrw, mnb, mlk, rfl, Or.inl ⟨rfl, hz⟩⟩
    · have c : ¬ (8 : Int32) ≤ nI m := nI_ge (a := m) (b := 8) (by omega) (by omega)
      have hm : m < 8 := by omega
      obtain ⟨n1, n2, n3, n4⟩ := nc_of mic hm
      simp only [if_neg c, if_neg no1, bindc_def, bindp_iff, n1, nI_1]
      by_cases q : ncv mic m = 0
      · simp only [if_pos q]
        obtain ⟨o, r⟩ := ih (m + 1) mlb mrw mnb mlk (by omega) (by omega) (fun i hi hc => by
          by_cases e2 : i = m
          · rw [e2] at hc; exact absurd q hc
          · exact hz i (by omega) hc)
        exact ⟨⟨fun z => absurd z c, fun _ => ⟨fun z => absurd z no1, fun _ => ⟨n2, fun _ => o, fun z => absurd q z⟩⟩⟩, r⟩
      · simp only [if_neg q]
        obtain ⟨oN, g, mlb1, mrw1, mnb1, mlk1, r1, r2, r3, r4, r5⟩ := mnode_of h hE hS (root := root) hm hr hT htb (hnk m hm) mic mlb mrw mnb mlk
        rw [r1]
        rcases r2 with ⟨s1, s2⟩ | ⟨s1, s2⟩
        · subst s1
          simp only [if_neg no1]
          obtain ⟨o, r⟩ := ih (m + 1) mlb1 mrw1 mnb1 mlk1 (by omega) (by omega) (fun i hi hc => by
            by_cases e2 : i = m
            · rw [e2]; exact s2
            · exact ND_same (hz i (by omega) hc) (fun k hk => r3 _ (by omega)) (fun j z1 z2 => r4 _ (by omega)) (r5 i e2))
          exact ⟨⟨fun z => absurd z c, fun _ => ⟨fun z => absurd z no1, fun _ => ⟨n2, fun z => absurd z q, fun _ => ⟨oN, fun z => absurd z no1, fun _ => o⟩⟩⟩⟩, r⟩
        · subst s1
          simp only [if_true]
          have stop : ok_MO_readAll_7 f 0 (nI (m + 1)) (nI N) (nI S) (nI E) mnw mrs mtb mrc mro mit mve mrb mic mlb1 mrw1 mnb1 mlk1 mnk ∧ f_MO_readAll_7 f 0 (nI (m + 1)) (nI N) (nI S) (nI E) mnw mrs mtb mrc mro mit mve mrb mic mlb1 mrw1 mnb1 mlk1 mnk = (0, mtb, mrc, mlb1, mrw1, mnb1, mlk1, mnk) := by
            obtain ⟨f', rfl⟩ : ∃ f', f = f' + 1 := ⟨f - 1, by omega⟩
            rw [ok_MO_readAll_7, f_MO_readAll_7]
            refine ⟨⟨fun _ => isB_0, fun _ => ⟨fun _ => isB_0, fun z => (z rfl).elim⟩⟩, ?_⟩
            by_cases c2 : (8 : Int32) ≤ nI (m + 1)
            · rw [if_pos c2]
            · rw [if_neg c2, if_pos rfl]
          exact ⟨⟨fun z => absurd z c, fun _ => ⟨fun z => absurd z no1, fun _ => ⟨n2, fun z => absurd z q, fun _ => ⟨oN, fun _ => stop.1, fun z => (z trivial).elim⟩⟩⟩⟩, 0, mlb1, mrw1, mnb1, mlk1, stop.2, Or.inr ⟨rfl, m, hm, q, s2⟩⟩
