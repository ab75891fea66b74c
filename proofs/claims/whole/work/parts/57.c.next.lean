/-! next: leaf by leaf against key by key -/
theorem low_l {N : Nat} {cby cto mro mit : Nat → Int32} (h : RR N cby cto mro mit) {b : Nat} (hb : b < 2 ^ 30) : ∀ (f k : Nat), k ≤ 8 → 8 < k + f → ok_RL_lowestBit_2 (N * 64) N f (nI b) (nI k) (nI N) cby ∧ ((f_RL_lowestBit_2 f (nI b) (nI k) (nI N) cby = (-1, ()) ∧ ∀ i, k ≤ i → i < 8 → BI N mro b i = 0) ∨ ∃ i, k ≤ i ∧ i < 8 ∧ f_RL_lowestBit_2 f (nI b) (nI k) (nI N) cby = (nI i, ()) ∧ ¬ BI N mro b i = 0 ∧ ∀ i', k ≤ i' → i' < i → BI N mro b i' = 0) := by
  intro f
  induction f with
  | zero => intro k h1 h2; omega
  | succ f ih =>
    intro k h1 h2
    rw [ok_RL_lowestBit_2, f_RL_lowestBit_2]
    by_cases e : k = 8
    · subst e
      have c : (8 : Int32) ≤ nI 8 := by decide
      rw [if_pos c]
      exact ⟨⟨fun _ => trivial, fun z => absurd c z⟩, Or.inl ⟨rfl, fun i h3 h4 => by omega⟩⟩
    · have c : ¬ (8 : Int32) ≤ nI k := nI_ge (a := k) (b := 8) (by omega) (by omega)
      obtain ⟨b1, b2, -, -⟩ := rr_bit h k hb
      have b1' : f_RL_hasBit (nI b) (nI k) (nI N) cby = (BI N mro b k, ()) := b1
      simp only [if_neg c, bindc_def, bindp_iff, b1', nI_1]
      obtain ⟨i1, i2⟩ := ih (k + 1) (by omega) (by omega)
      refine ⟨⟨fun z => absurd z c, fun _ => ⟨b2, fun _ => i1, fun _ => trivial⟩⟩, ?_⟩
      by_cases q : BI N mro b k = 0
      · rw [if_pos q]
        have ex : ∀ i, k ≤ i → ¬ k + 1 ≤ i → BI N mro b i = 0 := fun i h3 h4 => by
          rw [show i = k by omega]; exact q
        rcases i2 with ⟨i2, i3⟩ | ⟨i, i2, i3, i4, i5, i6⟩
        · refine Or.inl ⟨i2, fun i h3 h4 => ?_⟩
          by_cases e2 : k + 1 ≤ i
          · exact i3 i e2 h4
          · exact ex i h3 e2
        · refine Or.inr ⟨i, by omega, i3, i4, i5, fun i' h3 h4 => ?_⟩
          by_cases e2 : k + 1 ≤ i'
          · exact i6 i' e2 h4
          · exact ex i' h3 e2
      · rw [if_neg q]
        exact Or.inr ⟨k, Nat.le_refl _, by omega, rfl, q, fun i' h3 h4 => by omega⟩
theorem long_ne (x : Int32) : ¬ x.toInt64 = (1000000000000 : Int64) ∧ ¬ x.toInt64 = (1000000000001 : Int64) := by
  have h1 := x.toInt_lt
  have h2 : x.toInt64.toInt = x.toInt := Int32.toInt_toInt64 x
  constructor
  · intro z
    rw [z, show (1000000000000 : Int64).toInt = 1000000000000 by decide] at h2
    omega
  · intro z
    rw [z, show (1000000000001 : Int64).toInt = 1000000000001 by decide] at h2
    omega
theorem next_skip {v mrf msl mst men mdn mrs : Int32} {mro mit mve mrb : Nat → Int32} {R : Nat → Int64} (hR : ∀ k, k < 512 → f_MO_look v (nI k) msl mst men mrs mro mit mve mrb = (R k, ())) : ∀ (d f k : Nat), k + d ≤ 512 → (∀ i, k ≤ i → i < k + d → R i = 1000000000000) → f_MO_next_31 (f + d) v (nI k) mrf msl mst men mdn mrs mro mit mve mrb = f_MO_next_31 f v (nI (k + d)) mrf msl mst men mdn mrs mro mit mve mrb := by
  intro d
  induction d with
  | zero => intro f k h1 h2; rfl
  | succ d ih =>
    intro f k h1 h2
    rw [show f + (d + 1) = (f + d) + 1 by omega, f_MO_next_31]
    have c : ¬ (512 : Int32) ≤ nI k := nI_ge (a := k) (b := 512) (by omega) (by omega)
    rw [if_neg c, bindc_def, hR k (by omega)]
    have e : lg_cmp (R k) 1000000000000 = 0 := (lg_cmp_eq _ _).mpr (h2 k (Nat.le_refl _) (by omega))
    rw [if_pos e, nI_1, ih f (k + 1) (by omega) (fun i h3 h4 => h2 i (by omega) (by omega)), show k + 1 + d = k + (d + 1) by omega]
theorem next_ok {v mrf msl mst men mdn mrs : Int32} {mro mit mve mrb : Nat → Int32} (hR : ∀ k, k < 512 → ok_MO_look v (nI k) msl mst men mrs mro mit mve mrb) : ∀ (f k : Nat), k ≤ 512 → 512 < k + f → ok_MO_next_31 f v (nI k) mrf msl mst men mdn mrs mro mit mve mrb := by
  intro f
  induction f with
  | zero => intro k h1 h2; omega
  | succ f ih =>
    intro k h1 h2
    rw [ok_MO_next_31]
    by_cases e : k = 512
    · subst e
      have c : (512 : Int32) ≤ nI 512 := by decide
      exact ⟨fun _ => trivial, fun z => absurd c z⟩
    · have c : ¬ (512 : Int32) ≤ nI k := nI_ge (a := k) (b := 512) (by omega) (by omega)
      rw [bindp_iff, nI_1]
      exact ⟨fun z => absurd z c, fun _ => ⟨hR k (by omega), fun _ => ih (k + 1) (by omega) (by omega), fun _ => trivial⟩⟩
theorem next_l {N S E : Nat} {cby cto mro mit : Nat → Int32} (h : RR N cby cto mro mit) (hE : E < 2 ^ 30) (hS : S ≤ E) {x v mdn mrs cfa css : Int32} {mve mrb cve cro : Nat → Int32} (hx : OKB S E x) (hR : ∀ k, k < 512 → f_MO_look v (nI k) (nI N) (nI S) (nI E) mrs mro mit mve mrb = (row N S E mro mit x k, ())) :
    ∀ (f l a m : Nat), l ≤ 64 → 64 < l + f → a < 8 → (l = 64 → a = 0) → 512 < 8 * l + a + m → f_MO_next_31 m v (nI (8 * l + a)) 0 (nI N) (nI S) (nI E) mdn mrs mro mit mve mrb = ((f_BT_next_49 f x (nI a) (nI l) cfa (nI N) (nI S) (nI E) cby cto css cve cro).1, 0) ∧ ok_BT_next_49 (N * 64) N f x (nI a) (nI l) cfa (nI N) (nI S) (nI E) cby cto css cve cro := by
  intro f
  induction f with
  | zero => intro l a m h1 h2; omega
  | succ f ih =>
    intro l a m h1 h2 h3 h4 h5
    rw [f_BT_next_49, ok_BT_next_49]
    by_cases e : l = 64
    · subst e
      have c : (64 : Int32) ≤ nI 64 := by decide
      have e0 := h4 rfl
      subst e0
      obtain ⟨m, rfl⟩ : ∃ m', m = m' + 1 := ⟨m - 1, by omega⟩
      rw [if_pos c, f_MO_next_31, if_pos (show (512 : Int32) ≤ nI (8 * 64 + 0) by decide)]
      exact ⟨rfl, fun _ => trivial, fun z => absurd c z⟩
    · have c : ¬ (64 : Int32) ≤ nI l := nI_ge (a := l) (b := 64) (by omega) (by omega)
      obtain ⟨l1, l2, l3⟩ := leaf_of h hE hS hx (l := l) (by omega)
      simp only [if_neg c, bindc_def, bindp_iff, l1, nI_1]
      have hrow : ∀ i, i < 8 → row N S E mro mit x (8 * l + i) = if lfB N S E mro mit x l = (-2 : Int32) then 1000000000001 else if lfB N S E mro mit x l = (-1 : Int32) then 1000000000000 else if BI N mro (lfB N S E mro mit x l).toNatClampNeg i = 0 then 1000000000000 else (EN N mro (lfB N S E mro mit x l).toNatClampNeg i).toInt64 := by
        intro i hi
        unfold row
        rw [show (8 * l + i) / 8 = l by omega, show (8 * l + i) % 8 = i by omega]
      generalize lfB N S E mro mit x l = y at l2 l3 hrow ⊢
      have hc : ∀ i, i < 8 → ¬ (512 : Int32) ≤ nI (8 * l + i) := fun i hi => nI_ge (a := 8 * l + i) (b := 512) (by omega) (by omega)
      rcases l3 with rfl | rfl | ⟨b, hb1, hb2, rfl⟩
      · simp only [if_neg (show ¬ (-1 : Int32) = -2 by decide), if_true] at hrow ⊢
        have := ih (l + 1) 0 (m - (8 - a)) (by omega) (by omega) (by omega) (by omega) (by omega)
        have sk := next_skip (mrf := 0) (mdn := mdn) hR (8 - a) (m - (8 - a)) (8 * l + a) (by omega) (fun i hi1 hi2 => by
          have := hrow (i - 8 * l) (by omega)
          rw [show 8 * l + (i - 8 * l) = i by omega] at this
          exact this)
        rw [show m - (8 - a) + (8 - a) = m by omega, show 8 * l + a + (8 - a) = 8 * (l + 1) + 0 by omega] at sk
        rw [nI_0] at this
        rw [sk]
        exact ⟨this.1, fun z => absurd z c, fun _ => ⟨l2, fun _ => trivial, fun _ => ⟨fun _ => ⟨fun _ => this.2, fun _ => trivial⟩, fun z => (z trivial).elim⟩⟩⟩
      · simp only [if_true] at hrow ⊢
        obtain ⟨m, rfl⟩ : ∃ m', m = m' + 1 := ⟨m - 1, by omega⟩
        rw [f_MO_next_31, if_neg (hc a h3), bindc_def, hR _ (by omega), hrow a h3]
        rw [if_neg (fun z => absurd ((lg_cmp_eq _ _).mp z) (by decide)), if_pos ((lg_cmp_eq _ _).mpr rfl)]
        exact ⟨rfl, fun z => absurd z c, fun _ => ⟨l2, fun _ => trivial, fun z => (z trivial).elim⟩⟩
      · have hb30 : b < 2 ^ 30 := by omega
        obtain ⟨w1, w2⟩ := low_l h hb30 1024 a (by omega) (by omega)
        simp only [if_neg (m1_ne (show b < 2 ^ 31 by omega)), if_neg (m2_ne (show b < 2 ^ 31 by omega)), nI_clamp (show b < 2 ^ 31 by omega)] at hrow ⊢
        have ew : f_RL_lowestBit (nI b) (nI a) (nI N) cby = f_RL_lowestBit_2 1024 (nI b) (nI a) (nI N) cby := by unfold f_RL_lowestBit; rfl
        have ow : ok_RL_lowestBit (N * 64) N (nI b) (nI a) (nI N) cby := by unfold ok_RL_lowestBit; exact w1
        rw [← ew] at w2
        rcases w2 with ⟨w2, w3⟩ | ⟨i, w2, w3, w4, w5, w6⟩
        · rw [w2]
          simp only [if_true]
          have := ih (l + 1) 0 (m - (8 - a)) (by omega) (by omega) (by omega) (by omega) (by omega)
          have sk := next_skip (mrf := 0) (mdn := mdn) hR (8 - a) (m - (8 - a)) (8 * l + a) (by omega) (fun i hi1 hi2 => by
            have := hrow (i - 8 * l) (by omega)
            rw [show 8 * l + (i - 8 * l) = i by omega, if_pos (w3 (i - 8 * l) (by omega) (by omega))] at this
            exact this)
          rw [show m - (8 - a) + (8 - a) = m by omega, show 8 * l + a + (8 - a) = 8 * (l + 1) + 0 by omega] at sk
          rw [nI_0] at this
          rw [sk]
          exact ⟨this.1, fun z => absurd z c, fun _ => ⟨l2, fun _ => trivial, fun _ => ⟨fun z => absurd z (m1_ne (by omega)), fun _ => ⟨ow, fun _ => this.2, fun _ => trivial⟩⟩⟩⟩
        · rw [w4]
          simp only [if_neg (m1_ne (show i < 2 ^ 31 by omega))]
          have sk := next_skip (mrf := 0) (mdn := mdn) hR (i - a) (m - (i - a)) (8 * l + a) (by omega) (fun i' hi1 hi2 => by
            have := hrow (i' - 8 * l) (by omega)
            rw [show 8 * l + (i' - 8 * l) = i' by omega, if_pos (w6 (i' - 8 * l) (by omega) (by omega))] at this
            exact this)
          rw [show m - (i - a) + (i - a) = m by omega, show 8 * l + a + (i - a) = 8 * l + i by omega] at sk
          rw [sk]
          obtain ⟨m', hm'⟩ : ∃ m', m - (i - a) = m' + 1 := ⟨m - (i - a) - 1, by omega⟩
          rw [hm', f_MO_next_31, if_neg (hc i w3), bindc_def, hR _ (by omega), hrow i w3, if_neg w5]
          obtain ⟨n1, n2⟩ := long_ne (EN N mro b i)
          rw [if_neg (fun z => n1 ((lg_cmp_eq _ _).mp z)), if_neg (fun z => n2 ((lg_cmp_eq _ _).mp z))]
          refine ⟨?_, fun z => absurd z c, fun _ => ⟨l2, fun _ => trivial, fun _ => ⟨fun z => absurd z (m1_ne (by omega)), fun _ => ⟨ow, fun z => absurd z (m1_ne (by omega)), fun _ => trivial⟩⟩⟩⟩
          rw [show nI l * (8 : Int32) = nI (l * 8) from pk_mul l 8, nI_add, Nat.mul_comm]
set_option maxHeartbeats 1000000 in
theorem sim_next : SIM_next INV := by
  intro j N cfa cle cwr csl cst cen cby cto csh cdz cch cva css cve cro crc cma cbi ces cbl crt mrf msl mst men mnw mdn mpw mwr mrs mdr mtb mrc mnx mro mit mve mrb mch mva mic mlb mrw mnb mlk mnk mmd p0 p1 lou hj hinv
  obtain ⟨hN1, hN2, hcsl, hmsl, hPow, hDr, hBy, hTo, hSh, hRt, S, E, r, hRo⟩ := hinv
  obtain ⟨h1, h2, h3, h4, h5, h6⟩ := hPow
  subst h2
  have hRR := rr_of hN1 hN2 hBy hTo
  obtain ⟨hE, hS⟩ := hRo.lt hj
  have hRo2 := hRo
  obtain ⟨⟨rfl, rfl, rfl, rfl, rfl, rfl⟩, -⟩ := hRo2
  subst hcsl hmsl
  have hb := isB_of h1
  have hinv : ∀ mrf, INV (j + 1) N mdn cle cwr (nI N) (nI S) (nI E) cby cto csh cdz cch cva (nI r) cve cro crc cma cbi ces cbl crt mrf (nI N) (nI S) (nI E) mnw mdn mpw mwr (nI r) mdr mtb mrc mnx mro mit mve mrb mch mva mic mlb mrw mnb mlk mnk mmd := fun _ => INV_mk hN1 hN2 rfl rfl ⟨h1, rfl, h3, h4, h5, h6⟩ hDr hBy hTo hSh hRt hRo.mono
  obtain ⟨g1, g2, g3⟩ := kept_of (nb := N * 64) (nt := N) hRo hj hN2 p0
  obtain ⟨a1, a2, a3, a4, -⟩ := roots_of (nb := N * 64) (nt := N) hRo hN2 p0
  have hokT : okT_BT_next (N * 64) N p0 p1 mdn (nI S) (nI r) cve cro := by
    unfold okT_BT_next; simp only [bindp_iff]
    exact ⟨g1, fun _ z => (z trivial).elim, fun _ => ⟨fun _ z => (z trivial).elim, fun _ _ => hb⟩⟩
  refine ⟨hokT, ?_⟩
  rcases g3 with ⟨g3, g4⟩ | ⟨g3, g4, g5⟩
  · have t : th_BT_next p0 p1 mdn (nI S) (nI r) cve cro = 1 := by simp [th_BT_next, g3, bindc_def]
    refine ⟨fun h => absurd (t.symm.trans h) (by decide), ?_, ?_⟩
    · simp only [ok_MO_next, ok_MO_next_20, ok_MO_next_21, g4, bindp_iff, goes_0]
      exact ⟨g2, fun _ => ⟨fun _ => trivial, fun z => (z trivial).elim⟩, fun z => (z trivial).elim⟩
    · intro z1 z2 q1 q2
      simp [g_LA_next, t] at q1
      simp only [f_MO_next, f_MO_next_20, f_MO_next_21, g4, bindc_def, goes_0, if_true] at q2
      subst q1 q2
      exact ⟨rfl, fun h => absurd h no1, hinv _⟩
  · rcases key_cases p1 with ⟨k1, k2, k3⟩ | ⟨k1, k2⟩
    · obtain ⟨i, hi, rfl⟩ := vp_in_of k3 (by omega)
      have n4 : p0 = 0 → rootV r cve cro p0 = -1 := fun z => by rw [z]; exact root0 hRo hj hN2
      have n3 : ¬ p0 = 0 → ∃ q, S ≤ q ∧ q < E ∧ rootV r cve cro p0 = nI q := fun z => by
        rcases g5 with g5 | ⟨-, g5⟩
        · exact absurd g5 z
        · exact g5
      rcases h1 with rfl | rfl
      · have hOKB : OKB S E (rootV r cve cro p0) := by
          by_cases e : p0 = 0
          · exact Or.inl (n4 e)
          · exact Or.inr (Or.inr (n3 e))
        have hlook := fun k (hk : k < 512) => look_of hRR hE hS (nI r) mve mrb (p := p0) (fun e => ⟨a3, a4, n3 e⟩) n4 hk
        obtain ⟨s1, s2⟩ := key_sh hi
        obtain ⟨w1, w2⟩ := next_l hRR hE hS (mdn := 0) (cfa := 0) (css := nI r) (cve := cve) (cro := cro) hOKB (fun k hk => (hlook k hk).1) 1024 (i / 8) (i % 8) 1024 (by omega) (by omega) (by omega) (by omega) (by omega)
        have w3 := next_ok (mrf := 0) (mdn := 0) (fun k hk => (hlook k hk).2) 1024 i (by omega) (by omega)
        rw [show 8 * (i / 8) + i % 8 = i by omega] at w1
        have t : th_BT_next p0 (nI i) 0 (nI S) (nI r) cve cro = 0 := by simp [th_BT_next, k1, g3, bindc_def]
        refine ⟨fun _ => ?_, ?_, ?_⟩
        · simp only [ok_BT_next, ok_BT_next_22, bindp_iff, k1, g3, a1, s1, s2]
          exact ⟨g1, fun z => absurd z no1, fun _ => ⟨fun z => absurd z no1, fun _ => ⟨okRA_1, okRP_0, a2, w2⟩⟩⟩
        · simp only [ok_MO_next, ok_MO_next_21, bindp_iff, k2, g4, goes_10]
          exact ⟨g2, fun z => absurd z no1, fun _ => ⟨fun z => absurd z no1, fun _ => ⟨fun _ => trivial, fun _ => w3⟩⟩⟩
        · intro z1 z2 q1 q2
          simp only [g_LA_next, t, if_true, f_BT_next, f_BT_next_22, bindc_def, k1, g3, if_neg no1, a1, s1, s2] at q1
          simp only [f_MO_next, f_MO_next_21, bindc_def, k2, g4, goes_10, if_neg no1, w1] at q2
          generalize f_BT_next_49 1024 (rootV r cve cro p0) (nI (i % 8)) (nI (i / 8)) 0 (nI N) (nI S) (nI E) cby cto (nI r) cve cro = y at q1 q2
          subst q1 q2
          exact ⟨rfl, fun _ => by simp [pk_uLs], hinv _⟩
      · have t : th_BT_next p0 (nI i) 1 (nI S) (nI r) cve cro = 2 := by simp [th_BT_next, k1, g3, bindc_def]
        refine ⟨fun h => absurd (t.symm.trans h) (by decide), ?_, ?_⟩
        · simp [ok_MO_next, ok_MO_next_21, k2, g4, bindp_iff, goes_11, g2]
        · intro z1 z2 q1 q2
          simp [g_LA_next, t] at q1
          simp only [f_MO_next, f_MO_next_21, k2, g4, bindc_def, goes_11, if_neg no1, if_true] at q2
          subst q1 q2
          exact ⟨rfl, fun h => absurd h no2, hinv _⟩
    · have t : th_BT_next p0 p1 mdn (nI S) (nI r) cve cro = 1 := by simp [th_BT_next, g3, k1, bindc_def]
      refine ⟨fun h => absurd (t.symm.trans h) (by decide), ?_, ?_⟩
      · simp [ok_MO_next, ok_MO_next_20, ok_MO_next_21, g4, k2, bindp_iff, goes_0, g2]
      · intro z1 z2 q1 q2
        simp [g_LA_next, t] at q1
        simp only [f_MO_next, f_MO_next_20, f_MO_next_21, g4, k2, bindc_def, goes_0, if_neg no1, if_true] at q2
        subst q1 q2
        exact ⟨rfl, fun h => absurd h no1, hinv _⟩
