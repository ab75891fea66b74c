/-! the kept versions: roots, kept -/
theorem sh_root_l {nb nt r : Nat} {cve cro : Nat → Int32} (hr : r ≤ 200) (p : Int32) : ∀ (f i : Nat), i ≤ r → r < i + f → (∀ k, k < i → ¬ cve k = p) → ok_SH_rootOf_2 nb nt f p (nI i) (nI r) cve cro ∧ ((f_SH_rootOf_2 f p (nI i) (nI r) cve cro = (-1, ()) ∧ ∀ k, k < r → ¬ cve k = p) ∨ ∃ k, k < r ∧ cve k = p ∧ f_SH_rootOf_2 f p (nI i) (nI r) cve cro = (cro k, ())) := by
  intro f
  induction f with
  | zero => intro i h1 h2; omega
  | succ f ih =>
    intro i h1 h2 h3
    rw [ok_SH_rootOf_2, f_SH_rootOf_2, nI_clamp (show i < 2 ^ 31 by omega), nI_1]
    by_cases e : i = r
    · subst e
      have c : nI i ≤ nI i := nI_le (Nat.le_refl _) (by omega)
      rw [if_pos c]
      exact ⟨⟨fun _ => trivial, fun z => absurd c z⟩, Or.inl ⟨rfl, h3⟩⟩
    · have c : ¬ nI r ≤ nI i := nI_ge (by omega) (by omega)
      have hv : vp_in (nI i) 200 := vp_in_nI (by omega) (by omega)
      rw [if_neg c]
      by_cases q : cve i = p
      · rw [if_pos q]
        exact ⟨⟨fun z => absurd z c, fun _ => ⟨hv, fun _ => hv, fun z => absurd q z⟩⟩, Or.inr ⟨i, by omega, q, rfl⟩⟩
      · rw [if_neg q]
        have := ih (i + 1) (by omega) (by omega) (fun k hk => by
          by_cases e2 : k = i
          · subst e2; exact q
          · exact h3 k (by omega))
        exact ⟨⟨fun z => absurd z c, fun _ => ⟨hv, fun z => absurd z q, fun _ => this.1⟩⟩, this.2⟩
theorem mo_root_l {r : Nat} {cve cro mve mrb : Nat → Int32} (hr : r ≤ 200) (p : Int32) (heq : ∀ i, i < r → mve i = cve i ∧ mrb i = cro i) (hst : ∀ i k, i < k → k < r → cve i < cve k) : ∀ (f i : Nat) (x : Int32), i ≤ r → r < i + f → ok_MO_rootOf_4 f p x (nI i) (nI r) mve mrb ∧ ((∀ k, i ≤ k → k < r → ¬ cve k = p) → f_MO_rootOf_4 f p x (nI i) (nI r) mve mrb = (x, ())) ∧ (∀ k, i ≤ k → k < r → cve k = p → f_MO_rootOf_4 f p x (nI i) (nI r) mve mrb = (cro k, ())) := by
  intro f
  induction f with
  | zero => intro i x h1 h2; omega
  | succ f ih =>
    intro i x h1 h2
    rw [ok_MO_rootOf_4, f_MO_rootOf_4, nI_clamp (show i < 2 ^ 31 by omega), nI_1]
    by_cases e : i = r
    · subst e
      have c : nI i ≤ nI i := nI_le (Nat.le_refl _) (by omega)
      rw [if_pos c]
      exact ⟨⟨fun _ => trivial, fun z => absurd c z⟩, fun _ => rfl, fun k h4 h5 => by omega⟩
    · have c : ¬ nI r ≤ nI i := nI_ge (by omega) (by omega)
      have hv : vp_in (nI i) 4000 := vp_in_nI (by omega) (by omega)
      rw [if_neg c, (heq i (by omega)).1, (heq i (by omega)).2]
      have i1 := ih (i + 1) (cro i) (by omega) (by omega)
      have i0 := ih (i + 1) x (by omega) (by omega)
      refine ⟨⟨fun z => absurd z c, fun _ => ⟨hv, fun _ => ⟨hv, i1.1⟩, fun _ => i0.1⟩⟩, ?_, ?_⟩
      · intro h
        rw [if_neg (h i (Nat.le_refl _) (by omega))]
        exact i0.2.1 (fun k h4 h5 => h k (by omega) h5)
      · intro k h4 h5 h6
        by_cases e2 : k = i
        · subst e2
          rw [if_pos h6]
          refine i1.2.1 (fun k' h7 h8 h9 => ?_)
          have := hst k k' (by omega) h8
          rw [h6, h9] at this
          exact Int32.lt_irrefl this
        · have hn : ¬ cve i = p := by
            intro z
            have := hst i k (by omega) h5
            rw [z, h6] at this
            exact Int32.lt_irrefl this
          rw [if_neg hn]
          exact i0.2.2 k (by omega) h5 h6
/-- the root of a version: -1 where it is not kept -/
def rootV (r : Nat) (cve cro : Nat → Int32) (p : Int32) : Int32 := (f_SH_rootOf p (nI r) cve cro).1
theorem roots_of {j N S E r : Nat} {cst cen mst men css : Int32} {cve cro : Nat → Int32} {mrs : Int32} {mve mrb : Nat → Int32} {mnw : Int32} (h : IRo j N S E r cst cen mst men css cve cro mrs mve mrb mnw) (hN : N ≤ 200) {nb nt : Nat} (p : Int32) :
    f_SH_rootOf p (nI r) cve cro = (rootV r cve cro p, ()) ∧ ok_SH_rootOf nb nt p (nI r) cve cro ∧ f_MO_rootOf p (nI r) mve mrb = (rootV r cve cro p, ()) ∧ ok_MO_rootOf p (nI r) mve mrb ∧
    ((rootV r cve cro p = -1 ∧ ∀ k, k < r → ¬ cve k = p) ∨ ∃ k q, k < r ∧ cve k = p ∧ rootV r cve cro p = cro k ∧ S ≤ q ∧ q < E ∧ cro k = nI q) := by
  obtain ⟨-, ⟨h1, h2, h3, h4⟩, h5, h6, -⟩ := h
  have hr : r ≤ 200 := by omega
  have a := sh_root_l (nb := nb) (nt := nt) (cve := cve) (cro := cro) hr p 1024 0 (by omega) (by omega) (fun k h => by omega)
  have b := mo_root_l hr p (fun i hi => ⟨(h5 i hi).1, (h5 i hi).2.1⟩) h6 1024 0 (-1) (by omega) (by omega)
  rw [nI_0] at a b
  have ea : f_SH_rootOf p (nI r) cve cro = f_SH_rootOf_2 1024 p 0 (nI r) cve cro := by unfold f_SH_rootOf; rfl
  have eb : f_MO_rootOf p (nI r) mve mrb = f_MO_rootOf_4 1024 p (-1) 0 (nI r) mve mrb := by unfold f_MO_rootOf; rfl
  rw [← ea] at a
  rw [← eb] at b
  have oa : ok_SH_rootOf nb nt p (nI r) cve cro := by unfold ok_SH_rootOf; exact a.1
  have ob : ok_MO_rootOf p (nI r) mve mrb := by unfold ok_MO_rootOf; exact b.1
  unfold rootV
  rcases a.2 with ⟨a1, a2⟩ | ⟨k, k1, k2, k3⟩
  · rw [a1, b.2.1 (fun k _ hk => a2 k hk)]
    exact ⟨rfl, oa, rfl, ob, Or.inl ⟨rfl, a2⟩⟩
  · rw [k3, b.2.2 k (Nat.zero_le _) k1 k2]
    obtain ⟨-, -, v, q, -, c2, -, -, c3, c4⟩ := h5 k k1
    exact ⟨rfl, oa, rfl, ob, Or.inr ⟨k, q, k1, k2, rfl, c3, c4, c2⟩⟩
theorem m1_ne {q : Nat} (h : q < 2 ^ 31) : ¬ nI q = (-1 : Int32) := by
  intro z
  have := congrArg Int32.toInt z
  rw [nI_toInt h, show (-1 : Int32).toInt = -1 by decide] at this
  omega
theorem m2_ne {q : Nat} (h : q < 2 ^ 31) : ¬ nI q = (-2 : Int32) := by
  intro z
  have := congrArg Int32.toInt z
  rw [nI_toInt h, show (-2 : Int32).toInt = -2 by decide] at this
  omega
theorem ver_ne0 {j N S E r : Nat} {cst cen mst men css : Int32} {cve cro : Nat → Int32} {mrs : Int32} {mve mrb : Nat → Int32} {mnw : Int32} (h : IRo j N S E r cst cen mst men css cve cro mrs mve mrb mnw) (hj : j < 512) {i : Nat} (hi : i < r) : ¬ cve i = 0 := by
  obtain ⟨-, -, h5, -⟩ := h
  obtain ⟨-, -, v, q, c1, -, c2, c3, -⟩ := h5 i hi
  rw [c1]
  exact nI_ne0 c2 (by omega)
theorem root0 {j N S E r : Nat} {cst cen mst men css : Int32} {cve cro : Nat → Int32} {mrs : Int32} {mve mrb : Nat → Int32} {mnw : Int32} (h : IRo j N S E r cst cen mst men css cve cro mrs mve mrb mnw) (hj : j < 512) (hN : N ≤ 200) : rootV r cve cro 0 = -1 := by
  obtain ⟨-, -, -, -, h5⟩ := roots_of (nb := 0) (nt := 0) h hN 0
  rcases h5 with ⟨h5, -⟩ | ⟨k, q, h6, h7, -⟩
  · exact h5
  · exact absurd h7 (ver_ne0 h hj h6)
/-- kept, on both sides; and what is kept has a root, version 0 apart -/
theorem kept_of {j N S E r : Nat} {cst cen mst men css : Int32} {cve cro : Nat → Int32} {mrs : Int32} {mve mrb : Nat → Int32} {mnw : Int32} (h : IRo j N S E r cst cen mst men css cve cro mrs mve mrb mnw) (hj : j < 512) (hN : N ≤ 200) {nb nt : Nat} (p : Int32) :
    ok_BT_isKept nb nt p (nI S) (nI r) cve cro ∧ ok_MO_isKept p (nI S) (nI r) mve mrb ∧
    ((f_BT_isKept p (nI S) (nI r) cve cro = (0, ()) ∧ f_MO_isKept p (nI S) (nI r) mve mrb = (0, ())) ∨ (f_BT_isKept p (nI S) (nI r) cve cro = (1, ()) ∧ f_MO_isKept p (nI S) (nI r) mve mrb = (1, ()) ∧ (p = 0 ∨ ¬ p = 0 ∧ ∃ q, S ≤ q ∧ q < E ∧ rootV r cve cro p = nI q))) := by
  obtain ⟨a1, a2, a3, a4, a5⟩ := roots_of (nb := nb) (nt := nt) h hN p
  obtain ⟨hE, hS⟩ := h.lt hj
  refine ⟨⟨fun _ => trivial, fun _ => a2⟩, ⟨fun _ => trivial, fun _ => a4⟩, ?_⟩
  unfold f_BT_isKept f_MO_isKept
  by_cases e : p = 0
  · simp only [if_pos e, bindc_def, f_RL_start]
    by_cases q : nI S = 0
    · simp only [if_pos q]; exact Or.inr ⟨trivial, trivial, Or.inl e⟩
    · simp only [if_neg q]; exact Or.inl ⟨trivial, trivial⟩
  · simp only [if_neg e, bindc_def, a1, a3]
    rcases a5 with ⟨a5, -⟩ | ⟨k, q, k1, k2, k3, k4, k5, k6⟩
    · rw [a5]
      exact Or.inl ⟨rfl, rfl⟩
    · rw [k3, k6]
      have c1 : ¬ nI q = (-1 : Int32) := m1_ne (by omega)
      have c2 : ¬ nI q < 0 := nI_pos (by omega)
      rw [if_neg c1, if_neg c2]
      exact Or.inr ⟨rfl, rfl, Or.inr ⟨e, q, k4, k5, rfl⟩⟩
set_option maxHeartbeats 1000000 in
theorem sim_kept : SIM_kept INV := by
  intro j N cfa cle cwr csl cst cen cby cto csh cdz cch cva css cve cro crc cma cbi ces cbl crt mrf msl mst men mnw mdn mpw mwr mrs mdr mtb mrc mnx mro mit mve mrb mch mva mic mlb mrw mnb mlk mnk mmd p0 lou hj hinv
  obtain ⟨hN1, hN2, hcsl, hmsl, hPow, hDr, hBy, hTo, hSh, hRt, S, E, r, hRo⟩ := hinv
  obtain ⟨h1, h2, h3, h4, h5, h6⟩ := hPow
  subst h2
  have hRR := rr_of hN1 hN2 hBy hTo
  obtain ⟨hE, hS⟩ := hRo.lt hj
  have hRo2 := hRo
  obtain ⟨⟨rfl, rfl, rfl, rfl, rfl, rfl⟩, ⟨-, hES, -, hrE⟩, hcell, -⟩ := hRo2
  subst hcsl hmsl
  have hb := isB_of h1
  have hinv : ∀ mrf, INV (j + 1) N mdn cle cwr (nI N) (nI S) (nI E) cby cto csh cdz cch cva (nI r) cve cro crc cma cbi ces cbl crt mrf (nI N) (nI S) (nI E) mnw mdn mpw mwr (nI r) mdr mtb mrc mnx mro mit mve mrb mch mva mic mlb mrw mnb mlk mnk mmd := fun _ => INV_mk hN1 hN2 rfl rfl ⟨h1, rfl, h3, h4, h5, h6⟩ hDr hBy hTo hSh hRt hRo.mono
  have hokT : okT_BT_kept (N * 64) N p0 mdn := by
    simp only [okT_BT_kept]
    exact ⟨fun _ z => (z trivial).elim, fun _ _ => hb⟩
  refine ⟨hokT, ?_⟩
  by_cases a : p0 < 0
  · have t : th_BT_kept p0 mdn = 1 := by simp [th_BT_kept, a]
    refine ⟨fun h => absurd (t.symm.trans h) (by decide), ?_, ?_⟩
    · simp [ok_MO_kept, ok_MO_kept_10, a, bindp_iff, goes_0]
    · intro z1 z2 q1 q2
      simp [g_LA_kept, t] at q1
      simp [f_MO_kept, f_MO_kept_10, a, bindc_def, goes_0] at q2
      subst q1 q2
      exact ⟨rfl, fun h => absurd h no1, hinv _⟩
  · rcases h1 with rfl | rfl
    · have t : th_BT_kept p0 0 = 0 := by simp [th_BT_kept, a]
      have hi : ¬ nI r ≤ p0 → ∃ k, k < r ∧ p0 = nI k ∧ nI r - (1 : Int32) - p0 = nI (r - 1 - k) := by
        intro z
        obtain ⟨k, hk, rfl⟩ := nI_of a
        have hkr : k < r := Nat.lt_of_not_le (fun y => z (nI_le y hk))
        refine ⟨k, hkr, rfl, ?_⟩
        rw [show (1 : Int32) = nI 1 from rfl, pk_sub (by omega), pk_sub (by omega)]
      have k0 := (kept_of (nb := N * 64) (nt := N) hRo hj hN2 0).1
      have e0 : f_BT_isKept 0 (nI S) (nI r) cve cro = (if nI S = 0 then 1 else 0, ()) := by
        unfold f_BT_isKept; simp only [if_true, bindc_def, f_RL_start]
        by_cases q : nI S = 0
        · simp only [if_pos q]
        · simp only [if_neg q]
      refine ⟨fun _ => ?_, ?_, ?_⟩
      · simp only [ok_BT_kept, ok_BT_kept_10, bindp_iff, f_SH_size]
        refine ⟨fun z => absurd z a, fun _ => ⟨okRA_1, okRP_0, fun _ => ⟨fun _ => k0, fun _ => trivial⟩, fun z => ⟨fun y => absurd y a, fun _ => ⟨fun y => absurd y z, fun _ => ?_⟩⟩⟩⟩
        obtain ⟨k, hk1, hk2, hk3⟩ := hi z
        rw [hk3]; exact vp_in_nI (by omega) (by omega)
      · simp only [ok_MO_kept, ok_MO_kept_10, bindp_iff, goes_10]
        refine ⟨fun z => absurd z a, fun _ => ⟨fun z => absurd z no1, fun _ => ⟨fun _ => trivial, fun z => ?_⟩⟩⟩
        obtain ⟨k, hk1, hk2, hk3⟩ := hi z
        rw [hk3]; exact vp_in_nI (by omega) (by omega)
      · intro z1 z2 q1 q2
        simp only [g_LA_kept, t, if_true, f_BT_kept, if_neg a, f_BT_kept_10, bindc_def, f_SH_size, e0, f_SH_versionFromNewest] at q1
        simp only [f_MO_kept, if_neg a, f_MO_kept_10, bindc_def, goes_10, if_neg no1] at q2
        by_cases c : nI r ≤ p0
        · simp only [if_pos c] at q1 q2
          by_cases c2 : p0 = nI r
          · simp only [if_pos c2] at q1 q2
            by_cases c3 : nI S = 0
            · simp only [if_pos c3, if_neg no1] at q1 q2
              subst q1 q2
              exact ⟨rfl, fun _ => by simp [pk_uLs], hinv _⟩
            · simp only [if_neg c3, if_true] at q1 q2
              subst q1 q2
              exact ⟨rfl, fun _ => by simp [pk_uLs], hinv _⟩
          · simp only [if_neg c2] at q1 q2
            subst q1 q2
            exact ⟨rfl, fun _ => by simp [pk_uLs], hinv _⟩
        · simp only [if_neg c] at q1 q2
          obtain ⟨k, hk1, hk2, hk3⟩ := hi c
          rw [hk3, nI_clamp (by omega)] at q1 q2
          rw [(hcell (r - 1 - k) (by omega)).1] at q2
          subst q1 q2
          exact ⟨rfl, fun _ => by simp [pk_uLs], hinv _⟩
    · have t : th_BT_kept p0 1 = 2 := by simp [th_BT_kept, a]
      refine ⟨fun h => absurd (t.symm.trans h) (by decide), ?_, ?_⟩
      · simp [ok_MO_kept, ok_MO_kept_10, a, bindp_iff, goes_11]
      · intro z1 z2 q1 q2
        simp [g_LA_kept, t] at q1
        simp [f_MO_kept, f_MO_kept_10, a, bindc_def, goes_11] at q2
        subst q1 q2
        exact ⟨rfl, fun h => absurd h no2, hinv _⟩
set_option maxHeartbeats 1000000 in
theorem sim_rows : SIM_rows INV := by
  intro j N cfa cle cwr csl cst cen cby cto csh cdz cch cva css cve cro crc cma cbi ces cbl crt mrf msl mst men mnw mdn mpw mwr mrs mdr mtb mrc mnx mro mit mve mrb mch mva mic mlb mrw mnb mlk mnk mmd p0 lou hj hinv
  obtain ⟨hN1, hN2, hcsl, hmsl, hPow, hDr, hBy, hTo, hSh, hRt, S, E, r, hRo⟩ := hinv
  obtain ⟨h1, h2, h3, h4, h5, h6⟩ := hPow
  subst h2
  have hRR := rr_of hN1 hN2 hBy hTo
  obtain ⟨hE, hS⟩ := hRo.lt hj
  have hRo2 := hRo
  obtain ⟨⟨rfl, rfl, rfl, rfl, rfl, rfl⟩, ⟨-, hES, -, hrE⟩, hcell, -⟩ := hRo2
  subst hcsl hmsl
  have hb := isB_of h1
  have hinv : ∀ mrf, INV (j + 1) N mdn cle cwr (nI N) (nI S) (nI E) cby cto csh cdz cch cva (nI r) cve cro crc cma cbi ces cbl crt mrf (nI N) (nI S) (nI E) mnw mdn mpw mwr (nI r) mdr mtb mrc mnx mro mit mve mrb mch mva mic mlb mrw mnb mlk mnk mmd := fun _ => INV_mk hN1 hN2 rfl rfl ⟨h1, rfl, h3, h4, h5, h6⟩ hDr hBy hTo hSh hRt hRo.mono
  obtain ⟨k1, k2, k3⟩ := kept_of (nb := N * 64) (nt := N) hRo hj hN2 p0
  obtain ⟨a1, a2, a3, a4, -⟩ := roots_of (nb := N * 64) (nt := N) hRo hN2 p0
  have hokT : okT_BT_rows (N * 64) N p0 mdn (nI S) (nI r) cve cro := ⟨k1, by rw [bindp_iff]; exact fun _ => hb⟩
  refine ⟨hokT, ?_⟩
  rcases k3 with ⟨k3, k4⟩ | ⟨k3, k4, k5⟩
  · have t : th_BT_rows p0 mdn (nI S) (nI r) cve cro = 1 := by simp [th_BT_rows, k3, bindc_def]
    refine ⟨fun h => absurd (t.symm.trans h) (by decide), ?_, ?_⟩
    · simp only [ok_MO_rows, k4, bindp_iff, goes_0]
      exact ⟨k2, fun _ => trivial, fun z => (z trivial).elim⟩
    · intro z1 z2 q1 q2
      simp [g_LA_rows, t] at q1
      simp [f_MO_rows, k4, bindc_def, goes_0] at q2
      subst q1 q2
      exact ⟨rfl, fun h => absurd h no1, hinv _⟩
  · rcases h1 with rfl | rfl
    · have t : th_BT_rows p0 0 (nI S) (nI r) cve cro = 0 := by simp [th_BT_rows, k3, bindc_def]
      obtain ⟨b1, b2, b3, b4, b5⟩ := rr_bad hRR hE hS (rootV r cve cro p0) 4
      have hent : ¬ p0 = 0 → bad N S E mro mit (rootV r cve cro p0) 4 = 0 → ok_RL_entryOf (N * 64) N (rootV r cve cro p0) 1 (nI N) cby ∧ ok_MO_entryOf (rootV r cve cro p0) 1 (nI N) mro ∧ f_RL_entryOf (rootV r cve cro p0) 1 (nI N) cby = f_MO_entryOf (rootV r cve cro p0) 1 (nI N) mro := by
        intro z y
        rcases b5 with b5 | ⟨-, b, hb1, hb2, hb3⟩
        · rw [y] at b5; exact absurd b5 (by decide)
        · rw [hb3]
          obtain ⟨e1, e2, e3, e4⟩ := rr_entry (k := 1) hRR (show b < 2 ^ 30 by omega) (by omega)
          exact ⟨e2, e4, e1.trans e3.symm⟩
      have hm1 : ¬ p0 = 0 → ¬ rootV r cve cro p0 = -1 := by
        intro z
        rcases k5 with k5 | ⟨-, q, k6, k7, k8⟩
        · exact absurd k5 z
        · rw [k8]; exact m1_ne (by omega)
      have hz : p0 = 0 → rootV r cve cro p0 = -1 := fun z => by rw [z]; exact root0 hRo hj hN2
      refine ⟨fun _ => ?_, ?_, ?_⟩
      · simp only [ok_BT_rows, bindp_iff, k3, a1, b1]
        refine ⟨k1, okRA_1, okRP_0, a2, fun _ => trivial, fun z => ⟨b2, fun y => ?_, fun _ => trivial⟩⟩
        exact (hent (fun w => z (hz w)) y).1
      · simp only [ok_MO_rows, bindp_iff, k4, goes_10, a3, b3]
        exact ⟨k2, fun _ => trivial, fun _ => ⟨fun _ => trivial, fun z => ⟨a4, b4, fun y => (hent z y).2.1, fun _ => trivial⟩⟩⟩
      · intro z1 z2 q1 q2
        simp only [g_LA_rows, t, if_true, f_BT_rows, bindc_def, k3, a1, b1] at q1
        simp only [f_MO_rows, bindc_def, k4, goes_10, if_neg no1, a3, b3] at q2
        by_cases c : p0 = 0
        · rw [if_pos (hz c)] at q1
          rw [if_pos c] at q2
          subst q1 q2
          exact ⟨rfl, fun _ => by simp [pk_uLs], hinv _⟩
        · rw [if_neg (hm1 c)] at q1
          rw [if_neg c] at q2
          by_cases c2 : bad N S E mro mit (rootV r cve cro p0) 4 = 0
          · rw [if_pos c2] at q1 q2
            rw [(hent c c2).2.2] at q1
            subst q1 q2
            exact ⟨rfl, fun _ => by simp [pk_uLs], hinv _⟩
          · rw [if_neg c2] at q1 q2
            subst q1 q2
            exact ⟨rfl, fun _ => by simp [pk_uLs], hinv _⟩
    · have t : th_BT_rows p0 1 (nI S) (nI r) cve cro = 2 := by simp [th_BT_rows, k3, bindc_def]
      refine ⟨fun h => absurd (t.symm.trans h) (by decide), ?_, ?_⟩
      · simp only [ok_MO_rows, k4, bindp_iff, goes_11]
        exact ⟨k2, fun _ => trivial, fun z => (z trivial).elim⟩
      · intro z1 z2 q1 q2
        simp [g_LA_rows, t] at q1
        simp [f_MO_rows, k4, bindc_def, goes_11] at q2
        subst q1 q2
        exact ⟨rfl, fun h => absurd h no2, hinv _⟩
