/-! which pages are changed -/
theorem nar0 : vp_nar .boolean (0 : Int32) = 0 := by decide
theorem nar1 : vp_nar .boolean (1 : Int32) = 1 := by decide
theorem pg_clr2_l {nb nt : Nat} (crc : Int32) (cma cbi : Nat → Int32) : ∀ (f i : Nat) (ces : Nat → Int32), i ≤ 584 → 584 < i + f → (∀ k, k < i → ces k = 0) → ok_PG_clear_30 nb nt f (nI i) crc cma cbi ces ∧ ∃ ces', f_PG_clear_30 f (nI i) crc cma cbi ces = (0, cma, cbi, ces') ∧ ∀ k, k < 584 → ces' k = 0 := by
  intro f
  induction f with
  | zero => intro i ces h1 h2; omega
  | succ f ih =>
    intro i ces h1 h2 h3
    rw [ok_PG_clear_30, f_PG_clear_30]
    by_cases e : i = 584
    · subst e
      have c : (584 : Int32) ≤ nI 584 := by decide
      rw [if_pos c]
      exact ⟨⟨fun _ => trivial, fun z => absurd c z⟩, ces, rfl, h3⟩
    · have c : ¬ (584 : Int32) ≤ nI i := nI_ge (a := i) (b := 584) (by omega) (by omega)
      rw [if_neg c, nI_1, nI_clamp (show i < 2 ^ 31 by omega)]
      have := ih (i + 1) (upd ces i 0) (by omega) (by omega) (fun k hk => by
        by_cases e2 : k = i
        · rw [e2]; exact pk_us
        · rw [pk_un e2]; exact h3 k (by omega))
      exact ⟨⟨fun z => absurd z c, fun _ => ⟨vp_in_nI (by omega) (by omega), this.1⟩⟩, this.2⟩
theorem pg_clr1_l {nb nt : Nat} (crc : Int32) (ces : Nat → Int32) : ∀ (f i : Nat) (cma cbi : Nat → Int32), i ≤ 73 → 73 < i + f → (∀ k, k < i → cma k = 0 ∧ cbi k = 0) → ok_PG_clear_2 nb nt f (nI i) crc cma cbi ces ∧ ∃ cma' cbi' ces', f_PG_clear_2 f (nI i) crc cma cbi ces = (0, cma', cbi', ces') ∧ (∀ k, k < 73 → cma' k = 0 ∧ cbi' k = 0) ∧ ∀ k, k < 584 → ces' k = 0 := by
  intro f
  induction f with
  | zero => intro i cma cbi h1 h2; omega
  | succ f ih =>
    intro i cma cbi h1 h2 h3
    rw [ok_PG_clear_2, f_PG_clear_2]
    by_cases e : i = 73
    · subst e
      have c : (73 : Int32) ≤ nI 73 := by decide
      rw [if_pos c]
      obtain ⟨o, ces', e1, e2⟩ := pg_clr2_l (nb := nb) (nt := nt) crc cma cbi 1024 0 ces (by omega) (by omega) (fun k hk => by omega)
      rw [nI_0] at o e1
      exact ⟨⟨fun _ => o, fun z => absurd c z⟩, cma, cbi, ces', e1, h3, e2⟩
    · have c : ¬ (73 : Int32) ≤ nI i := nI_ge (a := i) (b := 73) (by omega) (by omega)
      rw [if_neg c, nI_1, nI_clamp (show i < 2 ^ 31 by omega), nar0]
      have w : vp_in (nI i) 73 := vp_in_nI (by omega) (by omega)
      have := ih (i + 1) (upd cma i 0) (upd cbi i 0) (by omega) (by omega) (fun k hk => by
        by_cases e2 : k = i
        · rw [e2]; exact ⟨pk_us, pk_us⟩
        · rw [pk_un e2, pk_un e2]; exact h3 k (by omega))
      exact ⟨⟨fun z => absurd z c, fun _ => ⟨w, w, this.1⟩⟩, this.2⟩
theorem pg_clr {nb nt : Nat} (crc : Int32) (cma cbi ces : Nat → Int32) : ok_PG_clear nb nt crc cma cbi ces ∧ ∃ cma' cbi' ces', f_PG_clear crc cma cbi ces = (0, cma', cbi', ces') ∧ (∀ k, k < 73 → cma' k = 0 ∧ cbi' k = 0) ∧ ∀ k, k < 584 → ces' k = 0 := by
  have h := pg_clr1_l (nb := nb) (nt := nt) crc ces 1024 0 cma cbi (by omega) (by omega) (fun k hk => by omega)
  rw [nI_0] at h
  unfold ok_PG_clear f_PG_clear
  exact h
/-- the marks of both sides: the leaves, the nodes over them, the top -/
def MK (cma mic : Nat → Int32) : Prop := (∀ l, l < 64 → (cma l = 0 ↔ mic l = 0)) ∧ (∀ m, m < 8 → (cma (64 + m) = 0 ↔ ∀ k, k < 8 → mic (8 * m + k) = 0)) ∧ ¬ cma 72 = 0
theorem pg_all_l {nb nt : Nat} : ∀ (f i : Nat) (cma : Nat → Int32), i ≤ 73 → 73 < i + f → (∀ k, k < i → cma k = 1) → ok_PG_markAll_2 nb nt f (nI i) cma ∧ ∀ k, k < 73 → f_PG_markAll_2 f (nI i) cma k = 1 := by
  intro f
  induction f with
  | zero => intro i cma h1 h2; omega
  | succ f ih =>
    intro i cma h1 h2 h3
    rw [ok_PG_markAll_2, f_PG_markAll_2]
    by_cases e : i = 73
    · subst e
      have c : (73 : Int32) ≤ nI 73 := by decide
      rw [if_pos c]
      exact ⟨⟨fun _ => trivial, fun z => absurd c z⟩, h3⟩
    · have c : ¬ (73 : Int32) ≤ nI i := nI_ge (a := i) (b := 73) (by omega) (by omega)
      rw [if_neg c, nI_1, nI_clamp (show i < 2 ^ 31 by omega), nar1]
      have := ih (i + 1) (upd cma i 1) (by omega) (by omega) (fun k hk => by
        by_cases e2 : k = i
        · rw [e2]; exact pk_us
        · rw [pk_un e2]; exact h3 k (by omega))
      exact ⟨⟨fun z => absurd z c, fun _ => ⟨vp_in_nI (by omega) (by omega), this.1⟩⟩, this.2⟩
theorem pg_all {nb nt : Nat} (cma : Nat → Int32) : ok_PG_markAll nb nt cma ∧ ∀ k, k < 73 → f_PG_markAll cma k = 1 := by
  have h := pg_all_l (nb := nb) (nt := nt) 1024 0 cma (by omega) (by omega) (fun k hk => by omega)
  rw [nI_0] at h
  unfold ok_PG_markAll f_PG_markAll
  exact h
/-- the keys below i that are changed have their pages marked, and no other page is -/
def MKc (i : Nat) (cch cma : Nat → Int32) : Prop := (∀ l, l < 64 → (cma l = 0 ↔ ∀ k, k < 8 → 8 * l + k < i → cch (8 * l + k) = 0)) ∧ (∀ m, m < 8 → (cma (64 + m) = 0 ↔ ∀ k, k < 64 → 64 * m + k < i → cch (64 * m + k) = 0)) ∧ (cma 72 = 0 ↔ ∀ k, k < i → cch k = 0)
theorem mkc_skip {i : Nat} {cch cma : Nat → Int32} (h : MKc i cch cma) (h0 : cch i = 0) : MKc (i + 1) cch cma := by
  obtain ⟨h1, h2, h3⟩ := h
  refine ⟨fun l hl => ?_, fun m hm => ?_, ?_⟩
  · rw [h1 l hl]
    refine ⟨fun z k hk hi => ?_, fun z k hk hi => z k hk (by omega)⟩
    by_cases e : 8 * l + k = i
    · rw [e]; exact h0
    · exact z k hk (by omega)
  · rw [h2 m hm]
    refine ⟨fun z k hk hi => ?_, fun z k hk hi => z k hk (by omega)⟩
    by_cases e : 64 * m + k = i
    · rw [e]; exact h0
    · exact z k hk (by omega)
  · rw [h3]
    refine ⟨fun z k hi => ?_, fun z k hi => z k (by omega)⟩
    by_cases e : k = i
    · rw [e]; exact h0
    · exact z k (by omega)
theorem mkc_put {i : Nat} {cch cma : Nat → Int32} (h : MKc i cch cma) (h0 : ¬ cch i = 0) (hi : i < 512) : MKc (i + 1) cch (upd (upd (upd cma (i / 8) 1) (64 + i / 8 / 8) 1) 72 1) := by
  obtain ⟨h1, h2, h3⟩ := h
  refine ⟨fun l hl => ?_, fun m hm => ?_, ?_⟩
  · rw [pk_un (by omega), pk_un (by omega)]
    by_cases e : l = i / 8
    · subst e
      rw [pk_us]
      refine ⟨fun z => absurd z no1, fun z => ?_⟩
      have := z (i % 8) (by omega) (by omega)
      rw [show 8 * (i / 8) + i % 8 = i by omega] at this
      exact absurd this h0
    · rw [pk_un e, h1 l hl]
      refine ⟨fun z k hk hi => ?_, fun z k hk hi => z k hk (by omega)⟩
      exact z k hk (by omega)
  · rw [pk_un (by omega)]
    by_cases e : m = i / 8 / 8
    · subst e
      rw [pk_us]
      refine ⟨fun z => absurd z no1, fun z => ?_⟩
      have := z (i % 64) (by omega) (by omega)
      rw [show 64 * (i / 8 / 8) + i % 64 = i by omega] at this
      exact absurd this h0
    · rw [pk_un (by omega), pk_un (by omega), h2 m hm]
      refine ⟨fun z k hk hi => ?_, fun z k hk hi => z k hk (by omega)⟩
      exact z k hk (by omega)
  · rw [pk_us]
    refine ⟨fun z => absurd z no1, fun z => absurd (z i (by omega)) h0⟩
theorem pg_mark_l {nb nt : Nat} (cch : Nat → Int32) : ∀ (f i : Nat) (cma : Nat → Int32), i ≤ 512 → 512 < i + f → MKc i cch cma → ok_PG_markKeysOf_2 nb nt f (nI i) cch cma ∧ MKc 512 cch (f_PG_markKeysOf_2 f (nI i) cch cma) := by
  intro f
  induction f with
  | zero => intro i cma h1 h2; omega
  | succ f ih =>
    intro i cma h1 h2 h3
    rw [ok_PG_markKeysOf_2, f_PG_markKeysOf_2]
    by_cases e : i = 512
    · subst e
      have c : (512 : Int32) ≤ nI 512 := by decide
      rw [if_pos c]
      exact ⟨⟨fun _ => trivial, fun z => absurd c z⟩, h3⟩
    · have c : ¬ (512 : Int32) ≤ nI i := nI_ge (a := i) (b := 512) (by omega) (by omega)
      obtain ⟨s1, s2⟩ := key_sh (show i < 512 by omega)
      have w : vp_in (nI i) 512 := vp_in_nI (by omega) (by omega)
      have hp := pg_par (show i / 8 < 73 by omega)
      simp only [if_neg c, bindc_def, bindp_iff, nI_1, s1, hp, nI_clamp (show i / 8 < 2 ^ 31 by omega), nI_clamp (show 64 + i / 8 / 8 < 2 ^ 31 by omega), nar1, show (72 : Int32).toNatClampNeg = 72 by decide, ok_DR_has, f_DR_has, nI_clamp (show i < 2 ^ 31 by omega)]
      by_cases q : cch i = 0
      · simp only [if_pos q, if_true]
        have := ih (i + 1) cma (by omega) (by omega) (mkc_skip h3 q)
        exact ⟨⟨fun z => absurd z c, fun _ => ⟨w, fun _ => this.1, fun z => (z trivial).elim⟩⟩, this.2⟩
      · simp only [if_neg q, if_neg no1]
        have := ih (i + 1) _ (by omega) (by omega) (mkc_put h3 q (by omega))
        exact ⟨⟨fun z => absurd z c, fun _ => ⟨w, fun z => absurd z no1, fun _ => ⟨vp_in_nI (by omega) (by omega), vp_in_nI (by omega) (by omega), (show vp_in (nI 72) 73 from vp_in_nI (by omega) (by omega)), this.1⟩⟩⟩, this.2⟩
theorem pg_mark {nb nt : Nat} (cch : Nat → Int32) {cma : Nat → Int32} (h : ∀ k, k < 73 → cma k = 0) : ok_PG_markKeysOf nb nt cch cma ∧ MKc 512 cch (f_PG_markKeysOf cch cma) := by
  have h := pg_mark_l (nb := nb) (nt := nt) cch 1024 0 cma (by omega) (by omega) ⟨fun l hl => ⟨fun _ k _ z => by omega, fun _ => h l (by omega)⟩, fun m hm => ⟨fun _ k _ z => by omega, fun _ => h (64 + m) (by omega)⟩, ⟨fun _ k z => by omega, fun _ => h 72 (by omega)⟩⟩
  rw [nI_0] at h
  unfold ok_PG_markKeysOf f_PG_markKeysOf
  exact h
/-- the marks of the reference: the keys below i looked at -/
def MKm (i : Nat) (mch mic : Nat → Int32) : Prop := ∀ l, l < 64 → (mic l = 0 ↔ ∀ k, k < 8 → 8 * l + k < i → mch (8 * l + k) = 0)
theorem mk_of {cch cma mch mic : Nat → Int32} (h1 : MKc 512 cch cma) (h2 : MKm 512 mch mic) (h3 : ∀ k, k < 512 → mch k = cch k) (h4 : ∃ k, k < 512 ∧ ¬ cch k = 0) : MK cma mic ∧ ∀ k, k < 512 → ¬ mch k = 0 → ¬ mic (k / 8) = 0 := by
  obtain ⟨a1, a2, a3⟩ := h1
  refine ⟨⟨fun l hl => ?_, fun m hm => ?_, fun z => ?_⟩, fun k hk hne z => ?_⟩
  · rw [a1 l hl, h2 l hl]
    exact ⟨fun z k hk hi => by rw [h3 _ (by omega)]; exact z k hk hi, fun z k hk hi => by rw [← h3 _ (by omega)]; exact z k hk hi⟩
  · rw [a2 m hm]
    refine ⟨fun z k hk => ?_, fun z k hk hi => ?_⟩
    · rw [h2 (8 * m + k) (by omega)]
      intro k2 hk2 hi
      rw [h3 _ (by omega)]
      have := z (8 * k + k2) (by omega) (by omega)
      rw [show 64 * m + (8 * k + k2) = 8 * (8 * m + k) + k2 by omega] at this
      exact this
    · have := (h2 (8 * m + k / 8) (by omega)).mp (z (k / 8) (by omega)) (k % 8) (by omega) (by omega)
      rw [h3 _ (by omega), show 8 * (8 * m + k / 8) + k % 8 = 64 * m + k by omega] at this
      exact this
  · obtain ⟨k, hk1, hk2⟩ := h4
    exact hk2 (a3.mp z k hk1)
  · have := (h2 (k / 8) (by omega)).mp z (k % 8) (by omega) (by omega)
    rw [show 8 * (k / 8) + k % 8 = k by omega] at this
    exact hne this
