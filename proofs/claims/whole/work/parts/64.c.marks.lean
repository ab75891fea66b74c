/-! the reference's marks, for a commit and for a copy -/
theorem c23_l {mrf msl mst men mnw mdn mpw mwr mrs mdr mtb mrc mnx : Int32} {mro mit mve mrb mch mva mlb mrw mnb mlk mnk mmd : Nat → Int32} : ∀ (f i : Nat) (mic : Nat → Int32), i ≤ 64 → 64 < i + f → (∀ k, k < i → mic k = 0) →
    ∃ mic', (∀ k, k < 64 → mic' k = 0) ∧ f_MO_commit_23 f (nI i) mrf msl mst men mnw mdn mpw mwr mrs mdr mtb mrc mnx mro mit mve mrb mch mva mic mlb mrw mnb mlk mnk mmd = f_MO_commit_44 1024 0 mrf msl mst men mnw mdn mpw mwr mrs mdr mtb mrc mnx mro mit mve mrb mch mva mic' mlb mrw mnb mlk mnk mmd ∧ (ok_MO_commit_44 1024 0 mrf msl mst men mnw mdn mpw mwr mrs mdr mtb mrc mnx mro mit mve mrb mch mva mic' mlb mrw mnb mlk mnk mmd → ok_MO_commit_23 f (nI i) mrf msl mst men mnw mdn mpw mwr mrs mdr mtb mrc mnx mro mit mve mrb mch mva mic mlb mrw mnb mlk mnk mmd) := by
  intro f
  induction f with
  | zero => intro i mic h1 h2; omega
  | succ f ih =>
    intro i mic h1 h2 h3
    rw [f_MO_commit_23, ok_MO_commit_23]
    by_cases e : i = 64
    · subst e
      have c : (64 : Int32) ≤ nI 64 := by decide
      rw [if_pos c]
      exact ⟨mic, h3, rfl, fun o => ⟨fun _ => o, fun z => absurd c z⟩⟩
    · have c : ¬ (64 : Int32) ≤ nI i := nI_ge (a := i) (b := 64) (by omega) (by omega)
      rw [if_neg c, nI_1, nI_clamp (show i < 2 ^ 31 by omega), nar0]
      obtain ⟨mic', r1, r2, r3⟩ := ih (i + 1) (upd mic i 0) (by omega) (by omega) (fun k hk => by
        by_cases e2 : k = i
        · rw [e2]; exact pk_us
        · rw [pk_un e2]; exact h3 k (by omega))
      exact ⟨mic', r1, r2, fun o => ⟨fun z => absurd z c, fun _ => ⟨vp_in_nI (by omega) (by omega), r3 o⟩⟩⟩
theorem mkm_s {i : Nat} {mch mic : Nat → Int32} (h : MKm i mch mic) (hi : i < 512) {y : Int32} (hy : y = 0 ↔ mic (i / 8) = 0 ∧ mch i = 0) : MKm (i + 1) mch (upd mic (i / 8) y) := by
  intro l hl
  by_cases e : l = i / 8
  · subst e
    rw [pk_us, hy, h (i / 8) hl]
    refine ⟨fun z k hk hki => ?_, fun z => ⟨fun k hk hki => z k hk (by omega), ?_⟩⟩
    · by_cases e2 : 8 * (i / 8) + k = i
      · rw [e2]; exact z.2
      · exact z.1 k hk (by omega)
    · have := z (i % 8) (by omega) (by omega)
      rw [show 8 * (i / 8) + i % 8 = i by omega] at this
      exact this
  · rw [pk_un e, h l hl]
    exact ⟨fun z k hk hki => z k hk (by omega), fun z k hk hki => z k hk (by omega)⟩
theorem c44_l {mrf msl mst men mnw mdn mpw mwr mrs mdr mtb mrc mnx : Int32} {mro mit mve mrb mch mva mlb mrw mnb mlk mnk mmd : Nat → Int32} : ∀ (d f i : Nat) (mic : Nat → Int32), i + d = 512 → MKm i mch mic →
    ∃ mic', MKm 512 mch mic' ∧ f_MO_commit_44 (f + d) (nI i) mrf msl mst men mnw mdn mpw mwr mrs mdr mtb mrc mnx mro mit mve mrb mch mva mic mlb mrw mnb mlk mnk mmd = f_MO_commit_44 f (nI 512) mrf msl mst men mnw mdn mpw mwr mrs mdr mtb mrc mnx mro mit mve mrb mch mva mic' mlb mrw mnb mlk mnk mmd ∧ (ok_MO_commit_44 f (nI 512) mrf msl mst men mnw mdn mpw mwr mrs mdr mtb mrc mnx mro mit mve mrb mch mva mic' mlb mrw mnb mlk mnk mmd → ok_MO_commit_44 (f + d) (nI i) mrf msl mst men mnw mdn mpw mwr mrs mdr mtb mrc mnx mro mit mve mrb mch mva mic mlb mrw mnb mlk mnk mmd) := by
  intro d
  induction d with
  | zero =>
    intro f i mic h1 h2
    have e : i = 512 := by omega
    subst e
    exact ⟨mic, h2, rfl, fun o => o⟩
  | succ d ih =>
    intro f i mic h1 h2
    have hi : i < 512 := by omega
    have c : ¬ (512 : Int32) ≤ nI i := nI_ge (a := i) (b := 512) (by omega) (by omega)
    have s3 : nI i / (8 : Int32) = nI (i / 8) := pk_div (d := 8) (by omega) (by omega) (by omega)
    have w8 : vp_in (nI (i / 8)) 64 := vp_in_nI (by omega) (by omega)
    have wi : vp_in (nI i) 512 := vp_in_nI (by omega) (by omega)
    rw [show f + (d + 1) = (f + d) + 1 by omega, f_MO_commit_44, ok_MO_commit_44]
    simp only [if_neg c, s3, nI_clamp (show i / 8 < 2 ^ 31 by omega), nI_clamp (show i < 2 ^ 31 by omega), nI_1, nar0, nar1]
    by_cases q : mic (i / 8) = 0
    · simp only [if_pos q]
      by_cases q2 : mch i = 0
      · simp only [if_pos q2]
        obtain ⟨mic', r1, r2, r3⟩ := ih f (i + 1) (upd mic (i / 8) 0) (by omega) (mkm_s h2 hi ⟨fun _ => ⟨q, q2⟩, fun _ => rfl⟩)
        exact ⟨mic', r1, r2, fun o => ⟨fun z => absurd z c, fun _ => ⟨w8, fun _ => ⟨wi, fun _ => ⟨w8, r3 o⟩, fun z => absurd q2 z⟩, fun z => absurd q z⟩⟩⟩
      · simp only [if_neg q2]
        obtain ⟨mic', r1, r2, r3⟩ := ih f (i + 1) (upd mic (i / 8) 1) (by omega) (mkm_s h2 hi ⟨fun z => absurd z no1, fun z => absurd z.2 q2⟩)
        exact ⟨mic', r1, r2, fun o => ⟨fun z => absurd z c, fun _ => ⟨w8, fun _ => ⟨wi, fun z => absurd z q2, fun _ => ⟨w8, r3 o⟩⟩, fun z => absurd q z⟩⟩⟩
    · simp only [if_neg q]
      obtain ⟨mic', r1, r2, r3⟩ := ih f (i + 1) (upd mic (i / 8) 1) (by omega) (mkm_s h2 hi ⟨fun z => absurd z no1, fun z => absurd z.1 q⟩)
      exact ⟨mic', r1, r2, fun o => ⟨fun z => absurd z c, fun _ => ⟨w8, fun z => absurd z q, fun _ => ⟨w8, r3 o⟩⟩⟩⟩
theorem c11_l {mrf msl mst men mnw mdn mpw mwr mrs mtb mrc mnx : Int32} {mro mit mve mrb mlb mrw mnb mlk mnk mmd : Nat → Int32} : ∀ (d f i : Nat) (mic : Nat → Int32), i + d = 64 → (∀ k, k < i → mic k = 1) →
    ∃ mic', (∀ k, k < 64 → mic' k = 1) ∧ f_MO_copy_11 (f + d) (nI i) mrf msl mst men mnw mdn mpw mwr mrs mtb mrc mnx mro mit mve mrb mic mlb mrw mnb mlk mnk mmd = f_MO_copy_11 f (nI 64) mrf msl mst men mnw mdn mpw mwr mrs mtb mrc mnx mro mit mve mrb mic' mlb mrw mnb mlk mnk mmd ∧ (ok_MO_copy_11 f (nI 64) mrf msl mst men mnw mdn mpw mwr mrs mtb mrc mnx mro mit mve mrb mic' mlb mrw mnb mlk mnk mmd → ok_MO_copy_11 (f + d) (nI i) mrf msl mst men mnw mdn mpw mwr mrs mtb mrc mnx mro mit mve mrb mic mlb mrw mnb mlk mnk mmd) := by
  intro d
  induction d with
  | zero =>
    intro f i mic h1 h2
    have e : i = 64 := by omega
    subst e
    exact ⟨mic, h2, rfl, fun o => o⟩
  | succ d ih =>
    intro f i mic h1 h2
    have c : ¬ (64 : Int32) ≤ nI i := nI_ge (a := i) (b := 64) (by omega) (by omega)
    rw [show f + (d + 1) = (f + d) + 1 by omega, f_MO_copy_11, ok_MO_copy_11]
    rw [if_neg c, nI_1, nI_clamp (show i < 2 ^ 31 by omega), nar1]
    obtain ⟨mic', r1, r2, r3⟩ := ih f (i + 1) (upd mic i 1) (by omega) (fun k hk => by
      by_cases e2 : k = i
      · rw [e2]; exact pk_us
      · rw [pk_un e2]; exact h2 k (by omega))
    exact ⟨mic', r1, r2, fun o => ⟨fun z => absurd z c, fun _ => ⟨vp_in_nI (by omega) (by omega), r3 o⟩⟩⟩
