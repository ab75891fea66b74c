/-! badAt -/
theorem badAt_l {N S E : Nat} {cby cto mro mit : Nat → Int32} (hRR : RR N cby cto mro mit) (hE : E < 2 ^ 30) (x1 cfa mdn : Int32) : ∀ (f b : Nat) (x2 : Int32), b ≤ E → E < b + f → f_MO_badAt_25 f x1 x2 (nI b) 0 (nI N) (nI S) (nI E) mdn mro mit = ((f_BT_badAt_27 f x1 x2 (nI b) cfa (nI N) (nI S) (nI E) cby cto).1, 0) ∧ ok_MO_badAt_25 f x1 x2 (nI b) 0 (nI N) (nI S) (nI E) mdn mro mit ∧ ok_BT_badAt_27 (N * 64) N f x1 x2 (nI b) cfa (nI N) (nI S) (nI E) cby cto := by
  intro f
  induction f with
  | zero => intro b x2 h1 h2; omega
  | succ f ih =>
    intro b x2 h1 h2
    rw [f_MO_badAt_25, f_BT_badAt_27, ok_MO_badAt_25, ok_BT_badAt_27]
    simp only [f_RL_end, bindc_def, bindp_iff]
    by_cases e : b = E
    · subst e
      have c : nI b ≤ nI b := nI_le (Nat.le_refl _) (by omega)
      simp only [if_pos c]
      exact ⟨trivial, ⟨fun _ => trivial, fun z => absurd c z⟩, fun _ => trivial, fun z => absurd c z⟩
    · have c : ¬ nI E ≤ nI b := nI_ge (by omega) (by omega)
      have hb30 : b < 2 ^ 30 := by omega
      obtain ⟨s1, s2⟩ := rr_sound hRR hb30
      have h01 := snd1_01 hRR b
      have hRR2 := hRR
      obtain ⟨g1, g2, g3, g4⟩ := hRR2
      have hp := pl (b := b) g1
      obtain ⟨p1, p2⟩ := @place_of b N hb30 (by omega) g2
      obtain ⟨m1, m2⟩ := mo_num (mro := mro) (a := b % N * 64 + 40) (by omega)
      obtain ⟨c1, c2, c3⟩ := mo_sum (mro := mro) (mit := mit) (a := b % N * 64) (by omega)
      have e40 : nI (b % N * 64) + (40 : Int32) = nI (b % N * 64 + 40) := nI_add _ 40
      have ih0 := ih (b + 1) x2 (by omega) (by omega)
      have ih1 := ih (b + 1) (x2 + 1) (by omega) (by omega)
      simp only [if_neg c, p1, s1, e40, m1, nI_1]
      refine ⟨?_, ⟨fun z => absurd z c, fun _ => ⟨p2, c3, fun _ => ⟨fun _ => trivial, fun _ => ih1.2.1⟩, fun _ => ⟨m2, fun _ => ih0.2.1, fun _ => ⟨fun _ => trivial, fun _ => ih1.2.1⟩⟩⟩⟩, fun z => absurd z c, fun _ => ⟨s2, fun _ => ⟨fun _ => trivial, fun _ => ih1.2.2⟩, fun _ => ih0.2.2⟩⟩
      unfold snd1
      rw [ih0.1, ih1.1]
      generalize f_MO_hasSum (nI (b % N * 64)) mro mit = z at c2 ⊢
      generalize f_BT_badAt_27 f x1 (x2 + 1) (nI (b + 1)) cfa (nI N) (nI S) (nI E) cby cto = y1
      generalize f_BT_badAt_27 f x1 x2 (nI (b + 1)) cfa (nI N) (nI S) (nI E) cby cto = y0
      by_cases w : num mro (b % N * 64 + 40) = nI b
      · simp only [if_pos w]
        rcases c2 with c2 | c2
        · simp only [c2, if_true]
          by_cases w2 : x2 = x1
          · simp only [if_pos w2]
          · simp only [if_neg w2]
        · simp only [c2, if_neg no1]
      · simp only [if_neg w, if_true]
        rcases c2 with c2 | c2
        · simp only [c2, if_true]
          by_cases w2 : x2 = x1
          · simp only [if_pos w2]
          · simp only [if_neg w2]
        · simp only [c2, if_neg no1]
          by_cases w2 : x2 = x1
          · simp only [if_pos w2]
          · simp only [if_neg w2]
