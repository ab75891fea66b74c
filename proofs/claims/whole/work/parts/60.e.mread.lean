/-! reading the tree: the reference -/
def ncv (mic : Nat → Int32) (m : Nat) : Int32 := (f_MO_isNodeChanged (nI m) mic).1
theorem nc_l {mic : Nat → Int32} {m : Nat} (hm : m < 8) : ∀ (f k : Nat) (x : Int32), k ≤ 8 → 8 < k + f → (x = 0 ∨ x = 1) → ok_MO_isNodeChanged_4 f (nI m) x (nI k) mic ∧ ((f_MO_isNodeChanged_4 f (nI m) x (nI k) mic = (0, ()) ∧ x = 0 ∧ ∀ i, k ≤ i → i < 8 → mic (8 * m + i) = 0) ∨ (f_MO_isNodeChanged_4 f (nI m) x (nI k) mic = (1, ()) ∧ (x = 1 ∨ ∃ i, k ≤ i ∧ i < 8 ∧ ¬ mic (8 * m + i) = 0))) := by
  intro f
  induction f with
  | zero => intro k x h1 h2; omega
  | succ f ih =>
    intro k x h1 h2 hx
    rw [ok_MO_isNodeChanged_4, f_MO_isNodeChanged_4]
    by_cases e : k = 8
    · subst e
      have c : (8 : Int32) ≤ nI 8 := by decide
      rw [if_pos c]
      refine ⟨⟨fun _ => isB_of hx, fun z => absurd c z⟩, ?_⟩
      rcases hx with rfl | rfl
      · exact Or.inl ⟨rfl, rfl, fun i z1 z2 => by omega⟩
      · exact Or.inr ⟨rfl, Or.inl rfl⟩
    · have c : ¬ (8 : Int32) ≤ nI k := nI_ge (a := k) (b := 8) (by omega) (by omega)
      have e8 : (8 : Int32) * nI m + nI k = nI (8 * m + k) := by rw [show (8 : Int32) * nI m = nI (8 * m) from pk_mul 8 m, nI_add]
      have w : vp_in (nI (8 * m + k)) 64 := vp_in_nI (by omega) (by omega)
      rw [if_neg c, e8, nI_1, nI_clamp (show 8 * m + k < 2 ^ 31 by omega)]
      obtain ⟨o0, r0⟩ := ih (k + 1) 0 (by omega) (by omega) (Or.inl rfl)
      obtain ⟨o1, r1⟩ := ih (k + 1) 1 (by omega) (by omega) (Or.inr rfl)
      refine ⟨⟨fun z => absurd z c, fun _ => ⟨fun _ => ⟨w, fun _ => o0, fun _ => o1⟩, fun _ => o1⟩⟩, ?_⟩
      have r1' : f_MO_isNodeChanged_4 f (nI m) 1 (nI (k + 1)) mic = (1, ()) := by
        rcases r1 with ⟨-, z, -⟩ | ⟨z, -⟩
        · exact absurd z no1
        · exact z
      rcases hx with rfl | rfl
      · rw [if_pos rfl]
        by_cases q : mic (8 * m + k) = 0
        · rw [if_pos q]
          rcases r0 with ⟨z1, z2, z3⟩ | ⟨z1, z2⟩
          · refine Or.inl ⟨z1, rfl, fun i y1 y2 => ?_⟩
            by_cases e2 : i = k
            · rw [e2]; exact q
            · exact z3 i (by omega) y2
          · refine Or.inr ⟨z1, Or.inr ?_⟩
            rcases z2 with z2 | ⟨i, y1, y2, y3⟩
            · exact absurd z2 (by decide)
            · exact ⟨i, by omega, y2, y3⟩
        · rw [if_neg q]
          exact Or.inr ⟨r1', Or.inr ⟨k, Nat.le_refl _, by omega, q⟩⟩
      · rw [if_neg no1]
        exact Or.inr ⟨r1', Or.inl rfl⟩
theorem nc_of (mic : Nat → Int32) {m : Nat} (hm : m < 8) : f_MO_isNodeChanged (nI m) mic = (ncv mic m, ()) ∧ ok_MO_isNodeChanged (nI m) mic ∧ (ncv mic m = 0 ∨ ncv mic m = 1) ∧ (ncv mic m = 0 ↔ ∀ k, k < 8 → mic (8 * m + k) = 0) := by
  obtain ⟨o, r⟩ := nc_l (mic := mic) hm 1024 0 0 (by omega) (by omega) (Or.inl rfl)
  rw [nI_0] at o r
  have e : f_MO_isNodeChanged (nI m) mic = f_MO_isNodeChanged_4 1024 (nI m) 0 0 mic := by unfold f_MO_isNodeChanged; rfl
  have o' : ok_MO_isNodeChanged (nI m) mic := by unfold ok_MO_isNodeChanged; exact o
  rw [← e] at r
  unfold ncv
  rcases r with ⟨r1, -, r3⟩ | ⟨r1, r2⟩
  · rw [r1]
    exact ⟨rfl, o', Or.inl rfl, fun _ k hk => r3 k (by omega) hk, fun _ => rfl⟩
  · rw [r1]
    refine ⟨rfl, o', Or.inr rfl, fun z => absurd z no1, fun z => ?_⟩
    rcases r2 with r2 | ⟨i, y1, y2, y3⟩
    · exact absurd r2 (by decide)
    · exact absurd (z i y2) y3
theorem mtop_l {N : Nat} {cby cto mro mit : Nat → Int32} (h : RR N cby cto mro mit) {b : Nat} (hb : b < 2 ^ 30) (mst men mnw mrs mtb mrc : Int32) (mve mrb : Nat → Int32) :
    ∀ (f k : Nat) (mnk : Nat → Int32), k ≤ 8 → 8 < k + f → ok_MO_readTop_90 f (nI b) (nI k) (nI N) mst men mnw mrs mtb mrc mro mit mve mrb mnk ∧ ∃ mnk', f_MO_readTop_90 f (nI b) (nI k) (nI N) mst men mnw mrs mtb mrc mro mit mve mrb mnk = (1, mtb, mrc, mnk') ∧ (∀ i, k ≤ i → i < 8 → mnk' i = pE N mro (nI b) i) ∧ ∀ i, i < k → mnk' i = mnk i := by
  intro f
  induction f with
  | zero => intro k mnk h1 h2; omega
  | succ f ih =>
    intro k mnk h1 h2
    rw [ok_MO_readTop_90, f_MO_readTop_90]
    by_cases e : k = 8
    · subst e
      have c : (8 : Int32) ≤ nI 8 := by decide
      rw [if_pos c]
      exact ⟨⟨fun _ => trivial, fun z => absurd c z⟩, mnk, rfl, fun i z1 z2 => by omega, fun i _ => rfl⟩
    · have c : ¬ (8 : Int32) ≤ nI k := nI_ge (a := k) (b := 8) (by omega) (by omega)
      have hk : k < 8 := by omega
      obtain ⟨-, -, b1, b2⟩ := rr_bit h k hb
      obtain ⟨-, -, e1, e2⟩ := rr_entry h hb hk
      have e1' : f_MO_entryOf (nI b) (nI k) (nI N) mro = (EN N mro b k, ()) := e1
      have w : vp_in (nI k) 8 := vp_in_nI hk (by omega)
      have hpe : pE N mro (nI b) k = if bt (mro (b % N * 64 + 1)) k = 0 then 0 else EN N mro b k := by unfold pE; rw [pB_b (by omega), nI_clamp (by omega)]
      simp only [if_neg c, bindc_def, bindp_iff, b1, e1', nI_1, nI_clamp (show k < 2 ^ 31 by omega)]
      obtain ⟨o0, m0, r0, r1, r2⟩ := ih (k + 1) (upd mnk k (pE N mro (nI b) k)) (by omega) (by omega)
      have fin : ∃ mnk', f_MO_readTop_90 f (nI b) (nI (k + 1)) (nI N) mst men mnw mrs mtb mrc mro mit mve mrb (upd mnk k (pE N mro (nI b) k)) = (1, mtb, mrc, mnk') ∧ (∀ i, k ≤ i → i < 8 → mnk' i = pE N mro (nI b) i) ∧ ∀ i, i < k → mnk' i = mnk i := by
        refine ⟨m0, r0, fun i z1 z2 => ?_, fun i z => by rw [r2 i (by omega), pk_un (by omega)]⟩
        by_cases e3 : i = k
        · subst e3; rw [r2 i (by omega), pk_us]
        · exact r1 i (by omega) z2
      by_cases q : bt (mro (b % N * 64 + 1)) k = 0
      · rw [if_pos q] at hpe
        rw [hpe] at fin o0
        simp only [if_pos q]
        exact ⟨⟨fun z => absurd z c, fun _ => ⟨b2, fun _ => ⟨w, o0⟩, fun z => absurd q z⟩⟩, fin⟩
      · rw [if_neg q] at hpe
        rw [hpe] at fin o0
        simp only [if_neg q]
        exact ⟨⟨fun z => absurd z c, fun _ => ⟨b2, fun z => absurd z q, fun _ => ⟨e2, w, o0⟩⟩⟩, fin⟩
theorem mtop_of {N S E : Nat} {cby cto mro mit : Nat → Int32} (h : RR N cby cto mro mit) (hE : E < 2 ^ 30) (hS : S ≤ E) {x mnw mrs : Int32} {mve mrb : Nat → Int32} (h0 : mnw = 0 → x = -1) (h1 : ¬ mnw = 0 → f_MO_rootOf mnw mrs mve mrb = (x, ()) ∧ ok_MO_rootOf mnw mrs mve mrb ∧ ∃ q, S ≤ q ∧ q < E ∧ x = nI q) (mtb mrc : Int32) (mnk : Nat → Int32) :
    ok_MO_readTop (nI N) (nI S) (nI E) mnw mrs mtb mrc mro mit mve mrb mnk ∧
    ((∃ mnk', f_MO_readTop (nI N) (nI S) (nI E) mnw mrs mtb mrc mro mit mve mrb mnk = (1, pB N mro (pgT N S E mro mit x), RC N mro x, mnk') ∧ ¬ pgT N S E mro mit x = -2 ∧ ∀ i, i < 8 → pE N mro (pgT N S E mro mit x) i = if bt (pB N mro (pgT N S E mro mit x)) i = 0 then 0 else mnk' i) ∨
     (∃ t rc, f_MO_readTop (nI N) (nI S) (nI E) mnw mrs mtb mrc mro mit mve mrb mnk = (0, t, rc, mnk)) ∧ ((¬ x = -1 ∧ ¬ bad N S E mro mit x 4 = 0) ∨ pgT N S E mro mit x = -2)) := by
  unfold ok_MO_readTop f_MO_readTop
  by_cases e : mnw = 0
  · rw [if_pos e, h0 e]
    have hT : pgT N S E mro mit (-1) = -1 := by unfold pgT; rw [kid_m1]
    refine ⟨⟨fun _ => trivial, fun z => absurd e z⟩, Or.inl ⟨mnk, ?_, ?_, fun i hi => ?_⟩⟩
    · rw [hT, pB_m1]; unfold RC; rw [if_pos rfl]
    · rw [hT]; decide
    · rw [hT, pE_m1 N mro hi, pB_m1, bt_z i hi, if_pos rfl]
  · obtain ⟨r1, r2, b, hb1, hb2, rfl⟩ := h1 e
    have hb : b < 2 ^ 30 := by omega
    have c1 : ¬ nI b = (-1 : Int32) := m1_ne (by omega)
    obtain ⟨-, -, d1, d2, d5⟩ := rr_bad h hE hS (nI b) 4
    obtain ⟨-, -, e1, e2⟩ := rr_entry (k := 1) h hb (by omega)
    obtain ⟨-, -, e3, e4⟩ := rr_entry (k := 0) h hb (by omega)
    obtain ⟨b1, b2⟩ := rr_bits h hb
    have e1' : f_MO_entryOf (nI b) (1 : Int32) (nI N) mro = (EN N mro b 1, ()) := e1
    have e2' : ok_MO_entryOf (nI b) (1 : Int32) (nI N) mro := e2
    have e3' : f_MO_entryOf (nI b) (0 : Int32) (nI N) mro = (EN N mro b 0, ()) := e3
    have e4' : ok_MO_entryOf (nI b) (0 : Int32) (nI N) mro := e4
    have hrc : RC N mro (nI b) = EN N mro b 1 := by unfold RC; rw [if_neg c1, nI_clamp (by omega)]
    have hT : pgT N S E mro mit (nI b) = if BI N mro b 0 = 0 then -1 else if bad N S E mro mit (EN N mro b 0) 3 = 0 then EN N mro b 0 else -2 := by
      unfold pgT; rw [kid_b (by omega)]
    obtain ⟨bb, hbb, hbe⟩ := by_byte h b
    have hB0 : BI N mro b 0 = 0 ↔ mro (b % N * 64 + 1) &&& (1 : Int32) = 0 := bt0 bb hbe hbb
    obtain ⟨-, -, f1, f2, f5⟩ := rr_bad h hE hS (EN N mro b 0) 3
    simp only [if_neg e, bindc_def, bindp_iff, r1, d1, e1', e3', b1, f1, hrc]
    by_cases q : bad N S E mro mit (nI b) 4 = 0
    · simp only [if_pos q]
      by_cases q2 : BI N mro b 0 = 0
      · simp only [if_pos q2] at hT
        simp only [if_pos (hB0.mp q2)]
        refine ⟨⟨fun z => absurd z e, fun _ => ⟨r2, d2, fun _ => ⟨e2', b2, fun _ => trivial, fun z => absurd (hB0.mp q2) z⟩, fun z => absurd q z⟩⟩, Or.inl ⟨mnk, ?_, ?_, fun i hi => ?_⟩⟩
        · rw [hT, pB_m1]
        · rw [hT]; decide
        · rw [hT, pE_m1 N mro hi, pB_m1, bt_z i hi, if_pos rfl]
      · simp only [if_neg q2] at hT
        have q3 : ¬ mro (b % N * 64 + 1) &&& (1 : Int32) = 0 := fun z => q2 (hB0.mpr z)
        simp only [if_neg q3]
        rcases f5 with f5 | ⟨f5, b', y1, y2, y3⟩
        · rw [f5, if_neg no1] at hT
          rw [f5]
          simp only [if_neg no1]
          exact ⟨⟨fun z => absurd z e, fun _ => ⟨r2, d2, fun _ => ⟨e2', b2, fun z => absurd z q3, fun _ => ⟨e4', f2, fun z => absurd z no1, fun _ => trivial⟩⟩, fun z => absurd q z⟩⟩, Or.inr ⟨⟨_, _, rfl⟩, Or.inr hT⟩⟩
        · rw [f5, if_pos rfl, y3] at hT
          rw [f5, y3]
          rw [y3] at f2
          simp only [if_true]
          obtain ⟨g1, g2⟩ := rr_bits h (show b' < 2 ^ 30 by omega)
          rw [g1]
          obtain ⟨o, mnk', s1, s2, s3⟩ := mtop_l h (show b' < 2 ^ 30 by omega) (nI S) (nI E) mnw mrs (mro (b' % N * 64 + 1)) (EN N mro b 1) mve mrb 1024 0 mnk (by omega) (by omega)
          rw [nI_0] at o s1
          refine ⟨⟨fun z => absurd z e, fun _ => ⟨r2, d2, fun _ => ⟨e2', b2, fun z => absurd z q3, fun _ => ⟨e4', f2, fun _ => ⟨g2, o⟩, fun z => (z trivial).elim⟩⟩, fun z => absurd q z⟩⟩, Or.inl ⟨mnk', ?_, ?_, fun i hi => ?_⟩⟩
          · rw [hT, pB_b (by omega)]; exact s1
          · rw [hT]; exact m2_ne (by omega)
          · rw [hT, s2 i (by omega) hi]
            unfold pE
            by_cases w : bt (pB N mro (nI b')) i = 0
            · rw [if_pos w, if_pos w]
            · rw [if_neg w, if_neg w]
    · simp only [if_neg q]
      exact ⟨⟨fun z => absurd z e, fun _ => ⟨r2, d2, fun z => absurd z q, fun _ => trivial⟩⟩, Or.inr ⟨⟨_, _, rfl⟩, Or.inl ⟨c1, q⟩⟩⟩
