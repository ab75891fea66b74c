/-! the reference reads leaves and nodes -/
theorem mleaf_l {N : Nat} {cby cto mro mit : Nat → Int32} (h : RR N cby cto mro mit) {b l : Nat} (hb : b < 2 ^ 30) (hl : l < 64) (mst men : Int32) (mlb : Nat → Int32) :
    ∀ (f k : Nat) (mrw : Nat → Int32), k ≤ 8 → 8 < k + f → ok_MO_readLeaf_24 f (nI l) (nI b) (nI k) (nI N) mst men mro mit mlb mrw ∧ ∃ mrw', f_MO_readLeaf_24 f (nI l) (nI b) (nI k) (nI N) mst men mro mit mlb mrw = (1, mlb, mrw') ∧ (∀ i, k ≤ i → i < 8 → mrw' (8 * l + i) = pE N mro (nI b) i) ∧ ∀ i, i < 8 * l + k ∨ 8 * l + 8 ≤ i → mrw' i = mrw i := by
  intro f
  induction f with
  | zero => intro k mrw h1 h2; omega
  | succ f ih =>
    intro k mrw h1 h2
    rw [ok_MO_readLeaf_24, f_MO_readLeaf_24]
    by_cases e : k = 8
    · subst e
      have c : (8 : Int32) ≤ nI 8 := by decide
      rw [if_pos c]
      exact ⟨⟨fun _ => trivial, fun z => absurd c z⟩, mrw, rfl, fun i z1 z2 => by omega, fun i _ => rfl⟩
    · have c : ¬ (8 : Int32) ≤ nI k := nI_ge (a := k) (b := 8) (by omega) (by omega)
      have hk : k < 8 := by omega
      obtain ⟨-, -, b1, b2⟩ := rr_bit h k hb
      obtain ⟨-, -, e1, e2⟩ := rr_entry h hb hk
      have e1' : f_MO_entryOf (nI b) (nI k) (nI N) mro = (EN N mro b k, ()) := e1
      have e8 : (8 : Int32) * nI l + nI k = nI (8 * l + k) := by rw [show (8 : Int32) * nI l = nI (8 * l) from pk_mul 8 l, nI_add]
      have w : vp_in (nI (8 * l + k)) 512 := vp_in_nI (by omega) (by omega)
      have hpe : pE N mro (nI b) k = if bt (mro (b % N * 64 + 1)) k = 0 then 0 else EN N mro b k := by unfold pE; rw [pB_b (by omega), nI_clamp (by omega)]
      simp only [if_neg c, bindc_def, bindp_iff, b1, e1', nI_1, e8, nI_clamp (show 8 * l + k < 2 ^ 31 by omega)]
      obtain ⟨o0, m0, r0, r1, r2⟩ := ih (k + 1) (upd mrw (8 * l + k) (pE N mro (nI b) k)) (by omega) (by omega)
      have fin : ∃ mrw', f_MO_readLeaf_24 f (nI l) (nI b) (nI (k + 1)) (nI N) mst men mro mit mlb (upd mrw (8 * l + k) (pE N mro (nI b) k)) = (1, mlb, mrw') ∧ (∀ i, k ≤ i → i < 8 → mrw' (8 * l + i) = pE N mro (nI b) i) ∧ ∀ i, i < 8 * l + k ∨ 8 * l + 8 ≤ i → mrw' i = mrw i := by
        refine ⟨m0, r0, fun i z1 z2 => ?_, fun i z => by rw [r2 i (by omega), pk_un (by omega)]⟩
        by_cases e3 : i = k
        · subst e3; rw [r2 _ (Or.inl (by omega)), pk_us]
        · exact r1 i (by omega) z2
      by_cases q : bt (mro (b % N * 64 + 1)) k = 0
      · rw [if_pos q] at hpe
        rw [hpe] at fin o0
        simp only [if_pos q]
        exact ⟨⟨fun z => absurd z c, fun _ => ⟨b2, fun _ => ⟨w, o0⟩, fun z => absurd q z⟩⟩, fin⟩
      · rw [if_neg q] at hpe
        rw [hpe] at fin o0
        simp only [if_neg q]
        exact ⟨⟨fun z => absurd z c, fun _ => ⟨b2, fun z => absurd z q, fun _ => ⟨e2, w, o0⟩⟩⟩, fin⟩
theorem mleaf_of {N S E : Nat} {cby cto mro mit : Nat → Int32} (h : RR N cby cto mro mit) (hE : E < 2 ^ 30) (hS : S ≤ E) {l : Nat} (hl : l < 64) (x : Int32) (mlb mrw : Nat → Int32) :
    ok_MO_readLeaf (nI l) x (nI N) (nI S) (nI E) mro mit mlb mrw ∧
    ((¬ bad N S E mro mit x 1 = 0 ∧ f_MO_readLeaf (nI l) x (nI N) (nI S) (nI E) mro mit mlb mrw = (0, mlb, mrw)) ∨
     (bad N S E mro mit x 1 = 0 ∧ (∃ b, S ≤ b ∧ b < E ∧ x = nI b) ∧ ∃ mrw', f_MO_readLeaf (nI l) x (nI N) (nI S) (nI E) mro mit mlb mrw = (1, upd mlb l (pB N mro x), mrw') ∧ (∀ i, i < 8 → mrw' (8 * l + i) = pE N mro x i) ∧ ∀ i, i < 8 * l ∨ 8 * l + 8 ≤ i → mrw' i = mrw i)) := by
  obtain ⟨-, -, d1, d2, d5⟩ := rr_bad h hE hS x 1
  unfold ok_MO_readLeaf f_MO_readLeaf
  simp only [bindc_def, bindp_iff, d1]
  rcases d5 with d5 | ⟨d5, b, hb1, hb2, rfl⟩
  · rw [d5]
    simp only [if_neg no1]
    exact ⟨⟨d2, fun z => absurd z no1, fun _ => trivial⟩, Or.inl ⟨no1, trivial⟩⟩
  · obtain ⟨g1, g2⟩ := rr_bits h (show b < 2 ^ 30 by omega)
    obtain ⟨o, mrw', r1, r2, r3⟩ := mleaf_l h (b := b) (l := l) (by omega) hl (nI S) (nI E) (upd mlb l (mro (b % N * 64 + 1))) 1024 0 mrw (by omega) (by omega)
    rw [nI_0] at o r1
    rw [d5]
    simp only [if_true, g1, nI_clamp (show l < 2 ^ 31 by omega)]
    refine ⟨⟨d2, fun _ => ⟨g2, vp_in_nI hl (by omega), o⟩, fun z => (z trivial).elim⟩, Or.inr ⟨trivial, ⟨b, hb1, hb2, rfl⟩, mrw', ?_, fun i hi => r2 i (by omega) hi, fun i hi => r3 i (by omega)⟩⟩
    rw [pB_b (by omega)]; exact r1
/-- leaf l is read -/
def LF (N S E : Nat) (mro mit : Nat → Int32) (root : Int32) (l : Nat) (mlb mrw : Nat → Int32) : Prop := ¬ pgL N S E mro mit root l = -2 ∧ mlb l = pB N mro (pgL N S E mro mit root l) ∧ ∀ i, i < 8 → pE N mro (pgL N S E mro mit root l) i = if bt (mlb l) i = 0 then 0 else mrw (8 * l + i)
theorem LF_same {N S E : Nat} {mro mit : Nat → Int32} {root : Int32} {l : Nat} {mlb mrw mlb' mrw' : Nat → Int32} (h : LF N S E mro mit root l mlb mrw) (h1 : mlb' l = mlb l) (h2 : ∀ i, i < 8 → mrw' (8 * l + i) = mrw (8 * l + i)) : LF N S E mro mit root l mlb' mrw' := by
  obtain ⟨a1, a2, a3⟩ := h
  exact ⟨a1, h1.trans a2, fun i hi => by rw [h1, h2 i hi]; exact a3 i hi⟩
theorem pE_if (N : Nat) (mro : Nat → Int32) (x : Int32) (i : Nat) : pE N mro x i = if bt (pB N mro x) i = 0 then 0 else pE N mro x i := by
  by_cases w : bt (pB N mro x) i = 0
  · rw [if_pos w]; unfold pE; rw [if_pos w]
  · rw [if_neg w]
theorem mnode_l {N S E : Nat} {cby cto mro mit : Nat → Int32} (h : RR N cby cto mro mit) (hE : E < 2 ^ 30) (hS : S ≤ E) {root : Int32} {m b : Nat} (hm : m < 8) (hb : b < 2 ^ 30) (hN : pgN N S E mro mit root m = nI b) (mtb : Int32) (mic mnb mnk : Nat → Int32) :
    ∀ (f k : Nat) (x3 : Int32) (mlb mrw mlk : Nat → Int32), k ≤ 8 → 8 < k + f → (x3 = 0 ∨ x3 = 1) → (∀ i, k ≤ i → i < 8 → mlb (8 * m + i) = 0) →
    ok_MO_readNode_92 f (nI m) (nI b) x3 (nI k) (nI N) (nI S) (nI E) mtb mro mit mic mlb mrw mnb mlk mnk ∧
    ∃ g mlb' mrw' mlk', f_MO_readNode_92 f (nI m) (nI b) x3 (nI k) (nI N) (nI S) (nI E) mtb mro mit mic mlb mrw mnb mlk mnk = (g, mlb', mrw', mnb, mlk') ∧
    ((g = 1 ∧ x3 = 1 ∧ ∀ i, k ≤ i → i < 8 → mlk' (8 * m + i) = pE N mro (nI b) i ∧ (¬ mic (8 * m + i) = 0 → LF N S E mro mit root (8 * m + i) mlb' mrw')) ∨ (g = 0 ∧ (x3 = 0 ∨ ∃ i, k ≤ i ∧ i < 8 ∧ ¬ mic (8 * m + i) = 0 ∧ pgL N S E mro mit root (8 * m + i) = -2))) ∧
    (∀ l, l < 8 * m + k ∨ 8 * m + 8 ≤ l → mlb' l = mlb l ∧ mlk' l = mlk l) ∧ ∀ i, i < 8 * (8 * m + k) ∨ 8 * (8 * m + 8) ≤ i → mrw' i = mrw i := by
  intro f
  induction f with
  | zero => intro k x3 mlb mrw mlk h1 h2; omega
  | succ f ih =>
    intro k x3 mlb mrw mlk h1 h2 hx hz
    rw [ok_MO_readNode_92, f_MO_readNode_92]
    by_cases e : k = 8
    · subst e
      have c : (8 : Int32) ≤ nI 8 := by decide
      rw [if_pos c]
      refine ⟨⟨fun _ => isB_of hx, fun z => absurd c z⟩, x3, mlb, mrw, mlk, rfl, ?_, fun l _ => ⟨rfl, rfl⟩, fun i _ => rfl⟩
      rcases hx with rfl | rfl
      · exact Or.inr ⟨rfl, Or.inl rfl⟩
      · exact Or.inl ⟨rfl, rfl, fun i z1 z2 => by omega⟩
    · have c : ¬ (8 : Int32) ≤ nI k := nI_ge (a := k) (b := 8) (by omega) (by omega)
      have hk : k < 8 := by omega
      obtain ⟨-, -, b1, b2⟩ := rr_bit h k hb
      obtain ⟨-, -, e1, e2⟩ := rr_entry h hb hk
      have e1' : f_MO_entryOf (nI b) (nI k) (nI N) mro = (EN N mro b k, ()) := e1
      have b1' : f_MO_hasEntry (nI b) (nI k) (nI N) mro = (BI N mro b k, ()) := b1
      have e8 : (8 : Int32) * nI m + nI k = nI (8 * m + k) := by rw [show (8 : Int32) * nI m = nI (8 * m) from pk_mul 8 m, nI_add]
      have w : vp_in (nI (8 * m + k)) 64 := vp_in_nI (by omega) (by omega)
      have hL : pgL N S E mro mit root (8 * m + k) = if BI N mro b k = 0 then -1 else if bad N S E mro mit (EN N mro b k) 1 = 0 then EN N mro b k else -2 := by
        unfold pgL; rw [show (8 * m + k) / 8 = m by omega, show (8 * m + k) % 8 = k by omega, hN, kid_b (by omega)]
      have hpe : pE N mro (nI b) k = if BI N mro b k = 0 then 0 else EN N mro b k := by unfold pE; rw [pB_b (by omega), nI_clamp (by omega)]; rfl
      simp only [if_neg c, bindc_def, bindp_iff, b1', e1', nI_1, e8, nI_clamp (show 8 * m + k < 2 ^ 31 by omega), pk_us]
      -- going on with the leaves and rows as they are
      have go : ∀ (y : Int32), (y = 0 ∨ y = 1) → (y = 1 → ¬ mic (8 * m + k) = 0 → pgL N S E mro mit root (8 * m + k) = -1) →
          ok_MO_readNode_92 f (nI m) (nI b) y (nI (k + 1)) (nI N) (nI S) (nI E) mtb mro mit mic mlb mrw mnb (upd mlk (8 * m + k) (pE N mro (nI b) k)) mnk ∧
          ∃ g mlb' mrw' mlk', f_MO_readNode_92 f (nI m) (nI b) y (nI (k + 1)) (nI N) (nI S) (nI E) mtb mro mit mic mlb mrw mnb (upd mlk (8 * m + k) (pE N mro (nI b) k)) mnk = (g, mlb', mrw', mnb, mlk') ∧
          ((g = 1 ∧ y = 1 ∧ ∀ i, k ≤ i → i < 8 → mlk' (8 * m + i) = pE N mro (nI b) i ∧ (¬ mic (8 * m + i) = 0 → LF N S E mro mit root (8 * m + i) mlb' mrw')) ∨ (g = 0 ∧ (y = 0 ∨ ∃ i, k ≤ i ∧ i < 8 ∧ ¬ mic (8 * m + i) = 0 ∧ pgL N S E mro mit root (8 * m + i) = -2))) ∧
          (∀ l, l < 8 * m + k ∨ 8 * m + 8 ≤ l → mlb' l = mlb l ∧ mlk' l = mlk l) ∧ ∀ i, i < 8 * (8 * m + k) ∨ 8 * (8 * m + 8) ≤ i → mrw' i = mrw i := by
        intro y hy hno
        obtain ⟨o, g, mlb', mrw', mlk', r1, r2, r3, r4⟩ := ih (k + 1) y mlb mrw (upd mlk (8 * m + k) (pE N mro (nI b) k)) (by omega) (by omega) hy (fun i z1 z2 => hz i (by omega) z2)
        refine ⟨o, g, mlb', mrw', mlk', r1, ?_, fun l hl => ?_, fun i hi => r4 i (by omega)⟩
        · rcases r2 with ⟨s1, s2, s3⟩ | ⟨s1, s2⟩
          · refine Or.inl ⟨s1, s2, fun i z1 z2 => ?_⟩
            by_cases e3 : i = k
            · subst e3
              obtain ⟨t1, t2⟩ := r3 (8 * m + i) (Or.inl (by omega))
              refine ⟨by rw [t2, pk_us], fun hmi => ?_⟩
              have hm1 := hno s2 hmi
              unfold LF
              rw [hm1, t1, hz i (by omega) hk, pB_m1]
              exact ⟨by decide, rfl, fun j hj => by rw [pE_m1 N mro hj, bt_z j hj, if_pos rfl]⟩
            · exact s3 i (by omega) z2
          · refine Or.inr ⟨s1, ?_⟩
            rcases s2 with s2 | ⟨i, z1, z2, z3, z4⟩
            · exact Or.inl s2
            · exact Or.inr ⟨i, by omega, z2, z3, z4⟩
        · obtain ⟨t1, t2⟩ := r3 l (by omega)
          exact ⟨t1, by rw [t2, pk_un (by omega)]⟩
      by_cases q : BI N mro b k = 0
      · rw [if_pos q] at hpe hL
        rw [hpe] at go
        simp only [if_pos q]
        rcases hx with rfl | rfl
        · obtain ⟨o, r⟩ := go 0 (Or.inl rfl) (fun z => absurd z (by decide))
          simp only [if_true]
          exact ⟨⟨fun z => absurd z c, fun _ => ⟨b2, fun _ => ⟨w, fun _ => o, fun z => (z trivial).elim⟩, fun z => absurd q z⟩⟩, by simpa only [] using r⟩
        · obtain ⟨o, r⟩ := go 1 (Or.inr rfl) (fun _ _ => hL)
          simp only [if_neg no1]
          exact ⟨⟨fun z => absurd z c, fun _ => ⟨b2, fun _ => ⟨w, fun z => absurd z no1, fun _ => ⟨fun _ => o, fun z => absurd q z⟩⟩, fun z => absurd q z⟩⟩, by simpa only [] using r⟩
      · rw [if_neg q] at hpe hL
        rw [hpe] at go
        simp only [if_neg q]
        rcases hx with rfl | rfl
        · obtain ⟨o, r⟩ := go 0 (Or.inl rfl) (fun z => absurd z (by decide))
          simp only [if_true]
          exact ⟨⟨fun z => absurd z c, fun _ => ⟨b2, fun z => absurd z q, fun _ => ⟨e2, w, fun _ => o, fun z => (z trivial).elim⟩⟩⟩, by simpa only [] using r⟩
        · simp only [if_neg no1]
          by_cases q2 : mic (8 * m + k) = 0
          · obtain ⟨o, r⟩ := go 1 (Or.inr rfl) (fun _ z => absurd q2 z)
            simp only [if_pos q2]
            exact ⟨⟨fun z => absurd z c, fun _ => ⟨b2, fun z => absurd z q, fun _ => ⟨e2, w, fun z => absurd z no1, fun _ => ⟨fun z => absurd z q, fun _ => ⟨w, fun _ => o, fun z => absurd q2 z⟩⟩⟩⟩⟩, by simpa only [] using r⟩
          · simp only [if_neg q2]
            obtain ⟨ol, rl⟩ := mleaf_of h hE hS (l := 8 * m + k) (by omega) (EN N mro b k) mlb mrw
            rcases rl with ⟨l1, l2⟩ | ⟨l1, ⟨b', y1, y2, y3⟩, mrw1, l2, l3, l4⟩
            · rw [if_neg l1] at hL
              obtain ⟨o, g, mlb', mrw', mlk', r1, r2, r3, r4⟩ := go 0 (Or.inl rfl) (fun z => absurd z (by decide))
              rw [l2]
              simp only [if_true]
              refine ⟨⟨fun z => absurd z c, fun _ => ⟨b2, fun z => absurd z q, fun _ => ⟨e2, w, fun z => absurd z no1, fun _ => ⟨fun z => absurd z q, fun _ => ⟨w, fun z => absurd z q2, fun _ => ⟨w, ol, fun _ => o, fun z => (z trivial).elim⟩⟩⟩⟩⟩⟩, g, mlb', mrw', mlk', r1, ?_, r3, r4⟩
              rcases r2 with ⟨-, z, -⟩ | ⟨z, -⟩
              · exact absurd z (by decide)
              · exact Or.inr ⟨z, Or.inr ⟨k, Nat.le_refl _, hk, q2, hL⟩⟩
            · rw [if_pos l1] at hL
              rw [l2]
              simp only [if_neg no1]
              obtain ⟨o, g, mlb', mrw', mlk', r1, r2, r3, r4⟩ := ih (k + 1) 1 (upd mlb (8 * m + k) (pB N mro (EN N mro b k))) mrw1 (upd mlk (8 * m + k) (EN N mro b k)) (by omega) (by omega) (Or.inr rfl) (fun i z1 z2 => by rw [pk_un (by omega)]; exact hz i (by omega) z2)
              refine ⟨⟨fun z => absurd z c, fun _ => ⟨b2, fun z => absurd z q, fun _ => ⟨e2, w, fun z => absurd z no1, fun _ => ⟨fun z => absurd z q, fun _ => ⟨w, fun z => absurd z q2, fun _ => ⟨w, ol, fun z => absurd z no1, fun _ => o⟩⟩⟩⟩⟩⟩, g, mlb', mrw', mlk', r1, ?_, fun l hl => ?_, fun i hi => ?_⟩
              · rcases r2 with ⟨s1, s2, s3⟩ | ⟨s1, s2⟩
                · refine Or.inl ⟨s1, trivial, fun i z1 z2 => ?_⟩
                  by_cases e3 : i = k
                  · subst e3
                    obtain ⟨t1, t2⟩ := r3 (8 * m + i) (Or.inl (by omega))
                    refine ⟨by rw [t2, pk_us, hpe], fun _ => ?_⟩
                    unfold LF
                    rw [hL, t1, pk_us]
                    refine ⟨by rw [y3]; exact m2_ne (by omega), rfl, fun j hj => ?_⟩
                    rw [r4 _ (Or.inl (by omega)), l3 j hj]
                    exact pE_if N mro _ j
                  · exact s3 i (by omega) z2
                · refine Or.inr ⟨s1, ?_⟩
                  rcases s2 with s2 | ⟨i, z1, z2, z3, z4⟩
                  · exact absurd s2 no1
                  · exact Or.inr ⟨i, by omega, z2, z3, z4⟩
              · obtain ⟨t1, t2⟩ := r3 l (by omega)
                exact ⟨by rw [t1, pk_un (by omega)], by rw [t2, pk_un (by omega)]⟩
              · rw [r4 i (by omega), l4 i (by omega)]
/-- node m and its changed leaves are read -/
def ND (N S E : Nat) (mro mit : Nat → Int32) (root : Int32) (mic : Nat → Int32) (m : Nat) (mlb mrw mnb mlk : Nat → Int32) : Prop := ¬ pgN N S E mro mit root m = -2 ∧ mnb m = pB N mro (pgN N S E mro mit root m) ∧ (∀ k, k < 8 → pE N mro (pgN N S E mro mit root m) k = if bt (mnb m) k = 0 then 0 else mlk (8 * m + k)) ∧ ∀ k, k < 8 → ¬ mic (8 * m + k) = 0 → LF N S E mro mit root (8 * m + k) mlb mrw
def NBAD (N S E : Nat) (mro mit : Nat → Int32) (root : Int32) (mic : Nat → Int32) (m : Nat) : Prop := pgN N S E mro mit root m = -2 ∨ ∃ i, i < 8 ∧ ¬ mic (8 * m + i) = 0 ∧ pgL N S E mro mit root (8 * m + i) = -2
