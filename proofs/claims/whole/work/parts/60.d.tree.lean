/-! reading the tree: the class -/
def RC (N : Nat) (mro : Nat → Int32) (x : Int32) : Int32 := if x = -1 then 0 else EN N mro x.toNatClampNeg 1
theorem pgO_m1 {N S E : Nat} {mro mit : Nat → Int32} {root : Int32} (h : pgT N S E mro mit root = -1) (p : Nat) : pgO N S E mro mit root p = -1 := by
  unfold pgO
  by_cases e : p = 72
  · rw [if_pos e]; exact h
  · rw [if_neg e]
    by_cases e2 : 64 ≤ p
    · rw [if_pos e2]; unfold pgN; rw [h, kid_m1]
    · rw [if_neg e2]; unfold pgL pgN; rw [h, kid_m1, kid_m1]
/-- nothing of the tree can be read -/
def TBAD (N S E : Nat) (mro mit : Nat → Int32) (x : Int32) (cma : Nat → Int32) : Prop := (¬ x = -1 ∧ ¬ bad N S E mro mit x 4 = 0) ∨ ∃ p, p < 73 ∧ ¬ cma p = 0 ∧ pgO N S E mro mit x p = -2
theorem rd_tree {N S E : Nat} {cby cto mro mit : Nat → Int32} (h : RR N cby cto mro mit) (hE : E < 2 ^ 30) (hS : S ≤ E) {x : Int32} (hx : x = -1 ∨ ∃ b, S ≤ b ∧ b < E ∧ x = nI b) {cma cbi ces : Nat → Int32} (hma : ∀ p, p < 72 → ¬ cma p = 0 → ¬ cma (64 + p / 8) = 0) (h72 : ¬ cma 72 = 0) (hbi : ∀ p, p < 73 → cbi p = 0) (hes : ∀ i, i < 584 → ces i = 0) :
    ok_PG_readTree (N * 64) N x (nI N) (nI S) (nI E) cby cto 0 cma cbi ces ∧
    ((∃ cbi' ces', f_PG_readTree x (nI N) (nI S) (nI E) cby cto 0 cma cbi ces = (1, RC N mro x, cbi', ces') ∧ RDP N S E mro mit x 0 cma cbi' ces' ∧ (x = -1 ∨ bad N S E mro mit x 4 = 0)) ∨
     (∃ rc cbi' ces', f_PG_readTree x (nI N) (nI S) (nI E) cby cto 0 cma cbi ces = (0, rc, cbi', ces')) ∧ TBAD N S E mro mit x cma) := by
  have hOK : OKB S E x := by
    rcases hx with hx | hx
    · exact Or.inl hx
    · exact Or.inr (Or.inr hx)
  have hnone : pgT N S E mro mit x = -1 → RDP N S E mro mit x 0 cma cbi ces := fun z p hp hm => by
    refine ⟨fun _ => ?_, fun z => by omega⟩
    rw [pgO_m1 z, pB_m1]
    exact ⟨by decide, hbi p hp, fun k hk => by rw [pE_m1 N mro hk]; exact hes _ (by omega)⟩
  unfold ok_PG_readTree f_PG_readTree
  rcases hx with rfl | ⟨b, hb1, hb2, rfl⟩
  · rw [if_pos rfl]
    refine ⟨⟨fun _ => trivial, fun z => (z rfl).elim⟩, Or.inl ⟨cbi, ces, ?_, hnone ?_, Or.inl rfl⟩⟩
    · unfold RC; rw [if_pos rfl]
    · unfold pgT; rw [kid_m1]
  · have hb : b < 2 ^ 30 := by omega
    have c1 : ¬ nI b = (-1 : Int32) := m1_ne (by omega)
    obtain ⟨d1, d2, -, -, d5⟩ := rr_bad h hE hS (nI b) 4
    obtain ⟨e1, e2, -, -⟩ := rr_entry (k := 1) h hb (by omega)
    obtain ⟨e3, e4, -, -⟩ := rr_entry (k := 0) h hb (by omega)
    obtain ⟨b1, b2, -, -⟩ := rr_bit h 0 hb
    have e1' : f_RL_entryOf (nI b) (1 : Int32) (nI N) cby = (EN N mro b 1, ()) := e1
    have e2' : ok_RL_entryOf (N * 64) N (nI b) (1 : Int32) (nI N) cby := e2
    have e3' : f_RL_entryOf (nI b) (0 : Int32) (nI N) cby = (EN N mro b 0, ()) := e3
    have e4' : ok_RL_entryOf (N * 64) N (nI b) (0 : Int32) (nI N) cby := e4
    have b1' : f_RL_hasBit (nI b) (0 : Int32) (nI N) cby = (BI N mro b 0, ()) := b1
    have b2' : ok_RL_hasBit (N * 64) N (nI b) (0 : Int32) (nI N) cby := b2
    have hrc : RC N mro (nI b) = EN N mro b 1 := by unfold RC; rw [if_neg c1, nI_clamp (by omega)]
    have hT : pgT N S E mro mit (nI b) = if BI N mro b 0 = 0 then -1 else if bad N S E mro mit (EN N mro b 0) 3 = 0 then EN N mro b 0 else -2 := by
      unfold pgT; rw [kid_b (by omega)]
    simp only [if_neg c1, bindc_def, bindp_iff, d1, e1', e3', b1', hrc]
    by_cases q : bad N S E mro mit (nI b) 4 = 0
    · simp only [if_pos q]
      by_cases q2 : BI N mro b 0 = 0
      · simp only [if_pos q2] at hT ⊢
        exact ⟨⟨fun z => absurd z c1, fun _ => ⟨d2, fun _ => ⟨e2', b2', fun _ => trivial, fun z => absurd q2 z⟩, fun z => absurd q z⟩⟩, Or.inl ⟨cbi, ces, rfl, hnone hT, Or.inr q⟩⟩
      · simp only [if_neg q2] at hT ⊢
        obtain ⟨op, r⟩ := rdp_of h hE hS (p := 72) (by omega) (EN N mro b 0) (cbi := cbi) (ces := ces) (hbi 72 (by omega))
        have k72 : knd 72 = 3 := rfl
        rw [k72] at r
        have op' : ok_PG_readPage (N * 64) N (72 : Int32) (EN N mro b 0) (nI N) (nI S) (nI E) cby cto cbi ces := op
        rcases r with ⟨r1, r2⟩ | ⟨r1, ⟨b', y1, y2, y3⟩, cbi', ces', r2, r3, r4, r5, r6⟩
        · have r2' : f_PG_readPage (72 : Int32) (EN N mro b 0) (nI N) (nI S) (nI E) cby cto cbi ces = (0, cbi, ces) := r2
          rw [r2']
          simp only [if_true]
          rw [if_neg r1] at hT
          refine ⟨⟨fun z => absurd z c1, fun _ => ⟨d2, fun _ => ⟨e2', b2', fun z => absurd z q2, fun _ => ⟨e4', op', fun _ => trivial, fun z => (z trivial).elim⟩⟩, fun z => absurd q z⟩⟩, Or.inr ⟨⟨_, cbi, ces, rfl⟩, Or.inr ⟨72, by omega, h72, ?_⟩⟩⟩
          unfold pgO; rw [if_pos rfl]; exact hT
        · have r2' : f_PG_readPage (72 : Int32) (EN N mro b 0) (nI N) (nI S) (nI E) cby cto cbi ces = (1, cbi', ces') := r2
          rw [r2']
          simp only [if_neg no1]
          rw [if_pos r1] at hT
          have h72' : pgO N S E mro mit (nI b) 72 = EN N mro b 0 := by unfold pgO; rw [if_pos rfl]; exact hT
          have hR : RDP N S E mro mit (nI b) 72 cma cbi' ces' := fun p hp hm => by
            refine ⟨fun z => ?_, fun z => by rw [r4 p (by omega)]; exact hbi p hp⟩
            have e : p = 72 := by omega
            subst e
            rw [h72']
            refine ⟨?_, r3, r5⟩
            rw [y3]; exact m2_ne (by omega)
          obtain ⟨o, r⟩ := rdt_l h hE hS hOK hma (EN N mro b 1) 1024 72 cbi' ces' (by omega) (by omega) hR (fun p hp hm k hk => by rw [r6 _ (by omega)]; exact hes _ (by omega))
          have e71 : nI 72 + (-1 : Int32) = 71 := by decide
          rw [e71] at o r
          refine ⟨⟨fun z => absurd z c1, fun _ => ⟨d2, fun _ => ⟨e2', b2', fun z => absurd z q2, fun _ => ⟨e4', op', fun z => absurd z no1, fun _ => o⟩⟩, fun z => absurd q z⟩⟩, ?_⟩
          rcases r with ⟨cbi2, ces2, s1, s2⟩ | ⟨⟨cbi2, ces2, s1⟩, p, s2, s3, s4⟩
          · exact Or.inl ⟨cbi2, ces2, s1, s2, Or.inr q⟩
          · exact Or.inr ⟨⟨_, cbi2, ces2, s1⟩, Or.inr ⟨p, by omega, s3, s4⟩⟩
    · simp only [if_neg q]
      exact ⟨⟨fun z => absurd z c1, fun _ => ⟨d2, fun z => absurd z q, fun _ => trivial⟩⟩, Or.inr ⟨⟨_, cbi, ces, rfl⟩, Or.inl ⟨c1, q⟩⟩⟩
