/-! reading a page -/
def pB (N : Nat) (mro : Nat → Int32) (x : Int32) : Int32 := if x = -1 then 0 else mro (x.toNatClampNeg % N * 64 + 1)
def pE (N : Nat) (mro : Nat → Int32) (x : Int32) (k : Nat) : Int32 := if bt (pB N mro x) k = 0 then 0 else EN N mro x.toNatClampNeg k
theorem pB_m1 (N : Nat) (mro : Nat → Int32) : pB N mro (-1) = 0 := by unfold pB; rw [if_pos rfl]
theorem pE_m1 (N : Nat) (mro : Nat → Int32) {k : Nat} (hk : k < 8) : pE N mro (-1) k = 0 := by unfold pE; rw [pB_m1, bt_z k hk, if_pos rfl]
theorem pB_b {N b : Nat} (hb : b < 2 ^ 31) (mro : Nat → Int32) : pB N mro (nI b) = mro (b % N * 64 + 1) := by unfold pB; rw [if_neg (m1_ne hb), nI_clamp hb]
theorem by_byte {N : Nat} {cby cto mro mit : Nat → Int32} (h : RR N cby cto mro mit) (b : Nat) : BY (mro (b % N * 64 + 1)) := by
  obtain ⟨h1, h2, h3, h4⟩ := h
  have := pl (b := b) h1
  exact (h3 (b % N * 64 + 1) (by omega)).2
theorem by_pB {N : Nat} {cby cto mro mit : Nat → Int32} (h : RR N cby cto mro mit) (x : Int32) : BY (pB N mro x) := by
  unfold pB
  by_cases e : x = -1
  · rw [if_pos e]; exact by_0
  · rw [if_neg e]; exact by_byte h _
theorem rdp_l {N : Nat} {cby cto mro mit : Nat → Int32} (h : RR N cby cto mro mit) {b p a : Nat} (hb : b < 2 ^ 30) (hp : p < 73) (ha : a < 256) (hbits : mro (b % N * 64 + 1) = nI a) (cst cen : Int32) :
    ∀ (f k : Nat) (cbi ces : Nat → Int32), k ≤ 8 → 8 < k + f → cbi p = nI (a % 2 ^ k) →
    ok_PG_readPage_17 (N * 64) N f (nI p) (nI b) (nI k) (nI N) cst cen cby cto cbi ces ∧ ∃ cbi' ces', f_PG_readPage_17 f (nI p) (nI b) (nI k) (nI N) cst cen cby cto cbi ces = (1, cbi', ces') ∧ cbi' p = nI a ∧ (∀ i, ¬ i = p → cbi' i = cbi i) ∧ (∀ i, k ≤ i → i < 8 → ces' (p * 8 + i) = pE N mro (nI b) i) ∧ ∀ i, i < p * 8 + k ∨ p * 8 + 8 ≤ i → ces' i = ces i := by
  intro f
  induction f with
  | zero => intro k cbi ces h1 h2; omega
  | succ f ih =>
    intro k cbi ces h1 h2 h3
    rw [ok_PG_readPage_17, f_PG_readPage_17]
    by_cases e : k = 8
    · subst e
      have c : (8 : Int32) ≤ nI 8 := by decide
      rw [if_pos c]
      refine ⟨⟨fun _ => trivial, fun z => absurd c z⟩, cbi, ces, rfl, ?_, fun i _ => rfl, fun i z1 z2 => by omega, fun i _ => rfl⟩
      rw [h3, show a % 2 ^ 8 = a by omega]
    · have c : ¬ (8 : Int32) ≤ nI k := nI_ge (a := k) (b := 8) (by omega) (by omega)
      have hk : k < 8 := by omega
      obtain ⟨b1, b2, -, -⟩ := rr_bit h k hb
      obtain ⟨e1, e2, -, -⟩ := rr_entry h hb hk
      have e1' : f_RL_entryOf (nI b) (nI k) (nI N) cby = (EN N mro b k, ()) := e1
      rw [hbits] at b1
      obtain ⟨s1, s2⟩ := @pg_set (N * 64) N p k (bt (nI a) k) (EN N mro b k) cbi ces hp hk
      simp only [if_neg c, bindc_def, bindp_iff, b1, e1', s1, nI_1]
      have hgrow : (if bt (nI a) k = 0 then bclr (cbi p) k else bset (cbi p) k) = nI (a % 2 ^ (k + 1)) := by
        have hlt : a % 2 ^ k < 256 := Nat.lt_of_le_of_lt (Nat.mod_le _ _) ha
        rw [h3, (bt_n a ha k hk).1]
        by_cases d : a / 2 ^ k % 2 = 1
        · rw [if_pos d, if_neg no1, (bset_n _ hlt k hk).1, grow_1 a ha k hk d]
        · rw [if_neg d, if_pos rfl, (bclr_n _ hlt k hk).1, grow_0 a ha k hk d]
      obtain ⟨o, cbi', ces', r1, r2, r3, r4, r5⟩ := ih (k + 1) (upd cbi p (if bt (nI a) k = 0 then bclr (cbi p) k else bset (cbi p) k)) (upd ces (p * 8 + k) (if bt (nI a) k = 0 then 0 else EN N mro b k)) (by omega) (by omega) (by rw [pk_us]; exact hgrow)
      refine ⟨⟨fun z => absurd z c, fun _ => ⟨b2, e2, s2, o⟩⟩, cbi', ces', r1, r2, fun i hi => ?_, fun i z1 z2 => ?_, fun i hi => ?_⟩
      · rw [r3 i hi, pk_un hi]
      · by_cases e3 : i = k
        · subst e3
          rw [r5 _ (Or.inl (by omega)), pk_us]
          unfold pE
          rw [pB_b (by omega), hbits, nI_clamp (by omega)]
        · exact r4 i (by omega) z2
      · rw [r5 i (by omega), pk_un (by omega)]
/-- a page read: into its place, or false -/
theorem rdp_of {N S E : Nat} {cby cto mro mit : Nat → Int32} (h : RR N cby cto mro mit) (hE : E < 2 ^ 30) (hS : S ≤ E) {p : Nat} (hp : p < 73) (x : Int32) {cbi ces : Nat → Int32} (h0 : cbi p = 0) :
    ok_PG_readPage (N * 64) N (nI p) x (nI N) (nI S) (nI E) cby cto cbi ces ∧
    ((¬ bad N S E mro mit x (knd p) = 0 ∧ f_PG_readPage (nI p) x (nI N) (nI S) (nI E) cby cto cbi ces = (0, cbi, ces)) ∨
     (bad N S E mro mit x (knd p) = 0 ∧ (∃ b, S ≤ b ∧ b < E ∧ x = nI b) ∧ ∃ cbi' ces', f_PG_readPage (nI p) x (nI N) (nI S) (nI E) cby cto cbi ces = (1, cbi', ces') ∧ cbi' p = pB N mro x ∧ (∀ i, ¬ i = p → cbi' i = cbi i) ∧ (∀ i, i < 8 → ces' (p * 8 + i) = pE N mro x i) ∧ ∀ i, i < p * 8 ∨ p * 8 + 8 ≤ i → ces' i = ces i)) := by
  obtain ⟨d1, d2, -, -, d5⟩ := rr_bad h hE hS x (knd p)
  have hk := pg_kind hp
  unfold ok_PG_readPage f_PG_readPage
  simp only [hk, bindc_def, bindp_iff, d1]
  rcases d5 with d5 | ⟨d5, b, hb1, hb2, rfl⟩
  · rw [d5]
    simp only [if_neg no1]
    exact ⟨⟨d2, fun z => absurd z no1, fun _ => trivial⟩, Or.inl ⟨no1, trivial⟩⟩
  · obtain ⟨a, ha, hbits⟩ := by_byte h b
    obtain ⟨o, cbi', ces', r1, r2, r3, r4, r5⟩ := rdp_l h (b := b) (p := p) (by omega) hp ha hbits (nI S) (nI E) 1024 0 cbi ces (by omega) (by omega) (by rw [h0, Nat.pow_zero, Nat.mod_one, nI_0])
    rw [nI_0] at o r1
    rw [d5]
    simp only [if_true]
    refine ⟨⟨d2, fun _ => o, fun z => (z trivial).elim⟩, Or.inr ⟨trivial, ⟨b, hb1, hb2, rfl⟩, cbi', ces', r1, ?_, r3, fun i hi => r4 i (by omega) hi, fun i hi => r5 i (by omega)⟩⟩
    rw [r2, pB_b (by omega), hbits]
/-- the block of a page: -1 where it isn't there, -2 where it is bad -/
def pgT (N S E : Nat) (mro mit : Nat → Int32) (root : Int32) : Int32 := kid N S E mro mit root 0 3
def pgN (N S E : Nat) (mro mit : Nat → Int32) (root : Int32) (m : Nat) : Int32 := kid N S E mro mit (pgT N S E mro mit root) m 2
def pgL (N S E : Nat) (mro mit : Nat → Int32) (root : Int32) (l : Nat) : Int32 := kid N S E mro mit (pgN N S E mro mit root (l / 8)) (l % 8) 1
def pgO (N S E : Nat) (mro mit : Nat → Int32) (root : Int32) (p : Nat) : Int32 := if p = 72 then pgT N S E mro mit root else if 64 ≤ p then pgN N S E mro mit root (p - 64) else pgL N S E mro mit root p
theorem pgO_kid {N S E : Nat} {mro mit : Nat → Int32} {root : Int32} {p : Nat} (hp : p < 72) : pgO N S E mro mit root p = kid N S E mro mit (pgO N S E mro mit root (64 + p / 8)) (p % 8) (knd p) := by
  unfold pgO knd
  rw [if_neg (show ¬ p = 72 by omega), if_neg (show ¬ p = 72 by omega)]
  by_cases e : 64 ≤ p
  · rw [if_pos e, if_pos e, if_pos (show 64 + p / 8 = 72 by omega)]
    unfold pgN
    rw [show p - 64 = p % 8 by omega]
  · rw [if_neg e, if_neg e, if_neg (show ¬ 64 + p / 8 = 72 by omega), if_pos (show 64 ≤ 64 + p / 8 by omega), show 64 + p / 8 - 64 = p / 8 by omega]
    rfl
theorem okb_T {N S E : Nat} {cby cto mro mit : Nat → Int32} (h : RR N cby cto mro mit) (hE : E < 2 ^ 30) (hS : S ≤ E) {root : Int32} (hr : OKB S E root) {p : Nat} (hp : p < 73) : OKB S E (pgO N S E mro mit root p) := by
  have t := (kid_of h hE hS hr (k := 0) (by omega) 3).2.2
  unfold pgO
  by_cases e : p = 72
  · rw [if_pos e]; exact t
  · rw [if_neg e]
    by_cases e2 : 64 ≤ p
    · rw [if_pos e2]; exact (kid_of h hE hS t (k := p - 64) (by omega) 2).2.2
    · rw [if_neg e2]
      exact (kid_of h hE hS (kid_of h hE hS t (k := p / 8) (by omega) 2).2.2 (k := p % 8) (by omega) 1).2.2
/-- the marked pages from q on are read, those below aren't -/
def RDP (N S E : Nat) (mro mit : Nat → Int32) (root : Int32) (q : Nat) (cma cbi ces : Nat → Int32) : Prop :=
  ∀ p, p < 73 → ¬ cma p = 0 → (q ≤ p → ¬ pgO N S E mro mit root p = -2 ∧ cbi p = pB N mro (pgO N S E mro mit root p) ∧ ∀ k, k < 8 → ces (p * 8 + k) = pE N mro (pgO N S E mro mit root p) k) ∧ (p < q → cbi p = 0)
theorem rdt_l {N S E : Nat} {cby cto mro mit : Nat → Int32} (h : RR N cby cto mro mit) (hE : E < 2 ^ 30) (hS : S ≤ E) {root : Int32} (hr : OKB S E root) {cma : Nat → Int32} (hma : ∀ p, p < 72 → ¬ cma p = 0 → ¬ cma (64 + p / 8) = 0) (crc : Int32) :
    ∀ (f q : Nat) (cbi ces : Nat → Int32), q ≤ 72 → q < f → RDP N S E mro mit root q cma cbi ces → (∀ p, p < q → ¬ cma p = 0 → ∀ k, k < 8 → ces (p * 8 + k) = 0) →
    ok_PG_readTree_60 (N * 64) N f (nI q + (-1 : Int32)) (nI N) (nI S) (nI E) cby cto crc cma cbi ces ∧
    ((∃ cbi' ces', f_PG_readTree_60 f (nI q + (-1 : Int32)) (nI N) (nI S) (nI E) cby cto crc cma cbi ces = (1, crc, cbi', ces') ∧ RDP N S E mro mit root 0 cma cbi' ces') ∨
     (∃ cbi' ces', f_PG_readTree_60 f (nI q + (-1 : Int32)) (nI N) (nI S) (nI E) cby cto crc cma cbi ces = (0, crc, cbi', ces')) ∧ ∃ p, p < q ∧ ¬ cma p = 0 ∧ pgO N S E mro mit root p = -2) := by
  intro f
  induction f with
  | zero => intro q cbi ces h1 h2; omega
  | succ f ih =>
    intro q cbi ces h1 h2 h3 h4
    rw [ok_PG_readTree_60, f_PG_readTree_60]
    rcases q with - | q
    · have c : nI 0 + (-1 : Int32) < 0 := by decide
      rw [if_pos c]
      exact ⟨⟨fun _ => trivial, fun z => absurd c z⟩, Or.inl ⟨cbi, ces, rfl, h3⟩⟩
    · rw [pk_m1]
      have c : ¬ nI q < 0 := nI_pos (by omega)
      have w : vp_in (nI q) 73 := vp_in_nI (by omega) (by omega)
      have hpp := pg_par (show q < 73 by omega)
      have hand := pg_and (show q < 73 by omega)
      have hplace : f_PG_placeInParent (nI q) = (nI ((64 + q / 8) * 8 + q % 8), ()) := by
        unfold f_PG_placeInParent
        rw [hpp, bindc_def, hand]
        dsimp only
        rw [show nI (64 + q / 8) * (8 : Int32) = nI ((64 + q / 8) * 8) from pk_mul _ 8, nI_add]
      rw [if_neg c, nI_clamp (show q < 2 ^ 31 by omega)]
      by_cases e : cma q = 0
      · rw [if_pos e]
        have hR : RDP N S E mro mit root q cma cbi ces := fun p hp hm => by
          obtain ⟨a1, a2⟩ := h3 p hp hm
          refine ⟨fun z => ?_, fun z => a2 (by omega)⟩
          by_cases e2 : p = q
          · rw [e2] at hm; exact absurd e hm
          · exact a1 (by omega)
        obtain ⟨o, r⟩ := ih q cbi ces (by omega) (by omega) hR (fun p hp => h4 p (by omega))
        refine ⟨⟨fun z => absurd z c, fun _ => ⟨w, fun _ => o, fun z => absurd e z⟩⟩, ?_⟩
        rcases r with r | ⟨r1, p, r2, r3, r4⟩
        · exact Or.inl r
        · exact Or.inr ⟨r1, p, by omega, r3, r4⟩
      · rw [if_neg e]
        have hpar := (h3 (64 + q / 8) (by omega) (hma q (by omega) e)).1 (by omega)
        obtain ⟨g1, g2, g3⟩ := hpar
        have hokp := okb_T h hE hS hr (p := 64 + q / 8) (by omega)
        have hkid := pgO_kid (N := N) (S := S) (E := E) (mro := mro) (mit := mit) (root := root) (p := q) (by omega)
        have hby : BY (cbi (64 + q / 8)) := by rw [g2]; exact by_pB h _
        obtain ⟨b1, b2⟩ := @pg_bit (N * 64) N (64 + q / 8) (q % 8) cbi (by omega) (by omega) hby
        have hin : f_PG_isInParent (nI q) cbi = (bt (pB N mro (pgO N S E mro mit root (64 + q / 8))) (q % 8), ()) ∧ ok_PG_isInParent (N * 64) N (nI q) cbi := by
          unfold f_PG_isInParent ok_PG_isInParent
          rw [hpp, bindc_def, bindp_iff, hand]
          dsimp only
          rw [b1, bindc_def, g2]
          refine ⟨?_, b2⟩
          rcases bt_01 (pB N mro (pgO N S E mro mit root (64 + q / 8))) (q % 8) with z | z
          · rw [z]; rfl
          · rw [z]; rfl
        have hq0 : cbi q = 0 := (h3 q (by omega) e).2 (by omega)
        simp only [bindc_def, bindp_iff, hin.1, hplace, nI_clamp (show (64 + q / 8) * 8 + q % 8 < 2 ^ 31 by omega), g3 (q % 8) (by omega)]
        by_cases d : bt (pB N mro (pgO N S E mro mit root (64 + q / 8))) (q % 8) = 0
        · rw [d]
          simp only [if_true]
          have hno : pgO N S E mro mit root q = -1 := by
            rw [hkid]
            rcases hokp with z | z | ⟨b, z1, z2, z3⟩
            · rw [z, kid_m1]
            · exact absurd z g1
            · rw [z3, kid_b (by omega)]
              rw [z3, pB_b (by omega)] at d
              have d' : BI N mro b (q % 8) = 0 := d
              rw [if_pos d']
          have hR : RDP N S E mro mit root q cma cbi ces := fun p hp hm => by
            obtain ⟨a1, a2⟩ := h3 p hp hm
            refine ⟨fun z => ?_, fun z => a2 (by omega)⟩
            by_cases e2 : p = q
            · subst e2
              rw [hno, pB_m1]
              refine ⟨by decide, hq0, fun k hk => ?_⟩
              rw [pE_m1 N mro hk]
              exact h4 p (by omega) hm k hk
            · exact a1 (by omega)
          obtain ⟨o, r⟩ := ih q cbi ces (by omega) (by omega) hR (fun p hp => h4 p (by omega))
          refine ⟨⟨fun z => absurd z c, fun _ => ⟨w, fun z => absurd z e, fun _ => ⟨hin.2, fun _ => o, fun z => (z trivial).elim⟩⟩⟩, ?_⟩
          rcases r with r | ⟨r1, p, r2, r3, r4⟩
          · exact Or.inl r
          · exact Or.inr ⟨r1, p, by omega, r3, r4⟩
        · simp only [if_neg d]
          have hpe : ∃ b, S ≤ b ∧ b < E ∧ pgO N S E mro mit root (64 + q / 8) = nI b := by
            rcases hokp with z | z | z
            · rw [z, pB_m1, bt_z _ (by omega)] at d; exact absurd rfl d
            · exact absurd z g1
            · exact z
          obtain ⟨b, z1, z2, z3⟩ := hpe
          have hent : pE N mro (pgO N S E mro mit root (64 + q / 8)) (q % 8) = EN N mro b (q % 8) := by
            unfold pE; rw [if_neg d, z3, nI_clamp (by omega)]
          have hkid2 : pgO N S E mro mit root q = if bad N S E mro mit (EN N mro b (q % 8)) (knd q) = 0 then EN N mro b (q % 8) else -2 := by
            rw [hkid, z3, kid_b (by omega)]
            rw [z3, pB_b (by omega)] at d
            have d' : ¬ BI N mro b (q % 8) = 0 := d
            rw [if_neg d']
          rw [hent]
          obtain ⟨op, r⟩ := rdp_of h hE hS (p := q) (by omega) (EN N mro b (q % 8)) (cbi := cbi) (ces := ces) hq0
          have wp : vp_in (nI ((64 + q / 8) * 8 + q % 8)) 584 := vp_in_nI (by omega) (by omega)
          rcases r with ⟨r1, r2⟩ | ⟨r1, ⟨b', y1, y2, y3⟩, cbi', ces', r2, r3, r4, r5, r6⟩
          · rw [r2]
            simp only [if_true]
            rw [if_neg r1] at hkid2
            exact ⟨⟨fun z => absurd z c, fun _ => ⟨w, fun z => absurd z e, fun _ => ⟨hin.2, fun z => absurd z d, fun _ => ⟨wp, op, fun _ => trivial, fun z => (z trivial).elim⟩⟩⟩⟩, Or.inr ⟨⟨cbi, ces, rfl⟩, q, by omega, e, hkid2⟩⟩
          · rw [r2]
            simp only [if_neg no1]
            rw [if_pos r1] at hkid2
            have hR : RDP N S E mro mit root q cma cbi' ces' := fun p hp hm => by
              obtain ⟨a1, a2⟩ := h3 p hp hm
              by_cases e2 : p = q
              · subst e2
                refine ⟨fun _ => ⟨?_, ?_, fun k hk => ?_⟩, fun z => by omega⟩
                · rw [hkid2, y3]; exact m2_ne (by omega)
                · rw [hkid2]; exact r3
                · rw [hkid2]; exact r5 k hk
              · refine ⟨fun z => ?_, fun z => ?_⟩
                · obtain ⟨f1, f2, f3⟩ := a1 (by omega)
                  refine ⟨f1, by rw [r4 p e2]; exact f2, fun k hk => ?_⟩
                  rw [r6 _ (by omega)]; exact f3 k hk
                · rw [r4 p e2]; exact a2 (by omega)
            obtain ⟨o, r⟩ := ih q cbi' ces' (by omega) (by omega) hR (fun p hp hm k hk => by
              rw [r6 _ (by omega)]; exact h4 p (by omega) hm k hk)
            refine ⟨⟨fun z => absurd z c, fun _ => ⟨w, fun z => absurd z e, fun _ => ⟨hin.2, fun z => absurd z d, fun _ => ⟨wp, op, fun z => absurd z no1, fun _ => o⟩⟩⟩⟩, ?_⟩
            rcases r with r | ⟨r1, p, r2, r3, r4⟩
            · exact Or.inl r
            · exact Or.inr ⟨r1, p, by omega, r3, r4⟩
