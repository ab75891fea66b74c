/-! a row of a version, on both sides -/
def EN (N : Nat) (mro : Nat → Int32) (b k : Nat) : Int32 := num mro (b % N * 64 + 8 + 4 * k)
def BI (N : Nat) (mro : Nat → Int32) (b k : Nat) : Int32 := bt (mro (b % N * 64 + 1)) k
def kid (N S E : Nat) (mro mit : Nat → Int32) (p : Int32) (k : Nat) (kind : Int32) : Int32 := if p = (-1 : Int32) then p else if p = (-2 : Int32) then p else if BI N mro p.toNatClampNeg k = 0 then -1 else if bad N S E mro mit (EN N mro p.toNatClampNeg k) kind = 0 then EN N mro p.toNatClampNeg k else -2
def OKB (S E : Nat) (p : Int32) : Prop := p = -1 ∨ p = -2 ∨ ∃ b, S ≤ b ∧ b < E ∧ p = nI b
def lfB (N S E : Nat) (mro mit : Nat → Int32) (root : Int32) (l : Nat) : Int32 := if root = (-1 : Int32) then -1 else if bad N S E mro mit root 4 = 0 then kid N S E mro mit (kid N S E mro mit (kid N S E mro mit root 0 3) (l / 8) 2) (l % 8) 1 else -2
def row (N S E : Nat) (mro mit : Nat → Int32) (root : Int32) (key : Nat) : Int64 := if lfB N S E mro mit root (key / 8) = (-2 : Int32) then 1000000000001 else if lfB N S E mro mit root (key / 8) = (-1 : Int32) then 1000000000000 else if BI N mro (lfB N S E mro mit root (key / 8)).toNatClampNeg (key % 8) = 0 then 1000000000000 else (EN N mro (lfB N S E mro mit root (key / 8)).toNatClampNeg (key % 8)).toInt64
theorem kid_m1 {N S E : Nat} {mro mit : Nat → Int32} (k : Nat) (kind : Int32) : kid N S E mro mit (-1) k kind = -1 := by unfold kid; rw [if_pos rfl]
theorem kid_m2 {N S E : Nat} {mro mit : Nat → Int32} (k : Nat) (kind : Int32) : kid N S E mro mit (-2) k kind = -2 := by unfold kid; rw [if_neg (by decide), if_pos rfl]
theorem kid_b {N S E : Nat} {mro mit : Nat → Int32} {b : Nat} (hb : b < 2 ^ 31) (k : Nat) (kind : Int32) : kid N S E mro mit (nI b) k kind = if BI N mro b k = 0 then -1 else if bad N S E mro mit (EN N mro b k) kind = 0 then EN N mro b k else -2 := by unfold kid; rw [if_neg (m1_ne hb), if_neg (m2_ne hb), nI_clamp hb]
theorem kid_of {N S E : Nat} {cby cto mro mit : Nat → Int32} (h : RR N cby cto mro mit) (hE : E < 2 ^ 30) (hS : S ≤ E) {p : Int32} (hp : OKB S E p) {k : Nat} (hk : k < 8) (kind : Int32) : f_BT_childBlock p (nI k) kind (nI N) (nI S) (nI E) cby cto = (kid N S E mro mit p k kind, ()) ∧ ok_BT_childBlock (N * 64) N p (nI k) kind (nI N) (nI S) (nI E) cby cto ∧ OKB S E (kid N S E mro mit p k kind) := by
  rcases hp with rfl | rfl | ⟨b, h1, h2, rfl⟩
  · rw [kid_m1]
    refine ⟨?_, ?_, Or.inl rfl⟩
    · unfold f_BT_childBlock; rw [if_pos rfl]
    · unfold ok_BT_childBlock; exact ⟨fun _ => trivial, fun z => (z rfl).elim⟩
  · rw [kid_m2]
    refine ⟨?_, ?_, Or.inr (Or.inl rfl)⟩
    · unfold f_BT_childBlock; rw [if_neg (by decide), if_pos rfl]
    · unfold ok_BT_childBlock; exact ⟨fun _ => trivial, fun _ => ⟨fun _ => trivial, fun z => (z rfl).elim⟩⟩
  · have hb : b < 2 ^ 30 := by omega
    rw [kid_b (by omega)]
    obtain ⟨b1, b2, -, -⟩ := rr_bit h k hb
    obtain ⟨e1, e2, -, -⟩ := rr_entry h hb hk
    have e1' : f_RL_entryOf (nI b) (nI k) (nI N) cby = (EN N mro b k, ()) := e1
    have b1' : f_RL_hasBit (nI b) (nI k) (nI N) cby = (BI N mro b k, ()) := b1
    obtain ⟨d1, d2, -, -, d5⟩ := rr_bad h hE hS (EN N mro b k) kind
    unfold f_BT_childBlock ok_BT_childBlock
    simp only [bindc_def, bindp_iff, if_neg (m1_ne (show b < 2 ^ 31 by omega)), if_neg (m2_ne (show b < 2 ^ 31 by omega)), b1', e1', d1]
    refine ⟨?_, ⟨fun _ => trivial, fun _ => ⟨fun _ => trivial, fun _ => ⟨b2, fun _ => trivial, fun _ => ⟨e2, d2⟩⟩⟩⟩, ?_⟩
    · by_cases q : BI N mro b k = 0
      · rw [if_pos q, if_pos q]
      · rw [if_neg q, if_neg q]
        by_cases q2 : bad N S E mro mit (EN N mro b k) kind = 0
        · rw [if_pos q2, if_pos q2]
        · rw [if_neg q2, if_neg q2]
    · by_cases q : BI N mro b k = 0
      · rw [if_pos q]; exact Or.inl rfl
      · rw [if_neg q]
        by_cases q2 : bad N S E mro mit (EN N mro b k) kind = 0
        · rw [if_pos q2]
          rcases d5 with d5 | ⟨-, d5⟩
          · rw [q2] at d5; exact absurd d5 (by decide)
          · exact Or.inr (Or.inr d5)
        · rw [if_neg q2]; exact Or.inr (Or.inl rfl)
theorem leaf_of {N S E : Nat} {cby cto mro mit : Nat → Int32} (h : RR N cby cto mro mit) (hE : E < 2 ^ 30) (hS : S ≤ E) {p : Int32} (hp : OKB S E p) {l : Nat} (hl : l < 64) : f_BT_leafBlock p (nI l) (nI N) (nI S) (nI E) cby cto = (lfB N S E mro mit p l, ()) ∧ ok_BT_leafBlock (N * 64) N p (nI l) (nI N) (nI S) (nI E) cby cto ∧ OKB S E (lfB N S E mro mit p l) := by
  have s1 : nI l >>> ((3 : Int32) &&& 31) = nI (l / 8) := pk_shrN (by omega) _ 3 (by decide)
  have s2 : nI l &&& (7 : Int32) = nI (l % 8) := pk_andN (by omega) 3 (by decide)
  obtain ⟨d1, d2, -, -, d5⟩ := rr_bad h hE hS p 4
  obtain ⟨a1, a2, a3⟩ := kid_of h hE hS hp (k := 0) (by omega) 3
  have a1' : f_BT_childBlock p (0 : Int32) 3 (nI N) (nI S) (nI E) cby cto = (kid N S E mro mit p 0 3, ()) := a1
  obtain ⟨b1, b2, b3⟩ := kid_of h hE hS a3 (k := l / 8) (by omega) 2
  obtain ⟨c1, c2, c3⟩ := kid_of h hE hS b3 (k := l % 8) (by omega) 1
  unfold f_BT_leafBlock ok_BT_leafBlock lfB
  simp only [bindc_def, bindp_iff, s1, s2, d1, a1', b1, c1]
  refine ⟨?_, ⟨fun _ => trivial, fun _ => ⟨d2, fun _ => ⟨a2, b2, c2⟩, fun _ => trivial⟩⟩, ?_⟩
  · by_cases q : p = (-1 : Int32)
    · rw [if_pos q, if_pos q]
    · rw [if_neg q, if_neg q]
      by_cases q2 : bad N S E mro mit p 4 = 0
      · rw [if_pos q2, if_pos q2]
      · rw [if_neg q2, if_neg q2]
  · by_cases q : p = (-1 : Int32)
    · rw [if_pos q]; exact Or.inl rfl
    · rw [if_neg q]
      by_cases q2 : bad N S E mro mit p 4 = 0
      · rw [if_pos q2]; exact c3
      · rw [if_neg q2]; exact Or.inr (Or.inl rfl)
theorem key_sh {key : Nat} (h : key < 512) : nI key >>> ((3 : Int32) &&& 31) = nI (key / 8) ∧ nI key &&& (7 : Int32) = nI (key % 8) := ⟨pk_shrN (by omega) _ 3 (by decide), pk_andN (by omega) 3 (by decide)⟩
theorem row_of {N S E : Nat} {cby cto mro mit : Nat → Int32} (h : RR N cby cto mro mit) (hE : E < 2 ^ 30) (hS : S ≤ E) {p : Int32} (hp : OKB S E p) {key : Nat} (hk : key < 512) : f_BT_rowOf p (nI key) (nI N) (nI S) (nI E) cby cto = (row N S E mro mit p key, ()) ∧ ok_BT_rowOf (N * 64) N p (nI key) (nI N) (nI S) (nI E) cby cto := by
  obtain ⟨s1, s2⟩ := key_sh hk
  obtain ⟨l1, l2, l3⟩ := leaf_of h hE hS hp (l := key / 8) (by omega)
  unfold f_BT_rowOf ok_BT_rowOf row
  simp only [bindc_def, bindp_iff, s1, s2, l1]
  generalize lfB N S E mro mit p (key / 8) = x at l2 l3 ⊢
  rcases l3 with rfl | rfl | ⟨b, h1, h2, rfl⟩
  · refine ⟨rfl, l2, fun _ => trivial, fun _ => ⟨fun _ => trivial, fun z => (z rfl).elim⟩⟩
  · refine ⟨rfl, l2, fun _ => trivial, fun z => (z rfl).elim⟩
  · have hb : b < 2 ^ 30 := by omega
    obtain ⟨b1, b2, -, -⟩ := rr_bit h (key % 8) hb
    obtain ⟨e1, e2, -, -⟩ := rr_entry h hb (show key % 8 < 8 by omega)
    have e1' : f_RL_entryOf (nI b) (nI (key % 8)) (nI N) cby = (EN N mro b (key % 8), ()) := e1
    have b1' : f_RL_hasBit (nI b) (nI (key % 8)) (nI N) cby = (BI N mro b (key % 8), ()) := b1
    simp only [if_neg (m1_ne (show b < 2 ^ 31 by omega)), if_neg (m2_ne (show b < 2 ^ 31 by omega)), b1', e1', nI_clamp (show b < 2 ^ 31 by omega)]
    refine ⟨?_, l2, fun _ => trivial, fun _ => ⟨fun _ => trivial, fun _ => ⟨b2, fun _ => trivial, fun _ => e2⟩⟩⟩
    by_cases q : BI N mro b (key % 8) = 0
    · rw [if_pos q, if_pos q]
    · rw [if_neg q, if_neg q]
theorem look_step {N S E : Nat} {cby cto mro mit : Nat → Int32} (h : RR N cby cto mro mit) (hE : E < 2 ^ 30) (hS : S ≤ E) (mrs : Int32) (mve mrb : Nat → Int32) {key t k : Nat} (ht : t < 3) (hk : k < 8) (hsh : (nI key >>> ((((3 : Int32) * nI (t + 1)) - (3 : Int32)) &&& 31)) &&& (7 : Int32) = nI k) (f : Nat) (x : Int32) :
    (bad N S E mro mit x (nI (t + 1)) = 1 → f_MO_look_51 (f + 1) (nI key) x (nI (t + 1)) (nI N) (nI S) (nI E) mrs mro mit mve mrb = (1000000000001, ())) ∧
    (∀ b, x = nI b → b < 2 ^ 30 → bad N S E mro mit x (nI (t + 1)) = 0 → f_MO_look_51 (f + 1) (nI key) x (nI (t + 1)) (nI N) (nI S) (nI E) mrs mro mit mve mrb = if BI N mro b k = 0 then (1000000000000, ()) else f_MO_look_51 f (nI key) (EN N mro b k) (nI t) (nI N) (nI S) (nI E) mrs mro mit mve mrb) ∧
    ((∀ y, ok_MO_look_51 f (nI key) y (nI t) (nI N) (nI S) (nI E) mrs mro mit mve mrb) → ok_MO_look_51 (f + 1) (nI key) x (nI (t + 1)) (nI N) (nI S) (nI E) mrs mro mit mve mrb) := by
  obtain ⟨-, -, d1, d2, d5⟩ := rr_bad h hE hS x (nI (t + 1))
  have c : ¬ nI (t + 1) < (1 : Int32) := nI_nlt (a := t + 1) (b := 1) (by omega) (by omega)
  have m1 : nI (t + 1) + (-1 : Int32) = nI t := pk_m1 t
  rw [f_MO_look_51, ok_MO_look_51]
  simp only [if_neg c, bindc_def, bindp_iff, d1, hsh, m1]
  refine ⟨?_, ?_, ?_⟩
  · intro z; rw [z, if_neg no1]
  · intro b e hb z
    subst e
    obtain ⟨-, -, b1, -⟩ := rr_bit h k hb
    obtain ⟨-, -, e1, -⟩ := rr_entry h hb hk
    have e1' : f_MO_entryOf (nI b) (nI k) (nI N) mro = (EN N mro b k, ()) := e1
    have b1' : f_MO_hasEntry (nI b) (nI k) (nI N) mro = (BI N mro b k, ()) := b1
    rw [z, if_pos rfl, b1', e1']
  · intro o
    refine ⟨fun z => absurd z c, fun _ => ⟨d2, fun z => ?_, fun _ => trivial⟩⟩
    rcases d5 with d5 | ⟨-, b, hb1, hb2, rfl⟩
    · rw [z] at d5; exact absurd d5 (by decide)
    · obtain ⟨-, -, -, b2⟩ := rr_bit h k (show b < 2 ^ 30 by omega)
      obtain ⟨-, -, -, e2⟩ := rr_entry h (show b < 2 ^ 30 by omega) hk
      exact ⟨b2, fun _ => trivial, fun _ => ⟨e2, o _⟩⟩
theorem look_0 {N S E : Nat} (mro mit : Nat → Int32) (mrs : Int32) (mve mrb : Nat → Int32) (key f : Nat) (x : Int32) : f_MO_look_51 (f + 1) (nI key) x (nI 0) (nI N) (nI S) (nI E) mrs mro mit mve mrb = (x.toInt64, ()) ∧ ok_MO_look_51 (f + 1) (nI key) x (nI 0) (nI N) (nI S) (nI E) mrs mro mit mve mrb := by
  have c : nI 0 < (1 : Int32) := by decide
  rw [f_MO_look_51, ok_MO_look_51]
  rw [if_pos c]
  exact ⟨rfl, fun _ => trivial, fun z => absurd c z⟩
theorem bt0 {x : Int32} (b : Nat) (hx : x = nI b) (hb : b < 256) : bt x 0 = 0 ↔ x &&& (1 : Int32) = 0 := by
  subst hx
  have h1 : nI b >>> (nI 0 &&& 31) = nI b := by
    have := pk_shrN (n := b) (by omega) (nI 0 &&& 31) 0 (by decide)
    simpa using this
  have h2 : nI b &&& (1 : Int32) = nI (b % 2) := pk_andN (by omega) 1 (by decide)
  unfold bt
  rw [h1, h2]
  rcases Nat.mod_two_eq_zero_or_one b with e | e
  · rw [e]; decide
  · rw [e]; decide
theorem look_of {N S E : Nat} {cby cto mro mit : Nat → Int32} (h : RR N cby cto mro mit) (hE : E < 2 ^ 30) (hS : S ≤ E) (mrs : Int32) (mve mrb : Nat → Int32) {p x : Int32} (hr : ¬ p = 0 → f_MO_rootOf p mrs mve mrb = (x, ()) ∧ ok_MO_rootOf p mrs mve mrb ∧ ∃ q, S ≤ q ∧ q < E ∧ x = nI q) (h0 : p = 0 → x = -1) {key : Nat} (hk : key < 512) : f_MO_look p (nI key) (nI N) (nI S) (nI E) mrs mro mit mve mrb = (row N S E mro mit x key, ()) ∧ ok_MO_look p (nI key) (nI N) (nI S) (nI E) mrs mro mit mve mrb := by
  by_cases e : p = 0
  · rw [h0 e]
    refine ⟨?_, ⟨fun _ => trivial, fun z => absurd e z⟩⟩
    unfold f_MO_look row lfB
    rw [if_pos e]
    simp only [if_true, if_neg (show ¬ (-1 : Int32) = -2 by decide)]
  · obtain ⟨r1, r2, q, hq1, hq2, rfl⟩ := hr e
    have hq : q < 2 ^ 30 := by omega
    obtain ⟨-, -, d1, d2, d5⟩ := rr_bad h hE hS (nI q) 4
    obtain ⟨g1, g2⟩ := rr_bits h hq
    obtain ⟨-, -, e1, e2⟩ := rr_entry (k := 0) h hq (by omega)
    have e1' : f_MO_entryOf (nI q) (0 : Int32) (nI N) mro = (EN N mro q 0, ()) := e1
    have sh2 : (nI key >>> ((((3 : Int32) * nI (2 + 1)) - (3 : Int32)) &&& 31)) &&& (7 : Int32) = nI (key / 8 / 8) := by
      rw [pk_shrN (by omega) _ 6 (by decide), pk_andN (by omega) 3 (by decide)]; congr 1; omega
    have sh1 : (nI key >>> ((((3 : Int32) * nI (1 + 1)) - (3 : Int32)) &&& 31)) &&& (7 : Int32) = nI (key / 8 % 8) := by
      rw [pk_shrN (by omega) _ 3 (by decide), pk_andN (by omega) 3 (by decide)]
    have sh0 : (nI key >>> ((((3 : Int32) * nI (0 + 1)) - (3 : Int32)) &&& 31)) &&& (7 : Int32) = nI (key % 8) := by
      rw [pk_shrN (by omega) _ 0 (by decide), pk_andN (by omega) 3 (by decide)]; congr 1; omega
    have L3 := fun x => look_step h hE hS mrs mve mrb (t := 2) (key := key) (by omega) (by omega) sh2 1023 x
    have L2 := fun x => look_step h hE hS mrs mve mrb (t := 1) (key := key) (by omega) (by omega) sh1 1022 x
    have L1 := fun x => look_step h hE hS mrs mve mrb (t := 0) (key := key) (by omega) (by omega) sh0 1021 x
    have L0 := fun x => look_0 (N := N) (S := S) (E := E) mro mit mrs mve mrb key 1020 x
    have ok1 := fun x => (L1 x).2.2 (fun y => (L0 y).2)
    have ok2 := fun x => (L2 x).2.2 ok1
    have ok3 := fun x => (L3 x).2.2 ok2
    have hbyte : ∃ b, b < 256 ∧ mro (q % N * 64 + 1) = nI b := by
      obtain ⟨h1, h2, h3, h4⟩ := h
      have := pl (b := q) h1
      exact (h3 (q % N * 64 + 1) (by omega)).2
    obtain ⟨bb, hbb, hbe⟩ := hbyte
    have hB0 : BI N mro q 0 = 0 ↔ mro (q % N * 64 + 1) &&& (1 : Int32) = 0 := bt0 bb hbe hbb
    have x3 : ∀ x, bad N S E mro mit x 3 = 1 ∨ bad N S E mro mit x 3 = 0 ∧ ∃ b, S ≤ b ∧ b < E ∧ x = nI b := fun x => (rr_bad h hE hS x 3).2.2.2.2
    have x2 : ∀ x, bad N S E mro mit x 2 = 1 ∨ bad N S E mro mit x 2 = 0 ∧ ∃ b, S ≤ b ∧ b < E ∧ x = nI b := fun x => (rr_bad h hE hS x 2).2.2.2.2
    have x1 : ∀ x, bad N S E mro mit x 1 = 1 ∨ bad N S E mro mit x 1 = 0 ∧ ∃ b, S ≤ b ∧ b < E ∧ x = nI b := fun x => (rr_bad h hE hS x 1).2.2.2.2
    refine ⟨?_, ?_⟩
    · unfold f_MO_look row lfB
      simp only [if_neg e, bindc_def, r1, d1, g1, e1', if_neg (m1_ne (show q < 2 ^ 31 by omega))]
      rcases d5 with d5 | ⟨d5, -⟩
      · rw [d5]; simp only [if_neg no1, if_true]
      · rw [d5]; simp only [if_true]
        rw [kid_b (show q < 2 ^ 31 by omega)]
        by_cases c0 : BI N mro q 0 = 0
        · rw [if_pos (hB0.mp c0), if_pos c0, kid_m1, kid_m1]
          simp only [if_true, if_neg (show ¬ (-1 : Int32) = -2 by decide)]
        · rw [if_neg (fun z => c0 (hB0.mpr z)), if_neg c0]
          generalize EN N mro q 0 = w3
          have L3w := L3 w3
          rcases x3 w3 with c3 | ⟨c3, b3, hb3, hb3', rfl⟩
          · rw [c3, if_neg no1, kid_m2, kid_m2]
            simp only [if_true]
            exact L3w.1 c3
          · rw [c3, if_pos rfl, kid_b (show b3 < 2 ^ 31 by omega)]
            have l3 := L3w.2.1 b3 rfl (by omega) c3
            by_cases c4 : BI N mro b3 (key / 8 / 8) = 0
            · rw [if_pos c4] at l3 ⊢
              rw [kid_m1]
              simp only [if_true, if_neg (show ¬ (-1 : Int32) = -2 by decide)]
              exact l3
            · rw [if_neg c4] at l3 ⊢
              generalize EN N mro b3 (key / 8 / 8) = w2 at l3 ⊢
              have L2w := L2 w2
              rcases x2 w2 with c5 | ⟨c5, b2, hb2, hb2', rfl⟩
              · rw [c5, if_neg no1, kid_m2]
                simp only [if_true]
                exact l3.trans (L2w.1 c5)
              · rw [c5, if_pos rfl, kid_b (show b2 < 2 ^ 31 by omega)]
                have l2 := L2w.2.1 b2 rfl (by omega) c5
                by_cases c6 : BI N mro b2 (key / 8 % 8) = 0
                · rw [if_pos c6] at l2 ⊢
                  simp only [if_true, if_neg (show ¬ (-1 : Int32) = -2 by decide)]
                  exact l3.trans l2
                · rw [if_neg c6] at l2 ⊢
                  generalize EN N mro b2 (key / 8 % 8) = w1 at l2 ⊢
                  have L1w := L1 w1
                  rcases x1 w1 with c7 | ⟨c7, b1, hb1, hb1', rfl⟩
                  · rw [c7, if_neg no1]
                    simp only [if_true]
                    exact l3.trans (l2.trans (L1w.1 c7))
                  · rw [c7, if_pos rfl]
                    simp only [if_neg (m1_ne (show b1 < 2 ^ 31 by omega)), if_neg (m2_ne (show b1 < 2 ^ 31 by omega)), nI_clamp (show b1 < 2 ^ 31 by omega)]
                    have l1 := L1w.2.1 b1 rfl (by omega) c7
                    by_cases c8 : BI N mro b1 (key % 8) = 0
                    · rw [if_pos c8] at l1 ⊢
                      exact l3.trans (l2.trans l1)
                    · rw [if_neg c8] at l1 ⊢
                      exact l3.trans (l2.trans (l1.trans (L0 _).1))
    · unfold ok_MO_look
      simp only [bindp_iff, r1, d1, g1, e1']
      exact ⟨fun _ => trivial, fun _ => ⟨r2, d2, fun _ => ⟨g2, fun _ => trivial, fun _ => ⟨e2, ok3 _⟩⟩, fun _ => trivial⟩⟩
