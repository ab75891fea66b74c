/-! the reference makes a block up; a page written on both sides -/
theorem by_mod {x : Int32} (h : BY x) : x = nI (x.toBitVec.toNat % 256) := by
  obtain ⟨a, h1, rfl⟩ := h
  rw [pk_tn (by omega), Nat.mod_eq_of_lt h1]
theorem begin_l {kind bits mnw mnx : Int32} (hk : BY kind) (hb : BY bits) : ∀ (f i : Nat) (mmd : Nat → Int32), i ≤ 64 → 64 < i + f → (∀ j, j < i → mmd j = 0) →
    ok_MO_begin_2 f kind bits (nI i) mnw mnx mmd ∧ ∀ j, j < 64 → f_MO_begin_2 f kind bits (nI i) mnw mnx mmd j = nI (CT kind bits (mnw + 1) mnx (fun _ => 0) j) := by
  intro f
  induction f with
  | zero => intro i mmd h1 h2; omega
  | succ f ih =>
    intro i mmd h1 h2 h3
    rw [ok_MO_begin_2, f_MO_begin_2]
    by_cases e : i = 64
    · subst e
      have c : (64 : Int32) ≤ nI 64 := by decide
      rw [if_pos c, bindc_def, bindc_def, bindp_iff, show (0 : Int32).toNatClampNeg = 0 from rfl, show (1 : Int32).toNatClampNeg = 1 from rfl]
      obtain ⟨o1, r1⟩ := mo_put (a := 4) (by omega) (mnw + 1) (upd (upd mmd 0 kind) 1 bits)
      obtain ⟨o2, r2⟩ := mo_put (a := 40) (by omega) mnx (f_MO_putNumber (4 : Int32) (mnw + 1) (upd (upd mmd 0 kind) 1 bits))
      refine ⟨⟨fun _ => ⟨(show vp_in (nI 0) 64 from vp_in_nI (by omega) (by omega)), (show vp_in (nI 1) 64 from vp_in_nI (by omega) (by omega)), o1, o2⟩, fun z => absurd c z⟩, fun j hj => ?_⟩
      have e40 : ∀ v g, f_MO_putNumber (40 : Int32) v g j = f_MO_putNumber (nI 40) v g j := fun _ _ => rfl
      have e4 : ∀ v g, f_MO_putNumber (4 : Int32) v g j = f_MO_putNumber (nI 4) v g j := fun _ _ => rfl
      rw [e40, r2 j]
      unfold CT
      by_cases c40 : 40 ≤ j ∧ j < 40 + 4
      · rw [if_pos c40, if_neg (by omega), if_neg (by omega), if_neg (by omega), if_neg (by omega), if_pos (by omega)]
      · rw [if_neg c40, e4, r1 j]
        by_cases c4 : 4 ≤ j ∧ j < 4 + 4
        · rw [if_pos c4, if_neg (by omega), if_neg (by omega), if_pos (by omega)]
        · rw [if_neg c4]
          by_cases c1 : j = 1
          · subst c1; rw [pk_us, if_neg (by omega), if_pos rfl]; exact by_mod hb
          · rw [pk_un c1]
            by_cases c0 : j = 0
            · subst c0; rw [pk_us, if_pos rfl]; exact by_mod hk
            · rw [pk_un c0, if_neg c0, if_neg c1, if_neg (by omega), h3 j hj]
              by_cases c8 : 8 ≤ j ∧ j < 40
              · rw [if_pos c8, by4_0]; rfl
              · rw [if_neg c8, if_neg (by omega)]; rfl
    · have c : ¬ (64 : Int32) ≤ nI i := nI_ge (a := i) (b := 64) (by omega) (by omega)
      rw [if_neg c, nI_1, nI_clamp (show i < 2 ^ 31 by omega)]
      have := ih (i + 1) (upd mmd i 0) (by omega) (by omega) (fun j hj => by
        by_cases e2 : j = i
        · rw [e2]; exact pk_us
        · rw [pk_un e2]; exact h3 j (by omega))
      exact ⟨⟨fun z => absurd z c, fun _ => ⟨vp_in_nI (by omega) (by omega), this.1⟩⟩, this.2⟩
theorem begin_of {kind bits : Int32} (hk : BY kind) (hb : BY bits) (mnw mnx : Int32) (mmd : Nat → Int32) : ok_MO_begin kind bits mnw mnx mmd ∧ ∀ j, j < 64 → f_MO_begin kind bits mnw mnx mmd j = nI (CT kind bits (mnw + 1) mnx (fun _ => 0) j) := by
  have h := begin_l (mnw := mnw) (mnx := mnx) hk hb 1024 0 mmd (by omega) (by omega) (fun j hj => by omega)
  rw [nI_0] at h
  unfold ok_MO_begin f_MO_begin
  exact h
/-- the entries below k stand -/
def PUT (kind bits ver blk : Int32) (e : Nat → Int32) (k : Nat) (mmd : Nat → Int32) : Prop := ∀ i, i < 64 → mmd i = nI (CT kind bits ver blk (fun j => if j < k then e j else 0) i)
theorem put_0 {kind bits ver blk : Int32} {e mmd : Nat → Int32} (h : ∀ i, i < 64 → mmd i = nI (CT kind bits ver blk (fun _ => 0) i)) : PUT kind bits ver blk e 0 mmd := by
  intro i hi
  rw [h i hi]
  exact congrArg nI (CT_ent (fun j _ => by rw [if_neg (by omega)]) i)
theorem put_s {kind bits ver blk : Int32} {e mmd : Nat → Int32} {k : Nat} (hk : k < 8) (h : PUT kind bits ver blk e k mmd) {v : Int32} (hv : v = e k) : ok_MO_putNumber (nI (8 + 4 * k)) v mmd ∧ PUT kind bits ver blk e (k + 1) (f_MO_putNumber (nI (8 + 4 * k)) v mmd) := by
  obtain ⟨o, r⟩ := mo_put (a := 8 + 4 * k) (by omega) v mmd
  refine ⟨o, fun i hi => ?_⟩
  rw [r i]
  by_cases c : 8 + 4 * k ≤ i ∧ i < 8 + 4 * k + 4
  · rw [if_pos c]
    unfold CT
    rw [if_neg (by omega), if_neg (by omega), if_neg (by omega), if_pos (by omega), show (i - 8) / 4 = k by omega, show (i - 8) % 4 = i - (8 + 4 * k) by omega]
    show nI (by4 v _) = nI (by4 (if k < k + 1 then e k else 0) _)
    rw [if_pos (by omega), hv]
  · rw [if_neg c, h i hi]
    congr 1
    unfold CT
    by_cases c8 : 8 ≤ i ∧ i < 40
    · rw [if_pos c8, if_pos c8]
      dsimp only
      by_cases c9 : (i - 8) / 4 < k
      · rw [if_pos c9, if_pos (show (i - 8) / 4 < k + 1 by omega)]
      · rw [if_neg c9, if_neg (show ¬ (i - 8) / 4 < k + 1 by omega)]
    · rw [if_neg c8, if_neg c8]
theorem put_8 {kind bits ver blk : Int32} {e mmd : Nat → Int32} (h : PUT kind bits ver blk e 8 mmd) : ∀ i, i < 64 → mmd i = nI (CT kind bits ver blk e i) := by
  intro i hi
  rw [h i hi]
  congr 1
  exact CT_ent (fun j hj => by rw [if_pos hj]) i
theorem ish_of {kind bits ver blk : Int32} {e g : Nat → Int32} (h : ∀ i, i < 64 → g i = sgb (CB (CT kind bits ver blk e) i)) : ISh g := by
  refine ⟨?_, ?_, fun i h1 h2 => ?_⟩
  · rw [h 2 (by omega)]; unfold CB CT; rfl
  · rw [h 3 (by omega)]; unfold CB CT; rfl
  · rw [h i (by omega)]
    unfold CB CT
    rw [if_pos h2, if_neg (by omega), if_neg (by omega), if_neg (by omega), if_neg (by omega), if_neg (by omega), sgb_0]
theorem e84' (k : Nat) : (8 : Int32) + (4 : Int32) * nI k = nI (8 + 4 * k) := by rw [show (4 : Int32) * nI k = nI (4 * k) from pk_mul 4 k, show (8 : Int32) + nI (4 * k) = nI (8 + 4 * k) from nI_add 8 _]
theorem wLeaf_l {l : Nat} (hl : l < 64) {msl mnw mdn mpw mwr mnx : Int32} {mro mit mlb mrw mlk : Nat → Int32} (hby : BY (mlb l)) {kind ver blk : Int32} :
    ∀ (f k : Nat) (mmd : Nat → Int32), k ≤ 8 → 8 < k + f → PUT kind (mlb l) ver blk (fun j => if bt (mlb l) j = 0 then 0 else mrw (8 * l + j)) k mmd →
    ∃ mmd', PUT kind (mlb l) ver blk (fun j => if bt (mlb l) j = 0 then 0 else mrw (8 * l + j)) 8 mmd' ∧ f_MO_writeLeaf_23 f (nI l) (nI k) msl mnw mdn mpw mwr mnx mro mit mlb mrw mlk mmd = ((f_MO_finish msl mdn mpw mwr mnx mro mit mmd').1, (f_MO_finish msl mdn mpw mwr mnx mro mit mmd').2.1, (f_MO_finish msl mdn mpw mwr mnx mro mit mmd').2.2.1, (f_MO_finish msl mdn mpw mwr mnx mro mit mmd').2.2.2.1, (f_MO_finish msl mdn mpw mwr mnx mro mit mmd').2.2.2.2.1, (f_MO_finish msl mdn mpw mwr mnx mro mit mmd').2.2.2.2.2.1, (f_MO_finish msl mdn mpw mwr mnx mro mit mmd').2.2.2.2.2.2.1, mlk, (f_MO_finish msl mdn mpw mwr mnx mro mit mmd').2.2.2.2.2.2.2) ∧ (ok_MO_finish msl mdn mpw mwr mnx mro mit mmd' → isB (f_MO_finish msl mdn mpw mwr mnx mro mit mmd').1 → ok_MO_writeLeaf_23 f (nI l) (nI k) msl mnw mdn mpw mwr mnx mro mit mlb mrw mlk mmd) := by
  intro f
  induction f with
  | zero => intro k mmd h1 h2; omega
  | succ f ih =>
    intro k mmd h1 h2 h3
    rw [f_MO_writeLeaf_23, ok_MO_writeLeaf_23]
    by_cases e : k = 8
    · subst e
      have c : (8 : Int32) ≤ nI 8 := by decide
      rw [if_pos c, bindc_def, bindp_iff]
      exact ⟨mmd, h3, rfl, fun o1 o2 => ⟨fun _ => ⟨o1, o2⟩, fun z => absurd c z⟩⟩
    · have c : ¬ (8 : Int32) ≤ nI k := nI_ge (a := k) (b := 8) (by omega) (by omega)
      have hk : k < 8 := by omega
      have e8 : (8 : Int32) * nI l + nI k = nI (8 * l + k) := by rw [show (8 : Int32) * nI l = nI (8 * l) from pk_mul 8 l, nI_add]
      have w : vp_in (nI l) 64 := vp_in_nI hl (by omega)
      have w2 : vp_in (nI (8 * l + k)) 512 := vp_in_nI (by omega) (by omega)
      simp only [if_neg c, nI_clamp (show l < 2 ^ 31 by omega), bt_sh hby hk, e8, nI_clamp (show 8 * l + k < 2 ^ 31 by omega), bindc_def, bindp_iff, e84', nI_1]
      rcases bt_01 (mlb l) k with q | q
      · have c1 : ¬ bt (mlb l) k = (1 : Int32) := by rw [q]; decide
        obtain ⟨o, h4⟩ := put_s hk h3 (v := 0) (by rw [if_pos q])
        obtain ⟨mmd', r1, r2, r3⟩ := ih (k + 1) _ (by omega) (by omega) h4
        simp only [if_neg c1]
        exact ⟨mmd', r1, r2, fun o1 o2 => ⟨fun z => absurd z c, fun _ => ⟨w, fun z => absurd z c1, fun _ => ⟨o, r3 o1 o2⟩⟩⟩⟩
      · have c0 : ¬ bt (mlb l) k = 0 := by rw [q]; decide
        obtain ⟨o, h4⟩ := put_s hk h3 (v := mrw (8 * l + k)) (by rw [if_neg c0])
        obtain ⟨mmd', r1, r2, r3⟩ := ih (k + 1) _ (by omega) (by omega) h4
        simp only [if_pos q]
        exact ⟨mmd', r1, r2, fun o1 o2 => ⟨fun z => absurd z c, fun _ => ⟨w, fun _ => ⟨w2, o, r3 o1 o2⟩, fun z => absurd q z⟩⟩⟩
theorem wLeaf_agree {N b l : Nat} (h1 : 16 ≤ N) (h2 : N ≤ 200) (hb : b < 2 ^ 30) (hl : l < 64) {cle cwr mnw : Int32} {cby cto csh ces mro mit mlb mrw mlk mmd : Nat → Int32} (hby : BY (mlb l)) (hent : ∀ k, k < 8 → ces (8 * l + k) = if bt (mlb l) k = 0 then 0 else mrw (8 * l + k)) (hBy : IBy N cby mro) (hTo : ITo N cto mit) (hSh : ISh csh) (hle : cle = -1 ∨ 0 ≤ cle) (hne : ¬ cle = 0) :
    ∃ x cfa' cle' cwr' cby' cto' csh' mro' mit' mmd', f_RL_write (nI b) (1 : Int32) (mlb l) (mnw + 1) (nI (8 * l)) 0 cle cwr (nI N) cby cto csh ces = (x, cfa', cle', cwr', cby', cto', csh') ∧ ok_RL_write (N * 64) N (nI b) (1 : Int32) (mlb l) (mnw + 1) (nI (8 * l)) 0 cle cwr (nI N) cby cto csh ces ∧
    f_MO_writeLeaf (nI l) (nI N) mnw 0 cle cwr (nI b) mro mit mlb mrw mlk mmd = (x, cfa', cle', cwr', nI (b + 1), mro', mit', upd mlk l (nI b), mmd') ∧ ok_MO_writeLeaf (nI l) (nI N) mnw 0 cle cwr (nI b) mro mit mlb mrw mlk mmd ∧
    IBy N cby' mro' ∧ ITo N cto' mit' ∧ ISh csh' ∧ (cle' = -1 ∨ 0 ≤ cle') ∧ ((x = 1 ∧ cfa' = 0 ∧ ¬ cle' = 0) ∨ (x = 0 ∧ cfa' = 1)) := by
  obtain ⟨bo, br⟩ := begin_of (kind := (1 : Int32)) (bits := mlb l) ⟨1, by omega, rfl⟩ hby mnw (nI b) mmd
  obtain ⟨mmd1, p1, p2, p3⟩ := wLeaf_l (mrw := mrw) (mlk := upd mlk l (nI b)) (msl := nI N) (mnw := mnw) (mdn := 0) (mpw := cle) (mwr := cwr) (mnx := nI b) (mro := mro) (mit := mit) hl hby (kind := (1 : Int32)) (ver := mnw + 1) (blk := nI b) 1024 0 _ (by omega) (by omega) (put_0 br)
  rw [nI_0] at p2 p3
  obtain ⟨mo, mr⟩ := mku_of (nb := N * 64) (nt := N) (o := 8 * l) (by omega) (kind := (1 : Int32)) (bits := mlb l) (ver := mnw + 1) (blk := nI b) hent hSh
  obtain ⟨x, cfa', cle', cwr', cby', cto', mro', mit', mmd', a1, a2, a3, a4, a5, a6, a7, a8⟩ := blk_agree h1 h2 hb (cwr := cwr) (CT_lt _ _ _ _ _) mr (fun i hi => put_8 p1 i (by omega)) hBy hTo hle hne
  refine ⟨x, cfa', cle', cwr', cby', cto', _, mro', mit', mmd', (wr_eq _ _ _ _ _ _ _ _ _ _ _ _ _).trans a1, wr_ok mo a2, ?_, ?_, a5, a6, ish_of mr, a7, a8⟩
  · unfold f_MO_writeLeaf
    rw [nI_clamp (show l < 2 ^ 31 by omega), bindc_def, p2, a3]
  · unfold ok_MO_writeLeaf
    rw [nI_clamp (show l < 2 ^ 31 by omega), bindp_iff]
    have w : vp_in (nI l) 64 := vp_in_nI hl (by omega)
    refine ⟨w, w, bo, p3 a4 ?_⟩
    rw [a3]
    rcases a8 with ⟨e, -⟩ | ⟨e, -⟩
    · rw [e]; exact isB_1
    · rw [e]; exact isB_0
theorem wNode_l {l : Nat} (hl : l < 8) {msl mnw mdn mpw mwr mnx : Int32} {mro mit mnb mlk mnk : Nat → Int32} (hby : BY (mnb l)) {kind ver blk : Int32} :
    ∀ (f k : Nat) (mmd : Nat → Int32), k ≤ 8 → 8 < k + f → PUT kind (mnb l) ver blk (fun j => if bt (mnb l) j = 0 then 0 else mlk (8 * l + j)) k mmd →
    ∃ mmd', PUT kind (mnb l) ver blk (fun j => if bt (mnb l) j = 0 then 0 else mlk (8 * l + j)) 8 mmd' ∧ f_MO_writeNode_23 f (nI l) (nI k) msl mnw mdn mpw mwr mnx mro mit mnb mlk mnk mmd = ((f_MO_finish msl mdn mpw mwr mnx mro mit mmd').1, (f_MO_finish msl mdn mpw mwr mnx mro mit mmd').2.1, (f_MO_finish msl mdn mpw mwr mnx mro mit mmd').2.2.1, (f_MO_finish msl mdn mpw mwr mnx mro mit mmd').2.2.2.1, (f_MO_finish msl mdn mpw mwr mnx mro mit mmd').2.2.2.2.1, (f_MO_finish msl mdn mpw mwr mnx mro mit mmd').2.2.2.2.2.1, (f_MO_finish msl mdn mpw mwr mnx mro mit mmd').2.2.2.2.2.2.1, mnk, (f_MO_finish msl mdn mpw mwr mnx mro mit mmd').2.2.2.2.2.2.2) ∧ (ok_MO_finish msl mdn mpw mwr mnx mro mit mmd' → isB (f_MO_finish msl mdn mpw mwr mnx mro mit mmd').1 → ok_MO_writeNode_23 f (nI l) (nI k) msl mnw mdn mpw mwr mnx mro mit mnb mlk mnk mmd) := by
  intro f
  induction f with
  | zero => intro k mmd h1 h2; omega
  | succ f ih =>
    intro k mmd h1 h2 h3
    rw [f_MO_writeNode_23, ok_MO_writeNode_23]
    by_cases e : k = 8
    · subst e
      have c : (8 : Int32) ≤ nI 8 := by decide
      rw [if_pos c, bindc_def, bindp_iff]
      exact ⟨mmd, h3, rfl, fun o1 o2 => ⟨fun _ => ⟨o1, o2⟩, fun z => absurd c z⟩⟩
    · have c : ¬ (8 : Int32) ≤ nI k := nI_ge (a := k) (b := 8) (by omega) (by omega)
      have hk : k < 8 := by omega
      have e8 : (8 : Int32) * nI l + nI k = nI (8 * l + k) := by rw [show (8 : Int32) * nI l = nI (8 * l) from pk_mul 8 l, nI_add]
      have w : vp_in (nI l) 8 := vp_in_nI hl (by omega)
      have w2 : vp_in (nI (8 * l + k)) 64 := vp_in_nI (by omega) (by omega)
      simp only [if_neg c, nI_clamp (show l < 2 ^ 31 by omega), bt_sh hby hk, e8, nI_clamp (show 8 * l + k < 2 ^ 31 by omega), bindc_def, bindp_iff, e84', nI_1]
      rcases bt_01 (mnb l) k with q | q
      · have c1 : ¬ bt (mnb l) k = (1 : Int32) := by rw [q]; decide
        obtain ⟨o, h4⟩ := put_s hk h3 (v := 0) (by rw [if_pos q])
        obtain ⟨mmd', r1, r2, r3⟩ := ih (k + 1) _ (by omega) (by omega) h4
        simp only [if_neg c1]
        exact ⟨mmd', r1, r2, fun o1 o2 => ⟨fun z => absurd z c, fun _ => ⟨w, fun z => absurd z c1, fun _ => ⟨o, r3 o1 o2⟩⟩⟩⟩
      · have c0 : ¬ bt (mnb l) k = 0 := by rw [q]; decide
        obtain ⟨o, h4⟩ := put_s hk h3 (v := mlk (8 * l + k)) (by rw [if_neg c0])
        obtain ⟨mmd', r1, r2, r3⟩ := ih (k + 1) _ (by omega) (by omega) h4
        simp only [if_pos q]
        exact ⟨mmd', r1, r2, fun o1 o2 => ⟨fun z => absurd z c, fun _ => ⟨w, fun _ => ⟨w2, o, r3 o1 o2⟩, fun z => absurd q z⟩⟩⟩
theorem wNode_agree {N b l : Nat} (h1 : 16 ≤ N) (h2 : N ≤ 200) (hb : b < 2 ^ 30) (hl : l < 8) {cle cwr mnw : Int32} {cby cto csh ces mro mit mnb mlk mnk mmd : Nat → Int32} (hby : BY (mnb l)) (hent : ∀ k, k < 8 → ces (512 + 8 * l + k) = if bt (mnb l) k = 0 then 0 else mlk (8 * l + k)) (hBy : IBy N cby mro) (hTo : ITo N cto mit) (hSh : ISh csh) (hle : cle = -1 ∨ 0 ≤ cle) (hne : ¬ cle = 0) :
    ∃ x cfa' cle' cwr' cby' cto' csh' mro' mit' mmd', f_RL_write (nI b) (2 : Int32) (mnb l) (mnw + 1) (nI (512 + 8 * l)) 0 cle cwr (nI N) cby cto csh ces = (x, cfa', cle', cwr', cby', cto', csh') ∧ ok_RL_write (N * 64) N (nI b) (2 : Int32) (mnb l) (mnw + 1) (nI (512 + 8 * l)) 0 cle cwr (nI N) cby cto csh ces ∧
    f_MO_writeNode (nI l) (nI N) mnw 0 cle cwr (nI b) mro mit mnb mlk mnk mmd = (x, cfa', cle', cwr', nI (b + 1), mro', mit', upd mnk l (nI b), mmd') ∧ ok_MO_writeNode (nI l) (nI N) mnw 0 cle cwr (nI b) mro mit mnb mlk mnk mmd ∧
    IBy N cby' mro' ∧ ITo N cto' mit' ∧ ISh csh' ∧ (cle' = -1 ∨ 0 ≤ cle') ∧ ((x = 1 ∧ cfa' = 0 ∧ ¬ cle' = 0) ∨ (x = 0 ∧ cfa' = 1)) := by
  obtain ⟨bo, br⟩ := begin_of (kind := (2 : Int32)) (bits := mnb l) ⟨2, by omega, rfl⟩ hby mnw (nI b) mmd
  obtain ⟨mmd1, p1, p2, p3⟩ := wNode_l (mlk := mlk) (mnk := upd mnk l (nI b)) (msl := nI N) (mnw := mnw) (mdn := 0) (mpw := cle) (mwr := cwr) (mnx := nI b) (mro := mro) (mit := mit) hl hby (kind := (2 : Int32)) (ver := mnw + 1) (blk := nI b) 1024 0 _ (by omega) (by omega) (put_0 br)
  rw [nI_0] at p2 p3
  obtain ⟨mo, mr⟩ := mku_of (nb := N * 64) (nt := N) (o := 512 + 8 * l) (by omega) (kind := (2 : Int32)) (bits := mnb l) (ver := mnw + 1) (blk := nI b) hent hSh
  obtain ⟨x, cfa', cle', cwr', cby', cto', mro', mit', mmd', a1, a2, a3, a4, a5, a6, a7, a8⟩ := blk_agree h1 h2 hb (cwr := cwr) (CT_lt _ _ _ _ _) mr (fun i hi => put_8 p1 i (by omega)) hBy hTo hle hne
  refine ⟨x, cfa', cle', cwr', cby', cto', _, mro', mit', mmd', (wr_eq _ _ _ _ _ _ _ _ _ _ _ _ _).trans a1, wr_ok mo a2, ?_, ?_, a5, a6, ish_of mr, a7, a8⟩
  · unfold f_MO_writeNode
    rw [nI_clamp (show l < 2 ^ 31 by omega), bindc_def, p2, a3]
  · unfold ok_MO_writeNode
    rw [nI_clamp (show l < 2 ^ 31 by omega), bindp_iff]
    have w : vp_in (nI l) 8 := vp_in_nI hl (by omega)
    refine ⟨w, w, bo, p3 a4 ?_⟩
    rw [a3]
    rcases a8 with ⟨e, -⟩ | ⟨e, -⟩
    · rw [e]; exact isB_1
    · rw [e]; exact isB_0
