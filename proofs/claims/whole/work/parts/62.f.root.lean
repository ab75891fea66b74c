/-! top and root written alike -/
theorem wTop_l {msl mnw mdn mpw mwr mtb mnx : Int32} {mro mit mnk : Nat → Int32} (hby : BY mtb) {kind ver blk : Int32} :
    ∀ (f k : Nat) (mmd : Nat → Int32), k ≤ 8 → 8 < k + f → PUT kind mtb ver blk (fun j => if bt mtb j = 0 then 0 else mnk j) k mmd →
    ∃ mmd', PUT kind mtb ver blk (fun j => if bt mtb j = 0 then 0 else mnk j) 8 mmd' ∧ f_MO_writeTop_11 f (nI k) msl mnw mdn mpw mwr mtb mnx mro mit mnk mmd = f_MO_finish msl mdn mpw mwr mnx mro mit mmd' ∧ (ok_MO_finish msl mdn mpw mwr mnx mro mit mmd' → isB (f_MO_finish msl mdn mpw mwr mnx mro mit mmd').1 → ok_MO_writeTop_11 f (nI k) msl mnw mdn mpw mwr mtb mnx mro mit mnk mmd) := by
  intro f
  induction f with
  | zero => intro k mmd h1 h2; omega
  | succ f ih =>
    intro k mmd h1 h2 h3
    rw [f_MO_writeTop_11, ok_MO_writeTop_11]
    by_cases e : k = 8
    · subst e
      have c : (8 : Int32) ≤ nI 8 := by decide
      rw [if_pos c, bindc_def, bindp_iff]
      exact ⟨mmd, h3, (by generalize f_MO_finish msl mdn mpw mwr mnx mro mit mmd = z; rfl), fun o1 o2 => ⟨fun _ => ⟨o1, o2⟩, fun z => absurd c z⟩⟩
    · have c : ¬ (8 : Int32) ≤ nI k := nI_ge (a := k) (b := 8) (by omega) (by omega)
      have hk : k < 8 := by omega
      have w : vp_in (nI k) 8 := vp_in_nI hk (by omega)
      simp only [if_neg c, bt_sh hby hk, nI_clamp (show k < 2 ^ 31 by omega), bindc_def, bindp_iff, e84', nI_1]
      rcases bt_01 mtb k with q | q
      · have c1 : ¬ bt mtb k = (1 : Int32) := by rw [q]; decide
        obtain ⟨o, h4⟩ := put_s hk h3 (v := 0) (by rw [if_pos q])
        obtain ⟨mmd', r1, r2, r3⟩ := ih (k + 1) _ (by omega) (by omega) h4
        simp only [if_neg c1]
        exact ⟨mmd', r1, r2, fun o1 o2 => ⟨fun z => absurd z c, fun _ => ⟨fun z => absurd z c1, fun _ => ⟨o, r3 o1 o2⟩⟩⟩⟩
      · have c0 : ¬ bt mtb k = 0 := by rw [q]; decide
        obtain ⟨o, h4⟩ := put_s hk h3 (v := mnk k) (by rw [if_neg c0])
        obtain ⟨mmd', r1, r2, r3⟩ := ih (k + 1) _ (by omega) (by omega) h4
        simp only [if_pos q]
        exact ⟨mmd', r1, r2, fun o1 o2 => ⟨fun z => absurd z c, fun _ => ⟨fun _ => ⟨w, o, r3 o1 o2⟩, fun z => absurd q z⟩⟩⟩
theorem wTop_agree {N b : Nat} (h1 : 16 ≤ N) (h2 : N ≤ 200) (hb : b < 2 ^ 30) {cle cwr mnw mtb : Int32} {cby cto csh ces mro mit mnk mmd : Nat → Int32} (hby : BY mtb) (hent : ∀ k, k < 8 → ces (576 + k) = if bt mtb k = 0 then 0 else mnk k) (hBy : IBy N cby mro) (hTo : ITo N cto mit) (hSh : ISh csh) (hle : cle = -1 ∨ 0 ≤ cle) (hne : ¬ cle = 0) :
    ∃ x cfa' cle' cwr' cby' cto' csh' mro' mit' mmd', f_RL_write (nI b) (3 : Int32) mtb (mnw + 1) (nI 576) 0 cle cwr (nI N) cby cto csh ces = (x, cfa', cle', cwr', cby', cto', csh') ∧ ok_RL_write (N * 64) N (nI b) (3 : Int32) mtb (mnw + 1) (nI 576) 0 cle cwr (nI N) cby cto csh ces ∧
    f_MO_writeTop (nI N) mnw 0 cle cwr mtb (nI b) mro mit mnk mmd = (x, cfa', cle', cwr', nI (b + 1), mro', mit', mmd') ∧ ok_MO_writeTop (nI N) mnw 0 cle cwr mtb (nI b) mro mit mnk mmd ∧
    IBy N cby' mro' ∧ ITo N cto' mit' ∧ ISh csh' ∧ (cle' = -1 ∨ 0 ≤ cle') ∧ ((x = 1 ∧ cfa' = 0 ∧ ¬ cle' = 0) ∨ (x = 0 ∧ cfa' = 1)) := by
  obtain ⟨bo, br⟩ := begin_of (kind := (3 : Int32)) (bits := mtb) ⟨3, by omega, rfl⟩ hby mnw (nI b) mmd
  obtain ⟨mmd1, p1, p2, p3⟩ := wTop_l (mnk := mnk) (msl := nI N) (mnw := mnw) (mdn := 0) (mpw := cle) (mwr := cwr) (mnx := nI b) (mro := mro) (mit := mit) hby (kind := (3 : Int32)) (ver := mnw + 1) (blk := nI b) 1024 0 _ (by omega) (by omega) (put_0 br)
  rw [nI_0] at p2 p3
  obtain ⟨mo, mr⟩ := mku_of (nb := N * 64) (nt := N) (o := 576) (by omega) (kind := (3 : Int32)) (bits := mtb) (ver := mnw + 1) (blk := nI b) hent hSh
  obtain ⟨x, cfa', cle', cwr', cby', cto', mro', mit', mmd', a1, a2, a3, a4, a5, a6, a7, a8⟩ := blk_agree h1 h2 hb (cwr := cwr) (CT_lt _ _ _ _ _) mr (fun i hi => put_8 p1 i (by omega)) hBy hTo hle hne
  refine ⟨x, cfa', cle', cwr', cby', cto', _, mro', mit', mmd', (wr_eq _ _ _ _ _ _ _ _ _ _ _ _ _).trans a1, wr_ok mo a2, ?_, ?_, a5, a6, ish_of mr, a7, a8⟩
  · unfold f_MO_writeTop
    rw [bindc_def, p2, a3]
  · unfold ok_MO_writeTop
    rw [bindp_iff]
    refine ⟨bo, p3 a4 ?_⟩
    rw [a3]
    rcases a8 with ⟨e, -⟩ | ⟨e, -⟩
    · rw [e]; exact isB_1
    · rw [e]; exact isB_0
/-- the entries of a root -/
def rtE (T rc st : Int32) (j : Nat) : Int32 := if j = 0 then T else if j = 1 then rc else if j = 2 then st else 0
theorem wr21_of {N b : Nat} {st x2 T rc bits : Int32} (hbits : BY bits) {mnw mdn mpw mwr mtb : Int32} {mro mit mmd : Nat → Int32} (hT : T = if mtb = 0 then 0 else x2) :
    ∃ mmd', (∀ i, i < 64 → mmd' i = nI (CT 4 bits (mnw + 1) (nI b) (rtE T rc st) i)) ∧ f_MO_writeRoot_21 st x2 4 bits (nI N) mnw mdn mpw mwr mtb rc (nI b) mro mit mmd = f_MO_finish (nI N) mdn mpw mwr (nI b) mro mit mmd' ∧ (ok_MO_finish (nI N) mdn mpw mwr (nI b) mro mit mmd' → isB (f_MO_finish (nI N) mdn mpw mwr (nI b) mro mit mmd').1 → ok_MO_writeRoot_21 st x2 4 bits (nI N) mnw mdn mpw mwr mtb rc (nI b) mro mit mmd) := by
  obtain ⟨bo, br⟩ := begin_of (kind := (4 : Int32)) (bits := bits) ⟨4, by omega, rfl⟩ hbits mnw (nI b) mmd
  have p0 : PUT 4 bits (mnw + 1) (nI b) (rtE T rc st) 0 (f_MO_begin 4 bits mnw (nI b) mmd) := put_0 br
  obtain ⟨o1, p1⟩ := put_s (by omega) p0 (v := T) rfl
  obtain ⟨o2, p2⟩ := put_s (by omega) p1 (v := rc) rfl
  obtain ⟨o3, p3⟩ := put_s (by omega) p2 (v := st) rfl
  have z8 : nI (8 + 4 * 0) = (8 : Int32) := rfl
  have z12 : nI (8 + 4 * (0 + 1)) = (12 : Int32) := rfl
  have z16 : nI (8 + 4 * (0 + 1 + 1)) = (16 : Int32) := rfl
  rw [z8] at o1 o2 o3 p3
  rw [z12] at o2 o3 p3
  rw [z16] at o3 p3
  refine ⟨f_MO_putNumber (16 : Int32) st (f_MO_putNumber (12 : Int32) rc (f_MO_putNumber (8 : Int32) T (f_MO_begin 4 bits mnw (nI b) mmd))), fun i hi => ?_, ?_, fun f1 f2 => ?_⟩
  · rw [p3 i hi]
    exact congrArg nI (CT_ent (fun j hj => by
      by_cases e : j < 0 + 1 + 1 + 1
      · rw [if_pos e]
      · rw [if_neg e]; unfold rtE; rw [if_neg (by omega), if_neg (by omega), if_neg (by omega)]) i)
  · unfold f_MO_writeRoot_21
    simp only [bindc_def]
    by_cases e : mtb = 0
    · rw [if_pos e] at hT ⊢; rw [hT]
    · rw [if_neg e] at hT ⊢; rw [hT]
  · unfold ok_MO_writeRoot_21
    simp only [bindp_iff]
    refine ⟨bo, fun e => ?_, fun e => ?_⟩
    · rw [if_pos e] at hT; rw [hT] at o1 o2 o3 f1 f2; exact ⟨o1, o2, o3, f1, f2⟩
    · rw [if_neg e] at hT; rw [hT] at o1 o2 o3 f1 f2; exact ⟨o1, o2, o3, f1, f2⟩
theorem wRoot_agree {N b : Nat} (h1 : 16 ≤ N) (h2 : N ≤ 200) (hb : b < 2 ^ 30) {cle cwr mnw mtb rc st : Int32} {cby cto csh cbi cbl crt mro mit mmd : Nat → Int32} (hbi : cbi 72 = mtb) (hbl : cbl 72 = if mtb = 0 then 0 else nI b - 1) (hRt : IRt crt) (hBy : IBy N cby mro) (hTo : ITo N cto mit) (hSh : ISh csh) (hle : cle = -1 ∨ 0 ≤ cle) (hne : ¬ cle = 0) :
    ∃ x cfa' cle' cwr' cby' cto' csh' crt' mro' mit' mmd', f_PG_writeRoot (mnw + 1) (nI b) st 0 cle cwr (nI N) cby cto csh rc cbi cbl crt = (x, cfa', cle', cwr', cby', cto', csh', crt') ∧ ok_PG_writeRoot (N * 64) N (mnw + 1) (nI b) st 0 cle cwr (nI N) cby cto csh rc cbi cbl crt ∧
    f_MO_writeRoot st (nI N) mnw 0 cle cwr mtb rc (nI b) mro mit mmd = (x, cfa', cle', cwr', nI (b + 1), mro', mit', mmd') ∧ ok_MO_writeRoot st (nI N) mnw 0 cle cwr mtb rc (nI b) mro mit mmd ∧
    IBy N cby' mro' ∧ ITo N cto' mit' ∧ ISh csh' ∧ IRt crt' ∧ (cle' = -1 ∨ 0 ≤ cle') ∧ ((x = 1 ∧ cfa' = 0 ∧ ¬ cle' = 0) ∨ (x = 0 ∧ cfa' = 1)) := by
  have hc : ∀ k, k < 8 → upd (upd (upd crt 0 (cbl 72)) 1 rc) 2 st (0 + k) = rtE (cbl 72) rc st k := by
    intro k hk
    rw [Nat.zero_add]
    unfold rtE
    by_cases e0 : k = 0
    · subst e0; rw [pk_un (by omega), pk_un (by omega), pk_us, if_pos rfl]
    · by_cases e1 : k = 1
      · subst e1; rw [pk_un (by omega), pk_us, if_neg (by omega), if_pos rfl]
      · by_cases e2 : k = 2
        · subst e2; rw [pk_us, if_neg (by omega), if_neg (by omega), if_pos rfl]
        · rw [pk_un e2, pk_un e1, pk_un e0, if_neg e0, if_neg e1, if_neg e2]; exact hRt k (by omega) hk
  have hRt' : IRt (upd (upd (upd crt 0 (cbl 72)) 1 rc) 2 st) := fun i z1 z2 => by rw [pk_un (by omega), pk_un (by omega), pk_un (by omega)]; exact hRt i z1 z2
  have w72 : vp_in (72 : Int32) 73 := show vp_in (nI 72) 73 from vp_in_nI (by omega) (by omega)
  have w0 : vp_in (0 : Int32) 8 := show vp_in (nI 0) 8 from vp_in_nI (by omega) (by omega)
  have w1 : vp_in (1 : Int32) 8 := show vp_in (nI 1) 8 from vp_in_nI (by omega) (by omega)
  have w2 : vp_in (2 : Int32) 8 := show vp_in (nI 2) 8 from vp_in_nI (by omega) (by omega)
  have go : ∀ bits : Int32, BY bits → ∃ x cfa' cle' cwr' cby' cto' csh' mro' mit' mmd', f_RL_write_v2 (nI b) 4 bits (mnw + 1) 0 0 cle cwr (nI N) cby cto csh (upd (upd (upd crt 0 (cbl 72)) 1 rc) 2 st) = (x, cfa', cle', cwr', cby', cto', csh') ∧ ok_RL_write_v2 (N * 64) N (nI b) 4 bits (mnw + 1) 0 0 cle cwr (nI N) cby cto csh (upd (upd (upd crt 0 (cbl 72)) 1 rc) 2 st) ∧
      f_MO_writeRoot_21 st (nI b - 1) 4 bits (nI N) mnw 0 cle cwr mtb rc (nI b) mro mit mmd = (x, cfa', cle', cwr', nI (b + 1), mro', mit', mmd') ∧ ok_MO_writeRoot_21 st (nI b - 1) 4 bits (nI N) mnw 0 cle cwr mtb rc (nI b) mro mit mmd ∧
      IBy N cby' mro' ∧ ITo N cto' mit' ∧ ISh csh' ∧ (cle' = -1 ∨ 0 ≤ cle') ∧ ((x = 1 ∧ cfa' = 0 ∧ ¬ cle' = 0) ∨ (x = 0 ∧ cfa' = 1)) := by
    intro bits hbits
    obtain ⟨mmd1, p1, p2, p3⟩ := wr21_of (N := N) (b := b) (st := st) (x2 := nI b - 1) (T := cbl 72) (rc := rc) hbits (mnw := mnw) (mdn := 0) (mpw := cle) (mwr := cwr) (mtb := mtb) (mro := mro) (mit := mit) (mmd := mmd) hbl
    obtain ⟨mo, mr⟩ := mku_v2_of (nb := N * 64) (nt := N) (o := 0) (by omega) (kind := (4 : Int32)) (bits := bits) (ver := mnw + 1) (blk := nI b) hc hSh
    rw [nI_0] at mo mr
    obtain ⟨x, cfa', cle', cwr', cby', cto', mro', mit', mmd', a1, a2, a3, a4, a5, a6, a7, a8⟩ := blk_agree h1 h2 hb (cwr := cwr) (CT_lt _ _ _ _ _) mr (fun i hi => p1 i (by omega)) hBy hTo hle hne
    refine ⟨x, cfa', cle', cwr', cby', cto', _, mro', mit', mmd', (wr2_eq _ _ _ _ _ _ _ _ _ _ _ _ _).trans a1, wr2_ok mo a2, p2.trans a3, p3 a4 ?_, a5, a6, ish_of mr, a7, a8⟩
    rw [a3]
    rcases a8 with ⟨e, -⟩ | ⟨e, -⟩
    · rw [e]; exact isB_1
    · rw [e]; exact isB_0
  unfold f_PG_writeRoot ok_PG_writeRoot f_MO_writeRoot ok_MO_writeRoot
  simp only [show (72 : Int32).toNatClampNeg = 72 from rfl, show (0 : Int32).toNatClampNeg = 0 from rfl, show (1 : Int32).toNatClampNeg = 1 from rfl, show (2 : Int32).toNatClampNeg = 2 from rfl, hbi, bindc_def, bindp_iff]
  by_cases q : mtb = 0
  · obtain ⟨x, cfa', cle', cwr', cby', cto', csh', mro', mit', mmd', a1, a2, a3, a4, a5, a6, a7, a8, a9⟩ := go 0 by_0
    simp only [if_pos q]
    have hB : isB (f_RL_write_v2 (nI b) 4 0 (mnw + 1) 0 0 cle cwr (nI N) cby cto csh (upd (upd (upd crt 0 (cbl 72)) 1 rc) 2 st)).1 := by
      rw [a1]
      rcases a9 with ⟨e, -⟩ | ⟨e, -⟩
      · rw [e]; exact isB_1
      · rw [e]; exact isB_0
    refine ⟨x, cfa', cle', cwr', cby', cto', csh', _, mro', mit', mmd', ?_, ⟨w72, w0, w1, w2, w72, fun _ => ⟨a2, hB⟩, fun z => absurd q z⟩, a3, ⟨fun _ => a4, fun z => absurd q z⟩, a5, a6, a7, hRt', a8, a9⟩
    rw [a1]
  · obtain ⟨x, cfa', cle', cwr', cby', cto', csh', mro', mit', mmd', a1, a2, a3, a4, a5, a6, a7, a8, a9⟩ := go 1 ⟨1, by omega, rfl⟩
    simp only [if_neg q]
    have hB : isB (f_RL_write_v2 (nI b) 4 1 (mnw + 1) 0 0 cle cwr (nI N) cby cto csh (upd (upd (upd crt 0 (cbl 72)) 1 rc) 2 st)).1 := by
      rw [a1]
      rcases a9 with ⟨e, -⟩ | ⟨e, -⟩
      · rw [e]; exact isB_1
      · rw [e]; exact isB_0
    refine ⟨x, cfa', cle', cwr', cby', cto', csh', _, mro', mit', mmd', ?_, ⟨w72, w0, w1, w2, w72, fun z => absurd z q, fun _ => ⟨a2, hB⟩⟩, a3, ⟨fun z => absurd z q, fun _ => a4⟩, a5, a6, a7, hRt', a8, a9⟩
    rw [a1]
