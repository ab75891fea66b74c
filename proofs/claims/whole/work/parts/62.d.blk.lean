/-! both sides write the block alike -/
def WRf (z_10 : Nat → Int32) (p0 cfa cle cwr csl : Int32) (cby cto : Nat → Int32) : Int32 × Int32 × Int32 × Int32 × (Nat → Int32) × (Nat → Int32) × (Nat → Int32) := bindc (f_RL_offsetOf p0 csl) (fun z_15 => bindc (f_PW_spend (64 : Int32) cfa cle cwr) (fun z_26 => if z_26.1 ≤ 0 then bindc (f_PW_hasFailed z_26.2.1) (fun z_78 => if z_78.1 = 0 then ((1 : Int32), (z_26.2.1, z_26.2.2.1, z_26.2.2.2, va_cpy z_10 cby (0 : Int32).toNatClampNeg z_15.1.toNatClampNeg z_26.1.toNatClampNeg, cto, z_10)) else ((0 : Int32), (z_26.2.1, z_26.2.2.1, z_26.2.2.2, va_cpy z_10 cby (0 : Int32).toNatClampNeg z_15.1.toNatClampNeg z_26.1.toNatClampNeg, cto, z_10))) else if (64 : Int32) ≤ z_26.1 then bindc (f_PW_hasFailed z_26.2.1) (fun z_78 => if z_78.1 = 0 then ((1 : Int32), (z_26.2.1, z_26.2.2.1, z_26.2.2.2, va_cpy z_10 cby (0 : Int32).toNatClampNeg z_15.1.toNatClampNeg z_26.1.toNatClampNeg, upd cto (z_15.1 / (64 : Int32)).toNatClampNeg (vp_nar .boolean (0 : Int32)), z_10)) else ((0 : Int32), (z_26.2.1, z_26.2.2.1, z_26.2.2.2, va_cpy z_10 cby (0 : Int32).toNatClampNeg z_15.1.toNatClampNeg z_26.1.toNatClampNeg, upd cto (z_15.1 / (64 : Int32)).toNatClampNeg (vp_nar .boolean (0 : Int32)), z_10))) else bindc (f_PW_hasFailed z_26.2.1) (fun z_78 => if z_78.1 = 0 then ((1 : Int32), (z_26.2.1, z_26.2.2.1, z_26.2.2.2, va_cpy z_10 cby (0 : Int32).toNatClampNeg z_15.1.toNatClampNeg z_26.1.toNatClampNeg, upd cto (z_15.1 / (64 : Int32)).toNatClampNeg (vp_nar .boolean (1 : Int32)), z_10)) else ((0 : Int32), (z_26.2.1, z_26.2.2.1, z_26.2.2.2, va_cpy z_10 cby (0 : Int32).toNatClampNeg z_15.1.toNatClampNeg z_26.1.toNatClampNeg, upd cto (z_15.1 / (64 : Int32)).toNatClampNeg (vp_nar .boolean (1 : Int32)), z_10)))))
def WRok (nb nt : Nat) (z_10 : Nat → Int32) (p0 cfa cle cwr csl : Int32) (cby cto : Nat → Int32) : Prop := ok_RL_offsetOf nb nt p0 csl ∧ bindp (f_RL_offsetOf p0 csl) (fun z_15 => ok_PW_spend nb nt (64 : Int32) cfa cle cwr ∧ bindp (f_PW_spend (64 : Int32) cfa cle cwr) (fun z_26 => cpOk z_10 64 nb (0 : Int32) z_15.1 z_26.1 ∧ ((z_26.1 ≤ 0 → ok_PW_hasFailed nb nt z_26.2.1) ∧ (¬ z_26.1 ≤ 0 → ((64 : Int32) ≤ z_26.1 → vp_in (z_15.1 / (64 : Int32)) nt ∧ (ok_PW_hasFailed nb nt z_26.2.1)) ∧ (¬ (64 : Int32) ≤ z_26.1 → vp_in (z_15.1 / (64 : Int32)) nt ∧ (ok_PW_hasFailed nb nt z_26.2.1))))))
theorem wr_eq (p0 p1 p2 p3 p4 cfa cle cwr csl : Int32) (cby cto csh ces : Nat → Int32) : f_RL_write p0 p1 p2 p3 p4 cfa cle cwr csl cby cto csh ces = WRf (f_RL_makeUp p0 p1 p2 p3 p4 csh ces) p0 cfa cle cwr csl cby cto := by
  unfold f_RL_write WRf; rw [bindc_def]
theorem wr2_eq (p0 p1 p2 p3 p4 cfa cle cwr csl : Int32) (cby cto csh ces : Nat → Int32) : f_RL_write_v2 p0 p1 p2 p3 p4 cfa cle cwr csl cby cto csh ces = WRf (f_RL_makeUp_v2 p0 p1 p2 p3 p4 csh ces) p0 cfa cle cwr csl cby cto := by
  unfold f_RL_write_v2 WRf; rw [bindc_def]
theorem wr_ok {nb nt : Nat} {p0 p1 p2 p3 p4 cfa cle cwr csl : Int32} {cby cto csh ces : Nat → Int32} (h1 : ok_RL_makeUp nb nt p0 p1 p2 p3 p4 csh ces) (h2 : WRok nb nt (f_RL_makeUp p0 p1 p2 p3 p4 csh ces) p0 cfa cle cwr csl cby cto) : ok_RL_write nb nt p0 p1 p2 p3 p4 cfa cle cwr csl cby cto csh ces := by
  unfold ok_RL_write; rw [bindp_iff]; unfold WRok at h2; exact ⟨h1, h2⟩
theorem wr2_ok {nb nt : Nat} {p0 p1 p2 p3 p4 cfa cle cwr csl : Int32} {cby cto csh ces : Nat → Int32} (h1 : ok_RL_makeUp_v2 nb nt p0 p1 p2 p3 p4 csh ces) (h2 : WRok nb nt (f_RL_makeUp_v2 p0 p1 p2 p3 p4 csh ces) p0 cfa cle cwr csl cby cto) : ok_RL_write_v2 nb nt p0 p1 p2 p3 p4 cfa cle cwr csl cby cto csh ces := by
  unfold ok_RL_write_v2; rw [bindp_iff]; unfold WRok at h2; exact ⟨h1, h2⟩
theorem wrf_m1 {N b : Nat} (h1 : 16 ≤ N) (h2 : N ≤ 200) (hb : b < 2 ^ 30) {g : Nat → Int32} (hg : ∀ i, i < 64 → ∃ c, g i = sgb c) (cwr : Int32) (cby cto : Nat → Int32) :
    WRf g (nI b) 0 (-1) cwr (nI N) cby cto = (1, 0, -1, cwr + nI 64, va_cpy g cby 0 (b % N * 64) 64, upd cto (b % N) 0, g) ∧ WRok (N * 64) N g (nI b) 0 (-1) cwr (nI N) cby cto := by
  have hp := pl (b := b) h1
  have hm := Nat.mod_lt b (show 0 < N by omega)
  obtain ⟨o1, o2⟩ := @off_of b N hb (by omega) h2 (N * 64) N
  have s1 := @slot_at b N (by omega) h2
  have sp : f_PW_spend 64 0 (-1) cwr = (64, 0, -1, cwr + 64) := by unfold f_PW_spend f_PW_spend_20; rw [if_pos rfl, if_pos rfl]
  have so : ok_PW_spend (N * 64) N 64 0 (-1) cwr := ⟨fun _ => trivial, fun _ => trivial⟩
  have c1 : ¬ (64 : Int32) ≤ 0 := by decide
  have c2 : (64 : Int32) ≤ 64 := by decide
  unfold WRf WRok
  simp only [bindc_def, bindp_iff, sp, o1, s1, if_neg c1, if_pos c2, f_PW_hasFailed, if_true, nI_clamp (show b % N * 64 < 2 ^ 31 by omega), nI_clamp (show b % N < 2 ^ 31 by omega), nar0, show (0 : Int32).toNatClampNeg = 0 from rfl, show (64 : Int32).toNatClampNeg = 64 from rfl]
  refine ⟨rfl, o2, so, ⟨by decide, nI_pos (by omega), by decide, ?_, ?_, fun i hi => ?_⟩, fun z => absurd z c1, fun _ => ⟨fun _ => ⟨vp_in_nI hm (by omega), isB_0⟩, fun z => absurd c2 z⟩⟩
  · show 0 + 64 ≤ 64; omega
  · rw [nI_clamp (by omega)]; show b % N * 64 + 64 ≤ N * 64; exact hp
  · obtain ⟨c, hc⟩ := hg i hi
    rw [show (0 : Int32).toNatClampNeg + i = i from Nat.zero_add i, hc]; exact pk_fb _
theorem wrf_p {N b p : Nat} (h1 : 16 ≤ N) (h2 : N ≤ 200) (hb : b < 2 ^ 30) (hp1 : 1 ≤ p) (hp2 : p < 2 ^ 31) {g : Nat → Int32} (hg : ∀ i, i < 64 → ∃ c, g i = sgb c) (cwr : Int32) (cby cto : Nat → Int32) :
    WRf g (nI b) 0 (nI p) cwr (nI N) cby cto = (if p ≤ 64 then 0 else 1, if p ≤ 64 then 1 else 0, nI (p - min p 64), cwr + nI (min p 64), va_cpy g cby 0 (b % N * 64) (min p 64), upd cto (b % N) (if min p 64 = 64 then 0 else 1), g) ∧ WRok (N * 64) N g (nI b) 0 (nI p) cwr (nI N) cby cto := by
  have hp := pl (b := b) h1
  have hm := Nat.mod_lt b (show 0 < N by omega)
  obtain ⟨o1, o2⟩ := @off_of b N hb (by omega) h2 (N * 64) N
  have s1 := @slot_at b N (by omega) h2
  have hy : (if (64 : Int32) < nI p then (64 : Int32) else nI p) = nI (min p 64) := by
    by_cases e : 64 < p
    · rw [if_pos (show (64 : Int32) < nI p from nI_lt (a := 64) e hp2), show min p 64 = 64 by omega]; rfl
    · rw [if_neg (show ¬ (64 : Int32) < nI p from nI_nlt (b := p) (a := 64) (by omega) (by omega)), show min p 64 = p by omega]
  have cm : ¬ nI p = (-1 : Int32) := m1_ne hp2
  have sp : f_PW_spend 64 0 (nI p) cwr = (nI (min p 64), if p ≤ 64 then 1 else 0, nI (p - min p 64), cwr + nI (min p 64)) := by
    unfold f_PW_spend f_PW_spend_20
    rw [if_neg cm, if_neg cm, hy, pk_sub (by omega)]
    by_cases e : p ≤ 64
    · rw [if_pos e, if_pos (by rw [show p - min p 64 = 0 by omega]; rfl)]
    · rw [if_neg e, if_neg (nI_ne0 (by omega) (by omega))]
  have so : ok_PW_spend (N * 64) N 64 0 (nI p) cwr := ⟨fun _ => trivial, fun _ => trivial⟩
  have c1 : ¬ nI (min p 64) ≤ 0 := nI_nle (by omega) (by omega)
  have hB : isB (if p ≤ 64 then (1 : Int32) else 0) := by
    by_cases e : p ≤ 64
    · rw [if_pos e]; exact isB_1
    · rw [if_neg e]; exact isB_0
  have wv : vp_in (nI (b % N)) N := vp_in_nI hm (by omega)
  unfold WRf WRok
  simp only [bindc_def, bindp_iff, sp, o1, s1, if_neg c1, f_PW_hasFailed, nI_clamp (show b % N * 64 < 2 ^ 31 by omega), nI_clamp (show b % N < 2 ^ 31 by omega), nI_clamp (show min p 64 < 2 ^ 31 by omega), nar0, nar1, show (0 : Int32).toNatClampNeg = 0 from rfl]
  refine ⟨?_, o2, so, ⟨by decide, nI_pos (by omega), nI_pos (by omega), ?_, ?_, fun i hi => ?_⟩, fun z => absurd z c1, fun _ => ⟨fun _ => ⟨wv, hB⟩, fun _ => ⟨wv, hB⟩⟩⟩
  · by_cases e : p ≤ 64
    · simp only [if_pos e, if_neg no1]
      by_cases e2 : p = 64
      · subst e2
        rw [if_pos (show (64 : Int32) ≤ nI (min 64 64) by decide), if_pos (show min 64 64 = 64 by omega)]
      · rw [if_neg (show ¬ (64 : Int32) ≤ nI (min p 64) from nI_ge (b := 64) (by omega) (by omega)), if_neg (show ¬ min p 64 = 64 by omega)]
    · simp only [if_neg e, if_true]
      rw [if_pos (show (64 : Int32) ≤ nI (min p 64) from nI_le (a := 64) (by omega) (by omega)), if_pos (show min p 64 = 64 by omega)]
  · rw [nI_clamp (by omega)]; show 0 + min p 64 ≤ 64; omega
  · rw [nI_clamp (by omega), nI_clamp (by omega)]; omega
  · rw [nI_clamp (by omega)] at hi
    obtain ⟨c, hc⟩ := hg i (by omega)
    rw [show (0 : Int32).toNatClampNeg + i = i from Nat.zero_add i, hc]; exact pk_fb _
theorem f29_l {msl mdn mpw mwr mnx : Int32} {mro mit : Nat → Int32} (s : Int64) : ∀ (f k : Nat) (mmd : Nat → Int32), k ≤ 8 → 8 < k + f →
    ∃ mmd', (∀ j, mmd' j = if 56 + k ≤ j ∧ j < 64 then dg s (j - 56) else mmd j) ∧ f_MO_finish_29 f s (nI k) msl mdn mpw mwr mnx mro mit mmd = f_MO_finish_79 1024 (f_MO_placeOf mnx msl).1 1 0 msl mdn mpw mwr mnx mro mit mmd' ∧ (ok_MO_placeOf mnx msl → ok_MO_finish_79 1024 (f_MO_placeOf mnx msl).1 1 0 msl mdn mpw mwr mnx mro mit mmd' → ok_MO_finish_29 f s (nI k) msl mdn mpw mwr mnx mro mit mmd) := by
  intro f
  induction f with
  | zero => intro k mmd h1 h2; omega
  | succ f ih =>
    intro k mmd h1 h2
    rw [f_MO_finish_29, ok_MO_finish_29]
    by_cases e : k = 8
    · subst e
      have c : (8 : Int32) ≤ nI 8 := by decide
      rw [if_pos c, bindc_def, bindp_iff]
      exact ⟨mmd, fun j => by rw [if_neg (by omega)], rfl, fun o1 o2 => ⟨fun _ => ⟨o1, o2⟩, fun z => absurd c z⟩⟩
    · have c : ¬ (8 : Int32) ≤ nI k := nI_ge (a := k) (b := 8) (by omega) (by omega)
      rw [if_neg c, dg_of s (show k < 8 by omega), show (56 : Int32) + nI k = nI (56 + k) from nI_add 56 k, nI_1, nI_clamp (show 56 + k < 2 ^ 31 by omega)]
      obtain ⟨mmd', r1, r2, r3⟩ := ih (k + 1) (upd mmd (56 + k) (dg s k)) (by omega) (by omega)
      refine ⟨mmd', fun j => ?_, r2, fun o1 o2 => ⟨fun z => absurd z c, fun _ => ⟨vp_in_nI (by omega) (by omega), r3 o1 o2⟩⟩⟩
      rw [r1 j]
      by_cases e2 : j = 56 + k
      · subst e2
        rw [if_neg (by omega), if_pos (by omega), pk_us, show 56 + k - 56 = k by omega]
      · rw [pk_un e2]
        by_cases e3 : 56 + k ≤ j ∧ j < 64
        · rw [if_pos e3, if_pos (by omega)]
        · rw [if_neg e3, if_neg (by omega)]
theorem f4_l {msl mdn mpw mwr mnx : Int32} {mro mit mmd : Nat → Int32} : ∀ (f i : Nat), i ≤ 56 → 56 < i + f →
    f_MO_finish_4 f (hs mmd 0 i) (nI i) msl mdn mpw mwr mnx mro mit mmd = f_MO_finish_29 1024 (hs mmd 0 56) 0 msl mdn mpw mwr mnx mro mit mmd ∧ (ok_MO_finish_29 1024 (hs mmd 0 56) 0 msl mdn mpw mwr mnx mro mit mmd → ok_MO_finish_4 f (hs mmd 0 i) (nI i) msl mdn mpw mwr mnx mro mit mmd) := by
  intro f
  induction f with
  | zero => intro i h1 h2; omega
  | succ f ih =>
    intro i h1 h2
    rw [f_MO_finish_4, ok_MO_finish_4]
    by_cases e : i = 56
    · subst e
      have c : (56 : Int32) ≤ nI 56 := by decide
      rw [if_pos c]
      exact ⟨rfl, fun o => ⟨fun _ => o, fun z => absurd c z⟩⟩
    · have c : ¬ (56 : Int32) ≤ nI i := nI_ge (a := i) (b := 56) (by omega) (by omega)
      have := ih (i + 1) (by omega) (by omega)
      rw [hs, Nat.zero_add] at this
      rw [if_neg c, nI_1, bindc_def, bindp_iff, nI_clamp (show i < 2 ^ 31 by omega)]
      exact ⟨this.1, fun o => ⟨fun z => absurd z c, fun _ => ⟨vp_in_nI (by omega) (by omega), this.2 o⟩⟩⟩
theorem fin_of {N b : Nat} (h1 : 16 ≤ N) (h2 : N ≤ 200) (hb : b < 2 ^ 30) {mdn mpw mwr : Int32} {mro mit mmd : Nat → Int32} {c : Nat → Nat} (hc : ∀ i, i < 56 → mmd i = nI (c i)) :
    ∃ mmd', (∀ i, i < 64 → mmd' i = nI (CB c i)) ∧ f_MO_finish (nI N) mdn mpw mwr (nI b) mro mit mmd = f_MO_finish_79 1024 (nI (b % N * 64)) 1 0 (nI N) mdn mpw mwr (nI b) mro mit mmd' ∧ (ok_MO_finish_79 1024 (nI (b % N * 64)) 1 0 (nI N) mdn mpw mwr (nI b) mro mit mmd' → ok_MO_finish (nI N) mdn mpw mwr (nI b) mro mit mmd) := by
  obtain ⟨p1, p2⟩ := @place_of b N hb (by omega) h2
  have hsu : hs mmd 0 56 = SU c := by
    unfold SU
    exact hs_congr 56 (fun i hi => by rw [Nat.zero_add]; exact hc i hi)
  obtain ⟨a1, a2⟩ := f4_l (msl := nI N) (mdn := mdn) (mpw := mpw) (mwr := mwr) (mnx := nI b) (mro := mro) (mit := mit) (mmd := mmd) 1024 0 (by omega) (by omega)
  obtain ⟨mmd', b1, b2, b3⟩ := f29_l (msl := nI N) (mdn := mdn) (mpw := mpw) (mwr := mwr) (mnx := nI b) (mro := mro) (mit := mit) (hs mmd 0 56) 1024 0 mmd (by omega) (by omega)
  rw [nI_0] at a1 a2 b2 b3
  rw [p1] at b2 b3
  have z : hs mmd 0 0 = 0 := rfl
  rw [z] at a1 a2
  refine ⟨mmd', fun i hi => ?_, ?_, fun o => ?_⟩
  · rw [b1 i, hsu]
    unfold CB
    by_cases e : i < 56
    · rw [if_neg (by omega), if_pos e]; exact hc i e
    · rw [if_pos (by omega), if_neg e]; rfl
  · unfold f_MO_finish; exact a1.trans b2
  · unfold ok_MO_finish; exact a2 (b3 p2 o)
/-- a block of the same contents, written on both sides -/
theorem blk_agree {N b : Nat} (h1 : 16 ≤ N) (h2 : N ≤ 200) (hb : b < 2 ^ 30) {cle cwr : Int32} {cby cto mro mit g mmd : Nat → Int32} {c : Nat → Nat} (hlt : ∀ i, c i < 256) (hg : ∀ i, i < 64 → g i = sgb (CB c i)) (hm : ∀ i, i < 56 → mmd i = nI (c i)) (hBy : IBy N cby mro) (hTo : ITo N cto mit) (hle : cle = -1 ∨ 0 ≤ cle) (hne : ¬ cle = 0) :
    ∃ x cfa' cle' cwr' cby' cto' mro' mit' mmd', WRf g (nI b) 0 cle cwr (nI N) cby cto = (x, cfa', cle', cwr', cby', cto', g) ∧ WRok (N * 64) N g (nI b) 0 cle cwr (nI N) cby cto ∧
    f_MO_finish (nI N) 0 cle cwr (nI b) mro mit mmd = (x, cfa', cle', cwr', nI (b + 1), mro', mit', mmd') ∧ ok_MO_finish (nI N) 0 cle cwr (nI b) mro mit mmd ∧
    IBy N cby' mro' ∧ ITo N cto' mit' ∧ (cle' = -1 ∨ 0 ≤ cle') ∧ ((x = 1 ∧ cfa' = 0 ∧ ¬ cle' = 0) ∨ (x = 0 ∧ cfa' = 1)) := by
  have hp := pl (b := b) h1
  have hmod := Nat.mod_lt b (show 0 < N by omega)
  have hgs : ∀ i, i < 64 → ∃ c, g i = sgb c := fun i hi => ⟨_, hg i hi⟩
  obtain ⟨mmd', m1, m2, m3⟩ := fin_of (mdn := 0) (mpw := cle) (mwr := cwr) (mro := mro) (mit := mit) h1 h2 hb hm
  have hbytes : ∀ (n : Nat) (mro' : Nat → Int32), n ≤ 64 → (∀ j, mro' j = if b % N * 64 + 0 ≤ j ∧ j < b % N * 64 + n then mmd' (j - b % N * 64) else mro j) → IBy N (va_cpy g cby 0 (b % N * 64) n) mro' := by
    intro n mro' hn hr i hi
    rw [hr i]
    by_cases e : b % N * 64 + 0 ≤ i ∧ i < b % N * 64 + n
    · rw [if_pos e, pk_cpy_in (by omega) (by omega), Nat.zero_add, hg _ (by omega), m1 _ (by omega)]
      exact ⟨_, CB_lt hlt _, rfl, rfl⟩
    · rw [if_neg e, pk_cpy_out (by omega)]
      exact hBy i hi
  have htorn : ∀ (y : Int32) (mit' : Nat → Int32), (y = 0 ∨ y = 1) → (∀ t, mit' t = if t = b % N ∧ 0 < 64 then y else mit t) → ITo N (upd cto (b % N) y) mit' := by
    intro y mit' hy hr i hi
    rw [hr i]
    by_cases e : i = b % N
    · subst e
      rw [if_pos ⟨rfl, by omega⟩, pk_us]; exact ⟨rfl, hy⟩
    · rw [if_neg (fun z => e z.1), pk_un e]; exact hTo i hi
  rcases hle with rfl | hle
  · obtain ⟨w1, w2⟩ := wrf_m1 h1 h2 hb hgs cwr cby cto
    obtain ⟨o, mro', mit', r1, r2, r3⟩ := f79_m1 (s := b % N) (by omega) (nI N) (nI b) mmd' 1024 0 cwr mro mit (by omega) (by omega)
    rw [nI_0] at o r1
    rw [nI_1] at r1
    refine ⟨1, 0, -1, _, _, _, mro', mit', mmd', w1, w2, m2.trans r1, m3 o, hbytes 64 mro' (by omega) r2, htorn 0 mit' (Or.inl rfl) r3, Or.inl rfl, Or.inl ⟨rfl, rfl, by decide⟩⟩
  · have hn0 : ¬ cle < 0 := fun z => Int32.lt_irrefl (Int32.lt_of_lt_of_le z hle)
    obtain ⟨p, hp2, rfl⟩ := nI_of hn0
    have hp1 : 1 ≤ p := by
      rcases Nat.eq_zero_or_pos p with e | e
      · subst e; exact absurd rfl hne
      · exact e
    obtain ⟨w1, w2⟩ := wrf_p h1 h2 hb hp1 hp2 hgs cwr cby cto
    obtain ⟨o, mro', mit', r1, r2, r3⟩ := f79_p (s := b % N) (by omega) (nI N) (nI b) mmd' 1024 0 p cwr mro mit (by omega) (by omega) hp1 hp2
    rw [nI_0] at o r1
    rw [nI_1, Nat.sub_zero] at r1
    refine ⟨_, _, _, _, _, _, mro', mit', mmd', w1, w2, m2.trans r1, m3 o, hbytes (min p 64) mro' (by omega) (fun j => by have := r2 j; rw [Nat.sub_zero] at this; exact this), htorn _ mit' ?_ (fun t => by have := r3 t; rw [Nat.sub_zero, Nat.zero_add] at this; exact this), Or.inr (nI_pos' (by omega)), ?_⟩
    · by_cases e : min p 64 = 64
      · rw [if_pos e]; exact Or.inl rfl
      · rw [if_neg e]; exact Or.inr rfl
    · by_cases e : p ≤ 64
      · rw [if_pos e, if_pos e]; exact Or.inr ⟨rfl, rfl⟩
      · rw [if_neg e, if_neg e]; exact Or.inl ⟨rfl, rfl, nI_ne0 (by omega) (by omega)⟩
