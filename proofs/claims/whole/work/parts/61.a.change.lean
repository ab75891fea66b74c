/-! the changes go into the leaves -/
def RTL (mic cbi ces mlb mrw : Nat → Int32) : Prop := ∀ l, l < 64 → ¬ mic l = 0 → cbi l = mlb l ∧ BY (mlb l) ∧ ∀ k, k < 8 → ces (8 * l + k) = if bt (mlb l) k = 0 then 0 else mrw (8 * l + k)
theorem rtl_set {mic cbi ces mlb mrw : Nat → Int32} (h : RTL mic cbi ces mlb mrw) {i : Nat} (hi : i < 512) (hm : ¬ mic (i / 8) = 0) (v : Int32) : RTL mic (upd cbi (i / 8) (bset (cbi (i / 8)) (i % 8))) (upd ces (i / 8 * 8 + i % 8) v) (upd mlb (i / 8) (bset (mlb (i / 8)) (i % 8))) (upd mrw i v) := by
  intro l hl hc
  obtain ⟨a1, a2, a3⟩ := h l hl hc
  by_cases e : l = i / 8
  · subst e
    rw [pk_us, pk_us, a1]
    refine ⟨rfl, by_set a2 (by omega), fun k hk => ?_⟩
    rw [bt_set a2 (by omega) hk]
    by_cases e2 : k = i % 8
    · rw [if_pos e2, if_neg no1, show 8 * (i / 8) + k = i / 8 * 8 + i % 8 by omega, pk_us, show i / 8 * 8 + i % 8 = i by omega, pk_us]
    · rw [if_neg e2, pk_un (by omega), pk_un (by omega)]
      exact a3 k hk
  · rw [pk_un e, pk_un e]
    refine ⟨a1, a2, fun k hk => ?_⟩
    rw [pk_un (by omega), pk_un (by omega)]
    exact a3 k hk
theorem rtl_clr {mic cbi ces mlb mrw : Nat → Int32} (h : RTL mic cbi ces mlb mrw) {i : Nat} (hi : i < 512) (hm : ¬ mic (i / 8) = 0) : RTL mic (upd cbi (i / 8) (bclr (cbi (i / 8)) (i % 8))) (upd ces (i / 8 * 8 + i % 8) 0) (upd mlb (i / 8) (bclr (mlb (i / 8)) (i % 8))) (upd mrw i 0) := by
  intro l hl hc
  obtain ⟨a1, a2, a3⟩ := h l hl hc
  by_cases e : l = i / 8
  · subst e
    rw [pk_us, pk_us, a1]
    refine ⟨rfl, by_clr a2 (by omega), fun k hk => ?_⟩
    rw [bt_clr a2 (by omega) hk]
    by_cases e2 : k = i % 8
    · rw [if_pos e2, if_pos rfl, show 8 * (i / 8) + k = i / 8 * 8 + i % 8 by omega, pk_us]
    · rw [if_neg e2, pk_un (by omega), pk_un (by omega)]
      exact a3 k hk
  · rw [pk_un e, pk_un e]
    refine ⟨a1, a2, fun k hk => ?_⟩
    rw [pk_un (by omega), pk_un (by omega)]
    exact a3 k hk
theorem rc_10 (x : Int32) : x + ((1 : Int32) - 0) = x + 1 := by rw [show (1 : Int32) - 0 = 1 by decide]
theorem rc_11 (x : Int32) : x + ((1 : Int32) - 1) = x := by rw [show (1 : Int32) - 1 = 0 by decide, Int32.add_zero]
theorem rc_00 (x : Int32) : x + ((0 : Int32) - 0) = x := by rw [show (0 : Int32) - 0 = 0 by decide, Int32.add_zero]
theorem rc_01 (x : Int32) : x + ((0 : Int32) - 1) = x - 1 := by rw [show (0 : Int32) - 1 = -1 by decide, Int32.sub_eq_add_neg]
theorem change_l {nb nt : Nat} {cch cva mch mva mic : Nat → Int32} (hd : ∀ k, k < 512 → mch k = cch k ∧ (cch k = 0 ∨ cch k = 1 ∨ cch k = 2) ∧ (cch k = 1 → mva k = cva k)) (hmic : ∀ k, k < 512 → ¬ mch k = 0 → ¬ mic (k / 8) = 0) :
    ∀ (f i : Nat) (rc : Int32) (cbi ces mlb mrw : Nat → Int32), i ≤ 512 → 512 < i + f → RTL mic cbi ces mlb mrw →
    ok_PG_change_2 nb nt f (nI i) cch cva rc cbi ces ∧ ok_MO_applyDraft_2 f (nI i) rc mch mva mlb mrw ∧ ∃ rc' cbi' ces' mlb' mrw', f_PG_change_2 f (nI i) cch cva rc cbi ces = (rc', cbi', ces') ∧ f_MO_applyDraft_2 f (nI i) rc mch mva mlb mrw = (rc', mlb', mrw') ∧ RTL mic cbi' ces' mlb' mrw' ∧ (∀ p, 64 ≤ p → cbi' p = cbi p) ∧ ∀ j, 512 ≤ j → ces' j = ces j := by
  intro f
  induction f with
  | zero => intro i rc cbi ces mlb mrw h1 h2; omega
  | succ f ih =>
    intro i rc cbi ces mlb mrw h1 h2 hR
    rw [ok_PG_change_2, ok_MO_applyDraft_2, f_PG_change_2, f_MO_applyDraft_2]
    by_cases e : i = 512
    · subst e
      have c : (512 : Int32) ≤ nI 512 := by decide
      rw [if_pos c, if_pos c]
      exact ⟨⟨fun _ => trivial, fun z => absurd c z⟩, ⟨fun _ => trivial, fun z => absurd c z⟩, rc, cbi, ces, mlb, mrw, rfl, rfl, hR, fun p _ => rfl, fun j _ => rfl⟩
    · have c : ¬ (512 : Int32) ≤ nI i := nI_ge (a := i) (b := 512) (by omega) (by omega)
      have hi : i < 512 := by omega
      obtain ⟨s1, s2⟩ := key_sh hi
      have s3 : nI i / (8 : Int32) = nI (i / 8) := pk_div (d := 8) (by omega) (by omega) (by omega)
      have s4 : nI i - nI (i / 8) * (8 : Int32) = nI (i % 8) := by
        rw [show nI (i / 8) * (8 : Int32) = nI (i / 8 * 8) from pk_mul _ 8, pk_sub (by omega)]
        congr 1; omega
      have w8 : vp_in (nI (i / 8)) 64 := vp_in_nI (by omega) (by omega)
      have wi : vp_in (nI i) 512 := vp_in_nI (by omega) (by omega)
      have hk : i % 8 < 8 := by omega
      obtain ⟨d1, d2, d3⟩ := hd i hi
      simp only [if_neg c, bindc_def, bindp_iff, nI_1, s1, s2, s3, s4, nI_clamp (show i / 8 < 2 ^ 31 by omega), nI_clamp (show i < 2 ^ 31 by omega), ok_DR_has, f_DR_has, ok_DR_isDropped, f_DR_isDropped, ok_DR_valueOf, f_DR_valueOf, d1]
      rcases d2 with d2 | d2 | d2
      · -- no change of this key
        obtain ⟨o1, o2, r⟩ := ih (i + 1) rc cbi ces mlb mrw (by omega) (by omega) hR
        have c1 : ¬ cch i = (1 : Int32) := by rw [d2]; decide
        have c2 : ¬ cch i = (2 : Int32) := by rw [d2]; decide
        simp only [if_pos d2, if_neg c1, if_neg c2, if_true]
        refine ⟨⟨fun z => absurd z c, fun _ => ⟨wi, fun _ => o1, fun z => (z trivial).elim⟩⟩, ⟨fun z => absurd z c, fun _ => ⟨w8, fun _ => ⟨wi, fun z => absurd z c1, fun _ => ⟨wi, fun z => absurd z c2, fun _ => o2⟩⟩, fun _ => ⟨wi, fun z => absurd z c1, fun _ => ⟨wi, fun z => absurd z c2, fun _ => o2⟩⟩⟩⟩, ?_⟩
        by_cases q : mlb (i / 8) &&& (1 : Int32) <<< (nI (i % 8) &&& 31) = 0
        · simp only [if_pos q]; exact r
        · simp only [if_neg q]; exact r
      · -- a value
        have c0 : ¬ cch i = (0 : Int32) := by rw [d2]; decide
        have c2 : ¬ cch i = (2 : Int32) := by rw [d2]; decide
        have hmi : ¬ mic (i / 8) = 0 := hmic i hi (by rw [d1]; exact c0)
        obtain ⟨a1, a2, a3⟩ := hR (i / 8) (by omega) hmi
        have hbyc : BY (cbi (i / 8)) := by rw [a1]; exact a2
        obtain ⟨b1, b2⟩ := @pg_bit nb nt (i / 8) (i % 8) cbi (by omega) hk hbyc
        obtain ⟨e1, e2⟩ := @pg_set nb nt (i / 8) (i % 8) 1 (cva i) cbi ces (by omega) hk
        obtain ⟨b3, b4⟩ := @pg_bit nb nt (i / 8) (i % 8) (upd cbi (i / 8) (bset (cbi (i / 8)) (i % 8))) (by omega) hk (by rw [pk_us]; exact by_set hbyc hk)
        rw [pk_us, bt_set hbyc hk hk, if_pos rfl] at b3
        simp only [if_neg no1] at e1
        have hand := bt_and a2 hk
        have hR' := rtl_set hR hi hmi (cva i)
        simp only [if_neg c0, if_neg no1, if_neg c2, if_pos d2, if_true, b1, e1, b3, d3 d2]
        have fin : ∀ rc2, ok_PG_change_2 nb nt f (nI (i + 1)) cch cva rc2 (upd cbi (i / 8) (bset (cbi (i / 8)) (i % 8))) (upd ces (i / 8 * 8 + i % 8) (cva i)) ∧ ok_MO_applyDraft_2 f (nI (i + 1)) rc2 mch mva (upd mlb (i / 8) (mlb (i / 8) ||| (1 : Int32) <<< (nI (i % 8) &&& 31))) (upd mrw i (cva i)) ∧ ∃ rc' cbi' ces' mlb' mrw', f_PG_change_2 f (nI (i + 1)) cch cva rc2 (upd cbi (i / 8) (bset (cbi (i / 8)) (i % 8))) (upd ces (i / 8 * 8 + i % 8) (cva i)) = (rc', cbi', ces') ∧ f_MO_applyDraft_2 f (nI (i + 1)) rc2 mch mva (upd mlb (i / 8) (mlb (i / 8) ||| (1 : Int32) <<< (nI (i % 8) &&& 31))) (upd mrw i (cva i)) = (rc', mlb', mrw') ∧ RTL mic cbi' ces' mlb' mrw' ∧ (∀ p, 64 ≤ p → cbi' p = cbi p) ∧ ∀ j, 512 ≤ j → ces' j = ces j := by
          intro rc2
          obtain ⟨o1, o2, rc', cbi', ces', mlb', mrw', r1, r2, r3, r4, r5⟩ := ih (i + 1) rc2 _ _ _ _ (by omega) (by omega) hR'
          exact ⟨o1, o2, rc', cbi', ces', mlb', mrw', r1, r2, r3, fun p hp => by rw [r4 p hp, pk_un (by omega)], fun j hj => by rw [r5 j hj, pk_un (by omega)]⟩
        rcases bt_01 (mlb (i / 8)) (i % 8) with q | q
        · have hq := hand.mpr q
          rw [a1, q, rc_10]
          rw [a1] at fin b4
          obtain ⟨o1, o2, r⟩ := fin (rc + 1)
          simp only [if_pos hq]
          exact ⟨⟨fun z => absurd z c, fun _ => ⟨wi, fun z => absurd z no1, fun _ => ⟨b2, wi, fun _ => ⟨wi, e2, b4, o1⟩, fun z => (z trivial).elim⟩⟩⟩, ⟨fun z => absurd z c, fun _ => ⟨w8, fun _ => ⟨wi, fun _ => ⟨fun _ => ⟨w8, w8, wi, wi, o2⟩, fun z => (z trivial).elim⟩, fun z => absurd d2 z⟩, fun z => absurd hq z⟩⟩, r⟩
        · have hq : ¬ mlb (i / 8) &&& (1 : Int32) <<< (nI (i % 8) &&& 31) = 0 := fun z => by rw [hand.mp z] at q; exact absurd q (by decide)
          rw [a1, q, rc_11]
          rw [a1] at fin b4
          obtain ⟨o1, o2, r⟩ := fin rc
          simp only [if_neg hq]
          exact ⟨⟨fun z => absurd z c, fun _ => ⟨wi, fun z => absurd z no1, fun _ => ⟨b2, wi, fun _ => ⟨wi, e2, b4, o1⟩, fun z => (z trivial).elim⟩⟩⟩, ⟨fun z => absurd z c, fun _ => ⟨w8, fun z => absurd z hq, fun _ => ⟨wi, fun _ => ⟨fun z => absurd z no1, fun _ => ⟨w8, w8, wi, wi, o2⟩⟩, fun z => absurd d2 z⟩⟩⟩, r⟩
      · -- dropped
        have c0 : ¬ cch i = (0 : Int32) := by rw [d2]; decide
        have c1 : ¬ cch i = (1 : Int32) := by rw [d2]; decide
        have hmi : ¬ mic (i / 8) = 0 := hmic i hi (by rw [d1]; exact c0)
        obtain ⟨a1, a2, a3⟩ := hR (i / 8) (by omega) hmi
        have hbyc : BY (cbi (i / 8)) := by rw [a1]; exact a2
        obtain ⟨b1, b2⟩ := @pg_bit nb nt (i / 8) (i % 8) cbi (by omega) hk hbyc
        obtain ⟨e1, e2⟩ := @pg_set nb nt (i / 8) (i % 8) 0 (cva i) cbi ces (by omega) hk
        obtain ⟨b3, b4⟩ := @pg_bit nb nt (i / 8) (i % 8) (upd cbi (i / 8) (bclr (cbi (i / 8)) (i % 8))) (by omega) hk (by rw [pk_us]; exact by_clr hbyc hk)
        rw [pk_us, bt_clr hbyc hk hk, if_pos rfl] at b3
        simp only [if_true] at e1
        have hand := bt_and a2 hk
        have hR' := rtl_clr hR hi hmi
        simp only [if_neg c0, if_neg no1, if_neg c1, if_pos d2, if_true, b1, e1, b3]
        have fin : ∀ rc2, ok_PG_change_2 nb nt f (nI (i + 1)) cch cva rc2 (upd cbi (i / 8) (bclr (cbi (i / 8)) (i % 8))) (upd ces (i / 8 * 8 + i % 8) 0) ∧ ok_MO_applyDraft_2 f (nI (i + 1)) rc2 mch mva (upd mlb (i / 8) (mlb (i / 8) &&& ((1 : Int32) <<< (nI (i % 8) &&& 31) ^^^ -1))) (upd mrw i 0) ∧ ∃ rc' cbi' ces' mlb' mrw', f_PG_change_2 f (nI (i + 1)) cch cva rc2 (upd cbi (i / 8) (bclr (cbi (i / 8)) (i % 8))) (upd ces (i / 8 * 8 + i % 8) 0) = (rc', cbi', ces') ∧ f_MO_applyDraft_2 f (nI (i + 1)) rc2 mch mva (upd mlb (i / 8) (mlb (i / 8) &&& ((1 : Int32) <<< (nI (i % 8) &&& 31) ^^^ -1))) (upd mrw i 0) = (rc', mlb', mrw') ∧ RTL mic cbi' ces' mlb' mrw' ∧ (∀ p, 64 ≤ p → cbi' p = cbi p) ∧ ∀ j, 512 ≤ j → ces' j = ces j := by
          intro rc2
          obtain ⟨o1, o2, rc', cbi', ces', mlb', mrw', r1, r2, r3, r4, r5⟩ := ih (i + 1) rc2 _ _ _ _ (by omega) (by omega) hR'
          exact ⟨o1, o2, rc', cbi', ces', mlb', mrw', r1, r2, r3, fun p hp => by rw [r4 p hp, pk_un (by omega)], fun j hj => by rw [r5 j hj, pk_un (by omega)]⟩
        rcases bt_01 (mlb (i / 8)) (i % 8) with q | q
        · have hq := hand.mpr q
          rw [a1, q, rc_00]
          rw [a1] at fin b4
          obtain ⟨o1, o2, r⟩ := fin rc
          simp only [if_pos hq]
          exact ⟨⟨fun z => absurd z c, fun _ => ⟨wi, fun z => absurd z no1, fun _ => ⟨b2, wi, fun z => absurd z no1, fun _ => ⟨wi, e2, b4, o1⟩⟩⟩⟩, ⟨fun z => absurd z c, fun _ => ⟨w8, fun _ => ⟨wi, fun z => absurd z c1, fun _ => ⟨wi, fun _ => ⟨fun _ => ⟨w8, w8, wi, o2⟩, fun z => (z trivial).elim⟩, fun z => absurd d2 z⟩⟩, fun z => absurd hq z⟩⟩, r⟩
        · have hq : ¬ mlb (i / 8) &&& (1 : Int32) <<< (nI (i % 8) &&& 31) = 0 := fun z => by rw [hand.mp z] at q; exact absurd q (by decide)
          rw [a1, q, rc_01]
          rw [a1] at fin b4
          obtain ⟨o1, o2, r⟩ := fin (rc - 1)
          simp only [if_neg hq]
          exact ⟨⟨fun z => absurd z c, fun _ => ⟨wi, fun z => absurd z no1, fun _ => ⟨b2, wi, fun z => absurd z no1, fun _ => ⟨wi, e2, b4, o1⟩⟩⟩⟩, ⟨fun z => absurd z c, fun _ => ⟨w8, fun z => absurd z hq, fun _ => ⟨wi, fun z => absurd z c1, fun _ => ⟨wi, fun _ => ⟨fun z => absurd z no1, fun _ => ⟨w8, w8, wi, o2⟩⟩, fun z => absurd d2 z⟩⟩⟩⟩, r⟩
