/-! a block written, as far as the power goes -/
theorem wr_m1 {a : Nat} (ha : a < 12800) (v mwr : Int32) (mro : Nat → Int32) : f_MO_write (nI a) v 0 (-1) mwr mro = (1, 0, -1, mwr + 1, upd mro a v) ∧ ok_MO_write (nI a) v 0 (-1) mwr mro := by
  have c : (-1 : Int32) ≤ 0 := by decide
  have c2 : ¬ (-1 : Int32) = 0 := by decide
  unfold f_MO_write ok_MO_write f_MO_write_38 ok_MO_write_38
  rw [if_pos c, if_neg c2, if_pos rfl, nI_clamp (by omega)]
  exact ⟨rfl, vp_in_nI ha (by omega), fun _ => trivial, fun _ => trivial⟩
theorem wr_p {a p : Nat} (ha : a < 12800) (hp : 1 ≤ p) (hp2 : p < 2 ^ 31) (v mwr : Int32) (mro : Nat → Int32) : f_MO_write (nI a) v 0 (nI p) mwr mro = (if p = 1 then 0 else 1, if p = 1 then 1 else 0, nI (p - 1), mwr + 1, upd mro a v) ∧ ok_MO_write (nI a) v 0 (nI p) mwr mro := by
  have c : ¬ nI p ≤ 0 := nI_nle (by omega) hp2
  have d : nI p - (1 : Int32) = nI (p - 1) := by rw [show (1 : Int32) = nI 1 from rfl, pk_sub hp]
  unfold f_MO_write ok_MO_write f_MO_write_38 ok_MO_write_38
  rw [if_neg c, d, nI_clamp (show a < 2 ^ 31 by omega)]
  refine ⟨?_, vp_in_nI ha (by omega), fun _ => trivial, fun _ => trivial⟩
  by_cases e : p = 1
  · subst e
    rw [if_pos (show nI (1 - 1) = 0 from rfl), if_neg no1, if_pos rfl, if_pos rfl]
  · rw [if_neg (nI_ne0 (by omega) (by omega)), if_pos rfl, if_neg e, if_neg e]
theorem f79_0 {f a : Nat} {x5 msl mdn mpw mwr mnx : Int32} {mro mit mmd : Nat → Int32} : f_MO_finish_79 (f + 1) (nI a) 0 x5 msl mdn mpw mwr mnx mro mit mmd = (0, mdn, mpw, mwr, mnx + 1, mro, mit, mmd) ∧ ok_MO_finish_79 (f + 1) (nI a) 0 x5 msl mdn mpw mwr mnx mro mit mmd := by
  rw [f_MO_finish_79, ok_MO_finish_79]
  refine ⟨?_, ⟨fun _ => isB_0, fun _ => ⟨fun _ => isB_0, fun z => (z rfl).elim⟩⟩⟩
  by_cases c : (64 : Int32) ≤ x5
  · rw [if_pos c]
  · rw [if_neg c, if_pos rfl]
theorem f79_m1 {s : Nat} (hs : s < 200) (msl mnx : Int32) (mmd : Nat → Int32) : ∀ (f i : Nat) (mwr : Int32) (mro mit : Nat → Int32), i ≤ 64 → 64 < i + f →
    ok_MO_finish_79 f (nI (s * 64)) 1 (nI i) msl 0 (-1) mwr mnx mro mit mmd ∧ ∃ mro' mit', f_MO_finish_79 f (nI (s * 64)) 1 (nI i) msl 0 (-1) mwr mnx mro mit mmd = (1, 0, -1, mwr + nI (64 - i), mnx + 1, mro', mit', mmd) ∧
    (∀ j, mro' j = if s * 64 + i ≤ j ∧ j < s * 64 + 64 then mmd (j - s * 64) else mro j) ∧ ∀ t, mit' t = if t = s ∧ i < 64 then 0 else mit t := by
  intro f
  induction f with
  | zero => intro i mwr mro mit h1 h2; omega
  | succ f ih =>
    intro i mwr mro mit h1 h2
    rw [ok_MO_finish_79, f_MO_finish_79]
    by_cases e : i = 64
    · subst e
      have c : (64 : Int32) ≤ nI 64 := by decide
      rw [if_pos c]
      refine ⟨⟨fun _ => isB_1, fun z => absurd c z⟩, mro, mit, ?_, fun j => by rw [if_neg (by omega)], fun t => by rw [if_neg (by omega)]⟩
      rw [show nI (64 - 64) = 0 from rfl, Int32.add_zero]
    · have c : ¬ (64 : Int32) ≤ nI i := nI_ge (a := i) (b := 64) (by omega) (by omega)
      obtain ⟨w1, w2⟩ := wr_m1 (a := s * 64 + i) (by omega) (mmd i) mwr mro
      have hd : nI (s * 64) / (64 : Int32) = nI s := by
        have := pk_div (a := s * 64) (d := 64) (by omega) (by omega) (by omega)
        rw [show s * 64 / 64 = s by omega] at this
        exact this
      have wv : vp_in (nI i) 64 := vp_in_nI (by omega) (by omega)
      have ws : vp_in (nI s) 200 := vp_in_nI hs (by omega)
      have hcomb : mwr + 1 + nI (64 - (i + 1)) = mwr + nI (64 - i) := by
        rw [Int32.add_assoc, show (1 : Int32) + nI (64 - (i + 1)) = nI (1 + (64 - (i + 1))) from nI_add 1 _]
        congr 2; omega
      simp only [if_neg c, if_neg no1, nI_add, nI_clamp (show i < 2 ^ 31 by omega), w1, bindc_def, bindp_iff, nI_1, hd, nI_clamp (show s < 2 ^ 31 by omega), nar0, nar1]
      have step : ∀ y : Int32, (i + 1 < 64 ∨ y = 0) → ok_MO_finish_79 f (nI (s * 64)) 1 (nI (i + 1)) msl 0 (-1) (mwr + 1) mnx (upd mro (s * 64 + i) (mmd i)) (upd mit s y) mmd ∧ ∃ mro' mit', f_MO_finish_79 f (nI (s * 64)) 1 (nI (i + 1)) msl 0 (-1) (mwr + 1) mnx (upd mro (s * 64 + i) (mmd i)) (upd mit s y) mmd = (1, 0, -1, mwr + nI (64 - i), mnx + 1, mro', mit', mmd) ∧ (∀ j, mro' j = if s * 64 + i ≤ j ∧ j < s * 64 + 64 then mmd (j - s * 64) else mro j) ∧ ∀ t, mit' t = if t = s ∧ i < 64 then 0 else mit t := by
        intro y hy
        obtain ⟨o, mro', mit', r1, r2, r3⟩ := ih (i + 1) (mwr + 1) (upd mro (s * 64 + i) (mmd i)) (upd mit s y) (by omega) (by omega)
        rw [hcomb] at r1
        refine ⟨o, mro', mit', r1, fun j => ?_, fun t => ?_⟩
        · rw [r2 j]
          by_cases e2 : j = s * 64 + i
          · subst e2
            rw [if_neg (by omega), if_pos (by omega), pk_us, show s * 64 + i - s * 64 = i by omega]
          · rw [pk_un e2]
            by_cases e3 : s * 64 + i ≤ j ∧ j < s * 64 + 64
            · rw [if_pos e3, if_pos (by omega)]
            · rw [if_neg e3, if_neg (by omega)]
        · rw [r3 t]
          by_cases e2 : t = s
          · subst e2
            rw [if_pos (show t = t ∧ i < 64 from ⟨rfl, by omega⟩), pk_us]
            rcases hy with hy | hy
            · rw [if_pos ⟨rfl, hy⟩]
            · rw [hy]
              by_cases e4 : t = t ∧ i + 1 < 64
              · rw [if_pos e4]
              · rw [if_neg e4]
          · rw [pk_un e2, if_neg (fun z => e2 z.1), if_neg (fun z => e2 z.1)]
      by_cases q : (63 : Int32) ≤ nI i
      · obtain ⟨o, r⟩ := step 0 (Or.inr rfl)
        simp only [if_pos q]
        exact ⟨⟨fun z => absurd z c, fun _ => ⟨fun z => absurd z no1, fun _ => ⟨wv, w2, fun _ => ⟨ws, o⟩, fun z => absurd q z⟩⟩⟩, r⟩
      · have hi : i + 1 < 64 := by
          rcases Nat.lt_or_ge i 63 with y | y
          · omega
          · exact absurd (nI_le (a := 63) y (by omega)) q
        obtain ⟨o, r⟩ := step 1 (Or.inl hi)
        simp only [if_neg q]
        exact ⟨⟨fun z => absurd z c, fun _ => ⟨fun z => absurd z no1, fun _ => ⟨wv, w2, fun z => absurd z q, fun _ => ⟨ws, o⟩⟩⟩⟩, r⟩
theorem f79_p {s : Nat} (hs : s < 200) (msl mnx : Int32) (mmd : Nat → Int32) : ∀ (f i p : Nat) (mwr : Int32) (mro mit : Nat → Int32), i ≤ 64 → 64 < i + f → 1 ≤ p → p < 2 ^ 31 →
    ok_MO_finish_79 f (nI (s * 64)) 1 (nI i) msl 0 (nI p) mwr mnx mro mit mmd ∧ ∃ mro' mit', f_MO_finish_79 f (nI (s * 64)) 1 (nI i) msl 0 (nI p) mwr mnx mro mit mmd = (if p ≤ 64 - i then 0 else 1, if p ≤ 64 - i then 1 else 0, nI (p - min p (64 - i)), mwr + nI (min p (64 - i)), mnx + 1, mro', mit', mmd) ∧
    (∀ j, mro' j = if s * 64 + i ≤ j ∧ j < s * 64 + i + min p (64 - i) then mmd (j - s * 64) else mro j) ∧ ∀ t, mit' t = if t = s ∧ i < 64 then (if i + min p (64 - i) = 64 then 0 else 1) else mit t := by
  intro f
  induction f with
  | zero => intro i p mwr mro mit h1 h2; omega
  | succ f ih =>
    intro i p mwr mro mit h1 h2 h3 h4
    rw [ok_MO_finish_79, f_MO_finish_79]
    by_cases e : i = 64
    · subst e
      have c : (64 : Int32) ≤ nI 64 := by decide
      rw [if_pos c]
      refine ⟨⟨fun _ => isB_1, fun z => absurd c z⟩, mro, mit, ?_, fun j => by rw [if_neg (by omega)], fun t => by rw [if_neg (by omega)]⟩
      rw [show min p (64 - 64) = 0 by omega, show nI 0 = 0 from rfl, Int32.add_zero, if_neg (by omega), if_neg (by omega), Nat.sub_zero]
    · have c : ¬ (64 : Int32) ≤ nI i := nI_ge (a := i) (b := 64) (by omega) (by omega)
      obtain ⟨w1, w2⟩ := wr_p (a := s * 64 + i) (by omega) h3 h4 (mmd i) mwr mro
      have hd : nI (s * 64) / (64 : Int32) = nI s := by
        have := pk_div (a := s * 64) (d := 64) (by omega) (by omega) (by omega)
        rw [show s * 64 / 64 = s by omega] at this
        exact this
      have wv : vp_in (nI i) 64 := vp_in_nI (by omega) (by omega)
      have ws : vp_in (nI s) 200 := vp_in_nI hs (by omega)
      simp only [if_neg c, if_neg no1, nI_add, nI_clamp (show i < 2 ^ 31 by omega), w1, bindc_def, bindp_iff, nI_1, hd, nI_clamp (show s < 2 ^ 31 by omega), nar0, nar1]
      have step : ∀ y : Int32, (i + 1 < 64 ∧ y = 1 ∨ i + 1 = 64 ∧ y = 0) → ok_MO_finish_79 f (nI (s * 64)) (if p = 1 then 0 else 1) (nI (i + 1)) msl (if p = 1 then 1 else 0) (nI (p - 1)) (mwr + 1) mnx (upd mro (s * 64 + i) (mmd i)) (upd mit s y) mmd ∧ ∃ mro' mit', f_MO_finish_79 f (nI (s * 64)) (if p = 1 then 0 else 1) (nI (i + 1)) msl (if p = 1 then 1 else 0) (nI (p - 1)) (mwr + 1) mnx (upd mro (s * 64 + i) (mmd i)) (upd mit s y) mmd = (if p ≤ 64 - i then 0 else 1, if p ≤ 64 - i then 1 else 0, nI (p - min p (64 - i)), mwr + nI (min p (64 - i)), mnx + 1, mro', mit', mmd) ∧ (∀ j, mro' j = if s * 64 + i ≤ j ∧ j < s * 64 + i + min p (64 - i) then mmd (j - s * 64) else mro j) ∧ ∀ t, mit' t = if t = s ∧ i < 64 then (if i + min p (64 - i) = 64 then 0 else 1) else mit t := by
        intro y hy
        by_cases e1 : p = 1
        · subst e1
          obtain ⟨f', rfl⟩ : ∃ f', f = f' + 1 := ⟨f - 1, by omega⟩
          obtain ⟨z1, z2⟩ := @f79_0 f' (s * 64) (nI (i + 1)) msl 1 (nI (1 - 1)) (mwr + 1) mnx (upd mro (s * 64 + i) (mmd i)) (upd mit s y) mmd
          rw [if_pos rfl, if_pos rfl, show min 1 (64 - i) = 1 by omega, if_pos (show 1 ≤ 64 - i by omega), if_pos (show 1 ≤ 64 - i by omega)]
          refine ⟨z2, _, _, z1, fun j => ?_, fun t => ?_⟩
          · by_cases e2 : j = s * 64 + i
            · subst e2
              rw [if_pos (by omega), pk_us, show s * 64 + i - s * 64 = i by omega]
            · rw [pk_un e2, if_neg (by omega)]
          · by_cases e2 : t = s
            · subst e2
              rw [if_pos (show t = t ∧ i < 64 from ⟨rfl, by omega⟩), pk_us]
              rcases hy with ⟨y1, y2⟩ | ⟨y1, y2⟩
              · rw [if_neg (by omega)]; exact y2
              · rw [if_pos y1]; exact y2
            · rw [pk_un e2, if_neg (fun z => e2 z.1)]
        · rw [if_neg e1, if_neg e1]
          obtain ⟨o, mro', mit', r1, r2, r3⟩ := ih (i + 1) (p - 1) (mwr + 1) (upd mro (s * 64 + i) (mmd i)) (upd mit s y) (by omega) (by omega) (by omega) (by omega)
          have hcomb : mwr + 1 + nI (min (p - 1) (64 - (i + 1))) = mwr + nI (min p (64 - i)) := by
            rw [Int32.add_assoc, show (1 : Int32) + nI (min (p - 1) (64 - (i + 1))) = nI (1 + min (p - 1) (64 - (i + 1))) from nI_add 1 _]
            congr 2; omega
          have hg : (p - 1 ≤ 64 - (i + 1)) ↔ (p ≤ 64 - i) := by omega
          rw [hcomb, show p - 1 - min (p - 1) (64 - (i + 1)) = p - min p (64 - i) by omega] at r1
          simp only [hg] at r1
          refine ⟨o, mro', mit', r1, fun j => ?_, fun t => ?_⟩
          · rw [r2 j]
            by_cases e2 : j = s * 64 + i
            · subst e2
              rw [if_neg (by omega), if_pos (by omega), pk_us, show s * 64 + i - s * 64 = i by omega]
            · rw [pk_un e2]
              by_cases e3 : s * 64 + i ≤ j ∧ j < s * 64 + i + min p (64 - i)
              · rw [if_pos e3, if_pos (by omega)]
              · rw [if_neg e3, if_neg (by omega)]
          · rw [r3 t]
            by_cases e2 : t = s
            · subst e2
              rw [if_pos (show t = t ∧ i < 64 from ⟨rfl, by omega⟩), pk_us]
              rcases hy with ⟨y1, y2⟩ | ⟨y1, y2⟩
              · rw [if_pos ⟨rfl, y1⟩, show i + 1 + min (p - 1) (64 - (i + 1)) = i + min p (64 - i) by omega]
              · rw [if_neg (by omega), if_pos (by omega)]; exact y2
            · rw [pk_un e2, if_neg (fun z => e2 z.1), if_neg (fun z => e2 z.1)]
      by_cases q : (63 : Int32) ≤ nI i
      · have hi : i + 1 = 64 := by
          rcases Nat.lt_or_ge i 63 with y | y
          · exact absurd q (nI_ge (a := i) (b := 63) y (by omega))
          · omega
        obtain ⟨o, r⟩ := step 0 (Or.inr ⟨hi, rfl⟩)
        simp only [if_pos q]
        exact ⟨⟨fun z => absurd z c, fun _ => ⟨fun z => absurd z no1, fun _ => ⟨wv, w2, fun _ => ⟨ws, o⟩, fun z => absurd q z⟩⟩⟩, r⟩
      · have hi : i + 1 < 64 := by
          rcases Nat.lt_or_ge i 63 with y | y
          · omega
          · exact absurd (nI_le (a := 63) y (by omega)) q
        obtain ⟨o, r⟩ := step 1 (Or.inl ⟨hi, rfl⟩)
        simp only [if_neg q]
        exact ⟨⟨fun z => absurd z c, fun _ => ⟨fun z => absurd z no1, fun _ => ⟨wv, w2, fun z => absurd z q, fun _ => ⟨ws, o⟩⟩⟩⟩, r⟩
