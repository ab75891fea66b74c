/-! how many blocks, and which bits: the reference -/
def thr (x : Int32) : Nat := if x = 0 then 0 else 1
def cL (mic mlb : Nat → Int32) : Nat → Nat
  | 0 => 0
  | l + 1 => cL mic mlb l + if mic l = 0 then 0 else thr (mlb l)
def FN (mic mlb mnb : Nat → Int32) (m : Nat) : Int32 := up (mnb m) (fun k => mic (8 * m + k)) (fun k => mlb (8 * m + k)) 8
def cN (mic mlb mnb : Nat → Int32) : Nat → Nat
  | 0 => 0
  | m + 1 => cN mic mlb mnb m + if ncv mic m = 0 then 0 else thr (FN mic mlb mnb m)
def FTp (mic mlb mnb : Nat → Int32) (mtb : Int32) : Int32 := up mtb (ncv mic) (FN mic mlb mnb) 8
theorem cL_s (mic mlb : Nat → Int32) (l : Nat) : cL mic mlb (l + 1) = cL mic mlb l + if mic l = 0 then 0 else thr (mlb l) := rfl
theorem thr_le (x : Int32) : thr x ≤ 1 := by unfold thr; by_cases e : x = 0 <;> simp [e]
theorem thr_0 {x : Int32} (h : x = 0) : thr x = 0 := by unfold thr; rw [if_pos h]
theorem thr_1 {x : Int32} (h : ¬ x = 0) : thr x = 1 := by unfold thr; rw [if_neg h]
theorem cL_le (mic mlb : Nat → Int32) : ∀ l, cL mic mlb l ≤ l := by
  intro l
  induction l with
  | zero => exact Nat.le_refl _
  | succ l ih =>
    rw [cL]
    have := thr_le (mlb l)
    by_cases e : mic l = 0
    · rw [if_pos e]; omega
    · rw [if_neg e]; omega
theorem cN_le (mic mlb mnb : Nat → Int32) : ∀ l, cN mic mlb mnb l ≤ l := by
  intro l
  induction l with
  | zero => exact Nat.le_refl _
  | succ l ih =>
    rw [cN]
    have := thr_le (FN mic mlb mnb l)
    by_cases e : ncv mic l = 0
    · rw [if_pos e]; omega
    · rw [if_neg e]; omega
theorem settle12_l {K : Int32 → Int32 → Int32 → (Nat → Int32) → (Nat → Int32) → (Nat → Int32) → Int32 × Int32 × (Nat → Int32)} {O : Int32 → Int32 → Int32 → (Nat → Int32) → (Nat → Int32) → (Nat → Int32) → Prop} {mic mlb mnb : Nat → Int32} {m : Nat} (hm : m < 8) (c : Nat) (mtb : Int32) :
    ∀ (f k : Nat) (mnc : Nat → Int32), k ≤ 8 → 8 < k + f → mnc m = up (mnb m) (fun k => mic (8 * m + k)) (fun k => mlb (8 * m + k)) k →
    ∃ mnb', (∀ i, ¬ i = m → mnb' i = mnc i) ∧ mnb' m = FN mic mlb mnb m ∧
    f_MO_settle_12 K f (nI (1 + cL mic mlb (8 * m + k) + c)) (nI m) (nI k) mtb mic mlb mnc = K (nI (1 + cL mic mlb (8 * m + 8) + (c + if ncv mic m = 0 then 0 else thr (FN mic mlb mnb m)))) (nI (m + 1)) (if ncv mic m = 0 then mtb else if FN mic mlb mnb m = 0 then bclr mtb m else bset mtb m) mic mlb mnb' ∧
    (O (nI (1 + cL mic mlb (8 * m + 8) + (c + if ncv mic m = 0 then 0 else thr (FN mic mlb mnb m)))) (nI (m + 1)) (if ncv mic m = 0 then mtb else if FN mic mlb mnb m = 0 then bclr mtb m else bset mtb m) mic mlb mnb' → ok_MO_settle_12 O f (nI (1 + cL mic mlb (8 * m + k) + c)) (nI m) (nI k) mtb mic mlb mnc) := by
  intro f
  induction f with
  | zero => intro k mnc h1 h2; omega
  | succ f ih =>
    intro k mnc h1 h2 h3
    rw [f_MO_settle_12, ok_MO_settle_12]
    have w : vp_in (nI m) 8 := vp_in_nI hm (by omega)
    by_cases e : k = 8
    · subst e
      have c8 : (8 : Int32) ≤ nI 8 := by decide
      obtain ⟨n1, n2, n3, n4⟩ := nc_of mic hm
      refine ⟨mnc, fun i _ => rfl, h3, ?_⟩
      have h3' : mnc m = FN mic mlb mnb m := h3
      simp only [if_pos c8, n1, bindc_def, bindp_iff, nI_1, nI_clamp (show m < 2 ^ 31 by omega), h3']
      by_cases q : ncv mic m = 0
      · simp only [if_pos q, Nat.add_zero]
        exact ⟨trivial, fun o => ⟨fun _ => ⟨n2, fun _ => o, fun z => absurd q z⟩, fun z => absurd c8 z⟩⟩
      · simp only [if_neg q]
        by_cases q2 : FN mic mlb mnb m = 0
        · simp only [if_pos q2, thr_0 q2, Nat.add_zero]
          exact ⟨rfl, fun o => ⟨fun _ => ⟨n2, fun z => absurd z q, fun _ => ⟨w, fun _ => ⟨w, fun _ => o, fun z => absurd q2 z⟩, fun z => absurd q2 z⟩⟩, fun z => absurd c8 z⟩⟩
        · simp only [if_neg q2, thr_1 q2, Nat.add_assoc]
          exact ⟨rfl, fun o => ⟨fun _ => ⟨n2, fun z => absurd z q, fun _ => ⟨w, fun z => absurd z q2, fun _ => ⟨w, fun z => absurd z q2, fun _ => o⟩⟩⟩, fun z => absurd c8 z⟩⟩
    · have c8 : ¬ (8 : Int32) ≤ nI k := nI_ge (a := k) (b := 8) (by omega) (by omega)
      have e8 : (8 : Int32) * nI m + nI k = nI (8 * m + k) := by rw [show (8 : Int32) * nI m = nI (8 * m) from pk_mul 8 m, nI_add]
      have w2 : vp_in (nI (8 * m + k)) 64 := vp_in_nI (by omega) (by omega)
      simp only [if_neg c8, e8, nI_1, nI_clamp (show 8 * m + k < 2 ^ 31 by omega), nI_clamp (show m < 2 ^ 31 by omega)]
      by_cases q : mic (8 * m + k) = 0
      · obtain ⟨mnb', r1, r2, r3, r4⟩ := ih (k + 1) mnc (by omega) (by omega) (by rw [up, if_pos q]; exact h3)
        rw [show 8 * m + (k + 1) = 8 * m + k + 1 by omega, cL_s mic mlb (8 * m + k), if_pos q, Nat.add_zero] at r3 r4
        simp only [if_pos q]
        exact ⟨mnb', r1, r2, r3, fun o => ⟨fun z => absurd z c8, fun _ => ⟨w2, fun _ => r4 o, fun z => absurd q z⟩⟩⟩
      · simp only [if_neg q]
        by_cases q2 : mlb (8 * m + k) = 0
        · obtain ⟨mnb', r1, r2, r3, r4⟩ := ih (k + 1) (upd mnc m (bclr (mnc m) k)) (by omega) (by omega) (by rw [pk_us, up, if_neg q, if_pos q2, h3])
          rw [show 8 * m + (k + 1) = 8 * m + k + 1 by omega, cL_s mic mlb (8 * m + k), if_neg q, thr_0 q2, Nat.add_zero] at r3 r4
          simp only [if_pos q2]
          exact ⟨mnb', fun i hi => by rw [r1 i hi, pk_un hi], r2, r3, fun o => ⟨fun z => absurd z c8, fun _ => ⟨w2, fun z => absurd z q, fun _ => ⟨w2, fun _ => ⟨w, w, w2, fun _ => r4 o, fun z => absurd q2 z⟩, fun z => absurd q2 z⟩⟩⟩⟩
        · obtain ⟨mnb', r1, r2, r3, r4⟩ := ih (k + 1) (upd mnc m (bset (mnc m) k)) (by omega) (by omega) (by rw [pk_us, up, if_neg q, if_neg q2, h3])
          rw [show 8 * m + (k + 1) = 8 * m + k + 1 by omega, cL_s mic mlb (8 * m + k), if_neg q, thr_1 q2, show 1 + (cL mic mlb (8 * m + k) + 1) + c = 1 + cL mic mlb (8 * m + k) + c + 1 by omega] at r3 r4
          simp only [if_neg q2]
          exact ⟨mnb', fun i hi => by rw [r1 i hi, pk_un hi], r2, r3, fun o => ⟨fun z => absurd z c8, fun _ => ⟨w2, fun z => absurd z q, fun _ => ⟨w2, fun z => absurd z q2, fun _ => ⟨w, w, w2, fun z => absurd z q2, fun _ => r4 o⟩⟩⟩⟩⟩
theorem settle4_l {mic mlb mnb : Nat → Int32} (mtb : Int32) :
    ∀ (f m : Nat) (mnc : Nat → Int32), m ≤ 8 → 8 < m + f → (∀ i, i < m → mnc i = FN mic mlb mnb i) → (∀ i, m ≤ i → mnc i = mnb i) →
    ∃ mnb', f_MO_settle_4 f (nI (1 + cL mic mlb (8 * m) + cN mic mlb mnb m)) (nI m) (up mtb (ncv mic) (FN mic mlb mnb) m) mic mlb mnc = (nI (1 + cL mic mlb 64 + cN mic mlb mnb 8 + thr (FTp mic mlb mnb mtb)), FTp mic mlb mnb mtb, mnb') ∧ ok_MO_settle_4 f (nI (1 + cL mic mlb (8 * m) + cN mic mlb mnb m)) (nI m) (up mtb (ncv mic) (FN mic mlb mnb) m) mic mlb mnc ∧ ∀ i, i < 8 → mnb' i = FN mic mlb mnb i := by
  intro f
  induction f with
  | zero => intro m mnc h1 h2; omega
  | succ f ih =>
    intro m mnc h1 h2 h3 h4
    rw [f_MO_settle_4, ok_MO_settle_4]
    by_cases e : m = 8
    · subst e
      have c : (8 : Int32) ≤ nI 8 := by decide
      rw [if_pos c]
      refine ⟨mnc, ?_, ⟨fun _ => trivial, fun z => absurd c z⟩, fun i hi => h3 i hi⟩
      have hF : up mtb (ncv mic) (FN mic mlb mnb) 8 = FTp mic mlb mnb mtb := rfl
      rw [hF]
      by_cases q : FTp mic mlb mnb mtb = 0
      · rw [if_pos q, thr_0 q, Nat.add_zero]
      · rw [if_neg q, thr_1 q, nI_1]
    · have c : ¬ (8 : Int32) ≤ nI m := nI_ge (a := m) (b := 8) (by omega) (by omega)
      have hm : m < 8 := by omega
      obtain ⟨mnb1, r1, r2, r3, r4⟩ := settle12_l (K := f_MO_settle_4 f) (O := ok_MO_settle_4 f) (mic := mic) (mlb := mlb) (mnb := mnb) hm (cN mic mlb mnb m) (up mtb (ncv mic) (FN mic mlb mnb) m) 1024 0 mnc (by omega) (by omega) (by rw [up]; exact h4 m (Nat.le_refl _))
      obtain ⟨mnb', s1, s2, s3⟩ := ih (m + 1) mnb1 (by omega) (by omega) (fun i hi => by
        by_cases e2 : i = m
        · rw [e2]; exact r2
        · rw [r1 i e2]; exact h3 i (by omega)) (fun i hi => by rw [r1 i (by omega)]; exact h4 i (by omega))
      rw [show 8 * (m + 1) = 8 * m + 8 by omega, cN, up] at s1 s2
      rw [Nat.add_zero, nI_0] at r3 r4
      rw [if_neg c, r3]
      exact ⟨mnb', s1, ⟨fun z => absurd z c, fun _ => r4 s2⟩, s3⟩
theorem settle_of (mic mlb mnb : Nat → Int32) (mtb : Int32) : ∃ mnb', f_MO_settle mtb mic mlb mnb = (nI (1 + cL mic mlb 64 + cN mic mlb mnb 8 + thr (FTp mic mlb mnb mtb)), FTp mic mlb mnb mtb, mnb') ∧ ok_MO_settle mtb mic mlb mnb ∧ ∀ i, i < 8 → mnb' i = FN mic mlb mnb i := by
  obtain ⟨mnb', h1, h2, h3⟩ := settle4_l (mic := mic) (mlb := mlb) (mnb := mnb) mtb 1024 0 mnb (by omega) (by omega) (fun i hi => by omega) (fun i _ => rfl)
  have e : nI (1 + cL mic mlb (8 * 0) + cN mic mlb mnb 0) = 1 := rfl
  rw [e, nI_0, up] at h1 h2
  refine ⟨mnb', ?_, ?_, h3⟩
  · unfold f_MO_settle; exact h1
  · unfold ok_MO_settle; exact h2
