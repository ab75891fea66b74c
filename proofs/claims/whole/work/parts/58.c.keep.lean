/-! reopen's second loop: the kept versions -/
theorem pos_ex (v : Nat → Nat) (x : Nat) : ∀ r, (∀ i k, i < k → k < r → v i < v k) → ∃ p, p ≤ r ∧ (∀ i, i < p → v i < x) ∧ (∀ i, p ≤ i → i < r → x ≤ v i) := by
  intro r
  induction r with
  | zero => intro _; exact ⟨0, Nat.le_refl _, fun i h => by omega, fun i _ h => by omega⟩
  | succ r ih =>
    intro hm
    obtain ⟨p, h1, h2, h3⟩ := ih (fun i k a b => hm i k a (by omega))
    by_cases e : p = r
    · subst e
      by_cases e2 : v p < x
      · refine ⟨p + 1, Nat.le_refl _, fun i hi => ?_, fun i a b => by omega⟩
        by_cases e3 : i = p
        · rw [e3]; exact e2
        · exact h2 i (by omega)
      · refine ⟨p, by omega, h2, fun i a b => ?_⟩
        rw [show i = p by omega]; omega
    · refine ⟨p, by omega, h2, fun i a b => ?_⟩
      by_cases e3 : i = r
      · have q1 := h3 p (Nat.le_refl _) (by omega)
        have q2 := hm p r (by omega) (by omega)
        rw [e3]; omega
      · exact h3 i a (by omega)
def KS (i r S E V t : Nat) (cve cro mve mrb : Nat → Int32) : Prop := ∃ v q : Nat → Nat, (∀ k, k < r → cve k = nI (v k) ∧ mve k = nI (v k) ∧ cro k = nI (q k) ∧ mrb k = nI (q k) ∧ 1 ≤ v k ∧ v k ≤ V ∧ S ≤ q k ∧ q k < E) ∧ (∀ a b, a < b → b < r → v a < v b) ∧ (t < i → 0 < r ∧ v (r - 1) = V)
def insN (p m x : Nat) (g : Nat → Nat) : Nat → Nat := fun i => if i < p then g i else if i = p then x else if i ≤ m then g (i - 1) else g i
theorem ins_insN {p r x : Nat} {g : Nat → Int32} {v : Nat → Nat} (hp : p ≤ r) (h : ∀ k, k < r → g k = nI (v k)) : ∀ k, k < r + 1 → ins p r (nI x) g k = nI (insN p r x v k) := by
  intro k hk
  unfold ins insN
  by_cases e1 : k < p
  · rw [if_pos e1, if_pos e1]; exact h k (by omega)
  · rw [if_neg e1, if_neg e1]
    by_cases e2 : k = p
    · rw [if_pos e2, if_pos e2]
    · rw [if_neg e2, if_neg e2, if_pos (by omega), if_pos (by omega)]; exact h (k - 1) (by omega)
theorem insN_P {p r x : Nat} {v : Nat → Nat} {P : Nat → Prop} (hp : p ≤ r) (h : ∀ k, k < r → P (v k)) (hx : P x) : ∀ k, k < r + 1 → P (insN p r x v k) := by
  intro k hk
  unfold insN
  by_cases e1 : k < p
  · rw [if_pos e1]; exact h k (by omega)
  · rw [if_neg e1]
    by_cases e2 : k = p
    · rw [if_pos e2]; exact hx
    · rw [if_neg e2, if_pos (by omega)]; exact h (k - 1) (by omega)
theorem insN_mono {p r x : Nat} {v : Nat → Nat} (hp : p ≤ r) (hm : ∀ a b, a < b → b < r → v a < v b) (hlo : ∀ i, i < p → v i < x) (hhi : ∀ i, p ≤ i → i < r → x < v i) : ∀ a b, a < b → b < r + 1 → insN p r x v a < insN p r x v b := by
  intro a b hab hb
  unfold insN
  by_cases a1 : a < p
  · rw [if_pos a1]
    by_cases b1 : b < p
    · rw [if_pos b1]; exact hm a b hab (by omega)
    · rw [if_neg b1]
      by_cases b2 : b = p
      · rw [if_pos b2]; exact hlo a a1
      · rw [if_neg b2, if_pos (by omega)]
        exact hm a (b - 1) (by omega) (by omega)
  · rw [if_neg a1, if_neg (show ¬ b < p by omega)]
    by_cases a2 : a = p
    · rw [if_pos a2, if_neg (show ¬ b = p by omega), if_pos (show b ≤ r by omega)]
      exact hhi (b - 1) (by omega) (by omega)
    · rw [if_neg a2, if_pos (show a ≤ r by omega), if_neg (show ¬ b = p by omega), if_pos (show b ≤ r by omega)]
      exact hm (a - 1) (b - 1) (by omega) (by omega)
theorem keep_step {nb nt i r S E V t x b : Nat} {cve cro mve mrb : Nat → Int32} (hK : KS i r S E V t cve cro mve mrb) (hr : r < 200) (hV : V < 2 ^ 30) (hE : E < 2 ^ 30) (hx1 : 1 ≤ x) (hx2 : x ≤ V) (hb1 : S ≤ b) (hb2 : b < E) (ht : i = t → x = V) :
    ∃ r' cve' cro' mve' mrb', f_SH_add (nI x) (nI b) (nI r) cve cro = (nI r', cve', cro') ∧ ok_SH_add nb nt (nI x) (nI b) (nI r) cve cro ∧ f_MO_keep (nI x) (nI b) (nI r) mve mrb = (nI r', mve', mrb') ∧ ok_MO_keep (nI x) (nI b) (nI r) mve mrb ∧ r' ≤ r + 1 ∧ KS (i + 1) r' S E V t cve' cro' mve' mrb' := by
  obtain ⟨v, q, h1, h2, h3⟩ := hK
  obtain ⟨p, p1, p2, p3⟩ := pos_ex v x r h2
  have A := sh_add_l (nb := nb) (nt := nt) (q := b) (cro := cro) hr (fun k hk => ⟨(h1 k hk).1, by have := (h1 k hk).2.2.2.2.2.1; omega⟩) (show x < 2 ^ 30 by omega) p1 p2 p3 h2 1024 r (Nat.le_refl _) p1 (fun a _ => by omega) (by omega)
  have B := mo_keep_l (q := b) (mrb := mrb) hr (fun k hk => ⟨(h1 k hk).2.1, by have := (h1 k hk).2.2.2.2.2.1; omega⟩) (show x < 2 ^ 30 by omega) p1 p2 p3 1024 0 (by omega) (by omega)
  rw [nI_0] at B
  have okA : ok_SH_add nb nt (nI x) (nI b) (nI r) cve cro := by unfold ok_SH_add; exact A.2
  have okB : ok_MO_keep (nI x) (nI b) (nI r) mve mrb := by unfold ok_MO_keep; exact B.2
  by_cases hh : p < r ∧ v p = x
  · have A1 := A.1.1 hh
    have B1 := B.1.1 hh
    have eA : f_SH_add (nI x) (nI b) (nI r) cve cro = (nI r, cve, upd cro p (if cro p < nI b then nI b else cro p)) := by unfold f_SH_add; exact A1
    have eB : f_MO_keep (nI x) (nI b) (nI r) mve mrb = (nI r, mve, upd mrb p (if mrb p ≤ nI b then nI b else mrb p)) := by unfold f_MO_keep; exact B1
    refine ⟨r, _, _, _, _, eA, okA, eB, okB, by omega, v, fun k => if k = p then max (q p) b else q k, fun k hk => ?_, h2, fun z => ?_⟩
    · obtain ⟨g1, g2, g3, g4, g5, g6, g7, g8⟩ := h1 k hk
      dsimp only
      by_cases e : k = p
      · subst e
        rw [pk_us, pk_us, if_pos rfl, g3, g4]
        refine ⟨g1, g2, ?_, ?_, g5, g6, by omega, by omega⟩
        · by_cases c : q k < b
          · rw [if_pos (nI_lt c (by omega)), Nat.max_eq_right (by omega)]
          · rw [if_neg (nI_nlt (by omega) (by omega)), Nat.max_eq_left (by omega)]
        · by_cases c : q k ≤ b
          · rw [if_pos (nI_le c (by omega)), Nat.max_eq_right (by omega)]
          · rw [if_neg (nI_ge (by omega) (by omega)), Nat.max_eq_left (by omega)]
      · rw [pk_un e, pk_un e, if_neg e]
        exact ⟨g1, g2, g3, g4, g5, g6, g7, g8⟩
    · by_cases z2 : t < i
      · exact h3 z2
      · have hxV := ht (by omega)
        refine ⟨by omega, ?_⟩
        by_cases e : p = r - 1
        · rw [← e, hh.2, hxV]
        · have := h2 p (r - 1) (by omega) (by omega)
          have := (h1 (r - 1) (by omega)).2.2.2.2.2.1
          omega
  · have A1 := A.1.2 hh
    have B1 := B.1.2 hh
    have eA : f_SH_add (nI x) (nI b) (nI r) cve cro = (nI (r + 1), ins p r (nI x) cve, ins p r (nI b) cro) := by unfold f_SH_add; exact A1
    have eB : f_MO_keep (nI x) (nI b) (nI r) mve mrb = (nI (r + 1), ins p r (nI x) mve, ins p r (nI b) mrb) := by unfold f_MO_keep; exact B1
    have p4 : ∀ i, p ≤ i → i < r → x < v i := fun i hi1 hi2 => by
      by_cases e : i = p
      · subst e
        have := p3 i hi1 hi2
        rcases Nat.lt_or_ge x (v i) with z | z
        · exact z
        · exact absurd ⟨hi2, by omega⟩ hh
      · have := h2 p i (by omega) hi2
        have := p3 p (Nat.le_refl _) (by omega)
        omega
    refine ⟨r + 1, _, _, _, _, eA, okA, eB, okB, by omega, insN p r x v, insN p r b q, fun k hk => ?_, insN_mono p1 h2 p2 p4, fun z => ?_⟩
    · refine ⟨ins_insN p1 (fun k hk => (h1 k hk).1) k hk, ins_insN p1 (fun k hk => (h1 k hk).2.1) k hk, ins_insN p1 (fun k hk => (h1 k hk).2.2.1) k hk, ins_insN p1 (fun k hk => (h1 k hk).2.2.2.1) k hk, ?_⟩
      have w1 := insN_P (P := fun y => 1 ≤ y ∧ y ≤ V) p1 (fun k hk => ⟨(h1 k hk).2.2.2.2.1, (h1 k hk).2.2.2.2.2.1⟩) ⟨hx1, hx2⟩ k hk
      have w2 := insN_P (P := fun y => S ≤ y ∧ y < E) p1 (fun k hk => (h1 k hk).2.2.2.2.2.2) ⟨hb1, hb2⟩ k hk
      exact ⟨w1.1, w1.2, w2.1, w2.2⟩
    · refine ⟨by omega, ?_⟩
      rw [show r + 1 - 1 = r by omega]
      unfold insN
      rw [if_neg (show ¬ r < p by omega)]
      by_cases e : r = p
      · rw [if_pos e]
        by_cases z2 : t < i
        · obtain ⟨h4, h5⟩ := h3 z2
          have := p2 (r - 1) (by omega)
          omega
        · exact ht (by omega)
      · rw [if_neg e, if_pos (Nat.le_refl _)]
        by_cases z2 : t < i
        · exact (h3 z2).2
        · exfalso
          have hxV := ht (by omega)
          have := p4 p (Nat.le_refl _) (by omega)
          have := (h1 p (by omega)).2.2.2.2.2.1
          omega
/-- how many of the k blocks from S on lie in a slot below i -/
def CN (N S i : Nat) : Nat → Nat
  | 0 => 0
  | k + 1 => CN N S i k + if (S + k) % N < i then 1 else 0
theorem CN_mono (N S i : Nat) : ∀ k, CN N S i k ≤ CN N S (i + 1) k := by
  intro k
  induction k with
  | zero => exact Nat.le_refl _
  | succ k ih =>
    rw [CN, CN]
    by_cases e : (S + k) % N < i
    · rw [if_pos e, if_pos (by omega)]; omega
    · rw [if_neg e]; omega
theorem CN_hit {N S i : Nat} : ∀ k, (∃ m, m < k ∧ (S + m) % N = i) → CN N S i k + 1 ≤ CN N S (i + 1) k := by
  intro k
  induction k with
  | zero => rintro ⟨m, h, -⟩; omega
  | succ k ih =>
    rintro ⟨m, h1, h2⟩
    rw [CN, CN]
    by_cases e : m = k
    · subst e
      have := CN_mono N S i m
      rw [if_neg (by omega), if_pos (by omega)]; omega
    · have := ih ⟨m, by omega, h2⟩
      by_cases e : (S + k) % N < i
      · rw [if_pos e, if_pos (by omega)]; omega
      · rw [if_neg e]; omega
theorem CN_le (N S i : Nat) : ∀ k, CN N S i k ≤ k := by
  intro k
  induction k with
  | zero => exact Nat.le_refl _
  | succ k ih =>
    rw [CN]
    by_cases e : (S + k) % N < i
    · rw [if_pos e]; omega
    · rw [if_neg e]; omega
