/-! the end of a version's writing: the kept versions -/
theorem upd_self (g : Nat → Int32) (k : Nat) : upd g k (g k) = g := by
  funext i
  by_cases e : i = k
  · rw [e]; exact pk_us
  · rw [pk_un e]
theorem f176_keep {r : Nat} (hr : r ≤ 200) {S : Int32} {msl men mnw mdn mpw mwr mtb mrc mnx : Int32} {mro mit mve mrb mic mlb mrw mnb mlk mnk mmd : Nat → Int32} (hk : ∀ k, k < r → ¬ mrb k < S) :
    ∀ (f k : Nat), k ≤ r → r < k + f → f_MO_writeAll_176 f (nI k) (nI k) msl S men mnw mdn mpw mwr (nI r) mtb mrc mnx mro mit mve mrb mic mlb mrw mnb mlk mnk mmd = (mnw, S, men, mnw, mdn, mpw, mwr, nI (r + 1), mnx, mro, mit, upd mve r mnw, upd mrb r (men - 1), mlk, mnk, mmd) ∧ ok_MO_writeAll_176 f (nI k) (nI k) msl S men mnw mdn mpw mwr (nI r) mtb mrc mnx mro mit mve mrb mic mlb mrw mnb mlk mnk mmd := by
  intro f
  induction f with
  | zero => intro k h1 h2; omega
  | succ f ih =>
    intro k h1 h2
    rw [f_MO_writeAll_176, ok_MO_writeAll_176]
    by_cases e : k = r
    · subst e
      have c : nI k ≤ nI k := nI_le (Nat.le_refl _) (by omega)
      have w : vp_in (nI k) 4000 := vp_in_nI (by omega) (by omega)
      rw [if_pos c, nI_1, nI_clamp (by omega)]
      exact ⟨rfl, fun _ => ⟨w, w⟩, fun z => absurd c z⟩
    · have c : ¬ nI r ≤ nI k := nI_ge (by omega) (by omega)
      have w : vp_in (nI k) 4000 := vp_in_nI (by omega) (by omega)
      have q := hk k (by omega)
      rw [if_neg c, nI_clamp (show k < 2 ^ 31 by omega), if_neg q, nI_1, upd_self, upd_self]
      have := ih (k + 1) (by omega) (by omega)
      exact ⟨this.1, fun z => absurd z c, fun _ => ⟨w, fun z => absurd z q, fun _ => ⟨w, w, w, w, this.2⟩⟩⟩
theorem f176_drop {r : Nat} (hr : r ≤ 200) {S : Int32} {msl men mnw mdn mpw mwr mtb mrc mnx : Int32} {mro mit mve mrb mic mlb mrw mnb mlk mnk mmd : Nat → Int32} (hk : ∀ k, k < r → mrb k < S) :
    ∀ (f k : Nat), k ≤ r → r < k + f → f_MO_writeAll_176 f 0 (nI k) msl S men mnw mdn mpw mwr (nI r) mtb mrc mnx mro mit mve mrb mic mlb mrw mnb mlk mnk mmd = (mnw, S, men, mnw, mdn, mpw, mwr, nI 1, mnx, mro, mit, upd mve 0 mnw, upd mrb 0 (men - 1), mlk, mnk, mmd) ∧ ok_MO_writeAll_176 f 0 (nI k) msl S men mnw mdn mpw mwr (nI r) mtb mrc mnx mro mit mve mrb mic mlb mrw mnb mlk mnk mmd := by
  intro f
  induction f with
  | zero => intro k h1 h2; omega
  | succ f ih =>
    intro k h1 h2
    rw [f_MO_writeAll_176, ok_MO_writeAll_176]
    by_cases e : k = r
    · subst e
      have c : nI k ≤ nI k := nI_le (Nat.le_refl _) (by omega)
      have w : vp_in (0 : Int32) 4000 := show vp_in (nI 0) 4000 from vp_in_nI (by omega) (by omega)
      rw [if_pos c]
      exact ⟨rfl, fun _ => ⟨w, w⟩, fun z => absurd c z⟩
    · have c : ¬ nI r ≤ nI k := nI_ge (by omega) (by omega)
      have w : vp_in (nI k) 4000 := vp_in_nI (by omega) (by omega)
      have q := hk k (by omega)
      rw [if_neg c, nI_clamp (show k < 2 ^ 31 by omega), if_pos q, nI_1]
      have := ih (k + 1) (by omega) (by omega)
      exact ⟨this.1, fun z => absurd z c, fun _ => ⟨w, fun _ => this.2, fun z => absurd q z⟩⟩
/-- a version above all is added at the end -/
theorem add_end {nb nt r x q : Nat} (hr : r < 200) (hx : x < 2 ^ 30) {v : Nat → Nat} {cve cro : Nat → Int32} (hv : ∀ i, i < r → cve i = nI (v i) ∧ v i < x) (hm : ∀ i k, i < k → k < r → v i < v k) : f_SH_add (nI x) (nI q) (nI r) cve cro = (nI (r + 1), upd cve r (nI x), upd cro r (nI q)) ∧ ok_SH_add nb nt (nI x) (nI q) (nI r) cve cro := by
  have A := sh_add_l (nb := nb) (nt := nt) (q := q) (cro := cro) hr (fun k hk => ⟨(hv k hk).1, by have := (hv k hk).2; omega⟩) hx (Nat.le_refl r) (fun i hi => (hv i hi).2) (fun i h1 h2 => by omega) hm 1024 r (Nat.le_refl _) (Nat.le_refl _) (fun a _ => by omega) (by omega)
  have A1 := A.1.2 (fun z => absurd z.1 (by omega))
  rw [← ins_0, ← ins_0] at A1
  refine ⟨?_, ?_⟩
  · unfold f_SH_add; exact A1
  · unfold ok_SH_add; exact A.2
theorem room_m {N S E : Nat} (h : E ≤ S + N) (hN : N ≤ 200) (hE : E < 2 ^ 30) : nI N - nI E + nI S = nI (N + S - E) := by
  rw [Int32.sub_eq_add_neg, Int32.add_assoc, Int32.add_comm (-(nI E)), ← Int32.add_assoc, nI_add, ← Int32.sub_eq_add_neg, pk_sub (by omega)]
theorem room_c {N S E R : Nat} (h1 : S ≤ E) (h2 : E ≤ R) (hR : R < 2 ^ 30) (hN : N ≤ 200) : f_RL_hasRoom (nI R + 1 - nI E) (nI N) (nI S) (nI E) = (if N < R + 1 - S then 0 else 1, ()) := by
  unfold f_RL_hasRoom
  rw [nI_1, pk_sub h1, pk_sub (show E ≤ R + 1 by omega), nI_add, show E - S + (R + 1 - E) = R + 1 - S by omega]
  by_cases e : N < R + 1 - S
  · rw [if_pos (nI_lt e (by omega)), if_pos e]
  · rw [if_neg (nI_nlt (by omega) (by omega)), if_neg e]
/-- what the newest version's number is -/
theorem newest_v {j N S E r : Nat} {cst cen mst men css : Int32} {cve cro : Nat → Int32} {mrs : Int32} {mve mrb : Nat → Int32} {mnw : Int32} (h : IRo j N S E r cst cen mst men css cve cro mrs mve mrb mnw) (hj : j < 512) : ∃ (V : Nat) (v : Nat → Nat), mnw = nI V ∧ V ≤ 1000000 + j ∧ (∀ i, i < r → cve i = nI (v i) ∧ v i < V + 1) ∧ ∀ i k, i < k → k < r → v i < v k := by
  obtain ⟨-, -, h5, h6, h7⟩ := h
  have hv : ∀ i, i < r → cve i = nI (cve i).toNatClampNeg ∧ (cve i).toNatClampNeg ≤ 1000000 + j := fun i hi => by
    obtain ⟨-, -, v, q, c1, -, -, c3, -⟩ := h5 i hi
    rw [c1, nI_clamp (by omega)]; exact ⟨rfl, c3⟩
  have hm : ∀ i k, i < k → k < r → (cve i).toNatClampNeg < (cve k).toNatClampNeg := fun i k hik hk => by
    have := h6 i k hik hk
    obtain ⟨a1, a2⟩ := hv i (by omega)
    obtain ⟨b1, b2⟩ := hv k hk
    rw [a1, b1] at this
    exact (nI_ltI (by omega) (by omega)).mp this
  rcases Nat.eq_zero_or_pos r with e | e
  · rw [if_pos e] at h7
    exact ⟨0, fun _ => 0, h7, by omega, fun i hi => absurd hi (by omega), fun i k _ hk => absurd hk (by omega)⟩
  · rw [if_neg (by omega)] at h7
    refine ⟨(cve (r - 1)).toNatClampNeg, fun i => (cve i).toNatClampNeg, h7.trans (hv (r - 1) (by omega)).1, (hv (r - 1) (by omega)).2, fun i hi => ⟨(hv i hi).1, ?_⟩, hm⟩
    show (cve i).toNatClampNeg < _
    by_cases e2 : i = r - 1
    · rw [e2]; omega
    · have := hm i (r - 1) (by omega) (by omega)
      omega
