/-! the shelf: a version added, on both sides -/
def ins (p m : Nat) (v : Int32) (g : Nat → Int32) : Nat → Int32 := fun i => if i < p then g i else if i = p then v else if i ≤ m then g (i - 1) else g i
theorem ins_0 (p : Nat) (v : Int32) (g : Nat → Int32) : upd g p v = ins p p v g := by
  funext i
  unfold ins
  by_cases e : i = p
  · subst e; rw [pk_us, if_neg (by omega), if_pos rfl]
  · rw [pk_un e]
    by_cases e2 : i < p
    · rw [if_pos e2]
    · rw [if_neg e2, if_neg e, if_neg (by omega)]
theorem ins_s {p m : Nat} (h : p < m) (v : Int32) (g : Nat → Int32) : ins p (m - 1) v (upd g m (g (m - 1))) = ins p m v g := by
  funext i
  unfold ins
  by_cases e1 : i < p
  · rw [if_pos e1, if_pos e1, pk_un (by omega)]
  · rw [if_neg e1, if_neg e1]
    by_cases e2 : i = p
    · rw [if_pos e2, if_pos e2]
    · rw [if_neg e2, if_neg e2]
      by_cases e3 : i ≤ m - 1
      · rw [if_pos e3, if_pos (by omega), pk_un (by omega)]
      · rw [if_neg e3]
        by_cases e4 : i = m
        · subst e4; rw [pk_us, if_pos (Nat.le_refl _)]
        · rw [pk_un e4, if_neg (by omega)]
theorem sh_ins_l {nb nt : Nat} {p : Nat} (x2 x3 css : Int32) : ∀ (f m : Nat) (cve cro : Nat → Int32), p ≤ m → m < 200 → m < p + f →
    f_SH_insert_6 f (nI p) x2 x3 (nI m) css cve cro = (css + 1, ins p m x2 cve, ins p m x3 cro) ∧ ok_SH_insert_6 nb nt f (nI p) x2 x3 (nI m) css cve cro := by
  intro f
  induction f with
  | zero => intro m cve cro h1 h2 h3; omega
  | succ f ih =>
    intro m cve cro h1 h2 h3
    rw [f_SH_insert_6, ok_SH_insert_6]
    by_cases e : m = p
    · subst e
      have c : nI m ≤ nI m := nI_le (Nat.le_refl _) (by omega)
      rw [if_pos c, nI_clamp (by omega), ins_0, ins_0]
      exact ⟨rfl, fun _ => ⟨vp_in_nI (by omega) (by omega), vp_in_nI (by omega) (by omega)⟩, fun z => absurd c z⟩
    · have c : ¬ nI m ≤ nI p := nI_ge (by omega) (by omega)
      have d1 : nI m - (1 : Int32) = nI (m - 1) := by rw [show (1 : Int32) = nI 1 from rfl, pk_sub (by omega)]
      have d2 : nI m + (-1 : Int32) = nI (m - 1) := by
        have := pk_m1 (m - 1)
        rw [show m - 1 + 1 = m by omega] at this
        exact this
      rw [if_neg c, d1, d2, nI_clamp (show m < 2 ^ 31 by omega), nI_clamp (show m - 1 < 2 ^ 31 by omega)]
      have := ih (m - 1) (upd cve m (cve (m - 1))) (upd cro m (cro (m - 1))) (by omega) (by omega) (by omega)
      rw [ins_s (by omega), ins_s (by omega)] at this
      have w1 : vp_in (nI (m - 1)) 200 := vp_in_nI (by omega) (by omega)
      have w2 : vp_in (nI m) 200 := vp_in_nI (by omega) (by omega)
      exact ⟨this.1, fun z => absurd z c, fun _ => ⟨w1, w2, w1, w2, this.2⟩⟩
theorem mo_ins_eq (v b a : Int32) : ∀ (f : Nat) (x4 mrs : Int32) (mve mrb : Nat → Int32), f_MO_keep_77 f v b a x4 mrs mve mrb = f_SH_insert_6 f a v b x4 mrs mve mrb := by
  intro f
  induction f with
  | zero => intro x4 mrs mve mrb; rw [f_MO_keep_77, f_SH_insert_6]
  | succ f ih =>
    intro x4 mrs mve mrb
    rw [f_MO_keep_77, f_SH_insert_6, ih]
theorem mo_ins_ok {p : Nat} (x2 x3 mrs : Int32) : ∀ (f m : Nat) (mve mrb : Nat → Int32), p ≤ m → m < 200 → m < p + f → ok_MO_keep_77 f x2 x3 (nI p) (nI m) mrs mve mrb := by
  intro f
  induction f with
  | zero => intro m mve mrb h1 h2 h3; omega
  | succ f ih =>
    intro m mve mrb h1 h2 h3
    rw [ok_MO_keep_77]
    by_cases e : m = p
    · subst e
      have c : nI m ≤ nI m := nI_le (Nat.le_refl _) (by omega)
      exact ⟨fun _ => ⟨vp_in_nI (by omega) (by omega), vp_in_nI (by omega) (by omega)⟩, fun z => absurd c z⟩
    · have c : ¬ nI m ≤ nI p := nI_ge (by omega) (by omega)
      have d1 : nI m - (1 : Int32) = nI (m - 1) := by rw [show (1 : Int32) = nI 1 from rfl, pk_sub (by omega)]
      have d2 : nI m + (-1 : Int32) = nI (m - 1) := by
        have := pk_m1 (m - 1)
        rw [show m - 1 + 1 = m by omega] at this
        exact this
      rw [d1, d2, nI_clamp (show m < 2 ^ 31 by omega), nI_clamp (show m - 1 < 2 ^ 31 by omega)]
      have w1 : vp_in (nI (m - 1)) 4000 := vp_in_nI (by omega) (by omega)
      have w2 : vp_in (nI m) 4000 := vp_in_nI (by omega) (by omega)
      exact ⟨fun z => absurd z c, fun _ => ⟨w1, w2, w1, w2, ih (m - 1) _ _ (by omega) (by omega) (by omega)⟩⟩
/-- where a version belongs: a new one, or one that is there -/
def hit (r p x : Nat) (v : Nat → Nat) : Prop := p < r ∧ v p = x
theorem sh_add_l {nb nt r p x q : Nat} {v : Nat → Nat} {cve cro : Nat → Int32} (hr : r < 200) (hv : ∀ i, i < r → cve i = nI (v i) ∧ v i < 2 ^ 30) (hx : x < 2 ^ 30) (hp : p ≤ r) (hlo : ∀ i, i < p → v i < x) (hhi : ∀ i, p ≤ i → i < r → x ≤ v i) (hmono : ∀ i k, i < k → k < r → v i < v k) :
    ∀ (f m : Nat), m ≤ r → p ≤ m → (p < r → v p = x → p + 1 ≤ m) → m < p + f →
    ((p < r ∧ v p = x → f_SH_add_5 f (nI x) (nI q) (nI m) (nI r) cve cro = (nI r, cve, upd cro p (if cro p < nI q then nI q else cro p))) ∧ (¬ (p < r ∧ v p = x) → f_SH_add_5 f (nI x) (nI q) (nI m) (nI r) cve cro = (nI (r + 1), ins p r (nI x) cve, ins p r (nI q) cro))) ∧ ok_SH_add_5 nb nt f (nI x) (nI q) (nI m) (nI r) cve cro := by
  have hins : f_SH_insert (nI p) (nI x) (nI q) (nI r) cve cro = (nI (r + 1), ins p r (nI x) cve, ins p r (nI q) cro) ∧ ok_SH_insert nb nt (nI p) (nI x) (nI q) (nI r) cve cro := by
    have := sh_ins_l (nb := nb) (nt := nt) (p := p) (nI x) (nI q) (nI r) 1024 r cve cro hp hr (by omega)
    rw [nI_1] at this
    unfold f_SH_insert ok_SH_insert
    exact this
  have c200 : ¬ (200 : Int32) ≤ nI r := nI_ge (a := r) (b := 200) (by omega) (by omega)
  -- what happens where the search stops at p, no hit
  have stop0 : ¬ (p < r ∧ v p = x) → f_SH_add_27 (nI x) (nI q) (nI p) (nI r) cve cro = (nI (r + 1), ins p r (nI x) cve, ins p r (nI q) cro) ∧ ok_SH_add_27 nb nt (nI x) (nI q) (nI p) (nI r) cve cro := by
    intro hno
    unfold f_SH_add_27 ok_SH_add_27
    rw [hins.1, bindc_def]
    by_cases e0 : p = 0
    · subst e0
      have c : nI 0 ≤ 0 := by decide
      simp only [if_pos c, if_neg c200]
      exact ⟨trivial, fun _ => ⟨fun _ => trivial, fun _ => hins.2⟩, fun z => absurd c z⟩
    · have c : ¬ nI p ≤ 0 := nI_nle (by omega) (by omega)
      have d1 : nI p - (1 : Int32) = nI (p - 1) := by rw [show (1 : Int32) = nI 1 from rfl, pk_sub (by omega)]
      have hlt := hlo (p - 1) (by omega)
      have hne : ¬ cve (p - 1) = nI x := by
        rw [(hv (p - 1) (by omega)).1]
        intro z
        have := (nI_eq (by omega) (by omega)).mp z
        omega
      have w1 : vp_in (nI (p - 1)) 200 := vp_in_nI (by omega) (by omega)
      simp only [if_neg c, d1, nI_clamp (show p - 1 < 2 ^ 31 by omega), if_neg hne, if_neg c200]
      exact ⟨trivial, fun z => absurd z c, fun _ => ⟨w1, fun _ => ⟨w1, w1⟩, fun _ => ⟨fun _ => trivial, fun _ => hins.2⟩⟩⟩
  have stop1 : (p < r ∧ v p = x) → f_SH_add_27 (nI x) (nI q) (nI (p + 1)) (nI r) cve cro = (nI r, cve, upd cro p (if cro p < nI q then nI q else cro p)) ∧ ok_SH_add_27 nb nt (nI x) (nI q) (nI (p + 1)) (nI r) cve cro := by
    intro hyes
    unfold f_SH_add_27 ok_SH_add_27
    have c : ¬ nI (p + 1) ≤ 0 := nI_nle (by omega) (by omega)
    have d1 : nI (p + 1) - (1 : Int32) = nI p := nI_pred p
    have he : cve p = nI x := by rw [(hv p hyes.1).1, hyes.2]
    have w1 : vp_in (nI p) 200 := vp_in_nI (by omega) (by omega)
    simp only [if_neg c, d1, nI_clamp (show p < 2 ^ 31 by omega), if_pos he]
    exact ⟨trivial, fun z => absurd z c, fun _ => ⟨w1, fun _ => ⟨w1, w1⟩, fun z => absurd he z⟩⟩
  intro f
  induction f with
  | zero => intro m h1 h2 h4 h5; omega
  | succ f ih =>
    intro m h1 h2 h4 h5
    rw [f_SH_add_5, ok_SH_add_5]
    by_cases e0 : m = 0
    · subst e0
      have hp0 : p = 0 := by omega
      subst hp0
      have hno : ¬ (0 < r ∧ v 0 = x) := fun z => by have := h4 z.1 z.2; omega
      have c : nI 0 ≤ 0 := by decide
      rw [if_pos c]
      have s0 := stop0 hno
      exact ⟨⟨fun z => absurd z hno, fun _ => s0.1⟩, fun _ => s0.2, fun z => absurd c z⟩
    · have c : ¬ nI m ≤ 0 := nI_nle (by omega) (by omega)
      have d1 : nI m - (1 : Int32) = nI (m - 1) := by rw [show (1 : Int32) = nI 1 from rfl, pk_sub (by omega)]
      have d2 : nI m + (-1 : Int32) = nI (m - 1) := by
        have := pk_m1 (m - 1)
        rw [show m - 1 + 1 = m by omega] at this
        exact this
      have w1 : vp_in (nI (m - 1)) 200 := vp_in_nI (by omega) (by omega)
      obtain ⟨g1, g2⟩ := hv (m - 1) (by omega)
      rw [if_neg c, d1, d2, nI_clamp (show m - 1 < 2 ^ 31 by omega), g1]
      by_cases e1 : m = p
      · have c2 : nI (v (m - 1)) ≤ nI x := nI_le (Nat.le_of_lt (hlo (m - 1) (by omega))) (by omega)
        rw [if_pos c2]
        subst e1
        have hno : ¬ (m < r ∧ v m = x) := fun z => by have := h4 z.1 z.2; omega
        have s0 := stop0 hno
        exact ⟨⟨fun z => absurd z hno, fun _ => s0.1⟩, fun z => absurd z c, fun _ => ⟨w1, fun _ => s0.2, fun z => absurd c2 z⟩⟩
      · by_cases e2 : m = p + 1 ∧ v p = x
        · obtain ⟨e2, e3⟩ := e2
          subst e2
          have hyes : p < r ∧ v p = x := ⟨by omega, e3⟩
          have c2 : nI (v (p + 1 - 1)) ≤ nI x := by
            rw [show p + 1 - 1 = p by omega, e3]; exact nI_le (Nat.le_refl _) (by omega)
          rw [if_pos c2]
          have s1 := stop1 hyes
          exact ⟨⟨fun _ => s1.1, fun z => absurd hyes z⟩, fun z => absurd z c, fun _ => ⟨w1, fun _ => s1.2, fun z => absurd c2 z⟩⟩
        · have hgt : x < v (m - 1) := by
            have h6 := hhi (m - 1) (by omega) (by omega)
            rcases Nat.lt_or_ge x (v (m - 1)) with h7 | h7
            · exact h7
            · exfalso
              by_cases e3 : m - 1 = p
              · exact e2 ⟨by omega, by rw [← e3]; omega⟩
              · have h8 := hmono p (m - 1) (by omega) (by omega)
                have h9 := hhi p (Nat.le_refl _) (by omega)
                omega
          have c2 : ¬ nI (v (m - 1)) ≤ nI x := nI_ge hgt (by omega)
          rw [if_neg c2]
          have hstep : p < r → v p = x → p + 1 ≤ m - 1 := fun z1 z2 => by
            have := h4 z1 z2
            rcases Nat.lt_or_ge p (m - 1) with h7 | h7
            · omega
            · exact absurd ⟨by omega, z2⟩ e2
          have := ih (m - 1) (by omega) (by omega) hstep (by omega)
          exact ⟨this.1, fun z => absurd z c, fun _ => ⟨w1, fun z => absurd z c2, fun _ => this.2⟩⟩
theorem mo_keep_l {r p x q : Nat} {v : Nat → Nat} {mve mrb : Nat → Int32} (hr : r < 200) (hv : ∀ i, i < r → mve i = nI (v i) ∧ v i < 2 ^ 30) (hx : x < 2 ^ 30) (hp : p ≤ r) (hlo : ∀ i, i < p → v i < x) (hhi : ∀ i, p ≤ i → i < r → x ≤ v i) :
    ∀ (f m : Nat), m ≤ p → p < m + f →
    ((p < r ∧ v p = x → f_MO_keep_2 f (nI x) (nI q) (nI m) (nI r) mve mrb = (nI r, mve, upd mrb p (if mrb p ≤ nI q then nI q else mrb p))) ∧ (¬ (p < r ∧ v p = x) → f_MO_keep_2 f (nI x) (nI q) (nI m) (nI r) mve mrb = (nI (r + 1), ins p r (nI x) mve, ins p r (nI q) mrb))) ∧ ok_MO_keep_2 f (nI x) (nI q) (nI m) (nI r) mve mrb := by
  have hins : f_MO_keep_71 (nI x) (nI q) (nI p) (nI r) mve mrb = (nI (r + 1), ins p r (nI x) mve, ins p r (nI q) mrb) ∧ ok_MO_keep_71 (nI x) (nI q) (nI p) (nI r) mve mrb := by
    have h1 := sh_ins_l (nb := 0) (nt := 0) (p := p) (nI x) (nI q) (nI r) 1024 r mve mrb hp hr (by omega)
    have h2 := mo_ins_ok (p := p) (nI x) (nI q) (nI r) 1024 r mve mrb hp hr (by omega)
    have h3 := h1.1
    rw [nI_1, ← mo_ins_eq] at h3
    unfold f_MO_keep_71 ok_MO_keep_71
    exact ⟨h3, h2⟩
  have w1 : p < r → vp_in (nI p) 4000 := fun _ => vp_in_nI (by omega) (by omega)
  have stop0 : ¬ (p < r ∧ v p = x) → f_MO_keep_26 (nI x) (nI q) (nI p) (nI r) mve mrb = (nI (r + 1), ins p r (nI x) mve, ins p r (nI q) mrb) ∧ ok_MO_keep_26 (nI x) (nI q) (nI p) (nI r) mve mrb := by
    intro hno
    unfold f_MO_keep_26 ok_MO_keep_26
    by_cases e0 : p = r
    · have c : nI r ≤ nI p := nI_le (by omega) (by omega)
      rw [if_pos c]
      exact ⟨hins.1, fun _ => hins.2, fun z => absurd c z⟩
    · have hpr : p < r := by omega
      have c : ¬ nI r ≤ nI p := nI_ge hpr (by omega)
      have hne : ¬ mve p = nI x := by
        rw [(hv p hpr).1]
        intro z
        exact hno ⟨hpr, (nI_eq (by have := (hv p hpr).2; omega) (by omega)).mp z⟩
      rw [if_neg c, nI_clamp (show p < 2 ^ 31 by omega), if_neg hne]
      exact ⟨hins.1, fun z => absurd z c, fun _ => ⟨w1 hpr, fun z => absurd z hne, fun _ => hins.2⟩⟩
  have stop1 : (p < r ∧ v p = x) → f_MO_keep_26 (nI x) (nI q) (nI p) (nI r) mve mrb = (nI r, mve, upd mrb p (if mrb p ≤ nI q then nI q else mrb p)) ∧ ok_MO_keep_26 (nI x) (nI q) (nI p) (nI r) mve mrb := by
    intro hyes
    have hpr := hyes.1
    unfold f_MO_keep_26 ok_MO_keep_26
    have c : ¬ nI r ≤ nI p := nI_ge hpr (by omega)
    have he : mve p = nI x := by rw [(hv p hyes.1).1, hyes.2]
    rw [if_neg c, nI_clamp (show p < 2 ^ 31 by omega), if_pos he]
    refine ⟨?_, fun z => absurd z c, fun _ => ⟨w1 hpr, fun _ => ⟨w1 hpr, fun _ => w1 hpr, fun _ => ⟨w1 hpr, w1 hpr⟩⟩, fun z => absurd he z⟩⟩
    by_cases c2 : mrb p ≤ nI q
    · rw [if_pos c2, if_pos c2]
    · rw [if_neg c2, if_neg c2]
  intro f
  induction f with
  | zero => intro m h1 h2; omega
  | succ f ih =>
    intro m h1 h2
    rw [f_MO_keep_2, ok_MO_keep_2]
    by_cases e1 : m = p
    · subst e1
      have hst : ((m < r ∧ v m = x → f_MO_keep_26 (nI x) (nI q) (nI m) (nI r) mve mrb = (nI r, mve, upd mrb m (if mrb m ≤ nI q then nI q else mrb m))) ∧ (¬ (m < r ∧ v m = x) → f_MO_keep_26 (nI x) (nI q) (nI m) (nI r) mve mrb = (nI (r + 1), ins m r (nI x) mve, ins m r (nI q) mrb))) ∧ ok_MO_keep_26 (nI x) (nI q) (nI m) (nI r) mve mrb := by
        by_cases hyes : m < r ∧ v m = x
        · exact ⟨⟨fun _ => (stop1 hyes).1, fun z => absurd hyes z⟩, (stop1 hyes).2⟩
        · exact ⟨⟨fun z => absurd z hyes, fun _ => (stop0 hyes).1⟩, (stop0 hyes).2⟩
      by_cases e0 : m = r
      · have c : nI r ≤ nI m := nI_le (by omega) (by omega)
        rw [if_pos c]
        exact ⟨hst.1, fun _ => hst.2, fun z => absurd c z⟩
      · have hpr : m < r := by omega
        have c : ¬ nI r ≤ nI m := nI_ge hpr (by omega)
        obtain ⟨g1, g2⟩ := hv m hpr
        have c2 : nI x ≤ nI (v m) := nI_le (hhi m (Nat.le_refl _) hpr) (by omega)
        rw [if_neg c, nI_clamp (show m < 2 ^ 31 by omega), g1, if_pos c2]
        exact ⟨hst.1, fun z => absurd z c, fun _ => ⟨w1 hpr, fun _ => hst.2, fun z => absurd c2 z⟩⟩
    · have hpr : m < r := by omega
      have c : ¬ nI r ≤ nI m := nI_ge hpr (by omega)
      obtain ⟨g1, g2⟩ := hv m hpr
      have c2 : ¬ nI x ≤ nI (v m) := nI_ge (hlo m (by omega)) (by omega)
      rw [if_neg c, nI_clamp (show m < 2 ^ 31 by omega), g1, if_neg c2, nI_1]
      have := ih (m + 1) (by omega) (by omega)
      exact ⟨this.1, fun z => absurd z c, fun _ => ⟨vp_in_nI (by omega) (by omega), fun z => absurd z c2, fun _ => this.2⟩⟩
