/-! commit and copy: bits of a page -/
def BY (x : Int32) : Prop := ∃ a, a < 256 ∧ x = nI a
def bset (x : Int32) (k : Nat) : Int32 := x ||| ((1 : Int32) <<< (nI k &&& 31))
def bclr (x : Int32) (k : Nat) : Int32 := x &&& (((1 : Int32) <<< (nI k &&& 31)) ^^^ (-1 : Int32))
theorem by_0 : BY 0 := ⟨0, by omega, rfl⟩
def oneN (a k : Nat) : Nat := if a / 2 ^ k % 2 = 1 then a else a + 2 ^ k
def zeroN (a k : Nat) : Nat := if a / 2 ^ k % 2 = 1 then a - 2 ^ k else a
theorem bset_n : ∀ a, a < 256 → ∀ k, k < 8 → bset (nI a) k = nI (oneN a k) ∧ oneN a k < 256 := by unfold bset oneN; decide +kernel
theorem bclr_n : ∀ a, a < 256 → ∀ k, k < 8 → bclr (nI a) k = nI (zeroN a k) ∧ zeroN a k < 256 := by unfold bclr zeroN; decide +kernel
theorem bt_n : ∀ a, a < 256 → ∀ k, k < 8 → bt (nI a) k = (if a / 2 ^ k % 2 = 1 then 1 else 0) ∧ (nI a >>> (nI k &&& 31)) &&& (1 : Int32) = (if a / 2 ^ k % 2 = 1 then 1 else 0) ∧ ((nI a &&& ((1 : Int32) <<< (nI k &&& 31)) = 0) ↔ ¬ a / 2 ^ k % 2 = 1) := by unfold bt; decide +kernel
theorem one_bit : ∀ a, a < 256 → ∀ k, k < 8 → ∀ i, i < 8 → (oneN a k / 2 ^ i % 2 = 1 ↔ i = k ∨ a / 2 ^ i % 2 = 1) := by unfold oneN; decide +kernel
theorem zero_bit : ∀ a, a < 256 → ∀ k, k < 8 → ∀ i, i < 8 → (zeroN a k / 2 ^ i % 2 = 1 ↔ ¬ i = k ∧ a / 2 ^ i % 2 = 1) := by unfold zeroN; decide +kernel
theorem grow_1 : ∀ a, a < 256 → ∀ k, k < 8 → a / 2 ^ k % 2 = 1 → oneN (a % 2 ^ k) k = a % 2 ^ (k + 1) := by unfold oneN; decide +kernel
theorem grow_0 : ∀ a, a < 256 → ∀ k, k < 8 → ¬ a / 2 ^ k % 2 = 1 → zeroN (a % 2 ^ k) k = a % 2 ^ (k + 1) := by unfold zeroN; decide +kernel
theorem by_set {x : Int32} (h : BY x) {k : Nat} (hk : k < 8) : BY (bset x k) := by
  obtain ⟨a, h1, rfl⟩ := h
  exact ⟨_, (bset_n a h1 k hk).2, (bset_n a h1 k hk).1⟩
theorem by_clr {x : Int32} (h : BY x) {k : Nat} (hk : k < 8) : BY (bclr x k) := by
  obtain ⟨a, h1, rfl⟩ := h
  exact ⟨_, (bclr_n a h1 k hk).2, (bclr_n a h1 k hk).1⟩
theorem bt_set {x : Int32} (h : BY x) {k i : Nat} (hk : k < 8) (hi : i < 8) : bt (bset x k) i = if i = k then 1 else bt x i := by
  obtain ⟨a, h1, rfl⟩ := h
  obtain ⟨e1, e2⟩ := bset_n a h1 k hk
  rw [e1, (bt_n _ e2 i hi).1, (bt_n _ h1 i hi).1]
  have := one_bit a h1 k hk i hi
  by_cases c : i = k
  · rw [if_pos (this.mpr (Or.inl c)), if_pos c]
  · rw [if_neg c]
    by_cases d : a / 2 ^ i % 2 = 1
    · rw [if_pos (this.mpr (Or.inr d)), if_pos d]
    · rw [if_neg (fun z => (this.mp z).elim c d), if_neg d]
theorem bt_clr {x : Int32} (h : BY x) {k i : Nat} (hk : k < 8) (hi : i < 8) : bt (bclr x k) i = if i = k then 0 else bt x i := by
  obtain ⟨a, h1, rfl⟩ := h
  obtain ⟨e1, e2⟩ := bclr_n a h1 k hk
  rw [e1, (bt_n _ e2 i hi).1, (bt_n _ h1 i hi).1]
  have := zero_bit a h1 k hk i hi
  by_cases c : i = k
  · rw [if_neg (fun z => (this.mp z).1 c), if_pos c]
  · rw [if_neg c]
    by_cases d : a / 2 ^ i % 2 = 1
    · rw [if_pos (this.mpr ⟨c, d⟩), if_pos d]
    · rw [if_neg (fun z => d (this.mp z).2), if_neg d]
theorem bt_sh {x : Int32} (h : BY x) {k : Nat} (hk : k < 8) : (x >>> (nI k &&& 31)) &&& (1 : Int32) = bt x k := by
  obtain ⟨a, h1, rfl⟩ := h
  rw [(bt_n a h1 k hk).1, (bt_n a h1 k hk).2.1]
theorem bt_and {x : Int32} (h : BY x) {k : Nat} (hk : k < 8) : (x &&& ((1 : Int32) <<< (nI k &&& 31)) = 0) ↔ bt x k = 0 := by
  obtain ⟨a, h1, rfl⟩ := h
  rw [(bt_n a h1 k hk).1, (bt_n a h1 k hk).2.2]
  by_cases d : a / 2 ^ k % 2 = 1
  · rw [if_pos d]; exact ⟨fun z => absurd d z, fun z => absurd z no1⟩
  · rw [if_neg d]; exact ⟨fun _ => rfl, fun _ => d⟩
theorem bt_z (k : Nat) (hk : k < 8) : bt 0 k = 0 := by
  have := (bt_n 0 (by omega) k hk).1
  rw [nI_0] at this
  rw [this, Nat.zero_div, Nat.zero_mod, if_neg (by omega)]
/-- a page's bits after those of the changed children are set anew -/
def up (B : Int32) (c L : Nat → Int32) : Nat → Int32
  | 0 => B
  | k + 1 => if c k = 0 then up B c L k else if L k = 0 then bclr (up B c L k) k else bset (up B c L k) k
theorem by_up {B : Int32} {c L : Nat → Int32} (h : BY B) : ∀ j, j ≤ 8 → BY (up B c L j) := by
  intro j
  induction j with
  | zero => intro _; exact h
  | succ j ih =>
    intro hj
    rw [up]
    by_cases e : c j = 0
    · rw [if_pos e]; exact ih (by omega)
    · rw [if_neg e]
      by_cases e2 : L j = 0
      · rw [if_pos e2]; exact by_clr (ih (by omega)) (by omega)
      · rw [if_neg e2]; exact by_set (ih (by omega)) (by omega)
theorem bt_up {B : Int32} {c L : Nat → Int32} (h : BY B) {k : Nat} (hk : k < 8) : ∀ j, j ≤ 8 → bt (up B c L j) k = if k < j ∧ ¬ c k = 0 then (if L k = 0 then 0 else 1) else bt B k := by
  intro j
  induction j with
  | zero => intro _; rw [up, if_neg (by omega)]
  | succ j ih =>
    intro hj
    have ih := ih (by omega)
    have hby := by_up (c := c) (L := L) h j (by omega)
    rw [up]
    by_cases e : c j = 0
    · rw [if_pos e, ih]
      by_cases e2 : k = j
      · subst e2
        rw [if_neg (by omega), if_neg (fun z => z.2 e)]
      · by_cases e3 : k < j ∧ ¬ c k = 0
        · rw [if_pos e3, if_pos (show k < j + 1 ∧ ¬ c k = 0 from ⟨by omega, e3.2⟩)]
        · rw [if_neg e3, if_neg (fun z => e3 ⟨by omega, z.2⟩)]
    · rw [if_neg e]
      by_cases e2 : k = j
      · subst e2
        rw [if_pos (show k < k + 1 ∧ ¬ c k = 0 from ⟨by omega, e⟩)]
        by_cases e4 : L k = 0
        · rw [if_pos e4, if_pos e4, bt_clr hby hk hk, if_pos rfl]
        · rw [if_neg e4, if_neg e4, bt_set hby hk hk, if_pos rfl]
      · have h5 : bt (if L j = 0 then bclr (up B c L j) j else bset (up B c L j) j) k = bt (up B c L j) k := by
          by_cases e4 : L j = 0
          · rw [if_pos e4, bt_clr hby (by omega) hk, if_neg e2]
          · rw [if_neg e4, bt_set hby (by omega) hk, if_neg e2]
        rw [h5, ih]
        by_cases e3 : k < j ∧ ¬ c k = 0
        · rw [if_pos e3, if_pos (show k < j + 1 ∧ ¬ c k = 0 from ⟨by omega, e3.2⟩)]
        · rw [if_neg e3, if_neg (fun z => e3 ⟨by omega, z.2⟩)]
theorem up_none {B : Int32} {c L : Nat → Int32} : ∀ j, (∀ k, k < j → c k = 0) → up B c L j = B := by
  intro j
  induction j with
  | zero => intro _; rfl
  | succ j ih => intro h; rw [up, if_pos (h j (by omega))]; exact ih (fun k hk => h k (by omega))
/-- an entry set -/
theorem pg_set {nb nt p k : Nat} {t v : Int32} {cbi ces : Nat → Int32} (hp : p < 73) (hk : k < 8) : f_PG_setEntry (nI p) (nI k) t v cbi ces = (upd cbi p (if t = 0 then bclr (cbi p) k else bset (cbi p) k), upd ces (p * 8 + k) (if t = 0 then 0 else v)) ∧ ok_PG_setEntry nb nt (nI p) (nI k) t v cbi ces := by
  have e : nI p * (8 : Int32) + nI k = nI (p * 8 + k) := by rw [show nI p * (8 : Int32) = nI (p * 8) from pk_mul p 8, nI_add]
  have w1 : vp_in (nI p) 73 := vp_in_nI hp (by omega)
  have w2 : vp_in (nI (p * 8 + k)) 584 := vp_in_nI (by omega) (by omega)
  unfold f_PG_setEntry ok_PG_setEntry bset bclr
  simp only [e, nI_clamp (show p < 2 ^ 31 by omega), nI_clamp (show p * 8 + k < 2 ^ 31 by omega)]
  refine ⟨?_, fun _ => ⟨w1, w1, fun _ => w2, fun _ => w2⟩, fun _ => ⟨w1, w1, fun _ => w2, fun _ => w2⟩⟩
  by_cases c : t = 0
  · simp only [if_pos c]
  · simp only [if_neg c]
theorem pg_bit {nb nt p k : Nat} {cbi : Nat → Int32} (hp : p < 73) (hk : k < 8) (h : BY (cbi p)) : f_PG_bitOf (nI p) (nI k) cbi = (bt (cbi p) k, ()) ∧ ok_PG_bitOf nb nt (nI p) (nI k) cbi := by
  unfold f_PG_bitOf ok_PG_bitOf
  rw [nI_clamp (show p < 2 ^ 31 by omega), bt_sh h hk]
  exact ⟨rfl, vp_in_nI hp (by omega)⟩
theorem pg_par {p : Nat} (hp : p < 73) : f_PG_parentOf (nI p) = (nI (64 + p / 8), ()) := by
  unfold f_PG_parentOf
  rw [show nI p >>> ((3 : Int32) &&& 31) = nI (p / 8) from pk_shrN (by omega) _ 3 (by decide), show (64 : Int32) + nI (p / 8) = nI (64 + p / 8) from nI_add 64 _]
theorem pg_and {p : Nat} (hp : p < 73) : nI p &&& (7 : Int32) = nI (p % 8) := pk_andN (by omega) 3 (by decide)
def knd (p : Nat) : Int32 := if p = 72 then 3 else if 64 ≤ p then 2 else 1
theorem pg_kind {p : Nat} (hp : p < 73) : f_PG_kindOf (nI p) = (knd p, ()) := by
  unfold f_PG_kindOf knd
  by_cases e : p = 72
  · rw [if_pos (by rw [e]; rfl), if_pos e]
  · rw [if_neg (show ¬ nI p = (72 : Int32) from fun z => e ((nI_eq (b := 72) (by omega) (by omega)).mp z)), if_neg e]
    by_cases e2 : 64 ≤ p
    · rw [if_pos (show (64 : Int32) ≤ nI p from nI_le (a := 64) e2 (by omega)), if_pos e2]
    · rw [if_neg (show ¬ (64 : Int32) ≤ nI p from nI_ge (b := 64) (by omega) (by omega)), if_neg e2]
