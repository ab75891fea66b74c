/-! what a block says, on both sides -/
theorem rr_number {N : Nat} {cby cto mro mit : Nat → Int32} (h : RR N cby cto mro mit) {b : Nat} (hb : b < 2 ^ 30) : f_RL_numberOf (nI b) (nI N) cby = (num mro (b % N * 64 + 40), ()) ∧ ok_RL_numberOf (N * 64) N (nI b) (nI N) cby := by
  obtain ⟨h1, h2, h3, h4⟩ := h
  have hp := pl (b := b) h1
  obtain ⟨o1, o2⟩ := @off_of b N hb (by omega) h2 (N * 64) N
  obtain ⟨n1, n2⟩ := rl_num (a := b % N * 64 + 40) (nt := N) h3 (by omega) (by omega)
  have e1 : nI (b % N * 64) + (40 : Int32) = nI (b % N * 64 + 40) := nI_add _ 40
  unfold f_RL_numberOf ok_RL_numberOf
  simp only [o1, bindc_def, bindp_iff, e1, n1]
  exact ⟨trivial, o2, n2⟩
theorem rr_version {N : Nat} {cby cto mro mit : Nat → Int32} (h : RR N cby cto mro mit) {b : Nat} (hb : b < 2 ^ 30) : f_RL_versionOf (nI b) (nI N) cby = (num mro (b % N * 64 + 4), ()) ∧ ok_RL_versionOf (N * 64) N (nI b) (nI N) cby := by
  obtain ⟨h1, h2, h3, h4⟩ := h
  have hp := pl (b := b) h1
  obtain ⟨o1, o2⟩ := @off_of b N hb (by omega) h2 (N * 64) N
  obtain ⟨n1, n2⟩ := rl_num (a := b % N * 64 + 4) (nt := N) h3 (by omega) (by omega)
  have e1 : nI (b % N * 64) + (4 : Int32) = nI (b % N * 64 + 4) := nI_add _ 4
  unfold f_RL_versionOf ok_RL_versionOf
  simp only [o1, bindc_def, bindp_iff, e1, n1]
  exact ⟨trivial, o2, n2⟩
theorem e84 (a k : Nat) : nI a + (8 : Int32) + (4 : Int32) * nI k = nI (a + 8 + 4 * k) := by
  rw [show nI a + (8 : Int32) = nI (a + 8) from nI_add _ 8, show (4 : Int32) * nI k = nI (4 * k) from pk_mul 4 k, nI_add]
theorem rr_entry {N : Nat} {cby cto mro mit : Nat → Int32} (h : RR N cby cto mro mit) {b k : Nat} (hb : b < 2 ^ 30) (hk : k < 8) : f_RL_entryOf (nI b) (nI k) (nI N) cby = (num mro (b % N * 64 + 8 + 4 * k), ()) ∧ ok_RL_entryOf (N * 64) N (nI b) (nI k) (nI N) cby ∧ f_MO_entryOf (nI b) (nI k) (nI N) mro = (num mro (b % N * 64 + 8 + 4 * k), ()) ∧ ok_MO_entryOf (nI b) (nI k) (nI N) mro := by
  obtain ⟨h1, h2, h3, h4⟩ := h
  have hp := pl (b := b) h1
  obtain ⟨o1, o2⟩ := @off_of b N hb (by omega) h2 (N * 64) N
  obtain ⟨p1, p2⟩ := @place_of b N hb (by omega) h2
  obtain ⟨n1, n2⟩ := rl_num (a := b % N * 64 + 8 + 4 * k) (nt := N) h3 (by omega) (by omega)
  obtain ⟨m1, m2⟩ := mo_num (mro := mro) (a := b % N * 64 + 8 + 4 * k) (by omega)
  have e1 := e84 (b % N * 64) k
  unfold f_RL_entryOf ok_RL_entryOf f_MO_entryOf ok_MO_entryOf
  simp only [o1, p1, bindc_def, bindp_iff, e1, n1, m1]
  exact ⟨trivial, ⟨o2, n2⟩, trivial, p2, m2⟩
theorem rr_byte {N : Nat} {cby cto mro mit : Nat → Int32} (h : RR N cby cto mro mit) {b k : Nat} (hb : b < 2 ^ 30) (hk : k < 64) : f_RL_byteOf (nI b) (nI k) (nI N) cby = (mro (b % N * 64 + k), ()) ∧ ok_RL_byteOf (N * 64) N (nI b) (nI k) (nI N) cby := by
  obtain ⟨h1, h2, h3, h4⟩ := h
  have hp := pl (b := b) h1
  obtain ⟨o1, o2⟩ := @off_of b N hb (by omega) h2 (N * 64) N
  obtain ⟨a1, b1⟩ := @at_k (b % N * 64) k (N * 64) (by omega) (by omega)
  unfold f_RL_byteOf ok_RL_byteOf
  simp only [o1, bindc_def, bindp_iff, a1, (h3 (b % N * 64 + k) (by omega)).1]
  exact ⟨trivial, o2, b1⟩
theorem rr_bits {N : Nat} {cby cto mro mit : Nat → Int32} (h : RR N cby cto mro mit) {b : Nat} (hb : b < 2 ^ 30) : f_MO_bitsOf (nI b) (nI N) mro = (mro (b % N * 64 + 1), ()) ∧ ok_MO_bitsOf (nI b) (nI N) mro := by
  obtain ⟨h1, h2, h3, h4⟩ := h
  have hp := pl (b := b) h1
  obtain ⟨p1, p2⟩ := @place_of b N hb (by omega) h2
  obtain ⟨a1, b1⟩ := @at_k (b % N * 64) 1 12800 (by omega) (by omega)
  have a1' : (nI (b % N * 64) + (1 : Int32)).toNatClampNeg = b % N * 64 + 1 := a1
  unfold f_MO_bitsOf ok_MO_bitsOf
  simp only [p1, bindc_def, bindp_iff, a1']
  exact ⟨trivial, p2, b1⟩
/-- bit k of a byte, as 0 or 1 -/
def bt (x : Int32) (k : Nat) : Int32 := if ((x >>> (nI k &&& 31)) &&& (1 : Int32)) = (1 : Int32) then 1 else 0
theorem bt_01 (x : Int32) (k : Nat) : bt x k = 0 ∨ bt x k = 1 := by
  unfold bt
  by_cases q : ((x >>> (nI k &&& 31)) &&& (1 : Int32)) = (1 : Int32)
  · rw [if_pos q]; exact Or.inr rfl
  · rw [if_neg q]; exact Or.inl rfl
theorem rr_bit {N : Nat} {cby cto mro mit : Nat → Int32} (h : RR N cby cto mro mit) {b : Nat} (k : Nat) (hb : b < 2 ^ 30) : f_RL_hasBit (nI b) (nI k) (nI N) cby = (bt (mro (b % N * 64 + 1)) k, ()) ∧ ok_RL_hasBit (N * 64) N (nI b) (nI k) (nI N) cby ∧ f_MO_hasEntry (nI b) (nI k) (nI N) mro = (bt (mro (b % N * 64 + 1)) k, ()) ∧ ok_MO_hasEntry (nI b) (nI k) (nI N) mro := by
  obtain ⟨q1, q2⟩ := rr_byte (k := 1) h hb (by omega)
  obtain ⟨r1, r2⟩ := rr_bits h hb
  have q1' : f_RL_byteOf (nI b) (1 : Int32) (nI N) cby = (mro (b % N * 64 + 1), ()) := q1
  unfold f_RL_hasBit ok_RL_hasBit f_MO_hasEntry ok_MO_hasEntry bt
  simp only [q1', r1, bindc_def]
  refine ⟨?_, q2, ?_, r2⟩
  · by_cases q : ((mro (b % N * 64 + 1) >>> (nI k &&& 31)) &&& (1 : Int32)) = (1 : Int32)
    · rw [if_pos q, if_pos q]
    · rw [if_neg q, if_neg q]
  · by_cases q : ((mro (b % N * 64 + 1) >>> (nI k &&& 31)) &&& (1 : Int32)) = (1 : Int32)
    · rw [if_pos q, if_pos q]
    · rw [if_neg q, if_neg q]
/-- whether a block's sum and number are right -/
def snd1 (N : Nat) (mro mit : Nat → Int32) (b : Nat) : Int32 := if num mro (b % N * 64 + 40) = nI b then (f_MO_hasSum (nI (b % N * 64)) mro mit).1 else 0
theorem snd1_01 {N : Nat} {cby cto mro mit : Nat → Int32} (h : RR N cby cto mro mit) (b : Nat) : snd1 N mro mit b = 0 ∨ snd1 N mro mit b = 1 := by
  obtain ⟨h1, h2, h3, h4⟩ := h
  have hp := pl (b := b) h1
  obtain ⟨m1, m2, m3⟩ := mo_sum (mro := mro) (mit := mit) (a := b % N * 64) (by omega)
  unfold snd1
  by_cases q : num mro (b % N * 64 + 40) = nI b
  · rw [if_pos q]; exact m2
  · rw [if_neg q]; exact Or.inl rfl
theorem rr_sound {N : Nat} {cby cto mro mit : Nat → Int32} (h : RR N cby cto mro mit) {b : Nat} (hb : b < 2 ^ 30) : f_RL_isSound (nI b) (nI N) cby cto = (snd1 N mro mit b, ()) ∧ ok_RL_isSound (N * 64) N (nI b) (nI N) cby cto := by
  obtain ⟨s1, s2⟩ := rr_sum h b
  have h01 := snd1_01 h b
  obtain ⟨h1, h2, h3, h4⟩ := h
  have hp := pl (b := b) h1
  obtain ⟨o1, o2⟩ := @off_of b N hb (by omega) h2 (N * 64) N
  obtain ⟨n1, n2⟩ := rl_num (a := b % N * 64 + 40) (nt := N) h3 (by omega) (by omega)
  have e1 : nI (b % N * 64) + (40 : Int32) = nI (b % N * 64 + 40) := nI_add _ 40
  unfold f_RL_isSound ok_RL_isSound
  simp only [o1, e1, n1, bindc_def, bindp_iff, s1]
  refine ⟨?_, o2, n2, fun _ => s2, fun _ => trivial⟩
  unfold snd1 at h01 ⊢
  generalize f_MO_hasSum (nI (b % N * 64)) mro mit = z at h01 ⊢
  by_cases q : num mro (b % N * 64 + 40) = nI b
  · simp only [if_pos q] at h01 ⊢
    rcases h01 with e | e
    · rw [e, if_pos rfl]
    · rw [e, if_neg no1]
  · simp only [if_neg q]
/-- a block is bad: not used, not sound, or of another kind -/
def bad (N S E : Nat) (mro mit : Nat → Int32) (p : Int32) (kind : Int32) : Int32 := (f_MO_isBad p kind (nI N) (nI S) (nI E) mro mit).1
theorem used_of {S E : Nat} (hE : E < 2 ^ 30) (hS : S ≤ E) (p : Int32) : (f_MO_isUsed p (nI S) (nI E) = (0, ()) ∧ ∀ b, p = nI b → b < 2 ^ 31 → ¬ (S ≤ b ∧ b < E)) ∨ (f_MO_isUsed p (nI S) (nI E) = (1, ()) ∧ ∃ b, S ≤ b ∧ b < E ∧ p = nI b) := by
  unfold f_MO_isUsed
  by_cases q1 : p < nI S
  · rw [if_pos q1]
    refine Or.inl ⟨rfl, fun b e hb z => ?_⟩
    subst e
    exact nI_nlt z.1 (by omega) q1
  · rw [if_neg q1]
    by_cases q2 : nI E ≤ p
    · rw [if_pos q2]
      refine Or.inl ⟨rfl, fun b e hb z => ?_⟩
      subst e
      exact nI_ge z.2 (by omega) q2
    · rw [if_neg q2]
      have q3 : ¬ p < 0 := by
        intro z
        apply q1
        rw [Int32.lt_iff_toInt_lt] at z ⊢
        rw [nI_toInt (by omega)]
        rw [show (0 : Int32).toInt = 0 by decide] at z
        omega
      obtain ⟨b, hb, rfl⟩ := nI_of q3
      refine Or.inr ⟨rfl, b, ?_, ?_, rfl⟩
      · exact Nat.le_of_not_lt (fun z => q1 (nI_lt z (by omega)))
      · exact Nat.lt_of_not_le (fun z => q2 (nI_le z hb))
theorem used_eq (p x y : Int32) : f_RL_isUsed p x y = f_MO_isUsed p x y := rfl
theorem rr_bad {N S E : Nat} {cby cto mro mit : Nat → Int32} (h : RR N cby cto mro mit) (hE : E < 2 ^ 30) (hS : S ≤ E) (p : Int32) (kind : Int32) :
    f_RL_isBad p kind (nI N) (nI S) (nI E) cby cto = (bad N S E mro mit p kind, ()) ∧ ok_RL_isBad (N * 64) N p kind (nI N) (nI S) (nI E) cby cto ∧ f_MO_isBad p kind (nI N) (nI S) (nI E) mro mit = (bad N S E mro mit p kind, ()) ∧ ok_MO_isBad p kind (nI N) (nI S) (nI E) mro mit ∧ (bad N S E mro mit p kind = 1 ∨ bad N S E mro mit p kind = 0 ∧ ∃ b, S ≤ b ∧ b < E ∧ p = nI b) := by
  rcases used_of hE hS p with ⟨u1, -⟩ | ⟨u1, b, hb1, hb2, rfl⟩
  · have e : f_MO_isBad p kind (nI N) (nI S) (nI E) mro mit = (1, ()) := by unfold f_MO_isBad; rw [u1, bindc_def, if_pos rfl]
    have e2 : f_RL_isBad p kind (nI N) (nI S) (nI E) cby cto = (1, ()) := by unfold f_RL_isBad; rw [used_eq, u1, bindc_def, if_pos rfl]
    have e3 : bad N S E mro mit p kind = 1 := by unfold bad; rw [e]
    rw [e, e2, e3]
    refine ⟨rfl, ?_, rfl, ?_, Or.inl rfl⟩
    · unfold ok_RL_isBad; rw [used_eq, u1, bindp_iff]; exact ⟨fun _ => trivial, fun z => (z rfl).elim⟩
    · unfold ok_MO_isBad; rw [u1, bindp_iff]; exact ⟨fun _ => trivial, fun z => (z rfl).elim⟩
  · have hb : b < 2 ^ 30 := by omega
    obtain ⟨s1, s2⟩ := rr_sound h hb
    obtain ⟨q1, q2⟩ := rr_byte (k := 0) h hb (by omega)
    have q1' : f_RL_byteOf (nI b) (0 : Int32) (nI N) cby = (mro (b % N * 64), ()) := q1
    have q2' : ok_RL_byteOf (N * 64) N (nI b) (0 : Int32) (nI N) cby := q2
    obtain ⟨h1, h2, h3, h4⟩ := h
    have hp := pl (b := b) h1
    obtain ⟨p1, p2⟩ := @place_of b N hb (by omega) h2
    obtain ⟨m1, m2⟩ := mo_num (mro := mro) (a := b % N * 64 + 40) (by omega)
    obtain ⟨c1, c2, c3⟩ := mo_sum (mro := mro) (mit := mit) (a := b % N * 64) (by omega)
    have e40 : nI (b % N * 64) + (40 : Int32) = nI (b % N * 64 + 40) := nI_add _ 40
    have eM : f_MO_isBad (nI b) kind (nI N) (nI S) (nI E) mro mit = (if snd1 N mro mit b = 0 then 1 else if mro (b % N * 64) = kind then 0 else 1, ()) := by
      unfold f_MO_isBad snd1
      simp only [u1, bindc_def, if_neg no1, p1, e40, m1, nI_clamp (show b % N * 64 < 2 ^ 31 by omega)]
      generalize f_MO_hasSum (nI (b % N * 64)) mro mit = z at c2 ⊢
      by_cases w : num mro (b % N * 64 + 40) = nI b
      · simp only [if_pos w]
        rcases c2 with c2 | c2
        · rw [c2, if_pos rfl, if_pos rfl]
        · rw [c2, if_neg no1, if_neg no1]
          by_cases w2 : mro (b % N * 64) = kind
          · rw [if_pos w2, if_pos w2]
          · rw [if_neg w2, if_neg w2]
      · simp only [if_neg w]
        rcases c2 with c2 | c2
        · rw [c2, if_pos rfl]; rfl
        · rw [c2, if_neg no1]; rfl
    have eC : f_RL_isBad (nI b) kind (nI N) (nI S) (nI E) cby cto = (if snd1 N mro mit b = 0 then 1 else if mro (b % N * 64) = kind then 0 else 1, ()) := by
      unfold f_RL_isBad
      simp only [used_eq, u1, bindc_def, if_neg no1, s1, q1']
      by_cases w : snd1 N mro mit b = 0
      · rw [if_pos w, if_pos w]
      · rw [if_neg w, if_neg w]
        by_cases w2 : mro (b % N * 64) = kind
        · rw [if_pos w2, if_pos w2]
        · rw [if_neg w2, if_neg w2]
    have eB : bad N S E mro mit (nI b) kind = if snd1 N mro mit b = 0 then 1 else if mro (b % N * 64) = kind then 0 else 1 := by unfold bad; rw [eM]
    rw [eM, eC, eB]
    refine ⟨rfl, ?_, rfl, ?_, ?_⟩
    · unfold ok_RL_isBad
      simp only [used_eq, u1, bindp_iff, s1]
      exact ⟨fun _ => trivial, fun _ => ⟨s2, fun _ => trivial, fun _ => q2'⟩⟩
    · unfold ok_MO_isBad
      simp only [u1, bindp_iff, p1, e40]
      exact ⟨fun _ => trivial, fun _ => ⟨p2, c3, fun _ => trivial, fun _ => ⟨m2, fun _ => vp_in_nI (by omega) (by omega), fun _ => trivial⟩⟩⟩
    · by_cases w : snd1 N mro mit b = 0
      · rw [if_pos w]; exact Or.inl rfl
      · rw [if_neg w]
        by_cases w2 : mro (b % N * 64) = kind
        · rw [if_pos w2]; exact Or.inr ⟨rfl, b, hb1, hb2, rfl⟩
        · rw [if_neg w2]; exact Or.inl rfl
