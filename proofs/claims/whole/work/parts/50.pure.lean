/-! the pure side: a relation between the two states, and the simple calls -/
theorem bindp_iff {α : Type} {x : α} {k : α → Prop} : bindp x k ↔ k x := ⟨fun h => h x rfl, fun h z hz => by rw [hz]; exact h⟩
theorem bindc_def {α β : Type} (x : α) (k : α → β) : bindc x k = k x := Eq.trans rfl rfl
def IPow (cfa cle cwr mdn mpw mwr : Int32) : Prop := (cfa = 0 ∨ cfa = 1) ∧ mdn = cfa ∧ mpw = cle ∧ mwr = cwr ∧ (cle = -1 ∨ 0 ≤ cle) ∧ (cfa = 0 → ¬ cle = 0)
def IDr (cdz : Int32) (cch cva : Nat → Int32) (mdr : Int32) (mch mva : Nat → Int32) : Prop := mdr = cdz ∧ (∀ k, k < 512 → mch k = cch k ∧ (cch k = 0 ∨ cch k = 1 ∨ cch k = 2) ∧ (cch k = 1 → mva k = cva k)) ∧ (cdz = 0 ∨ ∃ k, k < 512 ∧ ¬ cch k = 0)
def IBy (N : Nat) (cby mro : Nat → Int32) : Prop := ∀ i, i < N * 64 → ∃ b, b < 256 ∧ cby i = (nI b).toInt8.toInt32 ∧ mro i = nI b
def ITo (N : Nat) (cto mit : Nat → Int32) : Prop := ∀ i, i < N → mit i = cto i ∧ (cto i = 0 ∨ cto i = 1)
def ISh (csh : Nat → Int32) : Prop := csh 2 = 0 ∧ csh 3 = 0 ∧ ∀ i, 44 ≤ i → i < 56 → csh i = 0
def IRt (crt : Nat → Int32) : Prop := ∀ i, 3 ≤ i → i < 8 → crt i = 0
/-- the used blocks S .. E, the r kept versions with their roots -/
def IRo (j N S E r : Nat) (cst cen mst men css : Int32) (cve cro : Nat → Int32) (mrs : Int32) (mve mrb : Nat → Int32) (mnw : Int32) : Prop :=
  (cst = nI S ∧ mst = nI S ∧ cen = nI E ∧ men = nI E ∧ css = nI r ∧ mrs = nI r) ∧ (S ≤ E ∧ E ≤ S + N ∧ E ≤ 1000001 + 74 * j ∧ r ≤ E - S) ∧
  (∀ i, i < r → mve i = cve i ∧ mrb i = cro i ∧ ∃ v q : Nat, cve i = nI v ∧ cro i = nI q ∧ 1 ≤ v ∧ v ≤ 1000000 + j ∧ S ≤ q ∧ q < E) ∧
  (∀ i k, i < k → k < r → cve i < cve k) ∧ mnw = if r = 0 then 0 else cve (r - 1)
theorem IRo.mono {j N S E r : Nat} {cst cen mst men css : Int32} {cve cro : Nat → Int32} {mrs : Int32} {mve mrb : Nat → Int32} {mnw : Int32} (h : IRo j N S E r cst cen mst men css cve cro mrs mve mrb mnw) : IRo (j + 1) N S E r cst cen mst men css cve cro mrs mve mrb mnw := by
  obtain ⟨h1, ⟨h2, h3, h4, h5⟩, h6, h7, h8⟩ := h
  refine ⟨h1, ⟨h2, h3, by omega, h5⟩, fun i hi => ?_, h7, h8⟩
  obtain ⟨a1, a2, v, q, a3, a4, a5, a6, a7⟩ := h6 i hi
  exact ⟨a1, a2, v, q, a3, a4, a5, by omega, a7⟩
def INV : INVT := fun j N cfa cle cwr csl cst cen cby cto csh cdz cch cva css cve cro crc cma cbi ces cbl crt mrf msl mst men mnw mdn mpw mwr mrs mdr mtb mrc mnx mro mit mve mrb mch mva mic mlb mrw mnb mlk mnk mmd => 16 ≤ N ∧ N ≤ 200 ∧ csl = nI N ∧ msl = nI N ∧ IPow cfa cle cwr mdn mpw mwr ∧ IDr cdz cch cva mdr mch mva ∧ IBy N cby mro ∧ ITo N cto mit ∧ ISh csh ∧ IRt crt ∧ ∃ S E r : Nat, IRo j N S E r cst cen mst men css cve cro mrs mve mrb mnw

theorem inv_mono : MONO INV := by
  intro j N cfa cle cwr csl cst cen cby cto csh cdz cch cva css cve cro crc cma cbi ces cbl crt mrf msl mst men mnw mdn mpw mwr mrs mdr mtb mrc mnx mro mit mve mrb mch mva mic mlb mrw mnb mlk mnk mmd hinv
  obtain ⟨hN1, hN2, hcsl, hmsl, hPow, hDr, hBy, hTo, hSh, hRt, S, E, r, hRo⟩ := hinv
  exact ⟨hN1, hN2, hcsl, hmsl, hPow, hDr, hBy, hTo, hSh, hRt, S, E, r, hRo.mono⟩

theorem INV_mk {j N : Nat} {cfa : Int32} {cle : Int32} {cwr : Int32} {csl : Int32} {cst : Int32} {cen : Int32} {cby : (Nat → Int32)} {cto : (Nat → Int32)} {csh : (Nat → Int32)} {cdz : Int32} {cch : (Nat → Int32)} {cva : (Nat → Int32)} {css : Int32} {cve : (Nat → Int32)} {cro : (Nat → Int32)} {crc : Int32} {cma : (Nat → Int32)} {cbi : (Nat → Int32)} {ces : (Nat → Int32)} {cbl : (Nat → Int32)} {crt : (Nat → Int32)} {mrf : Int32} {msl : Int32} {mst : Int32} {men : Int32} {mnw : Int32} {mdn : Int32} {mpw : Int32} {mwr : Int32} {mrs : Int32} {mdr : Int32} {mtb : Int32} {mrc : Int32} {mnx : Int32} {mro : (Nat → Int32)} {mit : (Nat → Int32)} {mve : (Nat → Int32)} {mrb : (Nat → Int32)} {mch : (Nat → Int32)} {mva : (Nat → Int32)} {mic : (Nat → Int32)} {mlb : (Nat → Int32)} {mrw : (Nat → Int32)} {mnb : (Nat → Int32)} {mlk : (Nat → Int32)} {mnk : (Nat → Int32)} {mmd : (Nat → Int32)} (hN1 : 16 ≤ N) (hN2 : N ≤ 200) (hcsl : csl = nI N) (hmsl : msl = nI N) (hPow : IPow cfa cle cwr mdn mpw mwr) (hDr : IDr cdz cch cva mdr mch mva) (hBy : IBy N cby mro) (hTo : ITo N cto mit) (hSh : ISh csh) (hRt : IRt crt) {S E r : Nat} (hRo : IRo j N S E r cst cen mst men css cve cro mrs mve mrb mnw) : INV j N cfa cle cwr csl cst cen cby cto csh cdz cch cva css cve cro crc cma cbi ces cbl crt mrf msl mst men mnw mdn mpw mwr mrs mdr mtb mrc mnx mro mit mve mrb mch mva mic mlb mrw mnb mlk mnk mmd := ⟨hN1, hN2, hcsl, hmsl, hPow, hDr, hBy, hTo, hSh, hRt, S, E, r, hRo⟩
theorem isB_of {x : Int32} (h : x = 0 ∨ x = 1) : isB x := by
  rcases h with rfl | rfl
  · exact isB_0
  · exact isB_1
theorem key_cases (p : Int32) : (f_BT_isKey p = (1, ()) ∧ f_MO_isKey p = (1, ()) ∧ vp_in p 512) ∨ (f_BT_isKey p = (0, ()) ∧ f_MO_isKey p = (0, ())) := by
  unfold f_BT_isKey f_MO_isKey
  by_cases h1 : p < 0
  · right; simp [h1]
  · by_cases h2 : (512 : Int32) ≤ p
    · right; simp [h1, h2]
    · left
      refine ⟨by simp [h1, h2], by simp [h1, h2], ?_⟩
      obtain ⟨k, hk, rfl⟩ := nI_of h1
      refine vp_in_nI ?_ (by omega)
      rcases Nat.lt_or_ge k 512 with q | q
      · exact q
      · exact absurd (nI_le (a := 512) q hk) h2
set_option maxHeartbeats 1000000 in
theorem sim_isDown : SIM_isDown INV := by
  intro j N cfa cle cwr csl cst cen cby cto csh cdz cch cva css cve cro crc cma cbi ces cbl crt mrf msl mst men mnw mdn mpw mwr mrs mdr mtb mrc mnx mro mit mve mrb mch mva mic mlb mrw mnb mlk mnk mmd  hj hinv
  obtain ⟨hN1, hN2, hcsl, hmsl, hPow, hDr, hBy, hTo, hSh, hRt, S, E, r, hRo⟩ := hinv
  obtain ⟨h1, h2, h3, h4, h5, h6⟩ := hPow
  subst h2
  have hb := isB_of h1
  refine ⟨?_, ?_, ?_⟩
  · simp only [ok_BT_isDown, ok_PW_hasFailed, f_PW_hasFailed, bindp_iff]; exact ⟨hb, hb⟩
  · simp only [ok_MO_isDown]; exact hb
  · intro z1 z2 e1 e2
    subst e1 e2
    refine ⟨by simp only [f_BT_isDown, f_PW_hasFailed, bindc_def, f_MO_isDown], ?_⟩
    exact ⟨hN1, hN2, hcsl, hmsl, ⟨h1, rfl, h3, h4, h5, h6⟩, hDr, hBy, hTo, hSh, hRt, S, E, r, hRo.mono⟩
theorem goes_0 (x y : Int32) : f_MO_goes 0 x y = (0, 1) := by simp [f_MO_goes]
theorem goes_10 (x : Int32) : f_MO_goes 1 x 0 = (1, 0) := by simp [f_MO_goes]
theorem goes_11 (x : Int32) : f_MO_goes 1 x 1 = (0, 2) := by simp [f_MO_goes]
theorem isUp_0 (x : Int32) : f_MO_isUp x 0 = (1, 0) := by simp [f_MO_isUp]
theorem isUp_1 (x : Int32) : f_MO_isUp x 1 = (0, 1) := by simp [f_MO_isUp]
theorem okRP_0 {nb nt : Nat} : ok_BT_requirePower nb nt 0 := by simp only [ok_BT_requirePower, ok_PW_hasFailed, f_PW_hasFailed, bindp_iff]; exact ⟨isB_0, fun _ => trivial, fun h => (h trivial).elim⟩
theorem no1 : ¬ (1 : Int32) = 0 := by decide
theorem no2 : ¬ (2 : Int32) = 0 := by decide
theorem okRA_1 {nb nt : Nat} : ok_BT_requireArgument nb nt 1 := by simp [ok_BT_requireArgument]
theorem IDr_set {cdz : Int32} {cch cva : Nat → Int32} {mdr : Int32} {mch mva : Nat → Int32} (h : IDr cdz cch cva mdr mch mva) {i : Nat} (hi : i < 512) {w p : Int32} (hw : w = 1 ∨ w = 2) {cva' mva' : Nat → Int32} (hc : ∀ k, cva' k = if k = i ∧ w = 1 then p else cva k) (hm : ∀ k, (k = i → w = 1 → mva' k = p) ∧ (k ≠ i → mva' k = mva k)) {d1 d2 : Int32} (hd : d2 = d1) : IDr d1 (upd cch i w) cva' d2 (upd mch i w) mva' := by
  have hne : ¬ upd cch i w i = 0 := by
    rw [pk_us]; rcases hw with rfl | rfl <;> decide
  refine ⟨hd, fun k hk => ?_, Or.inr ⟨i, hi, hne⟩⟩
  by_cases e : k = i
  · subst e
    rw [pk_us, pk_us]
    refine ⟨rfl, Or.inr hw, fun h1 => ?_⟩
    rw [(hm k).1 rfl h1, hc k, if_pos ⟨rfl, h1⟩]
  · rw [pk_un e, pk_un e]
    obtain ⟨a1, a2, a3⟩ := h.2.1 k hk
    refine ⟨a1, a2, fun h1 => ?_⟩
    rw [(hm k).2 e, hc k, if_neg (fun z => e z.1), a3 h1]
theorem dr_note {i : Nat} (w cdz : Int32) (cch : Nat → Int32) (hi : i < 512) : f_DR_note (nI i) w cdz cch = (if cch i = 0 then cdz + 1 else cdz, upd cch i w) := by
  simp only [f_DR_note, f_DR_has, bindc_def, nI_clamp (show i < 2 ^ 31 by omega)]
  by_cases h : cch i = 0 <;> simp [h]
theorem dr_note_ok {nb nt i : Nat} (w cdz : Int32) (cch : Nat → Int32) (hi : i < 512) : ok_DR_note nb nt (nI i) w cdz cch := by
  have hv : vp_in (nI i) 512 := vp_in_nI hi (by omega)
  simp only [ok_DR_note, ok_DR_has, bindp_iff]
  exact ⟨hv, fun _ => hv, fun _ => hv⟩
theorem mo_change {i : Nat} (w p mdr : Int32) (mch mva : Nat → Int32) (hi : i < 512) : f_MO_change (nI i) w p mdr mch mva = (if mch i = 0 then mdr + 1 else mdr, upd mch i w, upd mva i p) := by
  simp only [f_MO_change, nI_clamp (show i < 2 ^ 31 by omega)]
  by_cases h : mch i = 0 <;> simp [h]
theorem mo_change_ok {i : Nat} (w p mdr : Int32) (mch mva : Nat → Int32) (hi : i < 512) : ok_MO_change (nI i) w p mdr mch mva := by
  have hv : vp_in (nI i) 512 := vp_in_nI hi (by omega)
  simp only [ok_MO_change]
  exact ⟨hv, fun _ => ⟨hv, hv⟩, fun _ => ⟨hv, hv⟩⟩
set_option maxHeartbeats 1000000 in
theorem sim_put : SIM_put INV := by
  intro j N cfa cle cwr csl cst cen cby cto csh cdz cch cva css cve cro crc cma cbi ces cbl crt mrf msl mst men mnw mdn mpw mwr mrs mdr mtb mrc mnx mro mit mve mrb mch mva mic mlb mrw mnb mlk mnk mmd p0 p1 lou hj hinv
  obtain ⟨hN1, hN2, hcsl, hmsl, hPow, hDr, hBy, hTo, hSh, hRt, S, E, r, hRo⟩ := hinv
  obtain ⟨h1, h2, h3, h4, h5, h6⟩ := hPow
  subst h2
  have hb := isB_of h1
  rcases key_cases p0 with ⟨k1, k2, k3⟩ | ⟨k1, k2⟩
  · obtain ⟨i, hi, rfl⟩ := vp_in_of k3 (by omega)
    have hd := dr_note (1 : Int32) cdz cch hi
    have hd' := @dr_note_ok (N * 64) N i (1 : Int32) cdz cch hi
    have hm := mo_change (1 : Int32) p1 mdr mch mva hi
    have hm' := mo_change_ok (1 : Int32) p1 mdr mch mva hi
    obtain ⟨e1, e2, e3⟩ := hDr
    subst e1
    have hcell := (e2 i hi).1
    have hnew := IDr_set (cdz := mdr) (mdr := mdr) (w := 1) (p := p1) (i := i) ⟨rfl, e2, e3⟩ hi (Or.inl rfl) (cva' := upd cva i p1) (mva' := upd mva i p1) (fun k => by by_cases e : k = i <;> simp [upd, e]) (fun k => ⟨fun e _ => by simp [upd, e], fun e => by simp [upd, e]⟩) (d1 := if cch i = 0 then mdr + 1 else mdr) rfl
    rcases h1 with rfl | rfl
    · refine ⟨?_, ?_, ?_, ?_⟩
      · simp only [okT_BT_put, k1, bindp_iff]; exact fun _ => isB_0
      · intro _
        simp only [ok_BT_put, k1, bindp_iff, ok_DR_setValue]
        exact ⟨okRA_1, okRP_0, hd', k3⟩
      · simp only [ok_MO_put, k2, bindp_iff, goes_10]
        exact ⟨fun h => absurd h (by decide), fun _ => hm'⟩
      · intro z1 z2 q1 q2
        have t0 : th_BT_put (nI i) p1 0 = 0 := by simp [th_BT_put, k1, bindc_def]
        simp only [g_LA_put, t0, f_BT_put, k1, bindc_def, f_DR_setValue, hd, f_DR_size, if_true, nI_clamp (show i < 2 ^ 31 by omega)] at q1
        simp only [f_MO_put, k2, bindc_def, goes_10, hm, hcell] at q2
        subst q1 q2
        exact ⟨rfl, fun _ => by simp [pk_uLs], INV_mk hN1 hN2 hcsl hmsl ⟨Or.inl rfl, rfl, h3, h4, h5, h6⟩ (by simpa using hnew) hBy hTo hSh hRt hRo.mono⟩
    · refine ⟨?_, ?_, ?_, ?_⟩
      · simp only [okT_BT_put, k1, bindp_iff]; exact fun _ => isB_1
      · intro h; simp [th_BT_put, k1, bindc_def] at h
      · simp only [ok_MO_put, k2, bindp_iff, goes_11]
        exact ⟨fun _ => trivial, fun h => (h trivial).elim⟩
      · intro z1 z2 q1 q2
        have t0 : th_BT_put (nI i) p1 1 = 2 := by simp [th_BT_put, k1, bindc_def]
        simp [g_LA_put, t0] at q1
        simp only [f_MO_put, k2, bindc_def, goes_11] at q2
        subst q1 q2
        exact ⟨rfl, fun h => absurd h no2, INV_mk hN1 hN2 hcsl hmsl ⟨Or.inr rfl, rfl, h3, h4, h5, h6⟩ ⟨rfl, e2, e3⟩ hBy hTo hSh hRt hRo.mono⟩
  · refine ⟨?_, ?_, ?_, ?_⟩
    · simp [okT_BT_put, k1, bindp_iff]
    · intro h; simp [th_BT_put, k1, bindc_def] at h
    · simp [ok_MO_put, k2, bindp_iff, goes_0]
    · intro z1 z2 q1 q2
      have t0 : th_BT_put p0 p1 mdn = 1 := by simp [th_BT_put, k1, bindc_def]
      simp [g_LA_put, t0] at q1
      simp only [f_MO_put, k2, bindc_def, goes_0] at q2
      subst q1 q2
      exact ⟨rfl, fun h => absurd h no1, INV_mk hN1 hN2 hcsl hmsl ⟨h1, rfl, h3, h4, h5, h6⟩ hDr hBy hTo hSh hRt hRo.mono⟩
set_option maxHeartbeats 1000000 in
theorem sim_drop : SIM_drop INV := by
  intro j N cfa cle cwr csl cst cen cby cto csh cdz cch cva css cve cro crc cma cbi ces cbl crt mrf msl mst men mnw mdn mpw mwr mrs mdr mtb mrc mnx mro mit mve mrb mch mva mic mlb mrw mnb mlk mnk mmd p0 lou hj hinv
  obtain ⟨hN1, hN2, hcsl, hmsl, hPow, hDr, hBy, hTo, hSh, hRt, S, E, r, hRo⟩ := hinv
  obtain ⟨h1, h2, h3, h4, h5, h6⟩ := hPow
  subst h2
  have hb := isB_of h1
  rcases key_cases p0 with ⟨k1, k2, k3⟩ | ⟨k1, k2⟩
  · obtain ⟨i, hi, rfl⟩ := vp_in_of k3 (by omega)
    have hd := dr_note (2 : Int32) cdz cch hi
    have hd' := @dr_note_ok (N * 64) N i (2 : Int32) cdz cch hi
    have hm := mo_change (2 : Int32) 0 mdr mch mva hi
    have hm' := mo_change_ok (2 : Int32) 0 mdr mch mva hi
    obtain ⟨e1, e2, e3⟩ := hDr
    subst e1
    have hcell := (e2 i hi).1
    have hnew := IDr_set (cdz := mdr) (mdr := mdr) (w := 2) (p := 0) (i := i) ⟨rfl, e2, e3⟩ hi (Or.inr rfl) (cva' := cva) (mva' := upd mva i 0) (fun k => by rw [if_neg (fun z => absurd z.2 (by decide))]) (fun k => ⟨fun e h => absurd h (by decide), fun e => by simp [upd, e]⟩) (d1 := if cch i = 0 then mdr + 1 else mdr) rfl
    rcases h1 with rfl | rfl
    · refine ⟨?_, ?_, ?_, ?_⟩
      · simp only [okT_BT_drop, k1, bindp_iff]; exact fun _ => isB_0
      · intro _
        simp only [ok_BT_drop, k1, bindp_iff, ok_DR_setDropped]
        exact ⟨okRA_1, okRP_0, hd'⟩
      · simp only [ok_MO_drop, k2, bindp_iff, goes_10]
        exact ⟨fun h => absurd h (by decide), fun _ => hm'⟩
      · intro z1 z2 q1 q2
        have t0 : th_BT_drop (nI i) 0 = 0 := by simp [th_BT_drop, k1, bindc_def]
        simp only [g_LA_drop, t0, f_BT_drop, k1, bindc_def, f_DR_setDropped, hd, f_DR_size, if_true, nI_clamp (show i < 2 ^ 31 by omega)] at q1
        simp only [f_MO_drop, k2, bindc_def, goes_10, hm, hcell] at q2
        subst q1 q2
        exact ⟨rfl, fun _ => by simp [pk_uLs], INV_mk hN1 hN2 hcsl hmsl ⟨Or.inl rfl, rfl, h3, h4, h5, h6⟩ (by simpa using hnew) hBy hTo hSh hRt hRo.mono⟩
    · refine ⟨?_, ?_, ?_, ?_⟩
      · simp only [okT_BT_drop, k1, bindp_iff]; exact fun _ => isB_1
      · intro h; simp [th_BT_drop, k1, bindc_def] at h
      · simp only [ok_MO_drop, k2, bindp_iff, goes_11]
        exact ⟨fun _ => trivial, fun h => (h trivial).elim⟩
      · intro z1 z2 q1 q2
        have t0 : th_BT_drop (nI i) 1 = 2 := by simp [th_BT_drop, k1, bindc_def]
        simp [g_LA_drop, t0] at q1
        simp only [f_MO_drop, k2, bindc_def, goes_11] at q2
        subst q1 q2
        exact ⟨rfl, fun h => absurd h no2, INV_mk hN1 hN2 hcsl hmsl ⟨Or.inr rfl, rfl, h3, h4, h5, h6⟩ ⟨rfl, e2, e3⟩ hBy hTo hSh hRt hRo.mono⟩
  · refine ⟨?_, ?_, ?_, ?_⟩
    · simp [okT_BT_drop, k1, bindp_iff]
    · intro h; simp [th_BT_drop, k1, bindc_def] at h
    · simp [ok_MO_drop, k2, bindp_iff, goes_0]
    · intro z1 z2 q1 q2
      have t0 : th_BT_drop p0 mdn = 1 := by simp [th_BT_drop, k1, bindc_def]
      simp [g_LA_drop, t0] at q1
      simp only [f_MO_drop, k2, bindc_def, goes_0] at q2
      subst q1 q2
      exact ⟨rfl, fun h => absurd h no1, INV_mk hN1 hN2 hcsl hmsl ⟨h1, rfl, h3, h4, h5, h6⟩ hDr hBy hTo hSh hRt hRo.mono⟩
theorem dr_clear_l {nb nt : Nat} (cdz : Int32) : ∀ (n i : Nat) (cch : Nat → Int32), i ≤ 512 → 512 < i + n → (∀ k, k < i → cch k = 0) → ok_DR_clear_2 nb nt n (nI i) cdz cch ∧ (f_DR_clear_2 n (nI i) cdz cch).1 = 0 ∧ ∀ k, k < 512 → (f_DR_clear_2 n (nI i) cdz cch).2 k = 0 := by
  intro n
  induction n with
  | zero => intro i cch h1 h2; omega
  | succ n ih =>
    intro i cch h1 h2 h3
    rw [ok_DR_clear_2, f_DR_clear_2]
    by_cases e : i = 512
    · subst e
      have h : (512 : Int32) ≤ nI 512 := by decide
      rw [if_pos h]
      exact ⟨⟨fun _ => trivial, fun z => absurd h z⟩, rfl, h3⟩
    · have h : ¬ (512 : Int32) ≤ nI i := nI_ge (a := i) (b := 512) (by omega) (by omega)
      rw [if_neg h, nI_1]
      have hv : vp_in (nI i) 512 := vp_in_nI (by omega) (by omega)
      have := ih (i + 1) (upd cch (nI i).toNatClampNeg 0) (by omega) (by omega) (fun k hk => by
        rw [nI_clamp (by omega)]
        by_cases e2 : k = i
        · subst e2; exact pk_us
        · rw [pk_un e2]; exact h3 k (by omega))
      exact ⟨⟨fun z => absurd z h, fun _ => ⟨hv, this.1⟩⟩, this.2⟩
theorem dr_clear {nb nt : Nat} (cdz : Int32) (cch : Nat → Int32) : ok_DR_clear nb nt cdz cch ∧ (f_DR_clear cdz cch).1 = 0 ∧ ∀ k, k < 512 → (f_DR_clear cdz cch).2 k = 0 := by
  have h := dr_clear_l (nb := nb) (nt := nt) cdz 1024 0 cch (by omega) (by omega) (fun k h => by omega)
  rw [nI_0] at h
  unfold ok_DR_clear f_DR_clear
  exact h
theorem mo_clear_l (mdr : Int32) : ∀ (n i : Nat) (mch : Nat → Int32), i ≤ 512 → 512 < i + n → (∀ k, k < i → mch k = 0) → ok_MO_clear_7 n (nI i) mdr mch ∧ (f_MO_clear_7 n (nI i) mdr mch).1 = mdr ∧ ∀ k, k < 512 → (f_MO_clear_7 n (nI i) mdr mch).2 k = 0 := by
  intro n
  induction n with
  | zero => intro i mch h1 h2; omega
  | succ n ih =>
    intro i mch h1 h2 h3
    rw [ok_MO_clear_7, f_MO_clear_7]
    by_cases e : i = 512
    · subst e
      have h : (512 : Int32) ≤ nI 512 := by decide
      rw [if_pos h]
      exact ⟨⟨fun _ => trivial, fun z => absurd h z⟩, rfl, h3⟩
    · have h : ¬ (512 : Int32) ≤ nI i := nI_ge (a := i) (b := 512) (by omega) (by omega)
      rw [if_neg h, nI_1]
      have hv : vp_in (nI i) 512 := vp_in_nI (by omega) (by omega)
      have := ih (i + 1) (upd mch (nI i).toNatClampNeg 0) (by omega) (by omega) (fun k hk => by
        rw [nI_clamp (by omega)]
        by_cases e2 : k = i
        · subst e2; exact pk_us
        · rw [pk_un e2]; exact h3 k (by omega))
      exact ⟨⟨fun z => absurd z h, fun _ => ⟨hv, this.1⟩⟩, this.2⟩
theorem mo_clear (mdr : Int32) (mch : Nat → Int32) : ok_MO_clear mdr mch ∧ (f_MO_clear mdr mch).1 = 0 ∧ ∀ k, k < 512 → (f_MO_clear mdr mch).2 k = 0 := by
  have h := mo_clear_l 0 1024 0 mch (by omega) (by omega) (fun k h => by omega)
  rw [nI_0] at h
  unfold ok_MO_clear f_MO_clear
  exact h
theorem IDr_clear {nb nt : Nat} (cdz mdr : Int32) (cch mch cva mva : Nat → Int32) : IDr (f_DR_clear cdz cch).1 (f_DR_clear cdz cch).2 cva (f_MO_clear mdr mch).1 (f_MO_clear mdr mch).2 mva := by
  obtain ⟨-, a1, a2⟩ := @dr_clear nb nt cdz cch
  obtain ⟨-, b1, b2⟩ := mo_clear mdr mch
  refine ⟨by rw [a1, b1], fun k hk => ?_, Or.inl a1⟩
  rw [a2 k hk, b2 k hk]
  exact ⟨rfl, Or.inl rfl, fun h => absurd h (by decide)⟩
set_option maxHeartbeats 1000000 in
theorem sim_undo : SIM_undo INV := by
  intro j N cfa cle cwr csl cst cen cby cto csh cdz cch cva css cve cro crc cma cbi ces cbl crt mrf msl mst men mnw mdn mpw mwr mrs mdr mtb mrc mnx mro mit mve mrb mch mva mic mlb mrw mnb mlk mnk mmd  lou hj hinv
  obtain ⟨hN1, hN2, hcsl, hmsl, hPow, hDr, hBy, hTo, hSh, hRt, S, E, r, hRo⟩ := hinv
  obtain ⟨h1, h2, h3, h4, h5, h6⟩ := hPow
  subst h2
  rcases h1 with rfl | rfl
  · refine ⟨isB_0, fun _ => ?_, ?_, ?_⟩
    · simp only [ok_BT_undo, bindp_iff]
      exact ⟨okRP_0, dr_clear cdz cch |>.1⟩
    · simp only [ok_MO_undo, bindp_iff, isUp_0]
      exact ⟨fun _ => trivial, fun _ => (mo_clear mdr mch).1⟩
    · intro z1 z2 q1 q2
      simp [g_LA_undo, th_BT_undo, f_BT_undo, bindc_def, f_DR_size] at q1
      simp [f_MO_undo, bindc_def, isUp_0] at q2
      have hcl := IDr_clear (nb := 0) (nt := 0) cdz mdr cch mch cva mva
      generalize f_DR_clear cdz cch = zc at q1 hcl
      generalize f_MO_clear mdr mch = zm at q2 hcl
      subst q1 q2
      exact ⟨rfl, fun _ => by simp [pk_uLs, hDr.1], INV_mk hN1 hN2 hcsl hmsl ⟨Or.inl rfl, rfl, h3, h4, h5, h6⟩ hcl hBy hTo hSh hRt hRo.mono⟩
  · refine ⟨isB_1, fun h => absurd h (by simp [th_BT_undo]), ?_, ?_⟩
    · simp [ok_MO_undo, bindp_iff, isUp_1]
    · intro z1 z2 q1 q2
      simp [g_LA_undo, th_BT_undo] at q1
      simp [f_MO_undo, bindc_def, isUp_1] at q2
      subst q1 q2
      exact ⟨rfl, fun h => absurd h no1, INV_mk hN1 hN2 hcsl hmsl ⟨Or.inr rfl, rfl, h3, h4, h5, h6⟩ hDr hBy hTo hSh hRt hRo.mono⟩
set_option maxHeartbeats 1000000 in
theorem sim_crash : SIM_crash INV := by
  intro j N cfa cle cwr csl cst cen cby cto csh cdz cch cva css cve cro crc cma cbi ces cbl crt mrf msl mst men mnw mdn mpw mwr mrs mdr mtb mrc mnx mro mit mve mrb mch mva mic mlb mrw mnb mlk mnk mmd p0 hj hinv
  obtain ⟨hN1, hN2, hcsl, hmsl, hPow, hDr, hBy, hTo, hSh, hRt, S, E, r, hRo⟩ := hinv
  obtain ⟨h1, h2, h3, h4, h5, h6⟩ := hPow
  subst h2
  have hbad : th_BT_crash p0 mdn = 1 → f_MO_crash p0 mrf mdn mpw = (1, mdn, mpw) := by
    intro h
    by_cases a : p0 < (-1 : Int32)
    · simp [f_MO_crash, a, bindc_def, goes_0]
    · by_cases b : (100000 : Int32) < p0
      · simp [f_MO_crash, a, b, bindc_def, goes_0]
      · rcases h1 with rfl | rfl <;> simp [th_BT_crash, a, b] at h
  have hokT : okT_BT_crash (N * 64) N p0 mdn := by
    simp only [okT_BT_crash]
    exact ⟨fun _ _ => isB_of h1, fun _ => ⟨fun _ _ => isB_of h1, fun _ _ => isB_of h1⟩⟩
  by_cases a : p0 < (-1 : Int32)
  · have t : th_BT_crash p0 mdn = 1 := by simp [th_BT_crash, a]
    refine ⟨hokT, fun h => absurd (t.symm.trans h) (by decide), trivial, ?_⟩
    intro z1 z2 q1 q2
    rw [hbad t] at q2
    simp [g_LA_crash, t] at q1
    subst q1 q2
    exact ⟨rfl, INV_mk hN1 hN2 hcsl hmsl ⟨h1, rfl, h3, h4, h5, h6⟩ hDr hBy hTo hSh hRt hRo.mono⟩
  · by_cases b : (100000 : Int32) < p0
    · have t : th_BT_crash p0 mdn = 1 := by simp [th_BT_crash, a, b]
      refine ⟨hokT, fun h => absurd (t.symm.trans h) (by decide), trivial, ?_⟩
      intro z1 z2 q1 q2
      rw [hbad t] at q2
      simp [g_LA_crash, t] at q1
      subst q1 q2
      exact ⟨rfl, INV_mk hN1 hN2 hcsl hmsl ⟨h1, rfl, h3, h4, h5, h6⟩ hDr hBy hTo hSh hRt hRo.mono⟩
    · have hp : p0 = -1 ∨ 0 ≤ p0 := by
        by_cases e : p0 = -1
        · exact Or.inl e
        · right
          rw [Int32.le_iff_toInt_le]
          have a' : ¬ p0.toInt < (-1 : Int32).toInt := fun z => a (Int32.lt_iff_toInt_lt.mpr z)
          have e' : ¬ p0.toInt = (-1 : Int32).toInt := fun z => e (Int32.toInt_inj.mp z)
          rw [show (-1 : Int32).toInt = -1 by decide] at a' e'
          rw [show (0 : Int32).toInt = 0 by decide]
          omega
      rcases h1 with rfl | rfl
      · have t : th_BT_crash p0 0 = 0 := by simp [th_BT_crash, a, b]
        refine ⟨hokT, fun _ => ?_, trivial, ?_⟩
        · simp only [ok_BT_crash, bindp_iff]
          exact ⟨fun z => absurd z a, fun _ => ⟨fun z => absurd z b, fun _ => ⟨okRA_1, okRP_0⟩⟩⟩
        · intro z1 z2 q1 q2
          simp only [g_LA_crash, t, if_true, f_BT_crash, if_neg a, if_neg b, bindc_def, f_PW_failAfter] at q1
          simp only [f_MO_crash, if_neg a, if_neg b, bindc_def, goes_10, if_neg no1] at q2
          subst q1 q2
          by_cases e : p0 = 0
          · subst e
            exact ⟨rfl, INV_mk hN1 hN2 hcsl hmsl ⟨Or.inr rfl, rfl, rfl, h4, Or.inr (by decide), fun z => absurd z no1⟩ hDr hBy hTo hSh hRt hRo.mono⟩
          · rw [if_neg e, if_neg e]
            exact ⟨rfl, INV_mk hN1 hN2 hcsl hmsl ⟨Or.inl rfl, rfl, rfl, h4, hp, fun _ => e⟩ hDr hBy hTo hSh hRt hRo.mono⟩
      · have t : th_BT_crash p0 1 = 2 := by simp [th_BT_crash, a, b]
        refine ⟨hokT, fun h => absurd (t.symm.trans h) (by decide), trivial, ?_⟩
        intro z1 z2 q1 q2
        simp [g_LA_crash, t] at q1
        simp [f_MO_crash, a, b, bindc_def, goes_11] at q2
        subst q1 q2
        exact ⟨rfl, INV_mk hN1 hN2 hcsl hmsl ⟨Or.inr rfl, rfl, h3, h4, h5, h6⟩ hDr hBy hTo hSh hRt hRo.mono⟩
theorem newest_eq {j N S E r : Nat} {cst cen mst men css : Int32} {cve cro : Nat → Int32} {mrs : Int32} {mve mrb : Nat → Int32} {mnw : Int32} (h : IRo j N S E r cst cen mst men css cve cro mrs mve mrb mnw) (hN : N ≤ 200) {nb nt : Nat} : f_SH_newest css cve = (mnw, ()) ∧ ok_SH_newest nb nt css cve := by
  obtain ⟨⟨-, -, -, -, rfl, -⟩, ⟨h1, h2, h3, h4⟩, -, -, h5⟩ := h
  rw [h5]
  rcases Nat.eq_zero_or_pos r with rfl | hr
  · refine ⟨by simp [f_SH_newest, nI_0], ?_⟩
    simp [ok_SH_newest, nI_0]
  · have e : ¬ nI r = 0 := nI_ne0 hr (by omega)
    have e2 : nI r - (1 : Int32) = nI (r - 1) := by rw [show (1 : Int32) = nI 1 from rfl, pk_sub hr]
    refine ⟨?_, ?_⟩
    · simp only [f_SH_newest, if_neg e, e2, nI_clamp (show r - 1 < 2 ^ 31 by omega), if_neg (show ¬ r = 0 by omega)]
    · simp only [ok_SH_newest, e2]
      exact ⟨fun z => absurd z e, fun _ => vp_in_nI (by omega) (by omega)⟩
set_option maxHeartbeats 1000000 in
theorem sim_told : SIM_told INV := by
  intro j N cfa cle cwr csl cst cen cby cto csh cdz cch cva css cve cro crc cma cbi ces cbl crt mrf msl mst men mnw mdn mpw mwr mrs mdr mtb mrc mnx mro mit mve mrb mch mva mic mlb mrw mnb mlk mnk mmd p0 lou hj hinv
  obtain ⟨hN1, hN2, hcsl, hmsl, hPow, hDr, hBy, hTo, hSh, hRt, S, E, r, hRo⟩ := hinv
  obtain ⟨h1, h2, h3, h4, h5, h6⟩ := hPow
  subst h2
  subst h4
  have hn := newest_eq (nb := N * 64) (nt := N) hRo hN2
  have hRo2 := hRo
  obtain ⟨⟨r1, r2, r3, r4, r5, r6⟩, -⟩ := hRo2
  have hokT : okT_BT_told (N * 64) N p0 mdn := by
    simp only [okT_BT_told]
    exact ⟨fun _ _ => isB_of h1, fun _ => ⟨fun _ _ => isB_of h1, fun _ _ => isB_of h1⟩⟩
  have hM : ok_MO_told p0 mrf mst men mnw mdn mwr mdr := ⟨fun _ => trivial, fun _ => ⟨fun _ => trivial, fun _ => trivial⟩⟩
  by_cases a : p0 < 0
  · have t : th_BT_told p0 mdn = 1 := by simp [th_BT_told, a]
    refine ⟨hokT, fun h => absurd (t.symm.trans h) (by decide), hM, ?_⟩
    intro z1 z2 q1 q2
    simp [g_LA_told, t] at q1
    simp [f_MO_told, a, f_MO_told_14, f_MO_told_15, bindc_def, goes_0] at q2
    subst q1 q2
    exact ⟨rfl, fun h => absurd h no1, INV_mk hN1 hN2 hcsl hmsl ⟨h1, rfl, h3, rfl, h5, h6⟩ hDr hBy hTo hSh hRt hRo.mono⟩
  · by_cases b : (4 : Int32) < p0
    · have t : th_BT_told p0 mdn = 1 := by simp [th_BT_told, a, b]
      refine ⟨hokT, fun h => absurd (t.symm.trans h) (by decide), hM, ?_⟩
      intro z1 z2 q1 q2
      simp [g_LA_told, t] at q1
      simp [f_MO_told, a, b, f_MO_told_14, f_MO_told_15, bindc_def, goes_0] at q2
      subst q1 q2
      exact ⟨rfl, fun h => absurd h no1, INV_mk hN1 hN2 hcsl hmsl ⟨h1, rfl, h3, rfl, h5, h6⟩ hDr hBy hTo hSh hRt hRo.mono⟩
    · rcases h1 with rfl | rfl
      · have t : th_BT_told p0 0 = 0 := by simp [th_BT_told, a, b]
        refine ⟨hokT, fun _ => ?_, hM, ?_⟩
        · simp only [ok_BT_told]
          refine ⟨fun z => absurd z a, fun _ => ⟨fun z => absurd z b, fun _ => ?_⟩⟩
          simp only [ok_BT_told_15, bindp_iff]
          exact ⟨okRA_1, okRP_0, fun _ => trivial, fun _ => ⟨fun _ => trivial, fun _ => ⟨fun _ => hn.2, fun _ => trivial⟩⟩⟩
        · intro z1 z2 q1 q2
          have hinv : INV (j + 1) N 0 cle mwr csl cst cen cby cto csh cdz cch cva css cve cro crc cma cbi ces cbl crt mrf msl mst men mnw 0 mpw mwr mrs mdr mtb mrc mnx mro mit mve mrb mch mva mic mlb mrw mnb mlk mnk mmd := INV_mk hN1 hN2 hcsl hmsl ⟨Or.inl rfl, rfl, h3, rfl, h5, h6⟩ hDr hBy hTo hSh hRt hRo.mono
          simp only [g_LA_told, t, if_true, f_BT_told, if_neg a, if_neg b, bindc_def, f_BT_told_15, f_RL_start, f_RL_end, hn.1, f_PW_written, f_DR_size] at q1
          simp only [f_MO_told, if_neg a, if_neg b, bindc_def, f_MO_told_15, goes_10, if_neg no1] at q2
          by_cases c0 : p0 = (0 : Int32)
          · rw [if_pos c0] at q1 q2; subst q1 q2
            exact ⟨rfl, fun _ => by simp [pk_uLs, r1, r2], hinv⟩
          rw [if_neg c0] at q1 q2
          by_cases c1 : p0 = (1 : Int32)
          · rw [if_pos c1] at q1 q2; subst q1 q2
            exact ⟨rfl, fun _ => by simp [pk_uLs, r3, r4], hinv⟩
          rw [if_neg c1] at q1 q2
          by_cases c2 : p0 = (2 : Int32)
          · rw [if_pos c2] at q1 q2; subst q1 q2
            exact ⟨rfl, fun _ => by simp [pk_uLs], hinv⟩
          rw [if_neg c2] at q1 q2
          by_cases c3 : p0 = (3 : Int32)
          · rw [if_pos c3] at q1 q2; subst q1 q2
            exact ⟨rfl, fun _ => by simp [pk_uLs], hinv⟩
          rw [if_neg c3] at q1 q2
          subst q1 q2
          exact ⟨rfl, fun _ => by simp [pk_uLs, hDr.1], hinv⟩
      · have t : th_BT_told p0 1 = 2 := by simp [th_BT_told, a, b]
        refine ⟨hokT, fun h => absurd (t.symm.trans h) (by decide), hM, ?_⟩
        intro z1 z2 q1 q2
        simp [g_LA_told, t] at q1
        simp [f_MO_told, a, b, f_MO_told_15, bindc_def, goes_11] at q2
        subst q1 q2
        exact ⟨rfl, fun h => absurd h no2, INV_mk hN1 hN2 hcsl hmsl ⟨Or.inr rfl, rfl, h3, rfl, h5, h6⟩ hDr hBy hTo hSh hRt hRo.mono⟩
