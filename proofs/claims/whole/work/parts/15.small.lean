/-! ===== tests of arguments, sums, what one person may ===== -/
def icB (v : Int32) (n : Nat) : Bool := decide (¬ v < 0 ∧ ¬ nI n ≤ v)
def apB (v : Int32) (p : Nat) : Bool := decide (¬ v < 0 ∧ ¬ nI (2 ^ p - 1) < v)
theorem withinX (v lo hi : Int32) : fX4_within v lo hi = some (bI (decide (¬ v < lo ∧ ¬ hi < v))) := by
  unfold fX4_within fX4_within_14 fX4_within_15
  rw [ck_t zb_0, ck_t zb_1]
  by_cases h : v < lo
  · rw [if_pos h, decide_eq_false (fun q => q.1 h)]; rfl
  · rw [if_neg h]
    by_cases h2 : hi < v
    · rw [if_pos h2, decide_eq_false (fun q => q.2 h2)]; rfl
    · rw [if_neg h2, decide_eq_true ⟨h, h2⟩]; rfl
theorem pred_lt {n : Nat} (hn : n ≤ 8) (v : Int32) : nI n - 1 < v ↔ nI n ≤ v := by
  rw [Int32.lt_iff_toInt_lt, Int32.le_iff_toInt_le]
  have h : (nI n - 1).toInt = (n : Int) - 1 := (by decide +kernel : ∀ n, n ≤ 8 → (nI n - 1).toInt = (n : Int) - 1) n hn
  rw [h, nI_toInt (by omega)]
  omega
theorem icB_of {v : Int32} {n : Nat} (hn : n < 2 ^ 31) (h : icB v n = true) : ∃ i, i < n ∧ v = nI i := by
  have q : ¬ v < 0 ∧ ¬ nI n ≤ v := of_decide_eq_true h
  obtain ⟨j, hj, e⟩ := nI_of q.1
  refine ⟨j, ?_, e⟩
  rcases Nat.lt_or_ge j n with l | l
  · exact l
  · exact absurd (by rw [e]; exact nI_le l hj) q.2
theorem icB_t {i n : Nat} (h : i < n) (hn : n < 2 ^ 31) : icB (nI i) n = true := decide_eq_true ⟨nI_pos (by omega), nI_ge h hn⟩
theorem bt_nI (j i : Nat) (hi : i < 32) : bt (nI j) i = j.testBit i := by
  unfold bt
  show (BitVec.ofNat 32 j).getLsbD i = _
  rw [BitVec.getLsbD_ofNat, decide_eq_true hi, Bool.true_and]
theorem apB_iff {p : Nat} (hp : p ≤ 5) (v : Int32) : (v &&& (nI (2 ^ p - 1) ^^^ (-1))) = 0 ↔ (¬ v < 0 ∧ ¬ nI (2 ^ p - 1) < v) := by
  have hpw : 2 ^ p ≤ 32 := Nat.pow_le_pow_right (by omega) hp
  have hp1 : 1 ≤ 2 ^ p := Nat.one_le_two_pow
  constructor
  · intro h
    have hb : ∀ i, p ≤ i → i < 32 → bt v i = false := by
      intro i hi hi2
      have q := b_eq0.mp h i hi2
      rw [b_and, b_not hi2, bt_nI _ _ hi2, Nat.testBit_two_pow_sub_one, decide_eq_false (by omega)] at q
      simpa using q
    obtain ⟨m, hm, rfl⟩ := small_of (n := p) (by omega) hb
    exact ⟨nI_pos (by omega), fun q => by have := (nI_ltI (by omega) (by omega)).mp q; omega⟩
  · rintro ⟨h1, h2⟩
    obtain ⟨j, hj, rfl⟩ := nI_of h1
    have hlt : j < 2 ^ p := by
      rcases Nat.lt_or_ge j (2 ^ p) with l | l
      · exact l
      · exact absurd (nI_lt (by omega) hj) h2
    apply b_eq0.mpr
    intro i hi
    rw [b_and, b_not hi, bt_nI _ _ hi, bt_nI _ _ hi, Nat.testBit_two_pow_sub_one]
    by_cases l : i < p
    · rw [decide_eq_true l]; simp
    · rw [Nat.testBit_lt_two_pow (Nat.lt_of_lt_of_le hlt (Nat.pow_le_pow_right (by omega) (by omega)))]
      rfl
theorem apB_of {v : Int32} {p : Nat} (hp : p ≤ 5) (h : apB v p = true) : ∃ m, m < 2 ^ p ∧ v = nI m := by
  have hpw : 2 ^ p ≤ 32 := Nat.pow_le_pow_right (by omega) hp
  have hp1 : 1 ≤ 2 ^ p := Nat.one_le_two_pow
  have q : ¬ v < 0 ∧ ¬ nI (2 ^ p - 1) < v := of_decide_eq_true h
  obtain ⟨j, hj, rfl⟩ := nI_of q.1
  refine ⟨j, ?_, rfl⟩
  rcases Nat.lt_or_ge j (2 ^ p) with l | l
  · exact l
  · exact absurd (nI_lt (by omega) hj) q.2
theorem shl_p {p : Nat} (hp : p ≤ 5) : ((1 : Int32) <<< (nI p &&& 31)) - 1 = nI (2 ^ p - 1) := (by decide +kernel : ∀ p, p ≤ 5 → ((1 : Int32) <<< (nI p &&& 31)) - 1 = nI (2 ^ p - 1)) p hp
theorem shl_n {p : Nat} (hp : p ≤ 5) : ((1 : Int32) <<< (nI p &&& 31)) = nI (2 ^ p) := (by decide +kernel : ∀ p, p ≤ 5 → ((1 : Int32) <<< (nI p &&& 31)) = nI (2 ^ p)) p hp
def isum (f : Nat → Int32) : Nat → Int32
  | 0 => 0
  | n + 1 => isum f n + f n
def lsum (l : Nat → Nat → Nat) (n : Nat) : Nat := sf (fun c => sf (l c) 10) n
section
variable {A B : Me} {k : Nat} {c : Ce}
theorem hasCask (h : RC A k c) (v : Int32) : fX1_hasCask A k v = some (bI (icB v (c_n c))) := by
  unfold fX1_hasCask fX1_hasCask_16 fX1_hasCask_17 icB
  rw [h.2.1, ck_t zb_0, ck_t zb_1]
  by_cases h1 : v < 0
  · rw [if_pos h1, decide_eq_false (fun q => q.1 h1)]; rfl
  · rw [if_neg h1]
    by_cases h2 : nI (c_n c) ≤ v
    · rw [if_pos h2, decide_eq_false (fun q => q.2 h2)]; rfl
    · rw [if_neg h2, decide_eq_true ⟨h1, h2⟩]; rfl
theorem hasPerson (h : RC A k c) (v : Int32) : fX1_hasPerson A k v = some (bI (icB v (c_p c))) := by
  unfold fX1_hasPerson fX1_hasPerson_16 fX1_hasPerson_17 icB
  rw [h.2.2.1, ck_t zb_0, ck_t zb_1]
  by_cases h1 : v < 0
  · rw [if_pos h1, decide_eq_false (fun q => q.1 h1)]; rfl
  · rw [if_neg h1]
    by_cases h2 : nI (c_p c) ≤ v
    · rw [if_pos h2, decide_eq_false (fun q => q.2 h2)]; rfl
    · rw [if_neg h2, decide_eq_true ⟨h1, h2⟩]; rfl
theorem isThere (h : RC A k c) (hw : Wf c) : fX1_isThere A k = some (bI (decide (0 < c_n c))) := by
  unfold fX1_isThere fX1_isThere_12
  have := hw.1
  rw [h.2.1, ck_t zb_0, ck_t zb_1]
  by_cases h1 : 0 < c_n c
  · rw [if_neg (fun q => by have := (nI_le0 (by omega)).mp q; omega), decide_eq_true h1]; rfl
  · rw [if_pos ((nI_le0 (by omega)).mpr (by omega)), decide_eq_false h1]; rfl
theorem allPeople (h : RC A k c) (hw : Wf c) : fX1_allPeople A k = some (nI (2 ^ c_p c - 1)) := by
  unfold fX1_allPeople
  rw [h.2.2.1, shl_p hw.2.1]
theorem arePeople (h : RC A k c) (hw : Wf c) (v : Int32) : fX1_arePeople A k v = some (bI (apB v (c_p c))) := by
  unfold fX1_arePeople fX1_arePeople_16 apB
  rw [bi_e (allPeople h hw), ck_t zb_0, ck_t zb_1]
  by_cases q : (v &&& (nI (2 ^ c_p c - 1) ^^^ (-1))) = 0
  · rw [if_pos q, decide_eq_true ((apB_iff hw.2.1 v).mp q)]; rfl
  · rw [if_neg q, decide_eq_false (fun x => q ((apB_iff hw.2.1 v).mpr x))]; rfl
theorem isCask (h : RB B c) (hw : Wf c) (v : Int32) : fX4_isCask B v = some (bI (icB v (c_n c))) := by
  unfold fX4_isCask icB
  have := hw.1
  rw [h.2.1, bi_e (withinX _ _ _), ck_t (zb_bI _)]
  congr 2
  rw [decide_eq_decide]
  rw [pred_lt (by omega)]
theorem isPerson (h : RB B c) (hw : Wf c) (v : Int32) : fX4_isPerson B v = some (bI (icB v (c_p c))) := by
  unfold fX4_isPerson icB
  have := hw.2.1
  rw [h.2.2.1, bi_e (withinX _ _ _), ck_t (zb_bI _)]
  congr 2
  rw [decide_eq_decide]
  rw [pred_lt (by omega)]
theorem arePeopleT (h : RB B c) (hw : Wf c) (v : Int32) : fX4_arePeople B v = some (bI (apB v (c_p c))) := by
  unfold fX4_arePeople apB
  rw [h.2.2.1, shl_p hw.2.1, bi_e (withinX _ _ _), ck_t (zb_bI _)]
theorem litresIn (h : RB B c) {i : Nat} (hi : i < 5) : ∃ B', fX4_litresIn B (nI i) = some (nI (sf (c_l c i) 10), B') ∧ Ag S60 B B' ∧ RR (B' 60) (c_l c i) := by
  obtain ⟨B1, h1, h2, h3⟩ := think hi h.2.2.2.2.1
  refine ⟨B1, ?_, h2, h3⟩
  unfold fX4_litresIn
  rw [bi_e h1, bi_e (litresThought h3)]
theorem latestIn (h : RB B c) (hw : Wf c) {i : Nat} (hi : i < 5) : ∃ B', fX4_latestIn B (nI i) = some (ltf (c_l c i) 10, B') ∧ Ag S60 B B' ∧ RR (B' 60) (c_l c i) := by
  obtain ⟨B1, h1, h2, h3⟩ := think hi h.2.2.2.2.1
  refine ⟨B1, ?_, h2, h3⟩
  have := hw.2.2.2.1 i hi
  unfold fX4_latestIn
  rw [bi_e h1, bi_e (latestThought h3 (by omega))]
theorem casksFor_4 (h : RC A k c) (hw : Wf c) {p : Nat} (hp : p < c_p c) : ∀ (d i n : Nat), i + d = c_n c → d < n → fX1_casksFor_4 A k n (nI p) (bsF (fun j => may (c_w c) (c_l c j) (c_k c p) (c_b c p)) i) (nI i) = some (bsF (fun j => may (c_w c) (c_l c j) (c_k c p) (c_b c p)) (c_n c)) := by
  have hn5 := hw.1
  intro d
  induction d with
  | zero =>
    intro i n hi hn
    obtain ⟨n, rfl, -⟩ := fuel hn
    have : i = c_n c := by omega
    rw [fX1_casksFor_4, h.2.1, this, if_pos (lim_t (Nat.le_refl _))]
  | succ d ih =>
    intro i n hi hn
    obtain ⟨n, rfl, hn2⟩ := fuel hn
    have hl := hw.2.2.2.1 i (by omega)
    rw [fX1_casksFor_4, h.2.1, if_neg (lim_f (by omega)), ck_t (inb_t (by omega) (by omega)), nI_clamp (by omega), bi_e (allMay h hw (h.2.2.2.2.2.1 i (by omega)) (by omega) _), alB_one hw hp]
    have q := ih (i + 1) n (by omega) (by omega)
    rw [show bsF (fun j => may (c_w c) (c_l c j) (c_k c p) (c_b c p)) (i + 1) = if may (c_w c) (c_l c i) (c_k c p) (c_b c p) then bsF (fun j => may (c_w c) (c_l c j) (c_k c p) (c_b c p)) i ||| (1 <<< (nI i &&& 31)) else bsF (fun j => may (c_w c) (c_l c j) (c_k c p) (c_b c p)) i from rfl] at q
    unfold fX1_casksFor_34
    rw [nI_1]
    cases hm : may (c_w c) (c_l c i) (c_k c p) (c_b c p)
    · rw [if_pos (by decide)]
      rw [hm] at q
      exact q
    · rw [if_neg (by decide)]
      rw [hm] at q
      exact q
def mof_ (c : Ce) (p : Nat) : Int32 := bsF (fun j => may (c_w c) (c_l c j) (c_k c p) (c_b c p)) (c_n c)
theorem casksFor (h : RC A k c) (hw : Wf c) {p : Nat} (hp : p < c_p c) : fX1_casksFor A k (nI p) = some (mof_ c p) :=
  casksFor_4 h hw hp (c_n c) 0 FU (by omega) (Nat.lt_of_le_of_lt hw.1 (by decide))
theorem mayOf_4 (hw : Wf c) {p : Nat} (hp : p < c_p c) : ∀ (d i n : Nat) (B : Me), RB B c → i + d = c_n c → d < n → ∃ B', fX4_mayOf_4 n B (nI p) (bsF (fun j => may (c_w c) (c_l c j) (c_k c p) (c_b c p)) i) (nI i) = some (mof_ c p, B') ∧ Ag S60 B B' := by
  have hn5 := hw.1
  have hp5 := hw.2.1
  intro d
  induction d with
  | zero =>
    intro i n B h hi hn
    obtain ⟨n, rfl, -⟩ := fuel hn
    have : i = c_n c := by omega
    rw [fX4_mayOf_4, h.2.1, this, if_pos (lim_t (Nat.le_refl _))]
    exact ⟨B, rfl, Ag.rf⟩
  | succ d ih =>
    intro i n B h hi hn
    obtain ⟨n, rfl, hn2⟩ := fuel hn
    have hl := hw.2.2.2.1 i (by omega)
    obtain ⟨B1, h1, h2, h3⟩ := think (show i < 5 by omega) h.2.2.2.2.1
    have hB1 := h.ag h2
    have hx := hB1.2.2.2.2.2.1 p hp
    rw [fX4_mayOf_4, h.2.1, if_neg (lim_f (by omega)), bi_e h1, ck_t (inb_t (by omega) (by omega)), ck_t (inb_t (by omega) (by omega)), nI_clamp (by omega), hx.1, hx.2.1, bi_e (mayThought h3 (by omega) _ _), hB1.1]
    obtain ⟨B', q, g⟩ := ih (i + 1) n B1 hB1 (by omega) (by omega)
    refine ⟨B', ?_, h2.tr g⟩
    rw [show bsF (fun j => may (c_w c) (c_l c j) (c_k c p) (c_b c p)) (i + 1) = if may (c_w c) (c_l c i) (c_k c p) (c_b c p) then bsF (fun j => may (c_w c) (c_l c j) (c_k c p) (c_b c p)) i ||| (1 <<< (nI i &&& 31)) else bsF (fun j => may (c_w c) (c_l c j) (c_k c p) (c_b c p)) i from rfl] at q
    unfold fX4_mayOf_44
    rw [nI_1]
    cases hm : may (c_w c) (c_l c i) (c_k c p) (c_b c p)
    · rw [if_pos (by decide), Int32.or_zero]
      rw [hm] at q
      exact q
    · rw [if_neg (by decide)]
      rw [hm] at q
      exact q
theorem mayOf (h : RB B c) (hw : Wf c) {p : Nat} (hp : p < c_p c) : ∃ B', fX4_mayOf B (nI p) = some (mof_ c p, B') ∧ Ag S60 B B' :=
  mayOf_4 hw hp (c_n c) 0 FU B h (by omega) (Nat.lt_of_le_of_lt hw.1 (by decide))
theorem litresInAll_4 (h : RC A k c) (hw : Wf c) : ∀ (d i n : Nat), i + d = c_n c → d < n → fX1_litresInAll_4 A k n (nI (lsum (c_l c) i)) (nI i) = some (nI (lsum (c_l c) (c_n c))) := by
  have hn5 := hw.1
  intro d
  induction d with
  | zero =>
    intro i n hi hn
    obtain ⟨n, rfl, -⟩ := fuel hn
    have : i = c_n c := by omega
    rw [fX1_litresInAll_4, h.2.1, this, if_pos (lim_t (Nat.le_refl _))]
  | succ d ih =>
    intro i n hi hn
    obtain ⟨n, rfl, hn2⟩ := fuel hn
    rw [fX1_litresInAll_4, h.2.1, if_neg (lim_f (by omega)), ck_t (inb_t (by omega) (by omega)), nI_clamp (by omega), fX1_litresInAll_24, (h.2.2.2.2.2.1 i (by omega)).2, nI_1, nI_add]
    exact ih (i + 1) n (by omega) (by omega)
theorem litresInAll (h : RC A k c) (hw : Wf c) : fX1_litresInAll A k = some (nI (lsum (c_l c) (c_n c))) :=
  litresInAll_4 h hw (c_n c) 0 FU (by omega) (Nat.lt_of_le_of_lt hw.1 (by decide))
theorem litresAll_4 (hw : Wf c) : ∀ (d i n : Nat) (B : Me), RB B c → i + d = c_n c → d < n → ∃ B', fX4_litresAll_4 n B (nI (lsum (c_l c) i)) (nI i) = some (nI (lsum (c_l c) (c_n c)), B') ∧ Ag S60 B B' := by
  have hn5 := hw.1
  intro d
  induction d with
  | zero =>
    intro i n B h hi hn
    obtain ⟨n, rfl, -⟩ := fuel hn
    have : i = c_n c := by omega
    rw [fX4_litresAll_4, h.2.1, this, if_pos (lim_t (Nat.le_refl _))]
    exact ⟨B, rfl, Ag.rf⟩
  | succ d ih =>
    intro i n B h hi hn
    obtain ⟨n, rfl, hn2⟩ := fuel hn
    obtain ⟨B1, h1, h2, h3⟩ := litresIn h (show i < 5 by omega)
    obtain ⟨B', q, g⟩ := ih (i + 1) n B1 (h.ag h2) (by omega) (by omega)
    rw [fX4_litresAll_4, h.2.1, if_neg (lim_f (by omega)), b2_e h1, nI_1, nI_add]
    exact ⟨B', q, h2.tr g⟩
theorem litresAll (h : RB B c) (hw : Wf c) : ∃ B', fX4_litresAll B = some (nI (lsum (c_l c) (c_n c)), B') ∧ Ag S60 B B' :=
  litresAll_4 hw (c_n c) 0 FU B h (by omega) (Nat.lt_of_le_of_lt hw.1 (by decide))
theorem illInAll_4 (h : RC A k c) (hw : Wf c) : ∀ (d i n : Nat), i + d = c_p c → d < n → fX1_illInAll_4 A k n (isum (c_i c) i) (nI i) = some (isum (c_i c) (c_p c)) := by
  have hp := hw.2.1
  intro d
  induction d with
  | zero =>
    intro i n hi hn
    obtain ⟨n, rfl, -⟩ := fuel hn
    have : i = c_p c := by omega
    rw [fX1_illInAll_4, h.2.2.1, this, if_pos (lim_t (Nat.le_refl _))]
  | succ d ih =>
    intro i n hi hn
    obtain ⟨n, rfl, hn2⟩ := fuel hn
    rw [fX1_illInAll_4, h.2.2.1, if_neg (lim_f (by omega)), ck_t (inb_t (by omega) (by omega)), nI_clamp (by omega), (h.2.2.2.2.2.2.1 i (by omega)).2.2, nI_1]
    exact ih (i + 1) n (by omega) (by omega)
theorem illInAll (h : RC A k c) (hw : Wf c) : fX1_illInAll A k = some (isum (c_i c) (c_p c)) :=
  illInAll_4 h hw (c_p c) 0 FU (by omega) (Nat.lt_of_le_of_lt hw.2.1 (by decide))
theorem illAll_4 (h : RB B c) (hw : Wf c) : ∀ (d i n : Nat), i + d = c_p c → d < n → fX4_illAll_4 B n (isum (c_i c) i) (nI i) = some (isum (c_i c) (c_p c)) := by
  have hp := hw.2.1
  intro d
  induction d with
  | zero =>
    intro i n hi hn
    obtain ⟨n, rfl, -⟩ := fuel hn
    have : i = c_p c := by omega
    rw [fX4_illAll_4, h.2.2.1, this, if_pos (lim_t (Nat.le_refl _))]
  | succ d ih =>
    intro i n hi hn
    obtain ⟨n, rfl, hn2⟩ := fuel hn
    rw [fX4_illAll_4, h.2.2.1, if_neg (lim_f (by omega)), ck_t (inb_t (by omega) (by omega)), nI_clamp (by omega), (h.2.2.2.2.2.1 i (by omega)).2.2, nI_1]
    exact ih (i + 1) n (by omega) (by omega)
theorem illAll (h : RB B c) (hw : Wf c) : fX4_illAll B = some (isum (c_i c) (c_p c)) :=
  illAll_4 h hw (c_p c) 0 FU (by omega) (Nat.lt_of_le_of_lt hw.2.1 (by decide))
end
