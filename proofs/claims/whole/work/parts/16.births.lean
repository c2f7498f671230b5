/-! ===== births and questions ===== -/
theorem bs_and (f g : Nat → Bool) {n : Nat} (hn : n ≤ 32) : bsF f n &&& bsF g n = bsF (fun i => f i && g i) n := by
  apply b_ext
  intro i hi
  rw [b_and, bsF_bt f n hn i hi, bsF_bt g n hn i hi, bsF_bt _ n hn i hi]
  cases decide (i < n) <;> simp
theorem bs_andn (f g : Nat → Bool) {n : Nat} (hn : n ≤ 32) : bsF f n &&& (bsF g n ^^^ (-1)) = bsF (fun i => f i && !(g i)) n := by
  apply b_ext
  intro i hi
  rw [b_and, b_not hi, bsF_bt f n hn i hi, bsF_bt g n hn i hi, bsF_bt _ n hn i hi]
  cases decide (i < n) <;> simp
theorem bit_test (x : Int32) {i : Nat} (hi : i < 32) : (x &&& (1 <<< (nI i &&& 31))) = 0 ↔ bt x i = false := by
  constructor
  · intro h
    have q := b_eq0.mp h i hi
    rw [b_and, b_one i hi hi] at q
    simpa using q
  · intro h
    apply b_eq0.mpr
    intro j hj
    rw [b_and, b_one i hi hj]
    by_cases e : j = i
    · subst e; rw [h]; rfl
    · rw [decide_eq_false e, Bool.and_false]
theorem has_x (x : Int32) {i : Nat} (hi : i < 32) : fX4_has x (nI i) = some (bI (bt x i)) := by
  unfold fX4_has fX4_has_14
  rw [bit_at x hi, ck_t zb_0, ck_t zb_1]
  cases bt x i
  · rw [if_neg (by decide)]; rfl
  · rw [if_pos (by decide)]; rfl
theorem cnt_split (f g : Nat → Bool) (n : Nat) : cnt (fun i => f i && g i) n + cnt (fun i => f i && !(g i)) n = cnt f n := by
  induction n with
  | zero => rfl
  | succ n ih =>
    show cnt (fun i => f i && g i) n + (if f n && g n then 1 else 0) + (cnt (fun i => f i && !(g i)) n + (if f n && !(g n) then 1 else 0)) = cnt f n + (if f n then 1 else 0)
    cases f n <;> cases g n <;> simp <;> omega
/-- the foundling of a kind, born in a year, by the first trials -/
def brn (c : Ce) (kd : Int32) : Nat → Nat → Bool
  | 0, _ => true
  | j + 1, y => brn c kd j y && (may (c_w c) (c_l c (c_c c j)) kd (nI y) == !(c_o c j))
def bth (c : Ce) (kd : Int32) : Int32 := bsF (fun y => brn c kd (c_t c) y) 10
section
variable {A B : Me} {k k1 : Nat} {r : Nat → Nat} {c : Ce}
theorem birthsThatMay_24 (kd : Int32) : ∀ (d i n : Nat), i + d = 10 → d < n → fX1_birthsThatMay_24 A k n kd (ag (c_w c) r) (nI (cnt (yb r) 10)) (bsF (fun y => may (c_w c) r kd (nI y)) i) (nI i) = some (bsF (fun y => may (c_w c) r kd (nI y)) 10) := by
  have hc := cnt_le (yb r) 10
  intro d
  induction d with
  | zero =>
    intro i n hi hn
    obtain ⟨n, rfl, -⟩ := fuel hn
    have : i = 10 := by omega
    subst this
    rw [fX1_birthsThatMay_24, if_pos (g10_t (by omega))]
  | succ d ih =>
    intro i n hi hn
    obtain ⟨n, rfl, hn2⟩ := fuel hn
    rw [fX1_birthsThatMay_24, if_neg (g10_f (by omega)), bi_e (mayDrink _ _ _ (by omega))]
    have q := ih (i + 1) n (by omega) (by omega)
    rw [show bsF (fun y => may (c_w c) r kd (nI y)) (i + 1) = if may (c_w c) r kd (nI i) then bsF (fun y => may (c_w c) r kd (nI y)) i ||| (1 <<< (nI i &&& 31)) else bsF (fun y => may (c_w c) r kd (nI y)) i from rfl] at q
    unfold fX1_birthsThatMay_52
    rw [nI_1]
    cases hm : may (c_w c) r kd (nI i)
    · rw [if_pos (by unfold may at hm; rw [hm]; rfl)]
      rw [hm] at q
      exact q
    · rw [if_neg (by unfold may at hm; rw [hm]; decide)]
      rw [hm] at q
      exact q
theorem birthsThatMay (h : RC A k c) (hr : CR A k1 r) (hb : sf r 10 ≤ 1000) (kd : Int32) : fX1_birthsThatMay A k kd k1 = some (bsF (fun y => may (c_w c) r kd (nI y)) 10) := by
  unfold fX1_birthsThatMay
  rw [h.1, bi_e (age hr.1 hb hr.2 _), bi_e (yearBits hr.1 hb), bi_e (bc_bs (yb r) (by omega))]
  exact birthsThatMay_24 kd 10 0 FU (by omega) (by decide)
theorem possibleBirths_6 (h : RC A k c) (hw : Wf c) (kd : Int32) : ∀ (d i n : Nat), i + d = c_t c → d < n → fX1_possibleBirths_6 A k n kd (bsF (fun y => brn c kd i y) 10) (nI i) = some (bth c kd) := by
  have hn5 := hw.1
  have ht8 := hw.2.2.1
  intro d
  induction d with
  | zero =>
    intro i n hi hn
    obtain ⟨n, rfl, -⟩ := fuel hn
    have : i = c_t c := by omega
    rw [fX1_possibleBirths_6, h.2.2.2.1, this, if_pos (lim_t (Nat.le_refl _))]
    rfl
  | succ d ih =>
    intro i n hi hn
    obtain ⟨n, rfl, hn2⟩ := fuel hn
    have hc := hw.2.2.2.2.1 i (by omega)
    have hl := hw.2.2.2.1 (c_c c i) (by omega)
    rw [fX1_possibleBirths_6, h.2.2.2.1, if_neg (lim_f (by omega)), ck_t (inb_t (by omega) (by omega)), nI_clamp (by omega), h.2.2.2.2.2.2.2 i (by omega), bi_e (hasCask h _), icB_t hc (by omega), if_neg (by decide), ck_t (inb_t (by omega) (by omega)), nI_clamp (by omega), bi_e (birthsThatMay h (h.2.2.2.2.2.1 (c_c c i) (by omega)) (by omega) kd)]
    have q := ih (i + 1) n (by omega) (by omega)
    have hbit := h.2.2.2.2.1 i (by omega)
    rw [decide_eq_true (by omega : i < c_t c), Bool.true_and] at hbit
    unfold fX1_possibleBirths_47 fX1_possibleBirths_65 fX1_possibleBirths_82
    cases ho : c_o c i
    · rw [if_pos ((bit_test _ (by omega)).mpr (by rw [hbit, ho])), if_pos rfl, nI_1, bs_and _ _ (by omega)]
      rw [show (fun y => brn c kd (i + 1) y) = (fun y => brn c kd i y && may (c_w c) (c_l c (c_c c i)) kd (nI y)) from funext (fun y => by
        show (brn c kd i y && (may (c_w c) (c_l c (c_c c i)) kd (nI y) == !(c_o c i))) = _
        rw [ho]; cases may (c_w c) (c_l c (c_c c i)) kd (nI y) <;> simp)] at q
      exact q
    · rw [if_neg (fun x => by have := (bit_test _ (by omega)).mp x; rw [hbit, ho] at this; cases this), if_neg (by decide), nI_1, bs_andn _ _ (by omega)]
      rw [show (fun y => brn c kd (i + 1) y) = (fun y => brn c kd i y && !(may (c_w c) (c_l c (c_c c i)) kd (nI y))) from funext (fun y => by
        show (brn c kd i y && (may (c_w c) (c_l c (c_c c i)) kd (nI y) == !(c_o c i))) = _
        rw [ho]; cases may (c_w c) (c_l c (c_c c i)) kd (nI y) <;> simp)] at q
      exact q
theorem possibleBirths (h : RC A k c) (hw : Wf c) (kd : Int32) : fX1_possibleBirths A k kd = some (bth c kd) := by
  unfold fX1_possibleBirths
  rw [show (1023 : Int32) = bsF (fun y => brn c kd 0 y) 10 from by
    show (1023 : Int32) = bsF (fun _ => true) 10
    decide +kernel]
  exact possibleBirths_6 h hw kd (c_t c) 0 FU (by omega) (Nat.lt_of_le_of_lt hw.2.2.1 (by decide))
theorem isBorn_5 (hw : Wf c) (kd : Int32) (y : Nat) : ∀ (d i n : Nat) (B : Me), RB B c → i + d = c_t c → d < n → ∃ B', fX4_isBorn_5 n B kd (nI y) (bI (brn c kd i y)) (nI i) = some (bI (brn c kd (c_t c) y), B') ∧ Ag S60 B B' := by
  have hn5 := hw.1
  have ht8 := hw.2.2.1
  intro d
  induction d with
  | zero =>
    intro i n B h hi hn
    obtain ⟨n, rfl, -⟩ := fuel hn
    have : i = c_t c := by omega
    rw [fX4_isBorn_5, h.2.2.2.1, this, if_pos (lim_t (Nat.le_refl _)), ck_t (zb_bI _)]
    exact ⟨B, rfl, Ag.rf⟩
  | succ d ih =>
    intro i n B h hi hn
    obtain ⟨n, rfl, hn2⟩ := fuel hn
    have hc := hw.2.2.2.2.1 i (by omega)
    have hl := hw.2.2.2.1 (c_c c i) (by omega)
    obtain ⟨B1, h1, h2, h3⟩ := think (show c_c c i < 5 by omega) h.2.2.2.2.1
    have hB1 := h.ag h2
    obtain ⟨B', q, g⟩ := ih (i + 1) n B1 hB1 (by omega) (by omega)
    rw [fX4_isBorn_5, h.2.2.2.1, if_neg (lim_f (by omega)), ck_t (inb_t (by omega) (by omega)), nI_clamp (by omega), (h.2.2.2.2.2.2 i (by omega)).1, bi_e h1]
    refine ⟨B', ?_, h2.tr g⟩
    rw [show brn c kd (i + 1) y = (brn c kd i y && (may (c_w c) (c_l c (c_c c i)) kd (nI y) == !(c_o c i))) from rfl] at q
    unfold fX4_isBorn_50 fX4_isBorn_57 fX4_isBorn_58
    rw [nI_1]
    cases hb : brn c kd i y
    · rw [if_pos (by decide)]
      rw [hb] at q
      exact q
    · rw [if_neg (by decide), bi_e (mayThought h3 (by omega) _ _), ck_t (inb_t (by omega) (by omega)), (hB1.2.2.2.2.2.2 i (by omega)).2, hB1.1]
      rw [hb, Bool.true_and] at q
      cases ho : c_o c i <;> cases hm : may (c_w c) (c_l c (c_c c i)) kd (nI y) <;> rw [ho, hm] at q
      · rw [if_pos (by decide), if_neg (by decide)]; exact q
      · rw [if_pos (by decide), if_pos (by decide)]; exact q
      · rw [if_neg (by decide), if_pos (by decide)]; exact q
      · rw [if_neg (by decide), if_neg (by decide)]; exact q
theorem isBorn (h : RB B c) (hw : Wf c) (kd : Int32) (y : Nat) : ∃ B', fX4_isBorn B kd (nI y) = some (bI (brn c kd (c_t c) y), B') ∧ Ag S60 B B' :=
  isBorn_5 hw kd y (c_t c) 0 FU B h (by omega) (Nat.lt_of_le_of_lt hw.2.2.1 (by decide))
theorem birthsNow_4 (hw : Wf c) (kd : Int32) : ∀ (d i n : Nat) (B : Me), RB B c → i + d = 10 → d < n → ∃ B', fX4_birthsNow_4 n B kd (bsF (fun y => brn c kd (c_t c) y) i) (nI i) = some (bth c kd, B') ∧ Ag S60 B B' := by
  intro d
  induction d with
  | zero =>
    intro i n B h hi hn
    obtain ⟨n, rfl, -⟩ := fuel hn
    have : i = 10 := by omega
    subst this
    rw [fX4_birthsNow_4, if_pos (g10_t (by omega))]
    exact ⟨B, rfl, Ag.rf⟩
  | succ d ih =>
    intro i n B h hi hn
    obtain ⟨n, rfl, hn2⟩ := fuel hn
    obtain ⟨B1, h1, h2⟩ := isBorn h hw kd i
    obtain ⟨B', q, g⟩ := ih (i + 1) n B1 (h.ag h2) (by omega) (by omega)
    rw [fX4_birthsNow_4, if_neg (g10_f (by omega)), b2_e h1]
    refine ⟨B', ?_, h2.tr g⟩
    rw [show bsF (fun y => brn c kd (c_t c) y) (i + 1) = if brn c kd (c_t c) i then bsF (fun y => brn c kd (c_t c) y) i ||| (1 <<< (nI i &&& 31)) else bsF (fun y => brn c kd (c_t c) y) i from rfl] at q
    unfold fX4_birthsNow_27
    rw [nI_1]
    cases hm : brn c kd (c_t c) i
    · rw [if_pos (by decide), Int32.or_zero]
      rw [hm] at q
      exact q
    · rw [if_neg (by decide)]
      rw [hm] at q
      exact q
theorem birthsNow (h : RB B c) (hw : Wf c) (kd : Int32) : ∃ B', fX4_birthsNow B kd = some (bth c kd, B') ∧ Ag S60 B B' :=
  birthsNow_4 hw kd 10 0 FU B h (by omega) (by decide)
/-! ask -/
def mcn (c : Ce) (kd : Int32) (j : Nat) : Nat := cnt (fun y => brn c kd (c_t c) y && may (c_w c) (c_l c j) kd (nI y)) 10
def ncn (c : Ce) (kd : Int32) (j : Nat) : Nat := cnt (fun y => brn c kd (c_t c) y && !(may (c_w c) (c_l c j) kd (nI y))) 10
def wst (c : Ce) (kd : Int32) (j : Nat) : Nat := if sf (c_l c j) 10 = 0 then 268435456 else if mcn c kd j ≤ ncn c kd j then ncn c kd j else mcn c kd j
def akb (c : Ce) (kd : Int32) : Nat → Int32
  | 0 => -1
  | j + 1 => if wst c kd j < akl c kd j then nI j else akb c kd j
where
  akl (c : Ce) (kd : Int32) : Nat → Nat
    | 0 => 268435456
    | j + 1 => if wst c kd j < akl c kd j then wst c kd j else akl c kd j
def ask_ (c : Ce) (kd : Int32) : Int32 := if bth c kd = 0 then -1 else akb c kd (c_n c)
end
