/-! ===== who may ===== -/
def bI (b : Bool) : Int32 := if b then 1 else 0
theorem zb_bI (b : Bool) : zb (bI b) = true := by cases b <;> decide
theorem bI_0 {b : Bool} : bI b = 0 ↔ b = false := by cases b <;> decide
def myB (kd bo age : Int32) (ny : Nat) : Bool := if age = -1 then false else if kd = 1 then decide (¬ age < bo) else if kd = 2 then decide (¬ age < bo + 2) else if kd = 3 then true else if kd = 4 then decide (¬ age < bo) && decide (ny < 3) else decide (¬ age ≤ bo)
def may (w : Int32) (r : Nat → Nat) (kd bo : Int32) : Bool := myB kd bo (ag w r) (cnt (yb r) 10)
theorem ite_bI {c : Prop} [Decidable c] : (if c then some (0 : Int32) else some 1) = some (bI (decide (¬ c))) := by
  by_cases h : c
  · rw [if_pos h, decide_eq_false (fun q => q h)]; rfl
  · rw [if_neg h, decide_eq_true h]; rfl
theorem mayDrink (kd bo age : Int32) {ny : Nat} (hn : ny < 2 ^ 31) : fX3_mayDrink kd bo age (nI ny) = some (bI (myB kd bo age ny)) := by
  unfold fX3_mayDrink fX3_mayDrink_50 fX3_mayDrink_63 fX3_mayDrink_80 fX3_mayDrink_81 fX3_mayDrink_92 myB
  rw [ck_t zb_0, ck_t zb_1]
  by_cases h0 : age = -1
  · rw [if_pos h0, if_pos h0]; rfl
  · rw [if_neg h0, if_neg h0]
    by_cases h1 : kd = 1
    · rw [if_pos h1, if_pos h1, ite_bI]
    · rw [if_neg h1, if_neg h1]
      by_cases h2 : kd = 2
      · rw [if_pos h2, if_pos h2, ite_bI]
      · rw [if_neg h2, if_neg h2]
        by_cases h3 : kd = 3
        · rw [if_pos h3, if_pos h3]; rfl
        · rw [if_neg h3, if_neg h3]
          by_cases h4 : kd = 4
          · rw [if_pos h4, if_pos h4]
            by_cases h5 : age < bo
            · rw [if_pos h5, decide_eq_false (fun q => q h5)]; rfl
            · rw [if_neg h5, decide_eq_true h5]
              by_cases h6 : ny < 3
              · rw [if_neg (g3_f h6), decide_eq_true h6]; rfl
              · rw [if_pos (g3_t (by omega)), decide_eq_false h6]; rfl
          · rw [if_neg h4, if_neg h4, ite_bI]
theorem mayThought {B : Me} {r : Nat → Nat} (hr : RR (B 60) r) (hb : sf r 10 ≤ 1000) (kd bo : Int32) : fX4_mayThought B kd bo = some (bI (may (B 58 1) r kd bo)) := by
  unfold fX4_mayThought fX4_mayThought_54 fX4_mayThought_67 fX4_mayThought_90 fX4_mayThought_91 fX4_mayThought_102 may myB
  rw [bi_e (ageThought hr hb), ck_t zb_0, ck_t zb_1]
  generalize ag (B 58 1) r = age
  by_cases h0 : age = -1
  · rw [if_pos h0, if_pos h0]; rfl
  · rw [if_neg h0, if_neg h0]
    by_cases h1 : kd = 1
    · rw [if_pos h1, if_pos h1, ite_bI]
    · rw [if_neg h1, if_neg h1]
      by_cases h2 : kd = 2
      · rw [if_pos h2, if_pos h2, ite_bI]
      · rw [if_neg h2, if_neg h2]
        by_cases h3 : kd = 3
        · rw [if_pos h3, if_pos h3]; rfl
        · rw [if_neg h3, if_neg h3]
          by_cases h4 : kd = 4
          · rw [if_pos h4, if_pos h4]
            by_cases h5 : age < bo
            · rw [if_pos h5, decide_eq_false (fun q => q h5)]; rfl
            · have hc := cnt_le (yb r) 10
              rw [if_neg h5, decide_eq_true h5, bi_e (yearsThought hr hb), bi_e (size_bs (yb r) (by omega))]
              by_cases h6 : cnt (yb r) 10 < 3
              · rw [if_neg (g3_f h6), decide_eq_true h6]; rfl
              · rw [if_pos (g3_t (by omega)), decide_eq_false h6]; rfl
          · rw [if_neg h4, if_neg h4, ite_bI]
/-! ===== the state of a cellar: law, casks, litres, people, kinds, borns, ills, trials, their casks, their outcomes ===== -/
abbrev Ce : Type := Int32 × Nat × (Nat → Nat → Nat) × Nat × (Nat → Int32) × (Nat → Int32) × (Nat → Int32) × Nat × (Nat → Nat) × (Nat → Bool)
abbrev c_w (c : Ce) : Int32 := c.1
abbrev c_n (c : Ce) : Nat := c.2.1
abbrev c_l (c : Ce) : Nat → Nat → Nat := c.2.2.1
abbrev c_p (c : Ce) : Nat := c.2.2.2.1
abbrev c_k (c : Ce) : Nat → Int32 := c.2.2.2.2.1
abbrev c_b (c : Ce) : Nat → Int32 := c.2.2.2.2.2.1
abbrev c_i (c : Ce) : Nat → Int32 := c.2.2.2.2.2.2.1
abbrev c_t (c : Ce) : Nat := c.2.2.2.2.2.2.2.1
abbrev c_c (c : Ce) : Nat → Nat := c.2.2.2.2.2.2.2.2.1
abbrev c_o (c : Ce) : Nat → Bool := c.2.2.2.2.2.2.2.2.2
def RC (A : Me) (k : Nat) (c : Ce) : Prop :=
  A k 6 = c_w c ∧ A k 7 = nI (c_n c) ∧ A k 8 = nI (c_p c) ∧ A k 9 = nI (c_t c) ∧ (∀ i, i < 32 → bt (A k 10) i = (decide (i < c_t c) && c_o c i)) ∧
  (∀ i, i < 5 → CR A (k + 1 + 6 + 2 * i) (c_l c i)) ∧ (∀ i, i < c_p c → A (k + 2) i = c_k c i ∧ A (k + 3) i = c_b c i ∧ A (k + 4) i = c_i c i) ∧ (∀ i, i < c_t c → A (k + 5) i = nI (c_c c i))
def RB (B : Me) (c : Ce) : Prop :=
  B 58 1 = c_w c ∧ B 58 2 = nI (c_n c) ∧ B 58 5 = nI (c_p c) ∧ B 58 9 = nI (c_t c) ∧ LB B (c_l c) ∧
  (∀ i, i < c_p c → B 61 i = c_k c i ∧ B 62 i = c_b c i ∧ B 63 i = c_i c i) ∧ (∀ i, i < c_t c → B 64 i = nI (c_c c i) ∧ B 65 i = bI (c_o c i))
def Wf (c : Ce) : Prop := c_n c ≤ 5 ∧ c_p c ≤ 5 ∧ c_t c ≤ 8 ∧ (∀ i, i < 5 → sf (c_l c i) 10 ≤ 20) ∧ (∀ i, i < c_t c → c_c c i < c_n c) ∧ (0 < c_p c → 0 < c_n c)
theorem RB.ag {B B' : Me} {c : Ce} (h : RB B c) (g : Ag S60 B B') : RB B' c := by
  unfold RB
  rw [g 58 rfl, g 61 rfl, g 62 rfl, g 63 rfl, g 64 rfl, g 65 rfl]
  exact ⟨h.1, h.2.1, h.2.2.1, h.2.2.2.1, h.2.2.2.2.1.ag g, h.2.2.2.2.2⟩
def who (c : Ce) (r : Nat → Nat) : Int32 := bsF (fun i => may (c_w c) r (c_k c i) (c_b c i)) (c_p c)
section
variable {A B : Me} {k k1 : Nat} {r : Nat → Nat} {c : Ce}
theorem lim_f {n i : Nat} (h : i < n) (hn : n < 2 ^ 31 := by omega) : ¬ nI n ≤ nI i := nI_ge h hn
theorem lim_t {n i : Nat} (h : n ≤ i) (hi : i < 2 ^ 31 := by omega) : nI n ≤ nI i := nI_le h hi
theorem whoMay_23 (h : RC A k c) (hw : Wf c) : ∀ (d i n : Nat), i + d = c_p c → d < n → fX1_whoMay_23 A k n (ag (c_w c) r) (nI (cnt (yb r) 10)) (bsF (fun i => may (c_w c) r (c_k c i) (c_b c i)) i) (nI i) = some (who c r) := by
  have hp := hw.2.1
  have hc := cnt_le (yb r) 10
  intro d
  induction d with
  | zero =>
    intro i n hi hn
    obtain ⟨n, rfl, -⟩ := fuel hn
    have : i = c_p c := by omega
    rw [fX1_whoMay_23, h.2.2.1, this, if_pos (lim_t (Nat.le_refl _))]
    rfl
  | succ d ih =>
    intro i n hi hn
    obtain ⟨n, rfl, hn2⟩ := fuel hn
    have hx := h.2.2.2.2.2.2.1 i (by omega)
    rw [fX1_whoMay_23, h.2.2.1, if_neg (lim_f (by omega)), ck_t (inb_t (by omega) (by omega)), ck_t (inb_t (by omega) (by omega)), nI_clamp (by omega), hx.1, hx.2.1, bi_e (mayDrink _ _ _ (by omega))]
    have q := ih (i + 1) n (by omega) (by omega)
    rw [show bsF (fun i => may (c_w c) r (c_k c i) (c_b c i)) (i + 1) = if may (c_w c) r (c_k c i) (c_b c i) then bsF (fun i => may (c_w c) r (c_k c i) (c_b c i)) i ||| (1 <<< (nI i &&& 31)) else bsF (fun i => may (c_w c) r (c_k c i) (c_b c i)) i from rfl] at q
    unfold fX1_whoMay_63
    rw [nI_1]
    cases hm : may (c_w c) r (c_k c i) (c_b c i)
    · rw [if_pos (by unfold may at hm; rw [hm]; rfl)]
      rw [hm] at q
      exact q
    · rw [if_neg (by unfold may at hm; rw [hm]; decide)]
      rw [hm] at q
      exact q
theorem whoMay (h : RC A k c) (hw : Wf c) (hr : CR A k1 r) (hb : sf r 10 ≤ 1000) : fX1_whoMay A k k1 = some (who c r) := by
  unfold fX1_whoMay
  rw [h.1, bi_e (age hr.1 hb hr.2 _), bi_e (yearBits hr.1 hb), bi_e (bc_bs (yb r) (by omega))]
  exact whoMay_23 h hw (c_p c) 0 FU (by omega) (by have := hw.2.1; exact Nat.lt_of_le_of_lt this (by decide))
theorem whoMayT_4 (h : RB B c) (hw : Wf c) (hr : RR (B 60) r) (hb : sf r 10 ≤ 1000) : ∀ (d i n : Nat), i + d = c_p c → d < n → fX4_whoMay_4 B n (bsF (fun i => may (c_w c) r (c_k c i) (c_b c i)) i) (nI i) = some (who c r) := by
  have hp := hw.2.1
  intro d
  induction d with
  | zero =>
    intro i n hi hn
    obtain ⟨n, rfl, -⟩ := fuel hn
    have : i = c_p c := by omega
    rw [fX4_whoMay_4, h.2.2.1, this, if_pos (lim_t (Nat.le_refl _))]
    rfl
  | succ d ih =>
    intro i n hi hn
    obtain ⟨n, rfl, hn2⟩ := fuel hn
    have hx := h.2.2.2.2.2.1 i (by omega)
    rw [fX4_whoMay_4, h.2.2.1, if_neg (lim_f (by omega)), ck_t (inb_t (by omega) (by omega)), ck_t (inb_t (by omega) (by omega)), nI_clamp (by omega), hx.1, hx.2.1, bi_e (mayThought hr hb _ _), h.1]
    have q := ih (i + 1) n (by omega) (by omega)
    rw [show bsF (fun i => may (c_w c) r (c_k c i) (c_b c i)) (i + 1) = if may (c_w c) r (c_k c i) (c_b c i) then bsF (fun i => may (c_w c) r (c_k c i) (c_b c i)) i ||| (1 <<< (nI i &&& 31)) else bsF (fun i => may (c_w c) r (c_k c i) (c_b c i)) i from rfl] at q
    unfold fX4_whoMay_39
    rw [nI_1]
    cases hm : may (c_w c) r (c_k c i) (c_b c i)
    · rw [if_pos (by decide), Int32.or_zero]
      rw [hm] at q
      exact q
    · rw [if_neg (by decide)]
      rw [hm] at q
      exact q
theorem whoMayT (h : RB B c) (hw : Wf c) (hr : RR (B 60) r) (hb : sf r 10 ≤ 1000) : fX4_whoMay B = some (who c r) :=
  whoMayT_4 h hw hr hb (c_p c) 0 FU (by omega) (Nat.lt_of_le_of_lt hw.2.1 (by decide))
/-- all of these may -/
def alB (c : Ce) (r : Nat → Nat) (v : Int32) : Bool := decide ((who c r &&& v) = v)
theorem allMay (h : RC A k c) (hw : Wf c) (hr : CR A k1 r) (hb : sf r 10 ≤ 1000) (v : Int32) : fX1_allMay A k v k1 = some (bI (alB c r v)) := by
  unfold fX1_allMay fX1_allMay_17 alB
  rw [bi_e (whoMay h hw hr hb), ck_t zb_0, ck_t zb_1]
  by_cases q : (who c r &&& v) = v
  · rw [if_pos ((sub_iff _ _).mpr q), decide_eq_true q]; rfl
  · rw [if_neg (fun x => q ((sub_iff _ _).mp x)), decide_eq_false q]; rfl
/-- one person's bit -/
theorem alB_one {i : Nat} (hw : Wf c) (hi : i < c_p c) : alB c r (1 <<< (nI i &&& 31)) = may (c_w c) r (c_k c i) (c_b c i) := by
  have hp := hw.2.1
  unfold alB
  have hb : ∀ j, j < 32 → bt (who c r) j = (decide (j < c_p c) && may (c_w c) r (c_k c j) (c_b c j)) := fun j hj => bsF_bt _ _ (by omega) j hj
  cases hm : may (c_w c) r (c_k c i) (c_b c i)
  · apply decide_eq_false
    intro e
    have := congrArg (fun z => bt z i) e
    simp only [b_and] at this
    rw [hb i (by omega), b_one i (by omega) (by omega), hm] at this
    simp at this
  · apply decide_eq_true
    apply b_ext
    intro j hj
    rw [b_and, hb j hj, b_one i (by omega) hj]
    by_cases e : j = i
    · subst e
      simp [hi, hm]
    · simp [e]
end
