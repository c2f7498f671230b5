/-! ===== rows of years: what each loop over ten years says ===== -/
def sf (r : Nat → Nat) : Nat → Nat
  | 0 => 0
  | n + 1 => sf r n + r n
def ysf (r : Nat → Nat) : Nat → Nat
  | 0 => 0
  | n + 1 => ysf r n + n * r n
def ltf (r : Nat → Nat) : Nat → Int32
  | 0 => -1
  | n + 1 => if 0 < r n then nI n else ltf r n
def erf (r : Nat → Nat) : Nat → Int32
  | 0 => -1
  | n + 1 => if erf r n = -1 ∧ 0 < r n then nI n else erf r n
def cmf (r : Nat → Nat) : Nat → Nat
  | 0 => 0
  | n + 1 => if r (n + 1) < r (cmf r n) then cmf r n else n + 1
def mof (r : Nat → Nat) : Nat → Int32
  | 0 => -1
  | n + 1 => if 0 < r n ∧ (mof r n = -1 ∨ r (mof r n).toNatClampNeg ≤ r n) then nI n else mof r n
def yb (r : Nat → Nat) : Nat → Bool := fun y => decide (0 < r y)
def RR (a : Nat → Int32) (r : Nat → Nat) : Prop := ∀ y, y < 10 → a y = nI (r y)
theorem sf_le (r : Nat → Nat) {i n : Nat} (h : i ≤ n) : sf r i ≤ sf r n := by
  induction n with
  | zero => have : i = 0 := by omega
            subst this; exact Nat.le_refl _
  | succ n ih =>
    by_cases e : i = n + 1
    · subst e; exact Nat.le_refl _
    · have := ih (by omega)
      show sf r i ≤ sf r n + r n
      omega
theorem sf_mem (r : Nat → Nat) {i n : Nat} (h : i < n) : r i ≤ sf r n := by
  have := sf_le r (show i + 1 ≤ n by omega)
  have : sf r (i + 1) = sf r i + r i := rfl
  omega
theorem ysf_le (r : Nat → Nat) (n : Nat) (hn : n ≤ 10) : ysf r n ≤ 10 * sf r n := by
  induction n with
  | zero => exact Nat.le_refl _
  | succ n ih =>
    have := ih (by omega)
    show ysf r n + n * r n ≤ 10 * (sf r n + r n)
    have : n * r n ≤ 10 * r n := Nat.mul_le_mul_right _ (by omega)
    omega
theorem sf_0 {r : Nat → Nat} {n : Nat} (h : sf r n = 0) : ∀ i, i < n → r i = 0 := by
  intro i hi
  have := sf_mem r hi
  omega
theorem sf_congr {r q : Nat → Nat} {n : Nat} (h : ∀ i, i < n → r i = q i) : sf r n = sf q n := by
  induction n with
  | zero => rfl
  | succ n ih =>
    show sf r n + r n = sf q n + q n
    rw [ih (fun i hi => h i (by omega)), h n (by omega)]
theorem cmf_le (r : Nat → Nat) (n : Nat) : cmf r n ≤ n := by
  induction n with
  | zero => exact Nat.le_refl _
  | succ n ih => unfold cmf; split <;> omega
theorem erf_stay {r : Nat → Nat} {n : Nat} (h : ¬ erf r n = -1) {m : Nat} (hm : n ≤ m) : erf r m = erf r n := by
  induction m with
  | zero => have : n = 0 := by omega
            subst this; rfl
  | succ m ih =>
    by_cases e : n = m + 1
    · subst e; rfl
    · have q := ih (by omega)
      show (if erf r m = -1 ∧ 0 < r m then nI m else erf r m) = erf r n
      rw [q, if_neg (fun x => h x.1)]
theorem mof_cm (r : Nat → Nat) (n : Nat) (hn : n < 1000) : (sf r (n + 1) = 0 ∧ mof r (n + 1) = -1) ∨ (0 < sf r (n + 1) ∧ mof r (n + 1) = nI (cmf r n) ∧ 0 < r (cmf r n)) := by
  induction n with
  | zero =>
    show (0 + r 0 = 0 ∧ (if 0 < r 0 ∧ ((-1 : Int32) = -1 ∨ _) then nI 0 else -1) = -1) ∨ (0 < 0 + r 0 ∧ (if 0 < r 0 ∧ ((-1 : Int32) = -1 ∨ _) then nI 0 else -1) = nI 0 ∧ 0 < r 0)
    by_cases h : 0 < r 0
    · right; exact ⟨by omega, if_pos ⟨h, Or.inl rfl⟩, h⟩
    · left; exact ⟨by omega, if_neg (fun q => h q.1)⟩
  | succ n ih =>
    have e1 : sf r (n + 1 + 1) = sf r (n + 1) + r (n + 1) := rfl
    have e2 : mof r (n + 1 + 1) = if 0 < r (n + 1) ∧ (mof r (n + 1) = -1 ∨ r (mof r (n + 1)).toNatClampNeg ≤ r (n + 1)) then nI (n + 1) else mof r (n + 1) := rfl
    have e3 : cmf r (n + 1) = if r (n + 1) < r (cmf r n) then cmf r n else n + 1 := rfl
    have hc := cmf_le r n
    rcases ih (by omega) with ⟨a, b⟩ | ⟨a, b, c⟩
    · have z : r (cmf r n) = 0 := sf_0 a _ (by omega)
      by_cases h : 0 < r (n + 1)
      · right
        rw [e2, if_pos ⟨h, Or.inl b⟩, e3, if_neg (by omega)]
        exact ⟨by omega, rfl, h⟩
      · left
        rw [e2, if_neg (fun q => h q.1)]
        exact ⟨by omega, b⟩
    · right
      rw [e1, e2, b, nI_clamp (by omega), e3]
      by_cases h : r (n + 1) < r (cmf r n)
      · rw [if_pos h, if_neg (fun q => q.2.elim (fun x => nI_neg (by omega) x) (fun x => by omega))]
        exact ⟨by omega, rfl, c⟩
      · rw [if_neg h, if_pos ⟨by omega, Or.inr (by omega)⟩]
        exact ⟨by omega, rfl, by omega⟩
def ag (w : Int32) (r : Nat → Nat) : Int32 := if sf r 10 = 0 then -1 else if w = 0 then ltf r 10 else if w = 1 then erf r 10 else if w = 2 then nI (cmf r 9) else nI (ysf r 10 / sf r 10)
theorem nI_le0 {a : Nat} (h : a < 2 ^ 31) : nI a ≤ 0 ↔ a = 0 := by
  rw [show (0 : Int32) = nI 0 from rfl, nI_leI h (by omega)]
  omega
theorem nI_eq0 {a : Nat} (h : a < 2 ^ 31) : nI a = 0 ↔ a = 0 := by
  rw [show (0 : Int32) = nI 0 from rfl, nI_eq h (by omega)]
theorem fuel {d n : Nat} (h : d < n) : ∃ m, n = m + 1 ∧ d ≤ m := ⟨n - 1, by omega, by omega⟩
section
variable {A : Me} {k : Nat} {r : Nat → Nat}
theorem latestYear_3 (hr : RR (A (k + 1)) r) (hb : sf r 10 ≤ 1000) : ∀ (i n : Nat), i ≤ 10 → i < n → fX0_latestYear_3 A k n (nI i + (-1)) = some (ltf r i) := by
  intro i
  induction i with
  | zero =>
    intro n _ hn
    obtain ⟨n, rfl, -⟩ := fuel hn
    rw [fX0_latestYear_3, if_pos (by decide)]
    rfl
  | succ i ih =>
    intro n hi hn
    obtain ⟨n, rfl, hn2⟩ := fuel hn
    have hv := hr i (by omega)
    have hm := sf_mem r (show i < 10 by omega)
    rw [fX0_latestYear_3, pk_m1, if_neg (nI_pos (by omega)), ck_t (inb_t (by omega) (by omega)), nI_clamp (by omega), hv]
    have e : ltf r (i + 1) = if 0 < r i then nI i else ltf r i := rfl
    rw [e]
    by_cases h : 0 < r i
    · rw [if_pos h, if_neg (fun q => by have := (nI_le0 (by omega)).mp q; omega)]
    · rw [if_neg h, if_pos ((nI_le0 (by omega)).mpr (by omega))]
      exact ih n (by omega) (by omega)
theorem latestYear (hr : RR (A (k + 1)) r) (hb : sf r 10 ≤ 1000) : fX0_latestYear A k = some (ltf r 10) := latestYear_3 hr hb 10 FU (by omega) (by decide)
theorem earliestYear_2 (hr : RR (A (k + 1)) r) (hb : sf r 10 ≤ 1000) : ∀ (d i n : Nat), i + d = 10 → d < n → erf r i = -1 → fX0_earliestYear_2 A k n (nI i) = some (erf r 10) := by
  intro d
  induction d with
  | zero =>
    intro i n hi hn h
    obtain ⟨n, rfl, -⟩ := fuel hn
    have : i = 10 := by omega
    subst this
    rw [fX0_earliestYear_2, if_pos (g10_t (by omega)), h]
  | succ d ih =>
    intro i n hi hn h
    obtain ⟨n, rfl, hn2⟩ := fuel hn
    have hv := hr i (by omega)
    have hm := sf_mem r (show i < 10 by omega)
    rw [fX0_earliestYear_2, if_neg (g10_f (by omega)), ck_t (inb_t (by omega) (by omega)), nI_clamp (by omega), hv]
    have e : erf r (i + 1) = if erf r i = -1 ∧ 0 < r i then nI i else erf r i := rfl
    by_cases q : 0 < r i
    · rw [if_neg (fun x => by have := (nI_le0 (by omega)).mp x; omega)]
      have e2 : erf r (i + 1) = nI i := by rw [e, if_pos ⟨h, q⟩]
      rw [erf_stay (n := i + 1) (by rw [e2]; exact nI_neg (by omega)) (by omega), e2]
    · rw [if_pos ((nI_le0 (by omega)).mpr (by omega)), nI_1]
      exact ih (i + 1) n (by omega) (by omega) (by rw [e, if_neg (fun x => q x.2), h])
theorem earliestYear (hr : RR (A (k + 1)) r) (hb : sf r 10 ≤ 1000) : fX0_earliestYear A k = some (erf r 10) := earliestYear_2 hr hb 10 0 FU (by omega) (by decide) rfl
theorem commonestYear_4 (hr : RR (A (k + 1)) r) (hb : sf r 10 ≤ 1000) : ∀ (d i n : Nat), i + d = 9 → d < n → fX0_commonestYear_4 A k n (nI (cmf r i)) (nI (i + 1)) = some (nI (cmf r 9)) := by
  intro d
  induction d with
  | zero =>
    intro i n hi hn
    obtain ⟨n, rfl, -⟩ := fuel hn
    have : i = 9 := by omega
    subst this
    rw [fX0_commonestYear_4, if_pos (g10_t (by omega))]
  | succ d ih =>
    intro i n hi hn
    obtain ⟨n, rfl, hn2⟩ := fuel hn
    have hc := cmf_le r i
    have hv := hr (i + 1) (by omega)
    have hv2 := hr (cmf r i) (by omega)
    have hm := sf_mem r (show i + 1 < 10 by omega)
    have hm2 := sf_mem r (show cmf r i < 10 by omega)
    rw [fX0_commonestYear_4, if_neg (g10_f (by omega)), ck_t (inb_t (by omega) (by omega)), ck_t (inb_t (by omega) (by omega)), nI_clamp (by omega), nI_clamp (by omega), hv, hv2]
    have e : cmf r (i + 1) = if r (i + 1) < r (cmf r i) then cmf r i else i + 1 := rfl
    have q := ih (i + 1) n (by omega) (by omega)
    rw [e] at q
    by_cases h : r (i + 1) < r (cmf r i)
    · rw [if_pos ((nI_ltI (by omega) (by omega)).mpr h), fX0_commonestYear_27, nI_1]
      rw [if_pos h] at q
      exact q
    · rw [if_neg (fun x => h ((nI_ltI (by omega) (by omega)).mp x)), fX0_commonestYear_27, nI_1]
      rw [if_neg h] at q
      exact q
theorem commonestYear (hr : RR (A (k + 1)) r) (hb : sf r 10 ≤ 1000) : fX0_commonestYear A k = some (nI (cmf r 9)) := commonestYear_4 hr hb 9 0 FU (by omega) (by decide)
theorem yearSum_4 (hr : RR (A (k + 1)) r) (hb : sf r 10 ≤ 1000) : ∀ (d i n : Nat), i + d = 10 → d < n → fX0_yearSum_4 A k n (nI (ysf r i)) (nI i) = some (nI (ysf r 10)) := by
  intro d
  induction d with
  | zero =>
    intro i n hi hn
    obtain ⟨n, rfl, -⟩ := fuel hn
    have : i = 10 := by omega
    subst this
    rw [fX0_yearSum_4, if_pos (g10_t (by omega))]
  | succ d ih =>
    intro i n hi hn
    obtain ⟨n, rfl, hn2⟩ := fuel hn
    rw [fX0_yearSum_4, if_neg (g10_f (by omega)), ck_t (inb_t (by omega) (by omega)), nI_clamp (by omega), hr i (by omega), fX0_yearSum_21, nI_1, pk_mul, nI_add]
    exact ih (i + 1) n (by omega) (by omega)
theorem yearSum (hr : RR (A (k + 1)) r) (hb : sf r 10 ≤ 1000) : fX0_yearSum A k = some (nI (ysf r 10)) := yearSum_4 hr hb 10 0 FU (by omega) (by decide)
theorem yearBits_4 (hr : RR (A (k + 1)) r) (hb : sf r 10 ≤ 1000) : ∀ (d i n : Nat), i + d = 10 → d < n → fX0_yearBits_4 A k n (bsF (yb r) i) (nI i) = some (bsF (yb r) 10) := by
  intro d
  induction d with
  | zero =>
    intro i n hi hn
    obtain ⟨n, rfl, -⟩ := fuel hn
    have : i = 10 := by omega
    subst this
    rw [fX0_yearBits_4, if_pos (g10_t (by omega))]
  | succ d ih =>
    intro i n hi hn
    obtain ⟨n, rfl, hn2⟩ := fuel hn
    have hm := sf_mem r (show i < 10 by omega)
    rw [fX0_yearBits_4, if_neg (g10_f (by omega)), ck_t (inb_t (by omega) (by omega)), nI_clamp (by omega), hr i (by omega)]
    have q := ih (i + 1) n (by omega) (by omega)
    rw [show bsF (yb r) (i + 1) = if yb r i then bsF (yb r) i ||| (1 <<< (nI i &&& 31)) else bsF (yb r) i from rfl] at q
    by_cases h : 0 < r i
    · rw [if_neg (fun x => by have := (nI_le0 (by omega)).mp x; omega), fX0_yearBits_25, nI_1]
      rw [if_pos (show yb r i = true from decide_eq_true h)] at q
      exact q
    · rw [if_pos ((nI_le0 (by omega)).mpr (by omega)), fX0_yearBits_25, nI_1]
      rw [if_neg (show ¬ yb r i = true from fun x => h (of_decide_eq_true x))] at q
      exact q
theorem yearBits (hr : RR (A (k + 1)) r) (hb : sf r 10 ≤ 1000) : fX0_yearBits A k = some (bsF (yb r) 10) := yearBits_4 hr hb 10 0 FU (by omega) (by decide)
theorem age (hr : RR (A (k + 1)) r) (hb : sf r 10 ≤ 1000) (hl : A k 1 = nI (sf r 10)) (w : Int32) : fX0_age A k w = some (ag w r) := by
  unfold fX0_age ag
  rw [hl]
  by_cases h : sf r 10 = 0
  · rw [if_pos h, h, if_neg (by decide)]
  · rw [if_neg h, if_pos (by rw [show (0 : Int32) = nI 0 from rfl, nI_ltI (by omega) (by omega)]; omega)]
    rw [bi_e (latestYear hr hb), bi_e (earliestYear hr hb), bi_e (commonestYear hr hb), bi_e (yearSum hr hb)]
    have := ysf_le r 10 (by omega)
    by_cases h0 : w = 0
    · rw [if_pos h0, if_pos h0]
    · rw [if_neg h0, if_neg h0]
      by_cases h1 : w = 1
      · rw [if_pos h1, if_pos h1]
      · rw [if_neg h1, if_neg h1]
        by_cases h2 : w = 2
        · rw [if_pos h2, if_pos h2]
        · rw [if_neg h2, if_neg h2, ck_t (by unfold nz; exact decide_eq_true (fun q => h ((nI_eq0 (by omega)).mp q))), pk_div (by omega) (by omega) (by omega)]
end
