/-! ===== Int32 by its bits (begun from kit/laws/BITS.to-paste) ===== -/
def bt (x : Int32) (i : Nat) : Bool := x.toBitVec.getLsbD i
theorem b_ext {x y : Int32} (h : ∀ i, i < 32 → bt x i = bt y i) : x = y := Int32.toBitVec_inj.mp (BitVec.eq_of_getLsbD_eq (fun i hi => h i hi))
theorem b_or (x y : Int32) (i : Nat) : bt (x ||| y) i = (bt x i || bt y i) := by unfold bt; rw [Int32.toBitVec_or, BitVec.getLsbD_or]
theorem b_and (x y : Int32) (i : Nat) : bt (x &&& y) i = (bt x i && bt y i) := by unfold bt; rw [Int32.toBitVec_and, BitVec.getLsbD_and]
theorem b_xor (x y : Int32) (i : Nat) : bt (x ^^^ y) i = (bt x i ^^ bt y i) := by unfold bt; rw [Int32.toBitVec_xor, BitVec.getLsbD_xor]
theorem b_big {x : Int32} {i : Nat} (h : 32 ≤ i) : bt x i = false := BitVec.getLsbD_of_ge _ _ h
theorem b_m1 : ∀ i, i < 32 → bt (-1) i = true := by decide +kernel
theorem b_0 (i : Nat) : bt 0 i = false := BitVec.getLsbD_zero
theorem s_l : ∀ n, n < 32 → ((nI n &&& 31).toBitVec.smod 32).toNat = n := by decide +kernel
theorem b_shl (n : Nat) (hn : n < 32) (x : Int32) {i : Nat} (hi : i < 32) : bt (x <<< (nI n &&& 31)) i = (decide (n ≤ i) && bt x (i - n)) := by
  unfold bt
  rw [Int32.toBitVec_shiftLeft]
  show (x.toBitVec <<< ((nI n &&& 31).toBitVec.smod 32).toNat).getLsbD i = _
  rw [s_l n hn, BitVec.getLsbD_shiftLeft]
  rcases Nat.lt_or_ge i n with h | h
  · simp [h, Nat.not_le.mpr h]
  · simp [hi, h, Nat.not_lt.mpr h]
theorem b_sshr (n : Nat) (hn : n < 32) (x : Int32) {i : Nat} (hi : i < 32) : bt (x >>> (nI n &&& 31)) i = if n + i < 32 then bt x (n + i) else bt x 31 := by
  unfold bt
  rw [Int32.toBitVec_shiftRight]
  show (x.toBitVec.sshiftRight ((nI n &&& 31).toBitVec.smod 32).toNat).getLsbD i = _
  rw [s_l n hn, BitVec.getLsbD_sshiftRight, BitVec.msb_eq_getLsbD_last]
  simp [hi]
theorem b_1 : ∀ i, i < 32 → bt 1 i = decide (i = 0) := by decide +kernel
/-- one bit -/
theorem b_one (n : Nat) (hn : n < 32) {i : Nat} (hi : i < 32) : bt (1 <<< (nI n &&& 31)) i = decide (i = n) := by
  rw [b_shl n hn 1 hi]
  rcases Nat.lt_or_ge i n with h | h
  · rw [decide_eq_false (by omega : ¬ n ≤ i), decide_eq_false (by omega : ¬ i = n)]; rfl
  · rw [decide_eq_true (by omega : n ≤ i), b_1 _ (by omega)]
    by_cases e : i = n
    · subst e; simp
    · rw [decide_eq_false e, decide_eq_false (by omega : ¬ i - n = 0)]; rfl
theorem b_not {x : Int32} {i : Nat} (hi : i < 32) : bt (x ^^^ (-1)) i = !(bt x i) := by
  rw [b_xor, b_m1 i hi]; cases bt x i <;> rfl
theorem b_eq0 {x : Int32} : x = 0 ↔ ∀ i, i < 32 → bt x i = false := by
  constructor
  · intro h i _; rw [h, b_0]
  · intro h; apply b_ext; intro i hi; rw [h i hi, b_0]
/-- all of x among y: the two ways to ask -/
theorem sub_iff (x y : Int32) : (x &&& (y ^^^ (-1))) = 0 ↔ (y &&& x) = x := by
  constructor
  · intro h
    apply b_ext
    intro i hi
    have q := b_eq0.mp h i hi
    rw [b_and, b_not hi] at q
    rw [b_and]
    cases hx : bt x i <;> cases hy : bt y i <;> simp_all
  · intro h
    apply b_eq0.mpr
    intro i hi
    have q := congrArg (fun z => bt z i) h
    simp only [b_and] at q
    rw [b_and, b_not hi]
    cases hx : bt x i <;> cases hy : bt y i <;> simp_all
/-! ===== nI ===== -/
theorem ge_f {N i : Nat} (h : i < N) (hN : N < 2 ^ 31) : ¬ nI N ≤ nI i := nI_ge h hN
theorem ge_t {N i : Nat} (h : N ≤ i) (hN : i < 2 ^ 31) : nI N ≤ nI i := nI_le h hN
theorem g1_f {i : Nat} (h : i < 1) : ¬ (1 : Int32) ≤ nI i := nI_ge h (by decide)
theorem g1_t {i : Nat} (h : 1 ≤ i) (hi : i < 2 ^ 31 := by omega) : (1 : Int32) ≤ nI i := nI_le h hi
theorem g2_f {i : Nat} (h : i < 2) : ¬ (2 : Int32) ≤ nI i := nI_ge h (by decide)
theorem g2_t {i : Nat} (h : 2 ≤ i) (hi : i < 2 ^ 31 := by omega) : (2 : Int32) ≤ nI i := nI_le h hi
theorem g3_f {i : Nat} (h : i < 3) : ¬ (3 : Int32) ≤ nI i := nI_ge h (by decide)
theorem g3_t {i : Nat} (h : 3 ≤ i) (hi : i < 2 ^ 31 := by omega) : (3 : Int32) ≤ nI i := nI_le h hi
theorem g4_f {i : Nat} (h : i < 4) : ¬ (4 : Int32) ≤ nI i := nI_ge h (by decide)
theorem g4_t {i : Nat} (h : 4 ≤ i) (hi : i < 2 ^ 31 := by omega) : (4 : Int32) ≤ nI i := nI_le h hi
theorem g5_f {i : Nat} (h : i < 5) : ¬ (5 : Int32) ≤ nI i := nI_ge h (by decide)
theorem g5_t {i : Nat} (h : 5 ≤ i) (hi : i < 2 ^ 31 := by omega) : (5 : Int32) ≤ nI i := nI_le h hi
theorem g8_f {i : Nat} (h : i < 8) : ¬ (8 : Int32) ≤ nI i := nI_ge h (by decide)
theorem g8_t {i : Nat} (h : 8 ≤ i) (hi : i < 2 ^ 31 := by omega) : (8 : Int32) ≤ nI i := nI_le h hi
theorem g10_f {i : Nat} (h : i < 10) : ¬ (10 : Int32) ≤ nI i := nI_ge h (by decide)
theorem g10_t {i : Nat} (h : 10 ≤ i) (hi : i < 2 ^ 31 := by omega) : (10 : Int32) ≤ nI i := nI_le h hi
theorem g16_f {i : Nat} (h : i < 16) : ¬ (16 : Int32) ≤ nI i := nI_ge h (by decide)
theorem g16_t {i : Nat} (h : 16 ≤ i) (hi : i < 2 ^ 31 := by omega) : (16 : Int32) ≤ nI i := nI_le h hi
theorem g18_f {i : Nat} (h : i < 18) : ¬ (18 : Int32) ≤ nI i := nI_ge h (by decide)
theorem g18_t {i : Nat} (h : 18 ≤ i) (hi : i < 2 ^ 31 := by omega) : (18 : Int32) ≤ nI i := nI_le h hi
theorem g20_f {i : Nat} (h : i < 20) : ¬ (20 : Int32) ≤ nI i := nI_ge h (by decide)
theorem g20_t {i : Nat} (h : 20 ≤ i) (hi : i < 2 ^ 31 := by omega) : (20 : Int32) ≤ nI i := nI_le h hi
theorem g50_f {i : Nat} (h : i < 50) : ¬ (50 : Int32) ≤ nI i := nI_ge h (by decide)
theorem g50_t {i : Nat} (h : 50 ≤ i) (hi : i < 2 ^ 31 := by omega) : (50 : Int32) ≤ nI i := nI_le h hi
theorem inb_t {i n : Nat} (h : i < n) (hn : n < 2 ^ 31) : inb (nI i) n = true := by
  unfold inb
  exact decide_eq_true (nI_in h hn)
theorem nI_neg {n : Nat} (h : n < 2 ^ 31) : ¬ nI n = -1 := by
  intro e
  have h1 := nI_toInt h
  rw [e] at h1
  have : (-1 : Int32).toInt = -1 := by decide
  omega
theorem nI_inj {a b : Nat} (ha : a < 2 ^ 31) (hb : b < 2 ^ 31) (h : nI a = nI b) : a = b := (nI_eq ha hb).mp h
theorem zb_0 : zb 0 = true := by decide
theorem zb_1 : zb 1 = true := by decide
/-! ===== sets as bits ===== -/
def bsF (f : Nat → Bool) : Nat → Int32
  | 0 => 0
  | n + 1 => if f n then bsF f n ||| (1 <<< (nI n &&& 31)) else bsF f n
theorem bsF_bt (f : Nat → Bool) : ∀ (n : Nat), n ≤ 32 → ∀ i, i < 32 → bt (bsF f n) i = (decide (i < n) && f i) := by
  intro n
  induction n with
  | zero => intro _ i _; show bt 0 i = _; rw [b_0]; simp
  | succ n ih =>
    intro hn i hi
    unfold bsF
    have q := ih (by omega) i hi
    by_cases hf : f n = true
    · rw [if_pos hf, b_or, q, b_one n (by omega) hi]
      by_cases e : i = n
      · subst e; simp [hf]
      · have : (decide (i < n) : Bool) = decide (i < n + 1) := by
          by_cases l : i < n
          · rw [decide_eq_true l, decide_eq_true (by omega : i < n + 1)]
          · rw [decide_eq_false l, decide_eq_false (by omega : ¬ i < n + 1)]
        rw [this, decide_eq_false e]; simp
    · rw [if_neg hf, q]
      by_cases e : i = n
      · subst e
        have : f i = false := by simpa using hf
        simp [this]
      · have : (decide (i < n) : Bool) = decide (i < n + 1) := by
          by_cases l : i < n
          · rw [decide_eq_true l, decide_eq_true (by omega : i < n + 1)]
          · rw [decide_eq_false l, decide_eq_false (by omega : ¬ i < n + 1)]
        rw [this]
theorem bsF_congr {f g : Nat → Bool} {n : Nat} (h : ∀ i, i < n → f i = g i) : bsF f n = bsF g n := by
  induction n with
  | zero => rfl
  | succ n ih =>
    unfold bsF
    rw [ih (fun i hi => h i (by omega)), h n (by omega)]
/-- how many of a set's bits -/
def cnt (f : Nat → Bool) : Nat → Nat
  | 0 => 0
  | n + 1 => cnt f n + (if f n then 1 else 0)
theorem cnt_le (f : Nat → Bool) (n : Nat) : cnt f n ≤ n := by
  induction n with
  | zero => exact Nat.le_refl 0
  | succ n ih => unfold cnt; split <;> omega
theorem cnt_congr {f g : Nat → Bool} {n : Nat} (h : ∀ i, i < n → f i = g i) : cnt f n = cnt g n := by
  induction n with
  | zero => rfl
  | succ n ih => unfold cnt; rw [ih (fun i hi => h i (by omega)), h n (by omega)]
/-- a memory that differs only in some cells -/
def Ag (S : Nat → Bool) (A A' : Me) : Prop := ∀ k, S k = false → A' k = A k
theorem Ag.rf {S : Nat → Bool} {A : Me} : Ag S A A := fun _ _ => rfl
theorem Ag.tr {S : Nat → Bool} {A A' A'' : Me} (h : Ag S A A') (h2 : Ag S A' A'') : Ag S A A'' := fun k hk => (h2 k hk).trans (h k hk)
theorem Ag.mono {S T : Nat → Bool} {A A' : Me} (h : Ag S A A') (hs : ∀ k, S k = true → T k = true) : Ag T A A' := fun k hk => h k (by
  cases e : S k with
  | false => rfl
  | true => rw [hs k e] at hk; cases hk)
