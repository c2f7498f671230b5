/-! ===== what the reference thinks: its row 60 ===== -/
def S60 : Nat → Bool := fun j => j == 60
def LB (B : Me) (lt : Nat → Nat → Nat) : Prop := ∀ c, c < 5 → ∀ y, y < 10 → B 59 (10 * c + y) = nI (lt c y)
theorem S60_n {j : Nat} (h : S60 j = false) : j ≠ 60 := by unfold S60 at h; simpa using h
theorem LB.ag {B B' : Me} {lt : Nat → Nat → Nat} (h : LB B lt) (g : Ag S60 B B') : LB B' lt := by
  unfold LB
  rw [g 59 rfl]
  exact h
theorem idx (c y : Nat) : (10 : Int32) * nI c + nI y = nI (10 * c + y) := by
  rw [show (10 : Int32) = nI 10 from rfl, pk_mul, nI_add]
theorem RR.congr {a : Nat → Int32} {r q : Nat → Nat} (h : RR a r) (e : ∀ y, y < 10 → r y = q y) : RR a q := fun y hy => by rw [h y hy, e y hy]
section
variable {B : Me} {r : Nat → Nat} {lt : Nat → Nat → Nat}
theorem clear_2 : ∀ (d i n : Nat) (B : Me), i + d = 10 → d < n → ∃ B', fX4_clear_2 n B (nI i) = some B' ∧ Ag S60 B B' ∧ (∀ y, i ≤ y → y < 10 → B' 60 y = 0) ∧ (∀ y, y < i → B' 60 y = B 60 y) := by
  intro d
  induction d with
  | zero =>
    intro i n B hi hn
    obtain ⟨n, rfl, -⟩ := fuel hn
    rw [fX4_clear_2, if_pos (g10_t (by omega))]
    exact ⟨B, rfl, Ag.rf, fun y h1 h2 => by omega, fun _ _ => rfl⟩
  | succ d ih =>
    intro i n B hi hn
    obtain ⟨n, rfl, hn2⟩ := fuel hn
    rw [fX4_clear_2, if_neg (g10_f (by omega)), ck_t (inb_t (by omega) (by omega)), nI_clamp (by omega), nI_1]
    obtain ⟨B', h1, h2, h3, h4⟩ := ih (i + 1) n (up2 B 60 i 0) (by omega) (by omega)
    refine ⟨B', h1, Ag.tr (fun j hj => up2_ne (S60_n hj)) h2, fun y hy hy2 => ?_, fun y hy => ?_⟩
    · by_cases e : y = i
      · subst e
        rw [h4 y (by omega), up2_at]
        exact if_pos rfl
      · exact h3 y (by omega) hy2
    · rw [h4 y (by omega), up2_at]
      exact if_neg (by omega)
theorem clear : ∃ B', fX4_clear B = some B' ∧ Ag S60 B B' ∧ RR (B' 60) (fun _ => 0) := by
  obtain ⟨B', h1, h2, h3, -⟩ := clear_2 10 0 FU B (by omega) (by decide)
  exact ⟨B', h1, h2, fun y hy => h3 y (by omega) hy⟩
theorem add_2 {c : Nat} (hc : c < 5) : ∀ (d i n : Nat) (B : Me) (r : Nat → Nat), i + d = 10 → d < n → LB B lt → RR (B 60) r → ∃ B', fX4_add_2 n B (nI c) (nI i) = some B' ∧ Ag S60 B B' ∧ RR (B' 60) (fun y => if i ≤ y then r y + lt c y else r y) := by
  intro d
  induction d with
  | zero =>
    intro i n B r hi hn hL hr
    obtain ⟨n, rfl, -⟩ := fuel hn
    rw [fX4_add_2, if_pos (g10_t (by omega))]
    exact ⟨B, rfl, Ag.rf, hr.congr (fun y hy => by rw [if_neg (by omega)])⟩
  | succ d ih =>
    intro i n B r hi hn hL hr
    obtain ⟨n, rfl, hn2⟩ := fuel hn
    rw [fX4_add_2, if_neg (g10_f (by omega)), idx, ck_t (inb_t (by omega) (by omega)), ck_t (inb_t (by omega) (by omega)), ck_t (inb_t (by omega) (by omega)), nI_clamp (by omega), nI_clamp (by omega), nI_1, hr i (by omega), hL c hc i (by omega), nI_add]
    obtain ⟨B', h1, h2, h3⟩ := ih (i + 1) n (up2 B 60 i (nI (r i + lt c i))) (ru r i (r i + lt c i)) (by omega) (by omega) (by unfold LB; rw [up2_ne (by omega)]; exact hL) (by
      intro y hy
      rw [up2_at]
      unfold upd ru
      by_cases e : y = i
      · rw [if_pos e, if_pos e]
      · rw [if_neg e, if_neg e, hr y hy])
    refine ⟨B', h1, Ag.tr (fun j hj => up2_ne (S60_n hj)) h2, h3.congr (fun y hy => ?_)⟩
    unfold ru
    by_cases e : y = i
    · subst e
      rw [if_neg (by omega), if_pos rfl, if_pos (Nat.le_refl _)]
    · rw [if_neg e]
      by_cases l : i ≤ y
      · rw [if_pos (by omega), if_pos l]
      · rw [if_neg (by omega), if_neg l]
theorem addC {c : Nat} (hc : c < 5) (hL : LB B lt) (hr : RR (B 60) r) : ∃ B', fX4_add B (nI c) = some B' ∧ Ag S60 B B' ∧ RR (B' 60) (fun y => r y + lt c y) := by
  obtain ⟨B', h1, h2, h3⟩ := add_2 hc 10 0 FU B r (by omega) (by decide) hL hr
  exact ⟨B', h1, h2, h3.congr (fun y hy => if_pos (Nat.zero_le _))⟩
theorem think {c : Nat} (hc : c < 5) (hL : LB B lt) : ∃ B', fX4_think B (nI c) = some B' ∧ Ag S60 B B' ∧ RR (B' 60) (lt c) := by
  obtain ⟨B1, h1, h2, h3⟩ := clear (B := B)
  obtain ⟨B2, h4, h5, h6⟩ := addC hc (hL.ag h2) h3
  refine ⟨B2, ?_, h2.tr h5, h6.congr (fun y hy => Nat.zero_add _)⟩
  unfold fX4_think
  rw [bi_e h1, bi_e h4]
theorem litresThought_4 (hr : RR (B 60) r) : ∀ (d i n : Nat), i + d = 10 → d < n → fX4_litresThought_4 B n (nI (sf r i)) (nI i) = some (nI (sf r 10)) := by
  intro d
  induction d with
  | zero =>
    intro i n hi hn
    obtain ⟨n, rfl, -⟩ := fuel hn
    have : i = 10 := by omega
    subst this
    rw [fX4_litresThought_4, if_pos (g10_t (by omega))]
  | succ d ih =>
    intro i n hi hn
    obtain ⟨n, rfl, hn2⟩ := fuel hn
    rw [fX4_litresThought_4, if_neg (g10_f (by omega)), ck_t (inb_t (by omega) (by omega)), nI_clamp (by omega), hr i (by omega), nI_1, nI_add]
    exact ih (i + 1) n (by omega) (by omega)
theorem litresThought (hr : RR (B 60) r) : fX4_litresThought B = some (nI (sf r 10)) := litresThought_4 hr 10 0 FU (by omega) (by decide)
theorem yearsThought_4 (hr : RR (B 60) r) (hb : sf r 10 ≤ 1000) : ∀ (d i n : Nat), i + d = 10 → d < n → fX4_yearsThought_4 B n (bsF (yb r) i) (nI i) = some (bsF (yb r) 10) := by
  intro d
  induction d with
  | zero =>
    intro i n hi hn
    obtain ⟨n, rfl, -⟩ := fuel hn
    have : i = 10 := by omega
    subst this
    rw [fX4_yearsThought_4, if_pos (g10_t (by omega))]
  | succ d ih =>
    intro i n hi hn
    obtain ⟨n, rfl, hn2⟩ := fuel hn
    have hm := sf_mem r (show i < 10 by omega)
    rw [fX4_yearsThought_4, if_neg (g10_f (by omega)), ck_t (inb_t (by omega) (by omega)), nI_clamp (by omega), hr i (by omega)]
    have q := ih (i + 1) n (by omega) (by omega)
    rw [show bsF (yb r) (i + 1) = if yb r i then bsF (yb r) i ||| (1 <<< (nI i &&& 31)) else bsF (yb r) i from rfl] at q
    by_cases h : 0 < r i
    · rw [if_neg (fun x => by have := (nI_le0 (by omega)).mp x; omega), fX4_yearsThought_27, nI_1]
      rw [if_pos (show yb r i = true from decide_eq_true h)] at q
      exact q
    · rw [if_pos ((nI_le0 (by omega)).mpr (by omega)), fX4_yearsThought_27, nI_1, Int32.or_zero]
      rw [if_neg (show ¬ yb r i = true from fun x => h (of_decide_eq_true x))] at q
      exact q
theorem yearsThought (hr : RR (B 60) r) (hb : sf r 10 ≤ 1000) : fX4_yearsThought B = some (bsF (yb r) 10) := yearsThought_4 hr hb 10 0 FU (by omega) (by decide)
theorem latestThought_4 (hr : RR (B 60) r) (hb : sf r 10 ≤ 1000) : ∀ (d i n : Nat), i + d = 10 → d < n → fX4_latestThought_4 B n (ltf r i) (nI i) = some (ltf r 10) := by
  intro d
  induction d with
  | zero =>
    intro i n hi hn
    obtain ⟨n, rfl, -⟩ := fuel hn
    have : i = 10 := by omega
    subst this
    rw [fX4_latestThought_4, if_pos (g10_t (by omega))]
  | succ d ih =>
    intro i n hi hn
    obtain ⟨n, rfl, hn2⟩ := fuel hn
    have hm := sf_mem r (show i < 10 by omega)
    rw [fX4_latestThought_4, if_neg (g10_f (by omega)), ck_t (inb_t (by omega) (by omega)), nI_clamp (by omega), hr i (by omega)]
    have q := ih (i + 1) n (by omega) (by omega)
    rw [show ltf r (i + 1) = if 0 < r i then nI i else ltf r i from rfl] at q
    by_cases h : 0 < r i
    · rw [if_neg (fun x => by have := (nI_le0 (by omega)).mp x; omega), fX4_latestThought_24, nI_1]
      rw [if_pos h] at q
      exact q
    · rw [if_pos ((nI_le0 (by omega)).mpr (by omega)), fX4_latestThought_24, nI_1]
      rw [if_neg h] at q
      exact q
theorem latestThought (hr : RR (B 60) r) (hb : sf r 10 ≤ 1000) : fX4_latestThought B = some (ltf r 10) := latestThought_4 hr hb 10 0 FU (by omega) (by decide)
theorem mof_in (r : Nat → Nat) : ∀ i, i < 1000 → mof r i = -1 ∨ ∃ j, j < i ∧ mof r i = nI j := by
  intro i
  induction i with
  | zero => intro _; left; rfl
  | succ i ih =>
    intro hi
    have e : mof r (i + 1) = if 0 < r i ∧ (mof r i = -1 ∨ r (mof r i).toNatClampNeg ≤ r i) then nI i else mof r i := rfl
    rw [e]
    split
    · right; exact ⟨i, by omega, rfl⟩
    · rcases ih (by omega) with h | ⟨j, hj, h⟩
      · left; exact h
      · right; exact ⟨j, by omega, h⟩
theorem ageThought_15 (hr : RR (B 60) r) (hb : sf r 10 ≤ 1000) : ∀ (d i n : Nat), i + d = 10 → d < n → fX4_ageThought_15 B n (nI (sf r 10)) (erf r i) (mof r i) (nI (ysf r i)) (nI i) = some (ag (B 58 1) r) := by
  intro d
  induction d with
  | zero =>
    intro i n hi hn
    obtain ⟨n, rfl, -⟩ := fuel hn
    have : i = 10 := by omega
    subst this
    rw [fX4_ageThought_15, if_pos (g10_t (by omega))]
    unfold ag
    by_cases h : sf r 10 = 0
    · rw [if_pos h, if_pos (by rw [h]; rfl)]
    · rw [if_neg h, if_neg (fun q => h ((nI_eq0 (by omega)).mp q)), bi_e (latestThought hr hb)]
      unfold fX4_ageThought_151
      have := ysf_le r 10 (by omega)
      by_cases h0 : B 58 1 = 0
      · rw [if_pos h0, if_pos h0]
      · rw [if_neg h0, if_neg h0]
        by_cases h1 : B 58 1 = 1
        · rw [if_pos h1, if_pos h1]
        · rw [if_neg h1, if_neg h1]
          by_cases h2 : B 58 1 = 2
          · rw [if_pos h2, if_pos h2]
            rcases mof_cm r 9 (by omega) with ⟨a, -⟩ | ⟨-, b, -⟩
            · exact absurd a h
            · rw [b]
          · rw [if_neg h2, if_neg h2, ck_t (by unfold nz; exact decide_eq_true (fun q => h ((nI_eq0 (by omega)).mp q))), pk_div (by omega) (by omega) (by omega)]
  | succ d ih =>
    intro i n hi hn
    obtain ⟨n, rfl, hn2⟩ := fuel hn
    have hm := sf_mem r (show i < 10 by omega)
    have q := ih (i + 1) n (by omega) (by omega)
    have hin : inb (nI i) 10 = true := inb_t (by omega) (by omega)
    have e1 : erf r (i + 1) = if erf r i = -1 ∧ 0 < r i then nI i else erf r i := rfl
    have e2 : mof r (i + 1) = if 0 < r i ∧ (mof r i = -1 ∨ r (mof r i).toNatClampNeg ≤ r i) then nI i else mof r i := rfl
    have e3 : ysf r (i + 1) = ysf r i + i * r i := rfl
    have hB : B 60 i = nI (r i) := hr i (by omega)
    have hv : (nI i).toNatClampNeg = i := nI_clamp (by omega)
    -- the part behind 'first'
    have key : ∀ t0 : Int32, t0 = erf r (i + 1) → fX4_ageThought_43 (fun x0 x1 x2 x3 x4 => fX4_ageThought_15 B n x0 x1 x2 x3 x4) B (nI (sf r 10)) (mof r i) (nI (ysf r i)) (nI i) t0 = some (ag (B 58 1) r) := by
      intro t0 ht
      have fin : ∀ z : Int32, z = mof r (i + 1) → fX4_ageThought_81 (fun x0 x1 x2 x3 x4 => fX4_ageThought_15 B n x0 x1 x2 x3 x4) B (nI (sf r 10)) t0 (nI (ysf r i)) (nI i) z = some (ag (B 58 1) r) := by
        intro z hz
        unfold fX4_ageThought_81
        rw [ck_t hin, hv, hB, pk_mul, nI_add, nI_1, hz, ht, ← e3]
        exact q
      unfold fX4_ageThought_43 fX4_ageThought_80 fX4_ageThought_75
      rw [ck_t hin, hv, hB]
      by_cases h : 0 < r i
      · rw [if_neg (fun x => by have := (nI_le0 (by omega)).mp x; omega)]
        by_cases hm1 : mof r i = -1
        · rw [if_pos hm1]
          exact fin _ (by rw [e2, if_pos ⟨h, Or.inl hm1⟩])
        · rw [if_neg hm1, ck_t hin]
          rcases mof_in r i (by omega) with hq | ⟨j, hj, hq⟩
          · exact absurd hq hm1
          · have hmj := sf_mem r (show j < 10 by omega)
            rw [hq, ck_t (inb_t (by omega) (by omega)), nI_clamp (by omega), hr j (by omega)]
            by_cases hl : r i < r j
            · rw [if_pos ((nI_ltI (by omega) (by omega)).mpr hl)]
              refine fin _ ?_
              rw [e2, hq, nI_clamp (by omega), if_neg (fun x => x.2.elim (fun y => nI_neg (by omega) y) (fun y => by omega))]
            · rw [if_neg (fun x => hl ((nI_ltI (by omega) (by omega)).mp x))]
              refine fin _ ?_
              rw [e2, hq, nI_clamp (by omega), if_pos ⟨h, Or.inr (by omega)⟩]
      · rw [if_pos ((nI_le0 (by omega)).mpr (by omega))]
        exact fin _ (by rw [e2, if_neg (fun x => h x.1)])
    rw [fX4_ageThought_15, if_neg (g10_f (by omega))]
    by_cases h0 : erf r i = -1
    · rw [if_pos h0, ck_t hin, hv, hB]
      by_cases h : 0 < r i
      · rw [if_neg (fun x => by have := (nI_le0 (by omega)).mp x; omega)]
        exact key _ (by rw [e1, if_pos ⟨h0, h⟩])
      · rw [if_pos ((nI_le0 (by omega)).mpr (by omega)), fX4_ageThought_42]
        exact key _ (by rw [e1, if_neg (fun x => h x.2)])
    · rw [if_neg h0, fX4_ageThought_42]
      exact key _ (by rw [e1, if_neg (fun x => h0 x.1)])
theorem ageThought (hr : RR (B 60) r) (hb : sf r 10 ≤ 1000) : fX4_ageThought B = some (ag (B 58 1) r) := by
  unfold fX4_ageThought
  rw [bi_e (litresThought hr)]
  exact ageThought_15 hr hb 10 0 FU (by omega) (by decide)
end
/-! ===== how many bits ===== -/
theorem bit_at (x : Int32) {i : Nat} (hi : i < 32) : ((x >>> (nI i &&& 31)) &&& 1) = if bt x i then 1 else 0 := by
  apply b_ext
  intro j hj
  rw [b_and, b_1 j hj, b_sshr i hi x hj]
  by_cases e : j = 0
  · subst e
    rw [if_pos (by omega)]
    simp only [Nat.add_zero, decide_true, Bool.and_true]
    cases bt x i
    · rw [if_neg (by simp), b_0]
    · rw [if_pos rfl, b_1 0 (by omega)]; rfl
  · rw [decide_eq_false e, Bool.and_false]
    cases bt x i
    · rw [if_neg (by simp), b_0]
    · rw [if_pos rfl, b_1 j hj, decide_eq_false e]
theorem size_4 (x : Int32) : ∀ (d i n : Nat), i + d = 10 → d < n → fX4_size_4 n x (nI (cnt (bt x) i)) (nI i) = some (nI (cnt (bt x) 10)) := by
  intro d
  induction d with
  | zero =>
    intro i n hi hn
    obtain ⟨n, rfl, -⟩ := fuel hn
    have : i = 10 := by omega
    subst this
    rw [fX4_size_4, if_pos (g10_t (by omega))]
  | succ d ih =>
    intro i n hi hn
    obtain ⟨n, rfl, hn2⟩ := fuel hn
    rw [fX4_size_4, if_neg (g10_f (by omega)), bit_at x (by omega), nI_1]
    have q := ih (i + 1) n (by omega) (by omega)
    rw [show cnt (bt x) (i + 1) = cnt (bt x) i + (if bt x i then 1 else 0) from rfl, ← nI_add] at q
    cases h : bt x i
    · rw [h] at q; exact q
    · rw [h] at q; exact q
theorem size_x (x : Int32) : fX4_size x = some (nI (cnt (bt x) 10)) := size_4 x 10 0 FU (by omega) (by decide)
theorem bc_1024 : ∀ m : Fin 1024, fJ6_bitCount_0f7a4 (nI m.val) = fX4_size (nI m.val) := by decide +kernel
theorem small_of {x : Int32} {n : Nat} (hn : n < 31) (h : ∀ i, n ≤ i → i < 32 → bt x i = false) : ∃ m, m < 2 ^ n ∧ x = nI m := by
  have hlt : x.toBitVec.toNat < 2 ^ n := by
    rcases Nat.lt_or_ge x.toBitVec.toNat (2 ^ n) with q | q
    · exact q
    · exfalso
      obtain ⟨i, hi, hb⟩ := Nat.exists_ge_and_testBit_of_ge_two_pow q
      have hi32 : i < 32 := by
        rcases Nat.lt_or_ge i 32 with l | l
        · exact l
        · have : x.toBitVec.getLsbD i = false := BitVec.getLsbD_of_ge _ _ l
          unfold BitVec.getLsbD at this
          rw [this] at hb
          cases hb
      have := h i hi hi32
      unfold bt BitVec.getLsbD at this
      rw [this] at hb
      cases hb
  refine ⟨x.toBitVec.toNat, hlt, ?_⟩
  apply Int32.toBitVec_inj.mp
  show x.toBitVec = BitVec.ofNat 32 x.toBitVec.toNat
  simp
theorem bc_x {x : Int32} (h : ∀ i, 10 ≤ i → i < 32 → bt x i = false) : fJ6_bitCount_0f7a4 x = some (nI (cnt (bt x) 10)) := by
  obtain ⟨m, hm, rfl⟩ := small_of (n := 10) (by omega) h
  rw [bc_1024 ⟨m, hm⟩]
  exact size_x _
theorem cnt_bs (f : Nat → Bool) {n m : Nat} (hn : n ≤ m) (hm : m ≤ 32) : cnt (bt (bsF f n)) m = cnt f n := by
  induction m with
  | zero =>
    have : n = 0 := by omega
    subst this; rfl
  | succ m ih =>
    show cnt (bt (bsF f n)) m + (if bt (bsF f n) m then 1 else 0) = cnt f n
    rw [bsF_bt f n (by omega) m (by omega)]
    by_cases e : n = m + 1
    · subst e
      rw [decide_eq_true (by omega : m < m + 1)]
      have : cnt (bt (bsF f (m + 1))) m = cnt f m := by
        apply cnt_congr
        intro i hi
        rw [bsF_bt f (m + 1) (by omega) i (by omega), decide_eq_true (by omega : i < m + 1)]
        rfl
      rw [this]
      show cnt f m + (if (true && f m) = true then 1 else 0) = cnt f m + (if f m = true then 1 else 0)
      rfl
    · rw [ih (by omega) (by omega), decide_eq_false (by omega : ¬ m < n)]
      rfl
theorem bs_hi (f : Nat → Bool) {n m : Nat} (hn : n ≤ m) (hm : n ≤ 32) : ∀ i, m ≤ i → i < 32 → bt (bsF f n) i = false := by
  intro i h1 h2
  rw [bsF_bt f n hm i h2, decide_eq_false (by omega : ¬ i < n)]
  rfl
theorem bc_bs (f : Nat → Bool) {n : Nat} (hn : n ≤ 10) : fJ6_bitCount_0f7a4 (bsF f n) = some (nI (cnt f n)) := by
  rw [bc_x (bs_hi f hn (by omega)), cnt_bs f hn (by omega)]
theorem size_bs (f : Nat → Bool) {n : Nat} (hn : n ≤ 10) : fX4_size (bsF f n) = some (nI (cnt f n)) := by
  rw [size_x, cnt_bs f hn (by omega)]
