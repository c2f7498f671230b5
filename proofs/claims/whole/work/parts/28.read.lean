/-! ===== a cellar is read ===== -/
def nl (pg : Nat → Nat) (cn : Nat) : Nat → Nat → Nat := fun i => if i < cn then ru (fun _ => 0) (pg (2 + 3 * i) - 48) (pg (3 + 3 * i) - 48) else fun _ => 0
def newc (pg : Nat → Nat) (cn : Nat) : Ce := (nI (pg 0 - 48), cn, nl pg cn, 0, fun _ => 0, fun _ => 0, fun _ => 0, 0, fun _ => 0, fun _ => false)
theorem nI_48 {x : Nat} (h : 48 ≤ x) : nI x - 48 = nI (x - 48) := by
  rw [show (48 : Int32) = nI 48 from rfl, pk_sub h]
section
variable {A B : Me} {len : Nat} {pg : Nat → Nat}
theorem len16 (hv : FP pg len len) : len ≤ 16 := by
  rcases Nat.lt_or_ge 16 len with q | q
  · have := hv.2.1 16 q
    unfold okP at this
    rw [if_neg (by omega), if_neg (by omega), if_pos (Nat.le_refl _)] at this
    cases this
  · exact q
theorem dig_of (hv : FP pg len len) {i : Nat} (hi : i < len) (h2 : 2 ≤ i) (h3 : i % 3 ≠ 1) : 48 ≤ pg i ∧ pg i ≤ 57 := by
  have h16 := len16 hv
  have := hv.2.1 i hi
  rw [ok_d h2 (by omega) h3] at this
  exact of_decide_eq_true this
theorem law_of (hv : FP pg len len) (h0 : 0 < len) : 48 ≤ pg 0 ∧ pg 0 ≤ 51 := by
  have := hv.2.1 0 h0
  unfold okP at this
  rw [if_pos rfl] at this
  exact of_decide_eq_true this
theorem digitAt {A : Me} (h1 : A 1 1 = nI len) (hl : len ≤ 18) {i x : Nat} (hi : i < len) (hx : A 2 i = nI x) (h48 : 48 ≤ x) : fX2_digitAt A 1 (nI i) = some (nI (x - 48)) := by
  unfold fX2_digitAt fX2_digitAt_24 fX2_digitAt_25
  rw [if_neg (nI_pos (by omega)), h1, if_neg (lim_f hi), ck_t (inb_t (by omega) (by omega)), nI_clamp (by omega), show (1 : Nat) + 1 = 2 from rfl, hx, nI_48 h48]
/-- only the casks' cells -/
def S10 : Nat → Bool := fun j => decide (10 ≤ j) && decide (j ≤ 19)
theorem S10_f {j : Nat} (h : j < 10 ∨ 19 < j) : S10 j = false := by
  unfold S10
  by_cases q : 10 ≤ j
  · rw [decide_eq_false (by omega : ¬ j ≤ 19)]; simp
  · rw [decide_eq_false q]; rfl
theorem S10_of {i : Nat} (hi : i < 5) {A A' : Me} (h : Ag (S2 (3 + 1 + 6 + 2 * i)) A A') : Ag S10 A A' := h.mono (fun j hj => by
  have := S2_y hj
  unfold S10
  rw [decide_eq_true (by omega), decide_eq_true (by omega)]; rfl)
theorem readFrom_20 (k1 : Nat) : ∀ (d i n : Nat) (A : Me), i + d = 5 → d < n → (∀ j, j < i → CR A (3 + 1 + 6 + 2 * j) (fun _ => 0)) → ∃ A1, fX1_readFrom_20 3 n A k1 (nI i) = fX1_readFrom_42 3 FU A1 k1 0 ∧ Ag S10 A A1 ∧ ∀ j, j < 5 → CR A1 (3 + 1 + 6 + 2 * j) (fun _ => 0) := by
  intro d
  induction d with
  | zero =>
    intro i n A hi hn hc
    obtain ⟨n, rfl, -⟩ := fuel hn
    rw [fX1_readFrom_20, if_pos (g5_t (by omega))]
    exact ⟨A, rfl, Ag.rf, fun j hj => hc j (by omega)⟩
  | succ d ih =>
    intro i n A hi hn hc
    obtain ⟨n, rfl, hn2⟩ := fuel hn
    rw [fX1_readFrom_20, if_neg (g5_f (by omega)), ck_t (inb_t (by omega) (by omega)), nI_clamp (by omega)]
    obtain ⟨A1, q1, q2, q3⟩ := drain (A := A) (k := 3 + 1 + 6 + 2 * i)
    rw [bi_e q1, nI_1]
    obtain ⟨A2, t1, t2, t3⟩ := ih (i + 1) n A1 (by omega) (by omega) (fun j hj => by
      by_cases e : j = i
      · rw [e]; exact q2
      · exact (hc j (by omega)).ag q3 (S2_f (by omega) (by omega)) (S2_f (by omega) (by omega)))
    exact ⟨A2, t1, (S10_of (by omega) q3).tr t2, t3⟩
theorem readFrom_42 (hv : FP pg len len) {cn : Nat} (hcn : len = 3 * cn + 1) (hc2 : 2 ≤ cn) (hc5 : cn ≤ 5) : ∀ (d i n : Nat) (A : Me), i + d = cn → d < n → A 3 7 = nI cn → A 1 1 = nI len → (∀ j, j < len → A 2 j = nI (pg j)) → (∀ j, j < 5 → CR A (3 + 1 + 6 + 2 * j) (if j < i then nl pg cn j else fun _ => 0)) →
    ∃ A', fX1_readFrom_42 3 n A 1 (nI i) = some A' ∧ (∀ j, j < 5 → CR A' (3 + 1 + 6 + 2 * j) (nl pg cn j)) ∧ (∀ k, (k < 3 ∨ 19 < k) → A' k = A k) ∧ A' 3 6 = A 3 6 ∧ A' 3 7 = nI cn ∧ A' 3 8 = 0 ∧ A' 3 9 = 0 ∧ A' 3 10 = 0 := by
  intro d
  induction d with
  | zero =>
    intro i n A hi hn h7 h1 h2 hC
    obtain ⟨n, rfl, -⟩ := fuel hn
    rw [fX1_readFrom_42, h7, if_pos (lim_t (by omega))]
    have hd : fX1_dropTrials (up2 A 3 8 0) 3 = some ((up2 A 3 8 0) 3 9, up2 (up2 (up2 A 3 8 0) 3 9 0) 3 10 0) := rfl
    rw [b2_e hd]
    refine ⟨_, rfl, fun j hj => ?_, fun k hk => ?_, ?_, ?_, ?_, ?_, ?_⟩
    · unfold CR
      rw [up2_ne (by omega), up2_ne (by omega), up2_ne (by omega), up2_ne (by omega), up2_ne (by omega), up2_ne (by omega)]
      have := hC j hj
      by_cases e : j < i
      · rw [if_pos e] at this; exact this
      · rw [if_neg e] at this
        have : nl pg cn j = fun _ => 0 := if_neg (by omega)
        rw [this]; assumption
    · rw [up2_ne (by omega), up2_ne (by omega), up2_ne (by omega)]
    · simp [up2, upd]
    · simp [up2, upd]; exact h7
    · simp [up2, upd]
    · simp [up2, upd]
    · simp [up2, upd]
  | succ d ih =>
    intro i n A hi hn h7 h1 h2 hC
    obtain ⟨n, rfl, hn2⟩ := fuel hn
    have d1 := dig_of hv (i := 2 + 3 * i) (by omega) (by omega) (by omega)
    have d2 := dig_of hv (i := 3 + 3 * i) (by omega) (by omega) (by omega)
    have hl16 := len16 hv
    rw [fX1_readFrom_42, h7, if_neg (lim_f (by omega)), ck_t (inb_t (by omega) (by omega)), nI_clamp (by omega), show (2 : Int32) + 3 * nI i = nI (2 + 3 * i) from by rw [show (3 : Int32) = nI 3 from rfl, show (2 : Int32) = nI 2 from rfl, pk_mul, nI_add], bi_e (digitAt h1 (by omega) (show 2 + 3 * i < len by omega) (h2 _ (by omega)) d1.1), nI_1, show 2 + 3 * i + 1 = 3 + 3 * i by omega, bi_e (digitAt h1 (by omega) (show 3 + 3 * i < len by omega) (h2 _ (by omega)) d2.1)]
    have hCi := hC i (by omega)
    rw [if_neg (Nat.lt_irrefl _)] at hCi
    obtain ⟨A1, q1, q2, q3⟩ := put_add hCi (show pg (2 + 3 * i) - 48 < 10 by omega) (pg (3 + 3 * i) - 48)
    rw [bi_e q1, nI_1]
    have g := S10_of (show i < 5 by omega) q3
    obtain ⟨A', t1, t2, t3, t4⟩ := ih (i + 1) n A1 (by omega) (by omega) (by rw [g 3 (S10_f (by omega))]; exact h7) (by rw [g 1 (S10_f (by omega))]; exact h1) (by rw [g 2 (S10_f (by omega))]; exact h2) (fun j hj => by
      by_cases e : j = i
      · subst e
        rw [if_pos (by omega)]
        have : nl pg cn j = ru (fun _ => 0) (pg (2 + 3 * j) - 48) (pg (3 + 3 * j) - 48) := if_pos (by omega)
        rw [this]
        exact q2.congr (fun y _ => by unfold ru; rw [Nat.zero_add])
      · have := (hC j hj).ag q3 (S2_f (by omega) (by omega)) (S2_f (by omega) (by omega))
        by_cases e2 : j < i
        · rw [if_pos e2] at this; rw [if_pos (by omega)]; exact this
        · rw [if_neg e2] at this; rw [if_neg (by omega)]; exact this)
    refine ⟨A', t1, t2, fun k hk => by rw [t3 k hk, g k (S10_f (by omega))], ?_, ?_, t4.2.2⟩
    · rw [t4.1, g 3 (S10_f (by omega))]
    · exact t4.2.1
theorem readFrom (h : PG A B len pg) (hv : FP pg len len) {cn : Nat} (hcn : len = 3 * cn + 1) (hc2 : 2 ≤ cn) (hc5 : cn ≤ 5) : ∃ A', fX1_readFrom A 3 1 (nI cn) = some A' ∧ RC A' 3 (newc pg cn) ∧ ∀ k, (k < 3 ∨ 19 < k) → A' k = A k := by
  obtain ⟨h1, h2, h3, h4⟩ := h
  have hl := law_of hv (by omega)
  unfold fX1_readFrom
  rw [bi_e (show fX2_digitAt A 1 0 = some (nI (pg 0 - 48)) from digitAt (i := 0) h1 h3 (by omega) (h4 0 (by omega)).1 hl.1), show (5 : Int32) = nI 5 from rfl, if_neg (fun x => by have := (nI_ltI (by omega) (by omega)).mp x; omega)]
  obtain ⟨A1, q1, q2, q3⟩ := readFrom_20 1 5 0 FU (up2 (up2 A 3 6 (nI (pg 0 - 48))) 3 7 (nI cn)) (by omega) (by decide) (fun j hj => by omega)
  have e3 : A1 3 = upd (upd (A 3) 6 (nI (pg 0 - 48))) 7 (nI cn) := by rw [q2 3 (S10_f (by omega)), up2_at, up2_at]
  obtain ⟨A', t1, t2, t3, t4, t5, t6, t7, t8⟩ := readFrom_42 hv hcn hc2 hc5 cn 0 FU A1 (by omega) (Nat.lt_of_le_of_lt hc5 (by decide)) (by rw [e3]; exact if_pos rfl) (by rw [q2 1 (S10_f (by omega)), up2_ne (by omega), up2_ne (by omega)]; exact h1) (fun j hj => by rw [q2 2 (S10_f (by omega)), up2_ne (by omega), up2_ne (by omega)]; exact (h4 j hj).1) (fun j hj => by rw [if_neg (by omega)]; exact q3 j hj)
  refine ⟨A', Eq.trans q1 t1, ⟨?_, ?_, ?_, ?_, ?_, t2, fun i hi => ?_, fun i hi => ?_⟩, fun k hk => ?_⟩
  · rw [t4, e3]; simp [upd]; rfl
  · exact t5
  · rw [t6]; rfl
  · rw [t7]; rfl
  · intro i hi
    rw [t8, b_0]
    show false = (decide (i < 0) && false)
    simp
  · exact absurd hi (Nat.not_lt_zero _)
  · exact absurd hi (Nat.not_lt_zero _)
  · rw [t3 k hk, q2 k (S10_f (by omega)), up2_ne (by omega), up2_ne (by omega)]
theorem newc_wf (hv : FP pg len len) {cn : Nat} (hcn : len = 3 * cn + 1) (hc5 : cn ≤ 5) : Wf (newc pg cn) := by
  refine ⟨hc5, Nat.zero_le _, Nat.zero_le _, fun i hi => ?_, fun i hi => absurd hi (Nat.not_lt_zero _), fun h => absurd h (Nat.lt_irrefl 0)⟩
  show sf (nl pg cn i) 10 ≤ 20
  unfold nl
  by_cases e : i < cn
  · rw [if_pos e]
    have d1 := dig_of hv (i := 2 + 3 * i) (by omega) (by omega) (by omega)
    have d2 := dig_of hv (i := 3 + 3 * i) (by omega) (by omega) (by omega)
    have := sf_ru10 (r := fun _ => 0) (y := pg (2 + 3 * i) - 48) (v := pg (3 + 3 * i) - 48) (by omega)
    have z : sf (fun _ => 0) 10 = 0 := sf_zero 10
    omega
  · rw [if_neg e, sf_zero]; omega
theorem cellar_17 : ∀ (d i n : Nat) (B : Me), i + d = 50 → d < n → ∃ B1, fX4_cellar_17 n B (nI i) = fX4_cellar_59 FU (up2 (up2 B1 58 1 ((B1 66 (0 : Int32).toNatClampNeg) - 48)) 58 2 ((up2 B1 58 1 ((B1 66 (0 : Int32).toNatClampNeg) - 48)) 58 15)) 0 ∧ (∀ k, k ≠ 59 → B1 k = B k) ∧ (∀ j, i ≤ j → j < 50 → B1 59 j = 0) ∧ ∀ j, j < i → B1 59 j = B 59 j := by
  intro d
  induction d with
  | zero =>
    intro i n B hi hn
    obtain ⟨n, rfl, -⟩ := fuel hn
    rw [fX4_cellar_17, if_pos (g50_t (by omega))]
    exact ⟨B, rfl, fun _ _ => rfl, fun j h1 h2 => by omega, fun _ _ => rfl⟩
  | succ d ih =>
    intro i n B hi hn
    obtain ⟨n, rfl, hn2⟩ := fuel hn
    rw [fX4_cellar_17, if_neg (g50_f (by omega)), ck_t (inb_t (by omega) (by omega)), nI_clamp (by omega), nI_1]
    obtain ⟨B1, t1, t2, t3, t4⟩ := ih (i + 1) n (up2 B 59 i 0) (by omega) (by omega)
    refine ⟨B1, t1, fun k hk => by rw [t2 k hk, up2_ne hk], fun j h1 h2 => ?_, fun j hj => ?_⟩
    · by_cases e : j = i
      · subst e
        rw [t4 j (by omega), up2_at]
        exact if_pos rfl
      · exact t3 j (by omega) h2
    · rw [t4 j (by omega), up2_at]
      exact if_neg (by omega)
theorem cellar_59 (hv : FP pg len len) {cn : Nat} (hcn : len = 3 * cn + 1) (hc5 : cn ≤ 5) : ∀ (d i n : Nat) (B : Me), i + d = cn → d < n → B 58 2 = nI cn → (∀ j, j < len → B 66 j = nI (pg j)) → LB B (fun j => if j < i then nl pg cn j else fun _ => 0) →
    ∃ B', fX4_cellar_59 n B (nI i) = some (nI cn, B') ∧ LB B' (nl pg cn) ∧ (∀ k, k ≠ 58 → k ≠ 59 → B' k = B k) ∧ (∀ j, j ≠ 0 → j ≠ 5 → j ≠ 9 → j ≠ 12 → B' 58 j = B 58 j) ∧ B' 58 0 = B 58 0 + 1 ∧ B' 58 5 = 0 ∧ B' 58 9 = 0 ∧ B' 58 12 = 0 := by
  intro d
  induction d with
  | zero =>
    intro i n B hi hn h2 hp hL
    obtain ⟨n, rfl, -⟩ := fuel hn
    rw [fX4_cellar_59, h2, if_pos (lim_t (by omega))]
    refine ⟨up2 (up2 (up2 (up2 B 58 0 (B 58 0 + 1)) 58 5 0) 58 9 0) 58 12 0, ?_, fun j hj y hy => ?_, fun k h1 h2 => ?_, fun j a1 a2 a3 a4 => ?_, ?_, ?_, ?_, ?_⟩
    · congr 2
    · rw [up2_ne (by omega), up2_ne (by omega), up2_ne (by omega), up2_ne (by omega), hL j hj y hy]
      show nI ((if j < i then nl pg cn j else fun _ => 0) y) = _
      by_cases e : j < i
      · rw [if_pos e]
      · rw [if_neg e]
        have : nl pg cn j = fun _ => 0 := if_neg (by omega)
        rw [this]
    · rw [up2_ne h1, up2_ne h1, up2_ne h1, up2_ne h1]
    · rw [cell58 a4, cell58 a3, cell58 a2, cell58 a1]
    · simp [up2, upd]
    · simp [up2, upd]
    · simp [up2, upd]
    · simp [up2, upd]
  | succ d ih =>
    intro i n B hi hn h2 hp hL
    obtain ⟨n, rfl, hn2⟩ := fuel hn
    have d1 := dig_of hv (i := 2 + 3 * i) (by omega) (by omega) (by omega)
    have d2 := dig_of hv (i := 3 + 3 * i) (by omega) (by omega) (by omega)
    have e3 : (3 : Int32) * nI i = nI (3 * i) := by rw [show (3 : Int32) = nI 3 from rfl, pk_mul]
    rw [fX4_cellar_59, h2, if_neg (lim_f (by omega)), e3, show (2 : Int32) + nI (3 * i) = nI (2 + 3 * i) from nI_add 2 _, show (3 : Int32) + nI (3 * i) = nI (3 + 3 * i) from nI_add 3 _, ck_t (inb_t (by omega) (by omega)), ck_t (inb_t (by omega) (by omega)), nI_clamp (by omega), nI_clamp (by omega), hp _ (by omega), hp _ (by omega), idx, show nI (10 * i + pg (2 + 3 * i)) - 48 = nI (10 * i + (pg (2 + 3 * i) - 48)) from by
      rw [show (48 : Int32) = nI 48 from rfl, pk_sub (by omega)]; congr 1; omega, nI_48 d2.1, ck_t (inb_t (by omega) (by omega)), nI_clamp (by omega), nI_1]
    obtain ⟨B', t1, t2, t3, t4⟩ := ih (i + 1) n (up2 B 59 (10 * i + (pg (2 + 3 * i) - 48)) (nI (pg (3 + 3 * i) - 48))) (by omega) (by omega) (by rw [up2_ne (by omega)]; exact h2) (fun j hj => by rw [up2_ne (by omega)]; exact hp j hj) (fun j hj y hy => by
      rw [up2_at]
      show upd (B 59) (10 * i + (pg (2 + 3 * i) - 48)) (nI (pg (3 + 3 * i) - 48)) (10 * j + y) = nI ((if j < i + 1 then nl pg cn j else fun _ => 0) y)
      unfold upd
      have hLj : B 59 (10 * j + y) = nI ((if j < i then nl pg cn j else fun _ => 0) y) := hL j hj y hy
      by_cases e : j = i
      · subst e
        rw [if_pos (Nat.lt_succ_self _)]
        have : nl pg cn j = ru (fun _ => 0) (pg (2 + 3 * j) - 48) (pg (3 + 3 * j) - 48) := if_pos (by omega)
        rw [this]
        unfold ru
        by_cases ey : y = pg (2 + 3 * j) - 48
        · rw [if_pos (by omega), if_pos ey]
        · rw [if_neg (by omega), if_neg ey, hLj, if_neg (Nat.lt_irrefl _)]
      · rw [if_neg (by omega), hLj]
        by_cases e2 : j < i
        · rw [if_pos e2, if_pos (by omega)]
        · rw [if_neg e2, if_neg (by omega)])
    refine ⟨B', t1, t2, fun k h1 h2 => by rw [t3 k h1 h2, up2_ne h2], fun j a1 a2 a3 a4 => ?_, ?_, t4.2.2.1, t4.2.2.2⟩
    · rw [t4.1 j a1 a2 a3 a4, up2_ne (by omega)]
    · rw [t4.2.1, up2_ne (by omega)]
theorem cellarT (h : PG A B len pg) (hv : FP pg len len) {cn : Nat} (hcn : len = 3 * cn + 1) (hc5 : cn ≤ 5) (h15 : B 58 15 = nI cn) : ∃ B', fX4_cellar_17 FU B 0 = some (nI cn, B') ∧ RB B' (newc pg cn) ∧ B' 58 0 = B 58 0 + 1 ∧ B' 58 12 = 0 ∧ (∀ k, k ≠ 58 → k ≠ 59 → B' k = B k) ∧ ∀ j, j ≠ 0 → j ≠ 1 → j ≠ 2 → j ≠ 5 → j ≠ 9 → j ≠ 12 → B' 58 j = B 58 j := by
  obtain ⟨h1, h2, h3, h4⟩ := h
  have hl := law_of hv (by omega)
  obtain ⟨B1, q1, q2, q3, -⟩ := cellar_17 50 0 FU B (by omega) (by decide)
  have e0 : B1 66 (0 : Int32).toNatClampNeg - 48 = nI (pg 0 - 48) := by
    rw [show (0 : Int32).toNatClampNeg = 0 from by decide, q2 66 (by omega), (h4 0 (by omega)).2.1, nI_48 hl.1]
  rw [e0, cell58 (by omega), q2 58 (by omega), h15] at q1
  obtain ⟨B', t1, t2, t3, t4, t5, t6, t7, t8⟩ := cellar_59 hv hcn hc5 cn 0 FU (up2 (up2 B1 58 1 (nI (pg 0 - 48))) 58 2 (nI cn)) (by omega) (Nat.lt_of_le_of_lt hc5 (by decide)) cell58s (fun j hj => by rw [up2_ne (by omega), up2_ne (by omega), q2 66 (by omega)]; exact (h4 j hj).2.1) (fun j hj y hy => by
    rw [up2_ne (by omega), up2_ne (by omega)]
    exact q3 _ (by omega) (by omega))
  refine ⟨B', Eq.trans q1 t1, ⟨?_, ?_, ?_, ?_, t2, fun i hi => absurd hi (Nat.not_lt_zero _), fun i hi => absurd hi (Nat.not_lt_zero _)⟩, ?_, t8, fun k a b => ?_, fun j a0 a1 a2 a5 a9 a12 => ?_⟩
  · rw [t4 1 (by omega) (by omega) (by omega) (by omega), cell58 (by omega), cell58s]; rfl
  · rw [t4 2 (by omega) (by omega) (by omega) (by omega), cell58s]; rfl
  · rw [t6]; rfl
  · rw [t7]; rfl
  · rw [t5, cell58 (by omega), cell58 (by omega), q2 58 (by omega)]
  · rw [t3 k a b, up2_ne a, up2_ne a, q2 k b]
  · rw [t4 j a0 a5 a9 a12, cell58 a2, cell58 a1, q2 58 (by omega)]
end
