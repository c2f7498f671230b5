/-! ===== the page ===== -/
def okP (i x : Nat) : Bool := if i = 0 then decide (48 ≤ x ∧ x ≤ 51) else if i = 1 then decide (x = 59) else if 16 ≤ i then false else if i % 3 = 1 then decide (x = 44) else decide (48 ≤ x ∧ x ≤ 57)
def PG (A B : Me) (len : Nat) (pg : Nat → Nat) : Prop := A 1 1 = nI len ∧ B 58 12 = nI len ∧ len ≤ 18 ∧ ∀ i, i < len → A 2 i = nI (pg i) ∧ B 66 i = nI (pg i) ∧ 32 ≤ pg i ∧ pg i ≤ 126
/-- v is the first place that no cellar has -/
def FP (pg : Nat → Nat) (len v : Nat) : Prop := v ≤ len ∧ (∀ i, i < v → okP i (pg i) = true) ∧ (v < len → okP v (pg v) = false)
theorem FP.uniq {pg : Nat → Nat} {len v w : Nat} (h : FP pg len v) (g : FP pg len w) : v = w := by
  rcases Nat.lt_trichotomy v w with q | q | q
  · have h1 := h.2.2 (by have := g.1; omega)
    have h2 := g.2.1 v q
    rw [h1] at h2; cases h2
  · exact q
  · have h1 := g.2.2 (by have := h.1; omega)
    have h2 := h.2.1 w q
    rw [h1] at h2; cases h2
theorem fits_x {i x : Nat} (hi : i < 18) (hx : x < 127) : fX2_fits (nI i) (nI x) = some (bI (okP i x)) :=
  (by decide +kernel : ∀ i : Fin 18, ∀ x : Fin 127, fX2_fits (nI i.val) (nI x.val) = some (bI (okP i.val x.val))) ⟨i, hi⟩ ⟨x, hx⟩
section
variable {A B : Me} {len : Nat} {pg : Nat → Nat}
theorem firstFault_2 (h : PG A B len pg) : ∀ (d i n : Nat), i + d = len → d < n → (∀ j, j < i → okP j (pg j) = true) → ∃ v, FP pg len v ∧ fX2_firstFault_2 A 1 n (nI i) = some (nI v) := by
  obtain ⟨h1, h2, h3, h4⟩ := h
  intro d
  induction d with
  | zero =>
    intro i n hi hn hk
    obtain ⟨n, rfl, -⟩ := fuel hn
    have : i = len := by omega
    rw [fX2_firstFault_2, h1, if_pos (lim_t (by omega))]
    exact ⟨len, ⟨Nat.le_refl _, fun j hj => hk j (by omega), fun q => by omega⟩, rfl⟩
  | succ d ih =>
    intro i n hi hn hk
    obtain ⟨n, rfl, hn2⟩ := fuel hn
    have hx := h4 i (by omega)
    rw [fX2_firstFault_2, h1, if_neg (lim_f (by omega)), ck_t (inb_t (by omega) (by omega)), nI_clamp (by omega), show (1 : Nat) + 1 = 2 from rfl, hx.1, bi_e (fits_x (by omega) (by omega))]
    cases ho : okP i (pg i)
    · rw [if_pos (by decide)]
      exact ⟨i, ⟨by omega, hk, fun _ => ho⟩, rfl⟩
    · rw [if_neg (by decide), nI_1]
      exact ih (i + 1) n (by omega) (by omega) (fun j hj => by
        by_cases e : j = i
        · rw [e]; exact ho
        · exact hk j (by omega))
theorem firstFault (h : PG A B len pg) : ∃ v, FP pg len v ∧ fX2_firstFault A 1 = some (nI v) :=
  firstFault_2 h len 0 FU (by omega) (Nat.lt_of_le_of_lt h.2.2.1 (by decide)) (fun j hj => by omega)
/-- how many casks the page tells, 0: none -/
def cwr (len v : Nat) : Nat := if v = len ∧ 7 ≤ len ∧ len % 3 = 1 then len / 3 else 0
theorem casksWritten (h : PG A B len pg) {v : Nat} (hv : FP pg len v) : fX2_casksWritten A 1 = some (nI (cwr len v)) := by
  obtain ⟨w, hw, e⟩ := firstFault h
  have := hv.uniq hw
  subst this
  obtain ⟨h1, h2, h3, h4⟩ := h
  have hvl := hv.1
  unfold fX2_casksWritten fX2_casksWritten_34 fX2_casksWritten_35 fX2_casksWritten_50 cwr
  rw [h1, show (7 : Int32) = nI 7 from rfl, show (3 : Int32) = nI 3 from rfl, pk_rem (by omega) (by omega) (by omega), pk_div (by omega) (by omega) (by omega)]
  rw [if_pos (rfl : (0 : Int32) = 0), if_neg (by decide : ¬ (1 : Int32) = 0)]
  by_cases z1 : len < 7
  · rw [if_pos ((nI_ltI (by omega) (by omega)).mpr z1), if_neg (fun x => by omega)]; rfl
  · rw [if_neg (fun x => z1 ((nI_ltI (by omega) (by omega)).mp x))]
    by_cases z2 : len % 3 = 1
    · rw [if_pos (by rw [z2]; rfl), bi_e e]
      by_cases z3 : v = len
      · rw [if_pos (by rw [z3]), if_pos ⟨z3, by omega, z2⟩]
      · rw [if_neg (fun x => z3 (nI_inj (by omega) (by omega) x)), if_neg (fun x => z3 x.1)]; rfl
    · rw [if_neg (fun (x : nI (len % 3) = 1) => z2 (nI_inj (b := 1) (by omega) (by omega) x)), if_neg (fun x => z2 x.2.2)]; rfl
theorem dig_x {x hi : Nat} (hx : x < 127) (hh : hi < 10) : (decide (¬ (nI x - 48 < (0 : Int32)) ∧ ¬ (nI hi < nI x - 48))) = decide (48 ≤ x ∧ x ≤ 48 + hi) :=
  (by decide +kernel : ∀ x : Fin 127, ∀ hi : Fin 10, (decide (¬ (nI x.val - 48 < (0 : Int32)) ∧ ¬ (nI hi.val < nI x.val - 48))) = decide (48 ≤ x.val ∧ x.val ≤ 48 + hi.val)) ⟨x, hx⟩ ⟨hi, hh⟩
theorem isFigure (h : PG A B len pg) {i hi : Nat} (hi18 : i < 19) (hh : hi < 10) : fX4_isFigure B (nI i) (nI hi) = some (bI (decide (i < len) && decide (48 ≤ pg i ∧ pg i ≤ 48 + hi))) := by
  obtain ⟨h1, h2, h3, h4⟩ := h
  unfold fX4_isFigure fX4_isFigure_29 fX4_isFigure_30
  rw [h2, ck_t zb_0, ck_t zb_1]
  by_cases z : i < len
  · have hx := h4 i z
    rw [if_neg (lim_f z), ck_t (inb_t (by omega) (by omega)), nI_clamp (by omega), hx.2.1, bi_e (withinX _ _ _), decide_eq_true z, dig_x (by omega) hh]
    cases decide (48 ≤ pg i ∧ pg i ≤ 48 + hi)
    · rw [if_pos (by decide)]; rfl
    · rw [if_neg (by decide)]; rfl
  · rw [if_pos (lim_t (by omega)), decide_eq_false z]; rfl
theorem PG.agB {B' : Me} (h : PG A B len pg) (g : AgB B B') : PG A B' len pg :=
  ⟨h.1, by rw [g 58 12 rfl]; exact h.2.1, h.2.2.1, fun i hi => by rw [g 66 i rfl]; exact h.2.2.2 i hi⟩
theorem ok_d {i x : Nat} (h2 : 2 ≤ i) (h16 : i < 16) (h3 : i % 3 ≠ 1) : okP i x = decide (48 ≤ x ∧ x ≤ 57) := by
  unfold okP
  rw [if_neg (by omega), if_neg (by omega), if_neg (by omega), if_neg h3]
theorem ok_c {i x : Nat} (h2 : 2 ≤ i) (h16 : i < 16) (h3 : i % 3 = 1) : okP i x = decide (x = 44) := by
  unfold okP
  rw [if_neg (by omega), if_neg (by omega), if_neg (by omega), if_pos h3]
theorem cell58 {B : Me} {j j' : Nat} {v : Int32} (h : j' ≠ j) : up2 B 58 j v 58 j' = B 58 j' := by
  rw [up2_at]; exact if_neg h
theorem cell58s {B : Me} {j : Nat} {v : Int32} : up2 B 58 j v 58 j = v := by
  rw [up2_at]; exact if_pos rfl
theorem read_44 : ∀ (d j n : Nat) (B : Me), PG A B len pg → B 58 14 = 0 → B 58 15 = nI j → j + d = 4 → d < n → 2 + 3 * j ≤ len → (∀ i, i < 2 + 3 * j → okP i (pg i) = true) →
    ∃ v B', FP pg len v ∧ fX4_read_44 n B (nI (2 + 3 * j)) = some (nI v, B') ∧ AgB B B' ∧ ((cwr len v = 0 ∧ B' 58 14 = 0) ∨ (0 < cwr len v ∧ B' 58 14 = 1 ∧ B' 58 15 = nI (cwr len v))) := by
  intro d
  induction d with
  | zero =>
    intro j n B h hw0 hnm hj hn hl hk
    obtain ⟨n, rfl, -⟩ := fuel hn
    have j4 : j = 4 := by omega
    subst j4
    have h3 := h.2.2.1
    rw [fX4_read_44, hnm, if_neg (g5_f (by omega)), show (9 : Int32) = nI 9 from rfl, bi_e (isFigure h (by omega) (by omega))]
    by_cases z1 : 14 < len ∧ (48 ≤ pg 14 ∧ pg 14 ≤ 57)
    · rw [show (decide (2 + 3 * 4 < len) && decide (48 ≤ pg (2 + 3 * 4) ∧ pg (2 + 3 * 4) ≤ 48 + 9)) = true from by rw [decide_eq_true z1.1, decide_eq_true z1.2]; rfl, if_neg (by decide), nI_1, bi_e (isFigure h (by omega) (by omega))]
      by_cases z2 : 15 < len ∧ (48 ≤ pg 15 ∧ pg 15 ≤ 57)
      · rw [show (decide (2 + 3 * 4 + 1 < len) && decide (48 ≤ pg (2 + 3 * 4 + 1) ∧ pg (2 + 3 * 4 + 1) ≤ 48 + 9)) = true from by rw [decide_eq_true z2.1, decide_eq_true z2.2]; rfl, if_neg (by decide), show nI (2 + 3 * 4) + 2 = nI 16 from rfl, cell58 (by omega), h.2.1]
        have hok : ∀ i, i < 16 → okP i (pg i) = true := by
          intro i hi
          by_cases e1 : i = 15
          · subst e1; rw [ok_d (by omega) (by omega) (by omega)]; exact decide_eq_true z2.2
          · by_cases e2 : i = 14
            · subst e2; rw [ok_d (by omega) (by omega) (by omega)]; exact decide_eq_true z1.2
            · exact hk i (by omega)
        have hFP : FP pg len 16 := ⟨by omega, hok, fun _ => by unfold okP; rw [if_neg (by omega), if_neg (by omega), if_pos (Nat.le_refl _)]⟩
        have ga : AgB B (up2 B 58 15 (nI 4 + 1)) := AgB.up rfl
        unfold fX4_read_120 fX4_read_141 fX4_read_142
        by_cases z3 : len = 16
        · rw [z3, if_pos rfl, cell58 (by omega), h.2.1, z3, if_pos rfl, cell58s, if_neg (by decide), ck_t zb_1]
          refine ⟨16, _, by rw [← z3] at hFP ⊢; exact hFP, rfl, ga.tr (AgB.up rfl), Or.inr ⟨by decide, cell58s, ?_⟩⟩
          rw [cell58 (by omega), cell58s]
          decide
        · rw [if_neg (fun x => z3 (nI_inj (by omega) (by omega) x.symm)), cell58s, if_pos (by decide), cell58 (by omega), h.2.1, if_neg (fun x => z3 (nI_inj (by omega) (by omega) x.symm)), ck_t zb_0]
          refine ⟨16, _, hFP, rfl, ga.tr (AgB.up rfl), Or.inl ⟨?_, cell58s⟩⟩
          unfold cwr
          rw [if_neg (fun x => z3 x.1.symm)]
      · rw [show (decide (2 + 3 * 4 + 1 < len) && decide (48 ≤ pg (2 + 3 * 4 + 1) ∧ pg (2 + 3 * 4 + 1) ≤ 48 + 9)) = false from by
          cases hb : (decide (2 + 3 * 4 + 1 < len) && decide (48 ≤ pg (2 + 3 * 4 + 1) ∧ pg (2 + 3 * 4 + 1) ≤ 48 + 9))
          · rfl
          · rw [Bool.and_eq_true] at hb
            exact absurd ⟨of_decide_eq_true hb.1, of_decide_eq_true hb.2⟩ z2, if_pos (by decide)]
        refine ⟨15, B, ⟨by omega, fun i hi => ?_, fun q => ?_⟩, rfl, AgB.rf, Or.inl ⟨?_, hw0⟩⟩
        · by_cases e2 : i = 14
          · subst e2; rw [ok_d (by omega) (by omega) (by omega)]; exact decide_eq_true z1.2
          · exact hk i (by omega)
        · rw [ok_d (by omega) (by omega) (by omega)]; exact decide_eq_false (fun x => z2 ⟨q, x⟩)
        · unfold cwr; rw [if_neg (fun x => by omega)]
    · rw [show (decide (2 + 3 * 4 < len) && decide (48 ≤ pg (2 + 3 * 4) ∧ pg (2 + 3 * 4) ≤ 48 + 9)) = false from by
        cases hb : (decide (2 + 3 * 4 < len) && decide (48 ≤ pg (2 + 3 * 4) ∧ pg (2 + 3 * 4) ≤ 48 + 9))
        · rfl
        · rw [Bool.and_eq_true] at hb
          exact absurd ⟨of_decide_eq_true hb.1, of_decide_eq_true hb.2⟩ z1, if_pos (by decide)]
      refine ⟨14, B, ⟨by omega, fun i hi => hk i (by omega), fun q => ?_⟩, rfl, AgB.rf, Or.inl ⟨?_, hw0⟩⟩
      · rw [ok_d (by omega) (by omega) (by omega)]; exact decide_eq_false (fun x => z1 ⟨q, x⟩)
      · unfold cwr; rw [if_neg (fun x => by omega)]
  | succ d ih =>
    intro j n B h hw0 hnm hj hn hl hk
    obtain ⟨n, rfl, hn2⟩ := fuel hn
    have h3 := h.2.2.1
    rw [fX4_read_44, hnm, if_neg (g5_f (by omega)), show (9 : Int32) = nI 9 from rfl, bi_e (isFigure h (by omega) (by omega))]
    by_cases z1 : 2 + 3 * j < len ∧ (48 ≤ pg (2 + 3 * j) ∧ pg (2 + 3 * j) ≤ 48 + 9)
    · rw [show (decide (2 + 3 * j < len) && decide (48 ≤ pg (2 + 3 * j) ∧ pg (2 + 3 * j) ≤ 48 + 9)) = true from by rw [decide_eq_true z1.1, decide_eq_true z1.2]; rfl, if_neg (by decide), nI_1, bi_e (isFigure h (by omega) (by omega))]
      by_cases z2 : 2 + 3 * j + 1 < len ∧ (48 ≤ pg (2 + 3 * j + 1) ∧ pg (2 + 3 * j + 1) ≤ 48 + 9)
      · rw [show (decide (2 + 3 * j + 1 < len) && decide (48 ≤ pg (2 + 3 * j + 1) ∧ pg (2 + 3 * j + 1) ≤ 48 + 9)) = true from by rw [decide_eq_true z2.1, decide_eq_true z2.2]; rfl, if_neg (by decide), show nI (2 + 3 * j) + 2 = nI (2 + 3 * j + 2) from nI_add _ 2, cell58 (by omega), h.2.1]
        have hok : ∀ i, i < 2 + 3 * j + 2 → okP i (pg i) = true := by
          intro i hi
          by_cases e1 : i = 2 + 3 * j + 1
          · subst e1; rw [ok_d (by omega) (by omega) (by omega)]; exact decide_eq_true z2.2
          · by_cases e2 : i = 2 + 3 * j
            · subst e2; rw [ok_d (by omega) (by omega) (by omega)]; exact decide_eq_true z1.2
            · exact hk i (by omega)
        have ga : AgB B (up2 B 58 15 (nI j + 1)) := AgB.up rfl
        have gb : AgB B (up2 B 58 15 (nI (j + 1))) := AgB.up rfl
        rw [nI_1]
        by_cases z3 : len = 2 + 3 * j + 2
        · rw [if_pos (by rw [z3])]
          unfold fX4_read_120 fX4_read_141 fX4_read_142
          rw [cell58 (by omega), h.2.1, if_pos (by rw [z3]), cell58s]
          have hFP : FP pg len (2 + 3 * j + 2) := ⟨by omega, hok, fun q => by omega⟩
          by_cases z4 : j = 0
          · subst z4
            rw [if_pos (by decide), ck_t zb_0]
            refine ⟨_, _, hFP, rfl, gb.tr (AgB.up rfl), Or.inl ⟨?_, cell58s⟩⟩
            unfold cwr; rw [if_neg (fun x => by omega)]
          · have c1 : ¬ nI (j + 1) ≤ 1 := by
              rw [show (1 : Int32) = nI 1 from rfl, nI_leI (by omega) (by omega)]; omega
            rw [if_neg c1, ck_t zb_1]
            have hc : cwr len (2 + 3 * j + 2) = j + 1 := by
              unfold cwr; rw [if_pos ⟨z3.symm, by omega, by omega⟩]; omega
            refine ⟨_, _, hFP, rfl, gb.tr (AgB.up rfl), Or.inr ⟨by omega, cell58s, ?_⟩⟩
            rw [cell58 (by omega), cell58s, hc]
        · rw [if_neg (fun x => z3 (nI_inj (by omega) (by omega) x.symm)), cell58s]
          have c5n : ¬ nI (j + 1) = 5 := fun x => by
            have := nI_inj (b := 5) (by omega) (by omega) x; omega
          have hx := h.2.2.2 (2 + 3 * j + 2) (by omega)
          rw [if_neg c5n, ck_t (inb_t (by omega) (by omega)), nI_clamp (by omega), up2_ne (by omega), hx.2.1]
          by_cases z5 : pg (2 + 3 * j + 2) = 44
          · rw [if_pos (by rw [z5]; rfl), nI_1]
            obtain ⟨v, B', t1, t2, t3, t4⟩ := ih (j + 1) n (up2 B 58 15 (nI (j + 1))) (h.agB gb) (by rw [cell58 (by omega)]; exact hw0) cell58s (by omega) (by omega) (by omega) (fun i hi => by
              by_cases e : i = 2 + 3 * j + 2
              · subst e; rw [ok_c (by omega) (by omega) (by omega)]; exact decide_eq_true z5
              · exact hok i (by omega))
            rw [show 2 + 3 * (j + 1) = 2 + 3 * j + 2 + 1 by omega] at t2
            exact ⟨v, B', t1, t2, gb.tr t3, t4⟩
          · rw [if_neg (fun (x : nI (pg (2 + 3 * j + 2)) = 44) => z5 (nI_inj (b := 44) (by omega) (by omega) x))]
            unfold fX4_read_120 fX4_read_141 fX4_read_142
            rw [cell58 (by omega), h.2.1, if_neg (fun x => z3 (nI_inj (by omega) (by omega) x.symm)), ck_t zb_0]
            refine ⟨2 + 3 * j + 2, _, ⟨by omega, hok, fun _ => ?_⟩, rfl, gb.tr (AgB.up rfl), Or.inl ⟨?_, cell58s⟩⟩
            · rw [ok_c (by omega) (by omega) (by omega)]; exact decide_eq_false z5
            · unfold cwr; rw [if_neg (fun x => by omega)]
      · rw [show (decide (2 + 3 * j + 1 < len) && decide (48 ≤ pg (2 + 3 * j + 1) ∧ pg (2 + 3 * j + 1) ≤ 48 + 9)) = false from by
          cases hb : (decide (2 + 3 * j + 1 < len) && decide (48 ≤ pg (2 + 3 * j + 1) ∧ pg (2 + 3 * j + 1) ≤ 48 + 9))
          · rfl
          · rw [Bool.and_eq_true] at hb
            exact absurd ⟨of_decide_eq_true hb.1, of_decide_eq_true hb.2⟩ z2, if_pos (by decide)]
        refine ⟨2 + 3 * j + 1, B, ⟨by omega, fun i hi => ?_, fun q => ?_⟩, rfl, AgB.rf, Or.inl ⟨?_, hw0⟩⟩
        · by_cases e2 : i = 2 + 3 * j
          · subst e2; rw [ok_d (by omega) (by omega) (by omega)]; exact decide_eq_true z1.2
          · exact hk i (by omega)
        · rw [ok_d (by omega) (by omega) (by omega)]; exact decide_eq_false (fun x => z2 ⟨q, x⟩)
        · unfold cwr; rw [if_neg (fun x => by omega)]
    · rw [show (decide (2 + 3 * j < len) && decide (48 ≤ pg (2 + 3 * j) ∧ pg (2 + 3 * j) ≤ 48 + 9)) = false from by
        cases hb : (decide (2 + 3 * j < len) && decide (48 ≤ pg (2 + 3 * j) ∧ pg (2 + 3 * j) ≤ 48 + 9))
        · rfl
        · rw [Bool.and_eq_true] at hb
          exact absurd ⟨of_decide_eq_true hb.1, of_decide_eq_true hb.2⟩ z1, if_pos (by decide)]
      refine ⟨2 + 3 * j, B, ⟨by omega, fun i hi => hk i (by omega), fun q => ?_⟩, rfl, AgB.rf, Or.inl ⟨?_, hw0⟩⟩
      · rw [ok_d (by omega) (by omega) (by omega)]; exact decide_eq_false (fun x => z1 ⟨q, x⟩)
      · unfold cwr; rw [if_neg (fun x => by omega)]
theorem read_ (h : PG A B len pg) : ∃ v B', FP pg len v ∧ fX4_read B = some (nI v, B') ∧ AgB B B' ∧ ((cwr len v = 0 ∧ B' 58 14 = 0) ∨ (0 < cwr len v ∧ B' 58 14 = 1 ∧ B' 58 15 = nI (cwr len v))) := by
  have ga : AgB B (up2 (up2 B 58 14 0) 58 15 0) := (AgB.up rfl).tr (AgB.up rfl)
  have h' := h.agB ga
  have h3 := h.2.2.1
  have w0 : (up2 (up2 B 58 14 0) 58 15 0) 58 14 = 0 := by rw [cell58 (by omega), cell58s]
  unfold fX4_read fX4_read_40
  rw [show (3 : Int32) = nI 3 from rfl, bi_e (show fX4_isFigure (up2 (up2 B 58 14 0) 58 15 0) 0 (nI 3) = _ from isFigure h' (i := 0) (hi := 3) (by omega) (by omega))]
  by_cases z1 : 0 < len ∧ (48 ≤ pg 0 ∧ pg 0 ≤ 48 + 3)
  · rw [show (decide (0 < len) && decide (48 ≤ pg 0 ∧ pg 0 ≤ 48 + 3)) = true from by rw [decide_eq_true z1.1, decide_eq_true z1.2]; rfl, if_neg (by decide), h'.2.1]
    have ok0 : okP 0 (pg 0) = true := by unfold okP; rw [if_pos rfl]; exact decide_eq_true z1.2
    by_cases z2 : len < 2
    · rw [show (2 : Int32) = nI 2 from rfl, if_pos ((nI_ltI (by omega) (by omega)).mpr z2)]
      refine ⟨1, _, ⟨by omega, fun i hi => by rw [show i = 0 by omega]; exact ok0, fun q => by omega⟩, rfl, ga, Or.inl ⟨?_, w0⟩⟩
      unfold cwr; rw [if_neg (fun x => by omega)]
    · have hx := h'.2.2.2 1 (by omega)
      rw [show (2 : Int32) = nI 2 from rfl, if_neg (fun x => z2 ((nI_ltI (by omega) (by omega)).mp x)), show (1 : Int32).toNatClampNeg = 1 from by decide, hx.2.1]
      by_cases z3 : pg 1 = 59
      · rw [if_pos (by rw [z3]; rfl)]
        obtain ⟨v, B', t1, t2, t3, t4⟩ := read_44 4 0 FU (up2 (up2 B 58 14 0) 58 15 0) h' w0 cell58s (by omega) (by decide) (by omega) (fun i hi => by
          by_cases e : i = 0
          · subst e; exact ok0
          · rw [show i = 1 by omega]; unfold okP; rw [if_neg (by omega), if_pos rfl]; exact decide_eq_true z3)
        exact ⟨v, B', t1, t2, ga.tr t3, t4⟩
      · rw [if_neg (fun (x : nI (pg 1) = 59) => z3 (nI_inj (b := 59) (by omega) (by omega) x))]
        refine ⟨1, _, ⟨by omega, fun i hi => by rw [show i = 0 by omega]; exact ok0, fun q => by unfold okP; rw [if_neg (by omega), if_pos rfl]; exact decide_eq_false z3⟩, rfl, ga, Or.inl ⟨?_, w0⟩⟩
        unfold cwr; rw [if_neg (fun x => by omega)]
  · rw [show (decide (0 < len) && decide (48 ≤ pg 0 ∧ pg 0 ≤ 48 + 3)) = false from by
      cases hb : (decide (0 < len) && decide (48 ≤ pg 0 ∧ pg 0 ≤ 48 + 3))
      · rfl
      · rw [Bool.and_eq_true] at hb
        exact absurd ⟨of_decide_eq_true hb.1, of_decide_eq_true hb.2⟩ z1, if_pos (by decide)]
    refine ⟨0, _, ⟨by omega, fun i hi => by omega, fun q => ?_⟩, rfl, ga, Or.inl ⟨?_, w0⟩⟩
    · unfold okP; rw [if_pos rfl]; exact decide_eq_false (fun x => z1 ⟨q, x⟩)
    · unfold cwr; rw [if_neg (fun x => by omega)]
end
