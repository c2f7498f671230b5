/-! ===== topped ===== -/
/-- what the reference uses for itself alone -/
def scr (k j : Nat) : Bool := k == 60 || (k == 67 || (k == 68 || (k == 69 || (k == 58 && (j == 14 || (j == 15 || (j == 18 || (j == 19 || (j == 119 || (j == 29 || j == 129))))))))))
def AgB (B B' : Me) : Prop := ∀ k j, scr k j = false → B' k j = B k j
theorem AgB.rf {B : Me} : AgB B B := fun _ _ _ => rfl
theorem AgB.tr {B B' B'' : Me} (h : AgB B B') (g : AgB B' B'') : AgB B B'' := fun k j q => (g k j q).trans (h k j q)
theorem AgB.of {B B' : Me} (h : Ag S60 B B') : AgB B B' := fun k j q => by
  have : S60 k = false := by
    unfold scr at q
    unfold S60
    simp at q ⊢
    exact q.1
  rw [h k this]
theorem RB.agB {B B' : Me} {c : Ce} (h : RB B c) (g : AgB B B') : RB B' c := by
  obtain ⟨h1, h2, h3, h4, h5, h6, h7⟩ := h
  refine ⟨by rw [g 58 1 rfl]; exact h1, by rw [g 58 2 rfl]; exact h2, by rw [g 58 5 rfl]; exact h3, by rw [g 58 9 rfl]; exact h4, fun i hi y hy => by rw [g 59 _ rfl]; exact h5 i hi y hy, fun i hi => ?_, fun i hi => ?_⟩
  · rw [g 61 i rfl, g 62 i rfl, g 63 i rfl]; exact h6 i hi
  · rw [g 64 i rfl, g 65 i rfl]; exact h7 i hi
theorem AgB.up {B : Me} {k j : Nat} {v : Int32} (h : scr k j = true) : AgB B (up2 B k j v) := fun k' j' q => by
  unfold up2
  by_cases e : k' = k
  · rw [if_pos e]
    unfold upd
    by_cases e2 : j' = j
    · subst e e2; rw [h] at q; cases q
    · rw [if_neg e2, e]
  · rw [if_neg e]
def setL (c : Ce) (l : Nat → Nat → Nat) : Ce := (c.1, c.2.1, l, c.2.2.2)
/-- one litre poured out of a into b -/
def pr1 (l : Nat → Nat → Nat) (a b : Nat) : Nat → Nat → Nat := fun j => if j = a then tk (l a) else if j = b then ru (l b) (lyf (l a) 10) (l b (lyf (l a) 10) + 1) else l j
section
variable {A B : Me} {c : Ce}
theorem pourOne_x (h : RB B c) (hw : Wf c) {a b : Nat} (ha : a < 5) (hb : b < 5) (hab : a ≠ b) (hp : 0 < sf (c_l c a) 10) : ∃ B2, fX4_pourOne B (nI a) (nI b) = some (up2 (up2 B2 59 (10 * a + lyf (c_l c a) 10) (B2 59 (10 * a + lyf (c_l c a) 10) - 1)) 59 (10 * b + lyf (c_l c a) 10) (B2 59 (10 * b + lyf (c_l c a) 10) + 1)) ∧ Ag S60 B B2 := by
  obtain ⟨B2, q1, q2, -⟩ := latestIn h hw ha
  obtain ⟨e1, e2, e3⟩ := lyf_ok hp
  refine ⟨B2, ?_, q2⟩
  unfold fX4_pourOne
  rw [b2_e q1, e1, idx, idx, ck_t (inb_t (by omega) (by omega)), ck_t (inb_t (by omega) (by omega)), ck_t (inb_t (by omega) (by omega)), ck_t (inb_t (by omega) (by omega)), nI_clamp (by omega), nI_clamp (by omega)]
  rw [up2_at]
  rw [show upd (B2 59) (10 * a + lyf (c_l c a) 10) (B2 59 (10 * a + lyf (c_l c a) 10) - 1) (10 * b + lyf (c_l c a) 10) = B2 59 (10 * b + lyf (c_l c a) 10) from if_neg (by omega)]
theorem pr1_LB (h : LB B (c_l c)) {a b : Nat} (ha : a < 5) (hb : b < 5) (hab : a ≠ b) (hp : 0 < sf (c_l c a) 10) : LB (up2 (up2 B 59 (10 * a + lyf (c_l c a) 10) (B 59 (10 * a + lyf (c_l c a) 10) - 1)) 59 (10 * b + lyf (c_l c a) 10) (B 59 (10 * b + lyf (c_l c a) 10) + 1)) (pr1 (c_l c) a b) := by
  obtain ⟨e1, e2, e3⟩ := lyf_ok hp
  intro i hi y hy
  rw [up2_at, up2_at]
  generalize hY : lyf (c_l c a) 10 = Y at e2 e3
  unfold upd pr1
  by_cases q1 : 10 * i + y = 10 * b + Y
  · have : i = b := by omega
    subst this
    have : y = Y := by omega
    subst this
    rw [if_pos rfl, if_neg (fun x => hab x.symm), if_pos rfl, h i hi y hy, nI_1, hY]
    unfold ru
    rw [if_pos rfl]
  · rw [if_neg q1]
    by_cases q2 : 10 * i + y = 10 * a + Y
    · have : i = a := by omega
      subst this
      have : y = Y := by omega
      subst this
      rw [if_pos rfl, if_pos rfl, h i hi y hy]
      unfold tk ru
      rw [if_pos hY.symm, hY]
      obtain ⟨n, hn⟩ : ∃ n, c_l c i y = n + 1 := ⟨c_l c i y - 1, by omega⟩
      rw [hn, nI_pred]
      congr 1
    · rw [if_neg q2, h i hi y hy]
      by_cases q3 : i = a
      · rw [if_pos q3]
        unfold tk ru
        rw [hY, if_neg (by omega), q3]
      · rw [if_neg q3]
        by_cases q4 : i = b
        · rw [if_pos q4, hY]
          unfold ru
          rw [if_neg (by omega), q4]
        · rw [if_neg q4]
theorem RB.setL {l : Nat → Nat → Nat} {B' : Me} (h : RB B c) (g : ∀ k, k ≠ 59 → B' k = B k) (hl : LB B' l) : RB B' (setL c l) := by
  obtain ⟨h1, h2, h3, h4, h5, h6, h7⟩ := h
  unfold RB
  rw [g 58 (by omega), g 61 (by omega), g 62 (by omega), g 63 (by omega), g 64 (by omega), g 65 (by omega)]
  exact ⟨h1, h2, h3, h4, hl, h6, h7⟩
/-- the row of cask i behind one litre out of a into b -/
def aft (c : Ce) (i a b : Nat) : Nat → Nat := pr1 (c_l c) a b i
theorem aft_le (hw : Wf c) {i a b : Nat} (hi : i < 5) (ha : a < 5) (hb : b < 5) (hp : 0 < sf (c_l c a) 10) : sf (aft c i a b) 10 ≤ 21 := by
  have h1 := hw.2.2.2.1 a ha
  have h2 := hw.2.2.2.1 b hb
  have h3 := hw.2.2.2.1 i hi
  obtain ⟨e1, e2, e3⟩ := lyf_ok hp
  unfold aft pr1
  by_cases q : i = a
  · rw [if_pos q]
    have := sf_tk hp
    omega
  · rw [if_neg q]
    by_cases q2 : i = b
    · rw [if_pos q2]
      have := sf_ru10 (r := c_l c b) (v := c_l c b (lyf (c_l c a) 10) + 1) e2
      omega
    · rw [if_neg q2]; omega
theorem whoMay_setL {r : Nat → Nat} {l : Nat → Nat → Nat} : who (setL c l) r = who c r := rfl
theorem whoBehind (h : RB B c) (hw : Wf c) {i a b : Nat} (hi : i < 5) (ha : a < 5) (hb : b < 5) (hab : a ≠ b) (hp : 0 < sf (c_l c a) 10) (hy : B 58 18 = nI (lyf (c_l c a) 10)) : ∃ B', fX4_whoBehind B (nI i) (nI a) (nI b) = some (who c (aft c i a b), B') ∧ Ag S60 B B' := by
  obtain ⟨e1, e2, e3⟩ := lyf_ok hp
  obtain ⟨B2, q1, q2⟩ := pourOne_x h hw ha hb hab hp
  have hB2 := h.ag q2
  have hL := pr1_LB (c := c) hB2.2.2.2.2.1 ha hb hab hp
  have hle := aft_le hw hi ha hb hp
  have hR3 : RB _ (setL c (pr1 (c_l c) a b)) := hB2.setL (l := pr1 (c_l c) a b) (fun k hk => by rw [up2_ne hk, up2_ne hk]) hL
  unfold fX4_whoBehind
  rw [bi_e q1]
  generalize hB3 : up2 (up2 B2 59 (10 * a + lyf (c_l c a) 10) (B2 59 (10 * a + lyf (c_l c a) 10) - 1)) 59 (10 * b + lyf (c_l c a) 10) (B2 59 (10 * b + lyf (c_l c a) 10) + 1) = B3 at hL hR3 ⊢
  obtain ⟨B4, p1, p2, p3⟩ := think hi hL
  have hwf : who c (aft c i a b) = who (setL c (pr1 (c_l c) a b)) (aft c i a b) := rfl
  have hwl : fX4_whoMay B4 = some (who c (aft c i a b)) := by
    -- the people are as before
    have hR4 := hR3.ag p2
    have hpp : B4 58 5 = nI (c_p c) := hR4.2.2.1
    have hww : B4 58 1 = c_w c := hR4.1
    have key : ∀ (d j n : Nat), j + d = c_p c → d < n → fX4_whoMay_4 B4 n (bsF (fun i' => may (c_w c) (aft c i a b) (c_k c i') (c_b c i')) j) (nI j) = some (who c (aft c i a b)) := by
      have hp5 := hw.2.1
      intro d
      induction d with
      | zero =>
        intro j n hj hn
        obtain ⟨n, rfl, -⟩ := fuel hn
        have : j = c_p c := by omega
        rw [fX4_whoMay_4, hpp, if_pos (lim_t (by omega)), this]
        rfl
      | succ d ih =>
        intro j n hj hn
        obtain ⟨n, rfl, hn2⟩ := fuel hn
        have hx : B4 61 j = c_k c j ∧ B4 62 j = c_b c j ∧ B4 63 j = c_i c j := hR4.2.2.2.2.2.1 j (by show j < c_p c; omega)
        rw [fX4_whoMay_4, hpp, if_neg (lim_f (by omega)), ck_t (inb_t (by omega) (by omega)), ck_t (inb_t (by omega) (by omega)), nI_clamp (by omega), hx.1, hx.2.1, bi_e (mayThought p3 (by show sf (aft c i a b) 10 ≤ 1000; omega) _ _), hww]
        have q := ih (j + 1) n (by omega) (by omega)
        rw [show bsF (fun i' => may (c_w c) (aft c i a b) (c_k c i') (c_b c i')) (j + 1) = if may (c_w c) (aft c i a b) (c_k c j) (c_b c j) then bsF (fun i' => may (c_w c) (aft c i a b) (c_k c i') (c_b c i')) j ||| (1 <<< (nI j &&& 31)) else bsF (fun i' => may (c_w c) (aft c i a b) (c_k c i') (c_b c i')) j from rfl] at q
        unfold fX4_whoMay_39
        rw [nI_1]
        show (if bI (may (c_w c) (aft c i a b) (c_k c j) (c_b c j)) = 0 then _ else _) = _
        cases hm : may (c_w c) (aft c i a b) (c_k c j) (c_b c j)
        · rw [if_pos (by decide), Int32.or_zero]
          rw [hm] at q
          exact q
        · rw [if_neg (by decide)]
          rw [hm] at q
          exact q
    exact key (c_p c) 0 FU (by omega) (Nat.lt_of_le_of_lt hw.2.1 (by decide))
  have h58 : B4 58 18 = nI (lyf (c_l c a) 10) := by
    rw [p2 58 rfl, ← hB3, up2_ne (by omega), up2_ne (by omega), q2 58 rfl]
    exact hy
  have h59 : B4 59 = B3 59 := p2 59 rfl
  rw [bi_e p1, bi_e hwl, h58, idx, idx, ck_t (inb_t (by omega) (by omega)), ck_t (inb_t (by omega) (by omega)), ck_t (inb_t (by omega) (by omega)), ck_t (inb_t (by omega) (by omega)), nI_clamp (by omega), nI_clamp (by omega)]
  refine ⟨_, rfl, fun k hk => ?_⟩
  by_cases e : k = 59
  · subst e
    rw [up2_at, up2_at, h59, ← q2 59 rfl, ← hB3, up2_at, up2_at]
    funext j
    unfold upd
    by_cases j1 : j = 10 * a + lyf (c_l c a) 10
    · subst j1
      rw [if_pos rfl, if_neg (by omega), if_neg (by omega), if_pos rfl]
      exact Int32.sub_add_cancel _ _
    · rw [if_neg j1]
      by_cases j2 : j = 10 * b + lyf (c_l c a) 10
      · subst j2
        rw [if_pos rfl, if_pos rfl]
        exact Int32.add_sub_cancel _ _
      · rw [if_neg j2, if_neg j2, if_neg j1]
  · rw [up2_ne e, up2_ne e, p2 k hk, ← hB3, up2_ne e, up2_ne e, q2 k hk]
/-- whether this pouring does -/
def tpT (c : Ce) (i : Nat) (ppl : Int32) (m : Nat) : Bool := decide (m / 5 ≠ m % 5) && (decide (m / 5 < c_n c) && (decide (m % 5 < c_n c) && (decide (0 < sf (c_l c (m / 5)) 10) && (decide (sf (c_l c (m % 5)) 10 < 20) && decide (who c (aft c i (m / 5) (m % 5)) = ppl)))))
theorem toppedNow_10 (hw : Wf c) {i : Nat} (hi : i < 5) (ppl what : Int32) : ∀ (m n : Nat) (B : Me), RB B c → m ≤ 25 → m < n →
    ∃ B', fX4_toppedNow_10 n B (nI i) ppl what (nI (cnt (tpT c i ppl) 25 - cnt (tpT c i ppl) m)) (ff (tpT c i ppl) (25 - m) m) (nI m + (-1)) = some (if what = 0 then nI (cnt (tpT c i ppl) 25) else ff (tpT c i ppl) 25 0, B') ∧ AgB B B' := by
  have hn5 := hw.1
  have cmono : ∀ (f : Nat → Bool) (a b : Nat), a ≤ b → cnt f a ≤ cnt f b := by
    intro f a b hab
    induction b with
    | zero => have : a = 0 := by omega
              subst this; exact Nat.le_refl _
    | succ b ih =>
      by_cases e : a = b + 1
      · subst e; exact Nat.le_refl _
      · have := ih (by omega)
        show cnt f a ≤ cnt f b + _
        omega
  intro m
  induction m with
  | zero =>
    intro n B h _ hn
    obtain ⟨n, rfl, -⟩ := fuel hn
    rw [fX4_toppedNow_10, if_pos (by decide)]
    refine ⟨B, ?_, AgB.rf⟩
    unfold fX4_toppedNow_169
    by_cases z : what = 0
    · rw [if_pos z, if_pos z]; rfl
    · rw [if_neg z, if_neg z]
  | succ m ih =>
    intro n B h hm hn
    obtain ⟨n, rfl, hn2⟩ := fuel hn
    have hc1 : cnt (tpT c i ppl) (m + 1) = cnt (tpT c i ppl) m + (if tpT c i ppl m then 1 else 0) := rfl
    have hc2 := cmono (tpT c i ppl) (m + 1) 25 (by omega)
    have hf1 : ff (tpT c i ppl) (25 - m) m = if tpT c i ppl m then nI m else ff (tpT c i ppl) (25 - (m + 1)) (m + 1) := by
      rw [show 25 - m = (25 - (m + 1)) + 1 by omega]
      rfl
    -- the end of one round: t is the outcome
    have fin : ∀ (B1 : Me) (t : Bool), RB B1 c → t = tpT c i ppl m → ∃ B', fX4_toppedNow_121 (fun m x0 x1 x2 x3 x4 x5 => fX4_toppedNow_10 n m x0 x1 x2 x3 x4 x5) B1 (nI i) ppl what (nI (cnt (tpT c i ppl) 25 - cnt (tpT c i ppl) (m + 1))) (ff (tpT c i ppl) (25 - (m + 1)) (m + 1)) (nI m) (bI t) = some (if what = 0 then nI (cnt (tpT c i ppl) 25) else ff (tpT c i ppl) 25 0, B') ∧ AgB B1 B' := by
      intro B1 t hB1 ht
      obtain ⟨B', q, g⟩ := ih n B1 hB1 (by omega) (by omega)
      refine ⟨B', ?_, g⟩
      unfold fX4_toppedNow_121 fX4_toppedNow_135 fX4_toppedNow_150
      rw [hf1] at q
      cases t
      · rw [if_pos (by decide), if_pos (by decide), Int32.add_zero]
        rw [← ht, if_neg (by simp)] at q
        rw [← ht, if_neg (by simp)] at hc1
        rw [hc1, Nat.add_zero]
        exact q
      · rw [if_neg (by decide), if_neg (by decide), nI_1]
        rw [← ht, if_pos rfl] at q
        rw [← ht, if_pos rfl] at hc1
        rw [show cnt (tpT c i ppl) 25 - cnt (tpT c i ppl) (m + 1) + 1 = cnt (tpT c i ppl) 25 - cnt (tpT c i ppl) m by omega]
        exact q
    have nomay : ∀ (B1 : Me), RB B1 c → AgB B B1 → tpT c i ppl m = false → ∃ B', fX4_toppedNow_76 (fun m x0 x1 x2 x3 x4 x5 => fX4_toppedNow_10 n m x0 x1 x2 x3 x4 x5) B1 (nI i) ppl what (nI (cnt (tpT c i ppl) 25 - cnt (tpT c i ppl) (m + 1))) (ff (tpT c i ppl) (25 - (m + 1)) (m + 1)) (nI m) (nI (m / 5)) (nI (m % 5)) = some (if what = 0 then nI (cnt (tpT c i ppl) 25) else ff (tpT c i ppl) 25 0, B') ∧ AgB B B' := by
      intro B1 hB1 g ht
      unfold fX4_toppedNow_76 fX4_toppedNow_77 fX4_toppedNow_95 fX4_toppedNow_120
      rw [if_pos rfl, if_pos rfl]
      have ga : AgB B1 (up2 B1 58 18 (-1)) := AgB.up rfl
      obtain ⟨B', q, g2⟩ := fin (up2 B1 58 18 (-1)) false (hB1.agB ga) ht.symm
      exact ⟨B', q, (g.tr ga).tr g2⟩
    rw [fX4_toppedNow_10, pk_m1, if_neg (nI_pos (by omega)), show (5 : Int32) = nI 5 from rfl, pk_rem (by omega) (by omega) (by omega), pk_div (by omega) (by omega) (by omega)]
    have hmod : m % 5 < 5 := Nat.mod_lt _ (by omega)
    have hdiv : m / 5 < 5 := by omega
    by_cases z1 : m / 5 = m % 5
    · rw [if_pos (by rw [z1])]
      exact nomay B h AgB.rf (by unfold tpT; rw [decide_eq_false (by omega : ¬ m / 5 ≠ m % 5)]; rfl)
    · rw [if_neg (fun x => z1 (nI_inj (by omega) (by omega) x)), bi_e (isCask h hw _)]
      by_cases z2 : m / 5 < c_n c
      · rw [icB_t z2 (by omega), if_neg (by decide), bi_e (isCask h hw _)]
        by_cases z3 : m % 5 < c_n c
        · rw [icB_t z3 (by omega), if_neg (by decide)]
          obtain ⟨B1, q1, q2, -⟩ := litresIn h hdiv
          have hB1 := h.ag q2
          have hla := hw.2.2.2.1 (m / 5) hdiv
          have hlb := hw.2.2.2.1 (m % 5) hmod
          rw [b2_e q1]
          by_cases z4 : 0 < sf (c_l c (m / 5)) 10
          · rw [if_neg (fun x => by have := (nI_le0 (by omega)).mp x; omega)]
            obtain ⟨B2, p1, p2, -⟩ := litresIn hB1 hmod
            have hB2 := hB1.ag p2
            rw [b2_e p1]
            by_cases z5 : sf (c_l c (m % 5)) 10 < 20
            · rw [if_neg (g20_f z5)]
              obtain ⟨B3, o1, o2, -⟩ := latestIn hB2 hw hdiv
              have hB3 := hB2.ag o2
              obtain ⟨e1, e2, e3⟩ := lyf_ok z4
              unfold fX4_toppedNow_77
              rw [if_neg (by decide), b2_e o1, e1]
              unfold fX4_toppedNow_95
              rw [if_neg (by decide)]
              have ga : AgB B3 (up2 B3 58 18 (nI (lyf (c_l c (m / 5)) 10))) := AgB.up rfl
              have hB4 := hB3.agB ga
              obtain ⟨B5, w1, w2⟩ := whoBehind hB4 hw hi hdiv hmod z1 z4 (by rw [up2_at]; exact if_pos rfl)
              have hB5 := hB4.ag w2
              have gall : AgB B B5 := ((((AgB.of q2).tr (AgB.of p2)).tr (AgB.of o2)).tr ga).tr (AgB.of w2)
              rw [b2_e w1]
              have hT : tpT c i ppl m = decide (who c (aft c i (m / 5) (m % 5)) = ppl) := by
                unfold tpT
                rw [decide_eq_true (by omega : m / 5 ≠ m % 5), decide_eq_true z2, decide_eq_true z3, decide_eq_true z4, decide_eq_true z5]
                simp
              by_cases z6 : who c (aft c i (m / 5) (m % 5)) = ppl
              · rw [if_pos z6]
                obtain ⟨B', q, g2⟩ := fin B5 true hB5 (by rw [hT, decide_eq_true z6])
                exact ⟨B', q, gall.tr g2⟩
              · rw [if_neg z6]
                unfold fX4_toppedNow_120
                obtain ⟨B', q, g2⟩ := fin B5 false hB5 (by rw [hT, decide_eq_false z6])
                exact ⟨B', q, gall.tr g2⟩
            · rw [if_pos (g20_t (by omega))]
              exact nomay B2 hB2 ((AgB.of q2).tr (AgB.of p2)) (by unfold tpT; rw [decide_eq_false z5]; simp)
          · rw [if_pos ((nI_le0 (by omega)).mpr (by omega))]
            exact nomay B1 hB1 (AgB.of q2) (by unfold tpT; rw [decide_eq_false z4]; simp)
        · rw [show icB (nI (m % 5)) (c_n c) = false from decide_eq_false (fun x => x.2 (nI_le (by omega) (by omega))), if_pos (by decide)]
          exact nomay B h AgB.rf (by unfold tpT; rw [decide_eq_false z3]; simp)
      · rw [show icB (nI (m / 5)) (c_n c) = false from decide_eq_false (fun x => x.2 (nI_le (by omega) (by omega))), if_pos (by decide)]
        exact nomay B h AgB.rf (by unfold tpT; rw [decide_eq_false z2]; simp)
def tpr (c : Ce) (i : Nat) (ppl what : Int32) : Int32 := if what = 0 then nI (cnt (tpT c i ppl) 25) else ff (tpT c i ppl) 25 0
theorem toppedNow (h : RB B c) (hw : Wf c) {i : Nat} (hi : i < 5) (ppl what : Int32) : ∃ B', fX4_toppedNow B (nI i) ppl what = some (tpr c i ppl what, B') ∧ AgB B B' := by
  have := toppedNow_10 hw hi ppl what 25 FU B h (by omega) (by decide)
  rw [Nat.sub_self] at this
  exact this
end
