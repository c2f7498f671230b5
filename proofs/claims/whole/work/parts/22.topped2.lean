/-! ===== topped, as the class counts ===== -/
theorem cnt_0 {f : Nat → Bool} {m : Nat} : cnt f m = 0 ↔ ∀ l, l < m → f l = false := by
  induction m with
  | zero => exact ⟨fun _ l h => by omega, fun _ => rfl⟩
  | succ m ih =>
    have e : cnt f (m + 1) = cnt f m + (if f m then 1 else 0) := rfl
    constructor
    · intro h l hl
      rw [e] at h
      by_cases q : l = m
      · subst q
        cases hf : f l
        · rfl
        · rw [hf, if_pos rfl] at h; omega
      · exact ih.mp (by omega) l (by omega)
    · intro h
      rw [e, ih.mpr (fun l hl => h l (by omega)), h m (by omega)]
      rfl
theorem ff_uniq {f : Nat → Bool} {d j : Nat} {v : Int32} (hb : j + d < 2 ^ 31) (h : (v = -1 ∧ ∀ l, j ≤ l → l < j + d → f l = false) ∨ ∃ l, j ≤ l ∧ l < j + d ∧ v = nI l ∧ f l = true ∧ ∀ l', j ≤ l' → l' < l → f l' = false) : ff f d j = v := by
  rcases ff_spec f d j with ⟨h1, h2⟩ | ⟨l, h1, h2, h3, h4, h5⟩ <;> rcases h with ⟨g1, g2⟩ | ⟨l', g1, g2, g3, g4, g5⟩
  · rw [h1, g1]
  · have := h2 l' g1 g2; rw [g4] at this; cases this
  · have := g2 l h1 h2; rw [h4] at this; cases this
  · have : l = l' := by
      rcases Nat.lt_trichotomy l l' with q | q | q
      · have := g5 l h1 q; rw [h4] at this; cases this
      · exact q
      · have := h5 l' g1 q; rw [g4] at this; cases this
    rw [h3, g3, this]
theorem ff_up (f : Nat → Bool) {m : Nat} (hm : m < 1000) : ff f (m + 1) 0 = if f m = true ∧ cnt f m = 0 then nI m else ff f m 0 := by
  apply ff_uniq (by omega)
  by_cases h : f m = true ∧ cnt f m = 0
  · rw [if_pos h]
    right
    exact ⟨m, by omega, by omega, rfl, h.1, fun l' _ hl => cnt_0.mp h.2 l' hl⟩
  · rw [if_neg h]
    rcases ff_spec f m 0 with ⟨h1, h2⟩ | ⟨l, h1, h2, h3, h4, h5⟩
    · left
      refine ⟨h1, fun l a b => ?_⟩
      by_cases q : l = m
      · subst q
        cases hf : f l
        · rfl
        · exact absurd ⟨hf, cnt_0.mpr (fun l' hl' => h2 l' (by omega) (by omega))⟩ h
      · exact h2 l a (by omega)
    · right
      exact ⟨l, h1, by omega, h3, h4, h5⟩
section
variable {A B : Me} {c : Ce}
theorem canPourOne (h : RC A 3 c) (hw : Wf c) {a b : Nat} (ha : a < 5) (hb : b < 5) : fX3_canPourOne A (nI a) (nI b) = some (bI (decide (a ≠ b) && (decide (0 < sf (c_l c a) 10) && decide (sf (c_l c b) 10 < 20)))) := by
  have hCa : CR A (4 + 6 + 2 * a) (c_l c a) := h.2.2.2.2.2.1 a ha
  have hCb : CR A (4 + 6 + 2 * b) (c_l c b) := h.2.2.2.2.2.1 b hb
  have hla := hw.2.2.2.1 a ha
  have hlb := hw.2.2.2.1 b hb
  unfold fX3_canPourOne fX3_canPourOne_39 fX3_canPourOne_40
  rw [ck_t zb_0, ck_t zb_1]
  by_cases e : a = b
  · rw [if_pos (by rw [e]), decide_eq_false (by omega : ¬ a ≠ b)]; rfl
  · rw [if_neg (fun x => e (nI_inj (by omega) (by omega) x)), decide_eq_true e, ck_t (inb_t ha (by omega)), nI_clamp (by omega), hCa.2]
    by_cases z : 0 < sf (c_l c a) 10
    · rw [if_neg (fun x => by have := (nI_le0 (by omega)).mp x; omega), decide_eq_true z, ck_t (inb_t hb (by omega)), nI_clamp (by omega), bi_e (room_ hCb hlb)]
      by_cases y : sf (c_l c b) 10 < 20
      · rw [if_neg (fun x => by have := (nI_le0 (by omega)).mp x; omega), decide_eq_true y]; rfl
      · rw [if_pos ((nI_le0 (by omega)).mpr (by omega)), decide_eq_false y]; rfl
    · rw [if_pos ((nI_le0 (by omega)).mpr (by omega)), decide_eq_false z]; rfl
theorem whoMayAfter (h : RC A 3 c) (hw : Wf c) {i a b : Nat} (hi : i < 5) (ha : a < 5) (hb : b < 5) (hab : a ≠ b) (hp : 0 < sf (c_l c a) 10) : ∃ A', fX3_whoMayAfter A (nI i) (nI a) (nI b) = some (who c (aft c i a b), A') ∧ Ag (S2 54) A A' := by
  have hCi : CR A (4 + 6 + 2 * i) (c_l c i) := h.2.2.2.2.2.1 i hi
  have hCa : CR A (4 + 6 + 2 * a) (c_l c a) := h.2.2.2.2.2.1 a ha
  have hla := hw.2.2.2.1 a ha
  have hli := hw.2.2.2.1 i hi
  have hle := aft_le hw hi ha hb hp
  obtain ⟨e1, e2, e3⟩ := lyf_ok hp
  obtain ⟨A1, q1, q2, q3⟩ := caskBecome (A := A) (k := 54) (k1 := 4 + 6 + 2 * i) (S2_f (by omega) (by omega)) hCi.1
  have fin : ∀ A2, Ag (S2 54) A A2 → CR A2 54 (aft c i a b) → fX3_whoMayAfter_54 A2 = some (who c (aft c i a b), A2) := by
    intro A2 g hC
    unfold fX3_whoMayAfter_54
    rw [bi_e (whoMay (h.ag g s54) hw hC (by omega))]
  unfold fX3_whoMayAfter
  rw [ck_t (inb_t hi (by omega)), nI_clamp (by omega), bi_e q1]
  by_cases z : a = i
  · subst z
    rw [if_pos rfl]
    obtain ⟨A2, p1, p2, p3⟩ := takeLatest q2 (by omega) hp
    rw [b2_e p1]
    unfold fX3_whoMayAfter_29
    rw [if_neg (fun x => hab (nI_inj (by omega) (by omega) x).symm)]
    refine ⟨A2, fin A2 (q3.tr p3) ?_, q3.tr p3⟩
    unfold aft pr1
    rw [if_pos rfl]
    exact p2
  · rw [if_neg (fun x => z (nI_inj (by omega) (by omega) x))]
    unfold fX3_whoMayAfter_29
    by_cases y : b = i
    · subst y
      rw [if_pos rfl, ck_t (inb_t ha (by omega)), nI_clamp (by omega)]
      have hCa1 := hCa.ag q3 (S2_f (by omega) (by omega)) (S2_f (by omega) (by omega))
      rw [bi_e (latestYear hCa1.1 (by omega)), e1]
      obtain ⟨A2, p1, p2, p3⟩ := put_add q2 e2 1
      rw [bi_e (show fX0_put A1 54 (nI (lyf (c_l c a) 10)) 1 = some A2 from p1)]
      refine ⟨A2, fin A2 (q3.tr p3) ?_, q3.tr p3⟩
      unfold aft pr1
      rw [if_neg (fun x => z x.symm), if_pos rfl]
      exact p2
    · rw [if_neg (fun x => y (nI_inj (by omega) (by omega) x))]
      refine ⟨A1, fin A1 q3 ?_, q3⟩
      unfold aft pr1
      rw [if_neg (fun x => z x.symm), if_neg (fun x => y x.symm)]
      exact q2
theorem tpT_ab {i a b : Nat} {ppl : Int32} (hb : b < 5) : tpT c i ppl (5 * a + b) = (decide (a ≠ b) && (decide (a < c_n c) && (decide (b < c_n c) && (decide (0 < sf (c_l c a) 10) && (decide (sf (c_l c b) 10 < 20) && decide (who c (aft c i a b) = ppl)))))) := by
  unfold tpT
  rw [show (5 * a + b) / 5 = a by omega, show (5 * a + b) % 5 = b by omega]
theorem skip_f {f : Nat → Bool} {m n : Nat} (hmn : m ≤ n) (hn : n < 1000) (h : ∀ l, m ≤ l → l < n → f l = false) : cnt f n = cnt f m ∧ ff f n 0 = ff f m 0 := by
  induction n with
  | zero => have : m = 0 := by omega
            subst this; exact ⟨rfl, rfl⟩
  | succ n ih =>
    by_cases e : m = n + 1
    · subst e; exact ⟨rfl, rfl⟩
    · obtain ⟨h1, h2⟩ := ih (by omega) (by omega) (fun l a b => h l a (by omega))
      have hf := h n (by omega) (by omega)
      constructor
      · show cnt f n + (if f n then 1 else 0) = _
        rw [hf, h1]; rfl
      · rw [ff_up f (by omega), if_neg (fun x => by rw [hf] at x; cases x.1), h2]
theorem topped_59 (hw : Wf c) {i a : Nat} (hi : i < 5) (ha : a < c_n c) (ppl what : Int32) (j44 : Me → Int32 → Int32 → Int32 → Int32 → Int32 → Int32 → Option (Int32 × Me)) (Rr : Int32)
    (hj : ∀ A1, RC A1 3 c → ∃ A', j44 A1 (nI i) ppl what (nI (cnt (tpT c i ppl) (5 * (a + 1)))) (ff (tpT c i ppl) (5 * (a + 1)) 0) (nI (a + 1)) = some (Rr, A') ∧ Ag (S2 54) A1 A') :
    ∀ (d b n : Nat) (A : Me), RC A 3 c → b + d = c_n c → d < n →
    ∃ A', fX3_topped_59 j44 n A (nI i) ppl what (nI (cnt (tpT c i ppl) (5 * a + b))) (ff (tpT c i ppl) (5 * a + b) 0) (nI a) (nI b) = some (Rr, A') ∧ Ag (S2 54) A A' := by
  have hn5 := hw.1
  intro d
  induction d with
  | zero =>
    intro b n A h hb hn
    obtain ⟨n, rfl, -⟩ := fuel hn
    have hbn : b = c_n c := by omega
    rw [fX3_topped_59, h.2.1, if_pos (lim_t (by omega)), nI_1]
    obtain ⟨s1, s2⟩ := skip_f (f := tpT c i ppl) (m := 5 * a + b) (n := 5 * (a + 1)) (by omega) (by omega) (fun l l1 l2 => by
      have : l = 5 * a + (l - 5 * a) := by omega
      rw [this, tpT_ab (by omega), decide_eq_false (by omega : ¬ l - 5 * a < c_n c)]
      simp)
    rw [← s1, ← s2]
    exact hj A h
  | succ d ih =>
    intro b n A h hb hn
    obtain ⟨n, rfl, hn2⟩ := fuel hn
    have hT := tpT_ab (c := c) (i := i) (a := a) (b := b) (ppl := ppl) (by omega)
    rw [decide_eq_true ha, decide_eq_true (show b < c_n c by omega)] at hT
    have hc1 : cnt (tpT c i ppl) (5 * a + (b + 1)) = cnt (tpT c i ppl) (5 * a + b) + (if tpT c i ppl (5 * a + b) then 1 else 0) := rfl
    have hf1 : ff (tpT c i ppl) (5 * a + (b + 1)) 0 = if tpT c i ppl (5 * a + b) = true ∧ cnt (tpT c i ppl) (5 * a + b) = 0 then nI (5 * a + b) else ff (tpT c i ppl) (5 * a + b) 0 := ff_up (m := 5 * a + b) _ (by omega)
    have hcl : cnt (tpT c i ppl) (5 * a + b) ≤ 5 * a + b := cnt_le _ _
    have miss : ∀ A1, RC A1 3 c → Ag (S2 54) A A1 → tpT c i ppl (5 * a + b) = false → ∃ A', fX3_topped_117 j44 (fun m x0 x1 x2 x3 x4 x5 x6 => fX3_topped_59 j44 n m x0 x1 x2 x3 x4 x5 x6) A1 (nI i) ppl what (nI (cnt (tpT c i ppl) (5 * a + b))) (ff (tpT c i ppl) (5 * a + b) 0) (nI a) (nI b) = some (Rr, A') ∧ Ag (S2 54) A A' := by
      intro A1 hA1 g ht
      obtain ⟨A', q, g2⟩ := ih (b + 1) n A1 hA1 (by omega) (by omega)
      rw [hc1, hf1, ht, if_neg (by simp), if_neg (by simp), Nat.add_zero] at q
      unfold fX3_topped_117
      rw [nI_1]
      exact ⟨A', q, g.tr g2⟩
    rw [fX3_topped_59, h.2.1, if_neg (lim_f (by omega)), bi_e (canPourOne h hw (show a < 5 by omega) (show b < 5 by omega))]
    by_cases z1 : a = b
    · rw [decide_eq_false (by omega : ¬ a ≠ b), Bool.false_and, if_pos (by decide)]
      exact miss A h Ag.rf (by rw [hT, decide_eq_false (by omega : ¬ a ≠ b)]; rfl)
    · by_cases z2 : 0 < sf (c_l c a) 10
      · by_cases z3 : sf (c_l c b) 10 < 20
        · rw [decide_eq_true z1, decide_eq_true z2, decide_eq_true z3, if_neg (by decide)]
          obtain ⟨A1, q1, q2⟩ := whoMayAfter h hw hi (show a < 5 by omega) (show b < 5 by omega) z1 z2
          have hA1 := h.ag q2 s54
          rw [b2_e q1]
          rw [decide_eq_true z1, decide_eq_true z2, decide_eq_true z3] at hT
          by_cases z4 : who c (aft c i a b) = ppl
          · rw [decide_eq_true z4] at hT
            have hT : tpT c i ppl (5 * a + b) = true := hT
            rw [if_pos z4]
            obtain ⟨A', q, g2⟩ := ih (b + 1) n A1 hA1 (by omega) (by omega)
            rw [hc1, hf1, hT, if_pos rfl] at q
            refine ⟨A', ?_, q2.tr g2⟩
            unfold fX3_topped_112 fX3_topped_117
            rw [nI_1, nI_1, show (5 : Int32) * nI a + nI b = nI (5 * a + b) from by rw [show (5 : Int32) = nI 5 from rfl, pk_mul, nI_add]]
            by_cases z5 : cnt (tpT c i ppl) (5 * a + b) = 0
            · rw [if_pos (by rw [z5]; rfl)]
              rw [if_pos ⟨rfl, z5⟩] at q
              exact q
            · rw [if_neg (fun x => z5 ((nI_eq0 (by omega)).mp x))]
              rw [if_neg (fun x => z5 x.2)] at q
              exact q
          · rw [if_neg z4]
            rw [decide_eq_false z4] at hT
            exact miss A1 hA1 q2 hT
        · rw [decide_eq_true z1, decide_eq_true z2, decide_eq_false z3, if_pos (by decide)]
          exact miss A h Ag.rf (by rw [hT, decide_eq_false z3]; simp)
      · rw [decide_eq_true z1, decide_eq_false z2, Bool.false_and, Bool.true_and, if_pos (by decide)]
        exact miss A h Ag.rf (by rw [hT, decide_eq_false z2]; simp)
theorem topped_44 (hw : Wf c) {i : Nat} (hi : i < 5) (ppl what : Int32) : ∀ (d a n : Nat) (A : Me), RC A 3 c → a + d = c_n c → d < n →
    ∃ A', fX3_topped_44 n A (nI i) ppl what (nI (cnt (tpT c i ppl) (5 * a))) (ff (tpT c i ppl) (5 * a) 0) (nI a) = some (tpr c i ppl what, A') ∧ Ag (S2 54) A A' := by
  have hn5 := hw.1
  intro d
  induction d with
  | zero =>
    intro a n A h ha hn
    obtain ⟨n, rfl, -⟩ := fuel hn
    rw [fX3_topped_44, h.2.1, if_pos (lim_t (by omega))]
    obtain ⟨s1, s2⟩ := skip_f (f := tpT c i ppl) (m := 5 * a) (n := 25) (by omega) (by omega) (fun l l1 l2 => by
      unfold tpT
      rw [decide_eq_false (by omega : ¬ l / 5 < c_n c)]
      simp)
    refine ⟨A, ?_, Ag.rf⟩
    unfold fX3_topped_140 tpr
    rw [s1, s2]
    by_cases z : what = 0
    · rw [if_pos z, if_pos z]
    · rw [if_neg z, if_neg z]
  | succ d ih =>
    intro a n A h ha hn
    obtain ⟨n, rfl, hn2⟩ := fuel hn
    rw [fX3_topped_44, h.2.1, if_neg (lim_f (by omega))]
    exact topped_59 hw hi (by omega) ppl what _ (tpr c i ppl what) (fun A1 hA1 => ih (a + 1) n A1 hA1 (by omega) (by omega)) (c_n c) 0 FU A h (by omega) (Nat.lt_of_le_of_lt hn5 (by decide))
theorem topped_c (h : RC A 3 c) (hw : Wf c) {i : Nat} (hi : i < 5) (ppl what : Int32) : ∃ A', fX3_topped_44 FU A (nI i) ppl what 0 (-1) 0 = some (tpr c i ppl what, A') ∧ Ag (S2 54) A A' :=
  topped_44 hw hi ppl what (c_n c) 0 FU A h (by omega) (Nat.lt_of_le_of_lt hw.1 (by decide))
end
