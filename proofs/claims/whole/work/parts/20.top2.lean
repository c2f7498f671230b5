/-! ===== top: the least litres, of these the least cask ===== -/
def Ch (P : Nat → Nat → Bool) (m : Nat) (a b : Int32) : Prop :=
  (a = -1 ∧ b = -1 ∧ ∀ f l, f < m → 1 ≤ l → l ≤ 20 → P l f = false) ∨
  ∃ l f, 1 ≤ l ∧ l ≤ 20 ∧ f < m ∧ a = nI l ∧ b = nI f ∧ P l f = true ∧ (∀ f' l', f' < m → 1 ≤ l' → l' < l → P l' f' = false) ∧ ∀ f', f' < f → P l f' = false
theorem Ch.uniq {P : Nat → Nat → Bool} {m : Nat} {a b a' b' : Int32} (h : Ch P m a b) (h' : Ch P m a' b') : a = a' ∧ b = b' := by
  rcases h with ⟨h1, h2, h3⟩ | ⟨l, f, h1, h2, h3, h4, h5, h6, h7, h8⟩ <;> rcases h' with ⟨g1, g2, g3⟩ | ⟨l', f', g1, g2, g3, g4, g5, g6, g7, g8⟩
  · exact ⟨by rw [h1, g1], by rw [h2, g2]⟩
  · have := h3 f' l' g3 g1 g2; rw [g6] at this; cases this
  · have := g3 f l h3 h1 h2; rw [h6] at this; cases this
  · have e1 : l = l' := by
      rcases Nat.lt_trichotomy l l' with q | q | q
      · have := g7 f l h3 h1 q; rw [h6] at this; cases this
      · exact q
      · have := h7 f' l' g3 g1 q; rw [g6] at this; cases this
    subst e1
    have e2 : f = f' := by
      rcases Nat.lt_trichotomy f f' with q | q | q
      · have := g8 f q; rw [h6] at this; cases this
      · exact q
      · have := h8 f' q; rw [g6] at this; cases this
    subst e2
    exact ⟨by rw [h4, g4], by rw [h5, g5]⟩
theorem ff_spec (f : Nat → Bool) : ∀ (d j : Nat), (ff f d j = -1 ∧ ∀ l, j ≤ l → l < j + d → f l = false) ∨ ∃ l, j ≤ l ∧ l < j + d ∧ ff f d j = nI l ∧ f l = true ∧ ∀ l', j ≤ l' → l' < l → f l' = false := by
  intro d
  induction d with
  | zero => intro j; left; exact ⟨rfl, fun l h1 h2 => by omega⟩
  | succ d ih =>
    intro j
    have e : ff f (d + 1) j = if f j then nI j else ff f d (j + 1) := rfl
    rw [e]
    cases hf : f j
    · rw [if_neg (by simp)]
      rcases ih (j + 1) with ⟨h1, h2⟩ | ⟨l, h1, h2, h3, h4, h5⟩
      · left
        refine ⟨h1, fun l a b => ?_⟩
        by_cases q : l = j
        · rw [q]; exact hf
        · exact h2 l (by omega) (by omega)
      · right
        refine ⟨l, by omega, by omega, h3, h4, fun l' a b => ?_⟩
        by_cases q : l' = j
        · rw [q]; exact hf
        · exact h5 l' (by omega) b
    · rw [if_pos rfl]
      right
      exact ⟨j, Nat.le_refl _, by omega, rfl, hf, fun l' a b => by omega⟩
/-- k litres of cask f do for cask i -/
def tpP (c : Ce) (ppl : Int32) (i : Nat) (l f : Nat) : Bool := decide (f ≠ i) && (decide (l ≤ sf (c_l c f) 10) && (decide (sf (c_l c i) 10 + l ≤ 20) && alB c (prc (c_l c i) (c_l c f) l) ppl))
section
variable {A B : Me} {c : Ce}
theorem top_74 (hw : Wf c) (ppl what : Int32) {i : Nat} (hi : i < 5) : ∀ (d f n : Nat) (A : Me) (a b : Int32), RC A 3 c → Ch (tpP c ppl i) f a b → f + d = c_n c → d < n →
    ∃ A' a' b', fX3_top_74 n A ppl (nI i) what a b (nI f) = some (if what = 0 then a' else b', A') ∧ Ag S4 A A' ∧ Ch (tpP c ppl i) (c_n c) a' b' := by
  have hn5 := hw.1
  have hli := hw.2.2.2.1 i hi
  intro d
  induction d with
  | zero =>
    intro f n A a b h hch hf hn
    obtain ⟨n, rfl, -⟩ := fuel hn
    have : f = c_n c := by omega
    rw [fX3_top_74, h.2.1, this, if_pos (lim_t (Nat.le_refl _))]
    rw [this] at hch
    unfold fX3_top_150
    by_cases z : what = 0
    · rw [if_pos z]; exact ⟨A, a, b, by rw [if_pos z], Ag.rf, hch⟩
    · rw [if_neg z]; exact ⟨A, a, b, by rw [if_neg z], Ag.rf, hch⟩
  | succ d ih =>
    intro f n A a b h hch hf hn
    obtain ⟨n, rfl, hn2⟩ := fuel hn
    rw [fX3_top_74, h.2.1, if_neg (lim_f (by omega))]
    -- cask f brings nothing
    have none_ : (∀ l, 1 ≤ l → l ≤ 20 → tpP c ppl i l f = false) → Ch (tpP c ppl i) (f + 1) a b := by
      intro hx
      rcases hch with ⟨h1, h2, h3⟩ | ⟨l, g, h1, h2, h3, h4, h5, h6, h7, h8⟩
      · left
        refine ⟨h1, h2, fun f' l' q1 q2 q3 => ?_⟩
        by_cases e : f' = f
        · rw [e]; exact hx l' q2 q3
        · exact h3 f' l' (by omega) q2 q3
      · right
        refine ⟨l, g, h1, h2, by omega, h4, h5, h6, fun f' l' q1 q2 q3 => ?_, h8⟩
        by_cases e : f' = f
        · rw [e]; exact hx l' q2 (by omega)
        · exact h7 f' l' (by omega) q2 q3
    by_cases e : f = i
    · subst e
      rw [if_pos rfl]
      unfold fX3_top_104 fX3_top_133
      rw [if_pos rfl, nI_1]
      exact ih (f + 1) n A a b h (none_ (fun l _ _ => by unfold tpP; rw [decide_eq_false (by omega)]; rfl)) (by omega) (by omega)
    · rw [if_neg (fun x => e (nI_inj (by omega) (by omega) x))]
      have hlf := hw.2.2.2.1 f (by omega)
      obtain ⟨A1, q1, q2⟩ := litresToTop h hw ppl hi (show f < 5 by omega)
      have hR := h.ag q2 s5457
      rw [b2_e q1]
      unfold fX3_top_104
      rcases ff_spec (fun l => alB c (prc (c_l c i) (c_l c f) l) ppl) (min (sf (c_l c f) 10) (20 - sf (c_l c i) 10)) 1 with ⟨g1, g2⟩ | ⟨l, g1, g2, g3, g4, g5⟩
      · have : ltt c ppl i f = -1 := g1
        rw [this, if_pos rfl, fX3_top_133, nI_1]
        obtain ⟨A', a', b', t1, t2, t3⟩ := ih (f + 1) n A1 a b hR (none_ (fun l y1 y2 => by
          unfold tpP
          by_cases z1 : l ≤ sf (c_l c f) 10
          · by_cases z2 : sf (c_l c i) 10 + l ≤ 20
            · have := g2 l y1 (by omega)
              rw [this]; simp
            · rw [decide_eq_false z2]; simp
          · rw [decide_eq_false z1]; simp)) (by omega) (by omega)
        exact ⟨A', a', b', t1, q2.tr t2, t3⟩
      · have hlt : ltt c ppl i f = nI l := g3
        have hP : tpP c ppl i l f = true := by
          unfold tpP
          rw [decide_eq_true e, decide_eq_true (by omega : l ≤ sf (c_l c f) 10), decide_eq_true (by omega : sf (c_l c i) 10 + l ≤ 20), g4]
          rfl
        have hlow : ∀ l', 1 ≤ l' → l' < l → tpP c ppl i l' f = false := by
          intro l' y1 y2
          unfold tpP
          rw [g5 l' y1 y2]; simp
        rw [hlt, if_neg (nI_neg (by omega))]
        unfold fX3_top_125 fX3_top_133
        rw [nI_1]
        have upd_ : (a = -1 ∨ ¬ a ≤ nI l) → Ch (tpP c ppl i) (f + 1) (nI l) (nI f) := by
          intro hx
          right
          refine ⟨l, f, by omega, by omega, by omega, rfl, rfl, hP, fun f' l' y1 y2 y3 => ?_, fun f' y1 => ?_⟩
          · by_cases ef : f' = f
            · rw [ef]; exact hlow l' y2 y3
            · rcases hch with ⟨h1, h2, h3⟩ | ⟨l0, f0, h1, h2, h3, h4, h5, h6, h7, h8⟩
              · exact h3 f' l' (by omega) y2 (by omega)
              · rcases hx with hx | hx
                · rw [hx] at h4; exact absurd h4.symm (nI_neg (by omega))
                · rw [h4, nI_leI (by omega) (by omega)] at hx
                  exact h7 f' l' (by omega) y2 (by omega)
          · rcases hch with ⟨h1, h2, h3⟩ | ⟨l0, f0, h1, h2, h3, h4, h5, h6, h7, h8⟩
            · exact h3 f' l (by omega) (by omega) (by omega)
            · rcases hx with hx | hx
              · rw [hx] at h4; exact absurd h4.symm (nI_neg (by omega))
              · rw [h4, nI_leI (by omega) (by omega)] at hx
                exact h7 f' l (by omega) (by omega) (by omega)
        by_cases z : a = -1
        · rw [if_pos z]
          obtain ⟨A', a', b', t1, t2, t3⟩ := ih (f + 1) n A1 (nI l) (nI f) hR (upd_ (Or.inl z)) (by omega) (by omega)
          exact ⟨A', a', b', t1, q2.tr t2, t3⟩
        · rw [if_neg z]
          by_cases z2 : a ≤ nI l
          · rw [if_pos z2]
            have : Ch (tpP c ppl i) (f + 1) a b := by
              rcases hch with ⟨h1, h2, h3⟩ | ⟨l0, f0, h1, h2, h3, h4, h5, h6, h7, h8⟩
              · exact absurd h1 z
              · right
                rw [h4, nI_leI (by omega) (by omega)] at z2
                refine ⟨l0, f0, h1, h2, by omega, h4, h5, h6, fun f' l' y1 y2 y3 => ?_, h8⟩
                by_cases ef : f' = f
                · rw [ef]; exact hlow l' y2 (by omega)
                · exact h7 f' l' (by omega) y2 y3
            obtain ⟨A', a', b', t1, t2, t3⟩ := ih (f + 1) n A1 a b hR this (by omega) (by omega)
            exact ⟨A', a', b', t1, q2.tr t2, t3⟩
          · rw [if_neg z2]
            obtain ⟨A', a', b', t1, t2, t3⟩ := ih (f + 1) n A1 (nI l) (nI f) hR (upd_ (Or.inr z2)) (by omega) (by omega)
            exact ⟨A', a', b', t1, q2.tr t2, t3⟩
theorem topNow_38 (hw : Wf c) (ppl what : Int32) {i l : Nat} (hi : i < 5) (hl1 : 1 ≤ l) (hl : l ≤ 20) (j28 : Me → Int32 → Int32 → Int32 → Int32 → Option (Int32 × Me)) (hlow : ∀ f l', f < c_n c → 1 ≤ l' → l' < l → tpP c ppl i l' f = false)
    (hj : ∀ B1, RB B1 c → (∀ f, f < c_n c → tpP c ppl i l f = false) → ∃ B' a b, j28 B1 ppl (nI i) what (nI l + 1) = some (if what = 0 then a else b, B') ∧ Ag S60 B1 B' ∧ Ch (tpP c ppl i) (c_n c) a b) :
    ∀ (d f n : Nat) (B : Me), RB B c → (∀ f', f' < f → tpP c ppl i l f' = false) → f + d = c_n c → d < n →
    ∃ B' a b, fX4_topNow_38 j28 n B ppl (nI i) what (nI l) (nI f) = some (if what = 0 then a else b, B') ∧ Ag S60 B B' ∧ Ch (tpP c ppl i) (c_n c) a b := by
  have hn5 := hw.1
  have hli := hw.2.2.2.1 i hi
  intro d
  induction d with
  | zero =>
    intro f n B h hP hf hn
    obtain ⟨n, rfl, -⟩ := fuel hn
    have : f = c_n c := by omega
    rw [fX4_topNow_38, h.2.1, if_pos (lim_t (by omega))]
    exact hj B h (fun g hg => hP g (by omega))
  | succ d ih =>
    intro f n B h hP hf hn
    obtain ⟨n, rfl, hn2⟩ := fuel hn
    have next : ∀ B1, RB B1 c → Ag S60 B B1 → tpP c ppl i l f = false → ∃ B' a b, fX4_topNow_114 j28 (fun m x0 x1 x2 x3 x4 => fX4_topNow_38 j28 n m x0 x1 x2 x3 x4) B1 ppl (nI i) what (nI l) (nI f) = some (if what = 0 then a else b, B') ∧ Ag S60 B B' ∧ Ch (tpP c ppl i) (c_n c) a b := by
      intro B1 hB1 g hx
      obtain ⟨B', a, b, t1, t2, t3⟩ := ih (f + 1) n B1 hB1 (fun f' y => by
        by_cases e : f' = f
        · rw [e]; exact hx
        · exact hP f' (by omega)) (by omega) (by omega)
      unfold fX4_topNow_114
      rw [nI_1]
      exact ⟨B', a, b, t1, g.tr t2, t3⟩
    rw [fX4_topNow_38, h.2.1, if_neg (lim_f (by omega))]
    unfold fX4_topNow_81
    by_cases e : f = i
    · subst e
      rw [if_pos rfl, fX4_topNow_82, if_pos rfl]
      exact next B h Ag.rf (by unfold tpP; rw [decide_eq_false (by omega)]; rfl)
    · rw [if_neg (fun x => e (nI_inj (by omega) (by omega) x))]
      have hlf := hw.2.2.2.1 f (by omega)
      obtain ⟨B1, q1, q2, -⟩ := litresIn h (show f < 5 by omega)
      have hB1 := h.ag q2
      rw [b2_e q1]
      by_cases z1 : sf (c_l c f) 10 < l
      · rw [if_pos ((nI_ltI (by omega) (by omega)).mpr z1), fX4_topNow_82, if_pos rfl]
        exact next B1 hB1 q2 (by unfold tpP; rw [decide_eq_false (by omega : ¬ l ≤ sf (c_l c f) 10)]; simp)
      · rw [if_neg (fun x => z1 ((nI_ltI (by omega) (by omega)).mp x))]
        obtain ⟨B2, p1, p2, -⟩ := litresIn hB1 hi
        have hB2 := hB1.ag p2
        rw [b2_e p1, nI_add, show (20 : Int32) = nI 20 from rfl]
        by_cases z2 : 20 < sf (c_l c i) 10 + l
        · rw [if_pos ((nI_ltI (by omega) (by omega)).mpr z2), fX4_topNow_82, if_pos rfl]
          exact next B2 hB2 (q2.tr p2) (by unfold tpP; rw [decide_eq_false (by omega : ¬ sf (c_l c i) 10 + l ≤ 20)]; simp)
        · rw [if_neg (fun x => z2 ((nI_ltI (by omega) (by omega)).mp x)), fX4_topNow_82, if_neg (by decide)]
          obtain ⟨B3, o1, o2⟩ := isTopped hB2 hw hi (show f < 5 by omega) (show l < 1000 by omega) ppl
          rw [b2_e o1]
          have hPv : tpP c ppl i l f = alB c (prc (c_l c i) (c_l c f) l) ppl := by
            unfold tpP
            rw [decide_eq_true e, decide_eq_true (by omega : l ≤ sf (c_l c f) 10), decide_eq_true (by omega : sf (c_l c i) 10 + l ≤ 20)]
            simp
          cases ha : alB c (prc (c_l c i) (c_l c f) l) ppl
          · rw [if_pos (by decide)]
            exact next B3 (hB2.ag o2) ((q2.tr p2).tr o2) (by rw [hPv, ha])
          · rw [if_neg (by decide)]
            refine ⟨B3, nI l, nI f, ?_, (q2.tr p2).tr o2, Or.inr ⟨l, f, hl1, hl, by omega, rfl, rfl, by rw [hPv, ha], hlow, hP⟩⟩
            unfold fX4_topNow_113
            by_cases y : what = 0
            · rw [if_pos y, if_pos y]
            · rw [if_neg y, if_neg y]
theorem topNow_28 (hw : Wf c) (ppl what : Int32) {i : Nat} (hi : i < 5) : ∀ (d l n : Nat) (B : Me), RB B c → (∀ f l', f < c_n c → 1 ≤ l' → l' < l → tpP c ppl i l' f = false) → 1 ≤ l → l + d = 21 → d < n →
    ∃ B' a b, fX4_topNow_28 n B ppl (nI i) what (nI l) = some (if what = 0 then a else b, B') ∧ Ag S60 B B' ∧ Ch (tpP c ppl i) (c_n c) a b := by
  intro d
  induction d with
  | zero =>
    intro l n B h hP hl1 hl hn
    obtain ⟨n, rfl, -⟩ := fuel hn
    rw [fX4_topNow_28, show (20 : Int32) = nI 20 from rfl, if_pos ((nI_ltI (by omega) (by omega)).mpr (by omega))]
    refine ⟨B, -1, -1, by split <;> rfl, Ag.rf, Or.inl ⟨rfl, rfl, fun f l' y1 y2 y3 => hP f l' y1 y2 (by omega)⟩⟩
  | succ d ih =>
    intro l n B h hP hl1 hl hn
    obtain ⟨n, rfl, hn2⟩ := fuel hn
    rw [fX4_topNow_28, show (20 : Int32) = nI 20 from rfl, if_neg (fun x => by have := (nI_ltI (by omega) (by omega)).mp x; omega)]
    have hn5 := hw.1
    exact topNow_38 hw ppl what hi hl1 (by omega) _ hP (fun B1 hB1 hx => by
      have := ih (l + 1) n B1 hB1 (fun f l' y1 y2 y3 => by
        by_cases e : l' = l
        · rw [e]; exact hx f y1
        · exact hP f l' y1 y2 (by omega)) (by omega) (by omega) (by omega)
      rw [nI_1]
      exact this) (c_n c) 0 FU B h (fun f' y => by omega) (by omega) (Nat.lt_of_le_of_lt hn5 (by decide))
/-- top of the two, behind the tests of the arguments -/
theorem top_both (hA : RC A 3 c) (hB : RB B c) (hw : Wf c) (ppl what : Int32) {i : Nat} (hi : i < 5) : ∃ r A' B', (bi (fX1_allMay A 3 ppl (4 + 6 + 2 * i)) fun r49 => if r49 = 0 then (fX3_top_74 FU A ppl (nI i) what (-1) (-1) 0) else (if what = 0 then (fX3_top_64 A 0) else (fX3_top_64 A (-1)))) = some (r, A') ∧ Ag S4 A A' ∧ fX4_topNow B ppl (nI i) what = some (r, B') ∧ Ag S60 B B' := by
  have hn5 := hw.1
  have hli := hw.2.2.2.1 i hi
  have hCi : CR A (4 + 6 + 2 * i) (c_l c i) := hA.2.2.2.2.2.1 i hi
  obtain ⟨B1, q1, q2, q3⟩ := think hi hB.2.2.2.2.1
  have hB1 := hB.ag q2
  rw [bi_e (allMay hA hw hCi (by omega) ppl)]
  unfold fX4_topNow fX4_topNow_24 fX3_top_64
  rw [bi_e q1, bi_e (whoMayT hB1 hw q3 (by omega))]
  by_cases z : (who c (c_l c i) &&& ppl) = ppl
  · rw [if_pos z, show alB c (c_l c i) ppl = true from decide_eq_true z, if_neg (by decide)]
    by_cases y : what = 0
    · rw [if_pos y, if_pos y]; exact ⟨0, A, B1, rfl, Ag.rf, rfl, q2⟩
    · rw [if_neg y, if_neg y]; exact ⟨-1, A, B1, rfl, Ag.rf, rfl, q2⟩
  · rw [if_neg z, show alB c (c_l c i) ppl = false from decide_eq_false z, if_pos (by decide)]
    obtain ⟨A', a, b, t1, t2, t3⟩ := top_74 hw ppl what hi (c_n c) 0 FU A (-1) (-1) hA (Or.inl ⟨rfl, rfl, fun f l y => by omega⟩) (by omega) (Nat.lt_of_le_of_lt hn5 (by decide))
    obtain ⟨B', a', b', u1, u2, u3⟩ := topNow_28 hw ppl what hi 20 1 FU B1 hB1 (fun f l' y1 y2 y3 => by omega) (by omega) (by omega) (by decide)
    obtain ⟨e1, e2⟩ := t3.uniq u3
    subst e1 e2
    exact ⟨_, A', B', t1, t2, u1, q2.tr u2⟩
end
