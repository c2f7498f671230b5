/-! ===== blends ===== -/
theorem RC.ag {A A' : Me} {S : Nat → Bool} {k : Nat} {c : Ce} (h : RC A k c) (g : Ag S A A') (hs : ∀ j, j ≤ 16 → S (k + j) = false) : RC A' k c := by
  obtain ⟨h1, h2, h3, h4, h5, h6, h7, h8⟩ := h
  have e0 : A' k = A k := g k (hs 0 (by omega))
  refine ⟨by rw [e0]; exact h1, by rw [e0]; exact h2, by rw [e0]; exact h3, by rw [e0]; exact h4, by rw [e0]; exact h5, fun i hi => ?_, fun i hi => ?_, fun i hi => ?_⟩
  · refine (h6 i hi).ag g ?_ ?_
    · have := hs (7 + 2 * i) (by omega)
      rw [show k + 1 + 6 + 2 * i = k + (7 + 2 * i) by omega]
      exact this
    · have := hs (8 + 2 * i) (by omega)
      rw [show k + 1 + 6 + 2 * i + 1 = k + (8 + 2 * i) by omega]
      exact this
  · rw [g (k + 2) (hs 2 (by omega)), g (k + 3) (hs 3 (by omega)), g (k + 4) (hs 4 (by omega))]
    exact h7 i hi
  · rw [g (k + 5) (hs 5 (by omega))]
    exact h8 i hi
def bsm (c : Ce) (v : Int32) : Nat → Nat → Nat
  | 0 => fun _ => 0
  | i + 1 => if bt v i then (fun y => bsm c v i y + c_l c i y) else bsm c v i
def bok (c : Ce) (v : Int32) : Nat → Bool
  | 0 => true
  | i + 1 => bok c v i && (!(bt v i) || decide (0 < sf (c_l c i) 10))
theorem sf_add (r q : Nat → Nat) (n : Nat) : sf (fun y => r y + q y) n = sf r n + sf q n := by
  induction n with
  | zero => rfl
  | succ n ih =>
    show sf (fun y => r y + q y) n + (r n + q n) = sf r n + r n + (sf q n + q n)
    omega
theorem bsm_le {c : Ce} (hw : Wf c) (v : Int32) : ∀ i, i ≤ 5 → sf (bsm c v i) 10 ≤ 20 * i := by
  intro i
  induction i with
  | zero => intro _; show sf (fun _ => 0) 10 ≤ 0; rw [sf_zero]; exact Nat.le_refl _
  | succ i ih =>
    intro hi
    have := ih (by omega)
    have hl := hw.2.2.2.1 i (by omega)
    show sf (if bt v i then (fun y => bsm c v i y + c_l c i y) else bsm c v i) 10 ≤ _
    cases bt v i
    · rw [if_neg (by simp)]; omega
    · rw [if_pos rfl, sf_add]; omega
section
variable {A B : Me} {c : Ce}
theorem s54 : ∀ j, j ≤ 16 → S2 54 (3 + j) = false := fun j hj => S2_f (by omega) (by omega)
theorem mix_9 (hw : Wf c) (v : Int32) : ∀ (d i n : Nat) (A : Me), RC A 3 c → CR A 54 (bsm c v i) → bok c v i = true → i + d = c_n c → d < n →
    ∃ A', fX3_mix_9 n A v (nI i) = some (bI (bok c v (c_n c)), A') ∧ Ag (S2 54) A A' ∧ (bok c v (c_n c) = true → CR A' 54 (bsm c v (c_n c))) := by
  have hn5 := hw.1
  have bokf : ∀ (m j : Nat), bok c v j = false → bok c v (j + m) = false := by
    intro m
    induction m with
    | zero => intro j hj; exact hj
    | succ m ih => intro j hj; show (bok c v (j + m) && _) = false; rw [ih j hj]; rfl
  intro d
  induction d with
  | zero =>
    intro i n A h hC hk hi hn
    obtain ⟨n, rfl, -⟩ := fuel hn
    have : i = c_n c := by omega
    rw [fX3_mix_9, h.2.1, this, if_pos (lim_t (Nat.le_refl _))]
    rw [this] at hk hC
    rw [hk]
    exact ⟨A, rfl, Ag.rf, fun _ => hC⟩
  | succ d ih =>
    intro i n A h hC hk hi hn
    obtain ⟨n, rfl, hn2⟩ := fuel hn
    have hl := hw.2.2.2.1 i (by omega)
    have hCi : CR A (4 + 6 + 2 * i) (c_l c i) := h.2.2.2.2.2.1 i (by omega)
    have e1 : bsm c v (i + 1) = if bt v i then (fun y => bsm c v i y + c_l c i y) else bsm c v i := rfl
    have e2 : bok c v (i + 1) = (bok c v i && (!(bt v i) || decide (0 < sf (c_l c i) 10))) := rfl
    rw [fX3_mix_9, h.2.1, if_neg (lim_f (by omega))]
    cases hb : bt v i
    · rw [if_pos ((bit_test _ (by omega)).mpr hb), fX3_mix_61, nI_1]
      rw [hb, if_neg (by simp)] at e1
      rw [hb, hk] at e2
      exact ih (i + 1) n A h (by rw [e1]; exact hC) e2 (by omega) (by omega)
    · rw [if_neg (fun x => by have := (bit_test _ (by omega)).mp x; rw [hb] at this; cases this), ck_t (inb_t (by omega) (by omega)), nI_clamp (by omega), hCi.2]
      by_cases z : sf (c_l c i) 10 = 0
      · rw [if_pos (by rw [z]; rfl)]
        rw [hb, hk, decide_eq_false (by omega)] at e2
        have := bokf (c_n c - (i + 1)) (i + 1) e2
        rw [show i + 1 + (c_n c - (i + 1)) = c_n c by omega] at this
        rw [this]
        exact ⟨A, rfl, Ag.rf, fun x => by cases x⟩
      · rw [if_neg (fun x => z ((nI_eq0 (by omega)).mp x)), ck_t (inb_t (by omega) (by omega))]
        obtain ⟨A1, q1, q2, q3⟩ := putAllOf hC (S2_f (k := 54) (j := 4 + 6 + 2 * i + 1) (by omega) (by omega)) hCi.1
        rw [bi_e q1, fX3_mix_61, nI_1]
        rw [hb, if_pos rfl] at e1
        rw [hb, hk, decide_eq_true (by omega)] at e2
        obtain ⟨A', g1, g2, g3⟩ := ih (i + 1) n A1 (h.ag q3 s54) (by rw [e1]; exact q2) e2 (by omega) (by omega)
        exact ⟨A', g1, q3.tr g2, g3⟩
theorem mix_ (h : RC A 3 c) (hw : Wf c) (v : Int32) : ∃ A', fX3_mix A v = some (bI (bok c v (c_n c)), A') ∧ Ag (S2 54) A A' ∧ (bok c v (c_n c) = true → CR A' 54 (bsm c v (c_n c))) := by
  obtain ⟨A1, q1, q2, q3⟩ := drain (A := A) (k := 54)
  obtain ⟨A', g1, g2, g3⟩ := mix_9 hw v (c_n c) 0 FU A1 (h.ag q3 s54) q2 rfl (by omega) (Nat.lt_of_le_of_lt hw.1 (by decide))
  refine ⟨A', ?_, q3.tr g2, g3⟩
  unfold fX3_mix
  rw [bi_e q1]
  exact g1
/-- a blend of these casks is one -/
def gB (c : Ce) (v ppl lit : Int32) : Bool := bok c v (c_n c) && (!(decide (nI (sf (bsm c v (c_n c)) 10) < lit)) && alB c (bsm c v (c_n c)) ppl)
theorem isBlend_10 (hw : Wf c) (v ppl lit : Int32) : ∀ (d i n : Nat) (B : Me), RB B c → RR (B 60) (bsm c v i) → i + d = c_n c → d < n →
    ∃ B', fX4_isBlend_10 n B v ppl lit (bI (bok c v i)) (nI i) = some (bI (gB c v ppl lit), B') ∧ Ag S60 B B' := by
  have hn5 := hw.1
  intro d
  induction d with
  | zero =>
    intro i n B h hr hi hn
    obtain ⟨n, rfl, -⟩ := fuel hn
    have ei : i = c_n c := by omega
    have hl := bsm_le hw v i (by omega)
    rw [fX4_isBlend_10, h.2.1, if_pos (lim_t (by omega))]
    refine ⟨B, ?_, Ag.rf⟩
    unfold gB fX4_isBlend_94 fX4_isBlend_95
    rw [← ei, ck_t zb_0, ck_t zb_1]
    cases hk : bok c v i
    · rw [if_pos (by decide)]; rfl
    · rw [if_neg (by decide), bi_e (litresThought hr)]
      by_cases z : nI (sf (bsm c v i) 10) < lit
      · rw [if_pos z, decide_eq_true z]; rfl
      · rw [if_neg z, decide_eq_false z, bi_e (whoMayT h hw hr (by omega))]
        unfold alB
        by_cases y : (who c (bsm c v i) &&& ppl) = ppl
        · rw [if_pos y, decide_eq_true y]; rfl
        · rw [if_neg y, decide_eq_false y]; rfl
  | succ d ih =>
    intro i n B h hr hi hn
    obtain ⟨n, rfl, hn2⟩ := fuel hn
    have hl := hw.2.2.2.1 i (by omega)
    have hl2 := bsm_le hw v i (by omega)
    have e1 : bsm c v (i + 1) = if bt v i then (fun y => bsm c v i y + c_l c i y) else bsm c v i := rfl
    have e2 : bok c v (i + 1) = (bok c v i && (!(bt v i) || decide (0 < sf (c_l c i) 10))) := rfl
    rw [fX4_isBlend_10, h.2.1, if_neg (lim_f (by omega)), bi_e (has_x _ (by omega))]
    unfold fX4_isBlend_58 fX4_isBlend_59 fX4_isBlend_61
    rw [nI_1]
    cases hb : bt v i
    · rw [if_pos (by decide)]
      rw [hb, if_neg (by simp)] at e1
      rw [hb] at e2
      obtain ⟨B', q, g⟩ := ih (i + 1) n B h (by rw [e1]; exact hr) (by omega) (by omega)
      rw [show bok c v (i + 1) = bok c v i by rw [e2]; simp] at q
      exact ⟨B', q, g⟩
    · rw [if_neg (by decide), bi_e (litresThought hr)]
      obtain ⟨B1, q1, q2, q3⟩ := addC (show i < 5 by omega) h.2.2.2.2.1 hr
      rw [hb, if_pos rfl] at e1
      rw [hb] at e2
      obtain ⟨B', q, g⟩ := ih (i + 1) n B1 (h.ag q2) (by rw [e1]; exact q3) (by omega) (by omega)
      refine ⟨B', ?_, q2.tr g⟩
      rw [bi_e q1]
      cases hk : bok c v i
      · rw [if_pos (by decide)]
        rw [show bok c v (i + 1) = false by rw [e2, hk]; rfl] at q
        exact q
      · rw [if_neg (by decide), bi_e (litresThought q3), sf_add]
        by_cases z : sf (c_l c i) 10 = 0
        · rw [if_pos ((nI_leI (by omega) (by omega)).mpr (by omega))]
          rw [show bok c v (i + 1) = false by rw [e2, hk, decide_eq_false (by omega)]; rfl] at q
          exact q
        · rw [if_neg (fun x => by have := (nI_leI (by omega) (by omega)).mp x; omega)]
          rw [show bok c v (i + 1) = true by rw [e2, hk, decide_eq_true (by omega)]; rfl] at q
          exact q
theorem isBlend (h : RB B c) (hw : Wf c) (v ppl lit : Int32) : ∃ B', fX4_isBlend B v ppl lit = some (bI (gB c v ppl lit), B') ∧ Ag S60 B B' := by
  obtain ⟨B1, q1, q2, q3⟩ := clear (B := B)
  obtain ⟨B', g1, g2⟩ := isBlend_10 hw v ppl lit (c_n c) 0 FU B1 (h.ag q2) q3 (by omega) (Nat.lt_of_le_of_lt hw.1 (by decide))
  refine ⟨B', ?_, q2.tr g2⟩
  unfold fX4_isBlend
  rw [bi_e q1]
  exact g1
def pcn (x : Int32) : Nat := cnt (bt x) 10
def bbF (c : Ce) (ppl lit : Int32) : Nat → Int32
  | 0 => -1
  | m + 1 => if (bbF c ppl lit m = -1 ∨ pcn (nI m) < pcn (bbF c ppl lit m)) ∧ gB c (nI m) ppl lit = true then nI m else bbF c ppl lit m
theorem bbF_in (c : Ce) (ppl lit : Int32) : ∀ m, bbF c ppl lit m = -1 ∨ ∃ j, j < m ∧ bbF c ppl lit m = nI j := by
  intro m
  induction m with
  | zero => left; rfl
  | succ m ih =>
    have e : bbF c ppl lit (m + 1) = if (bbF c ppl lit m = -1 ∨ pcn (nI m) < pcn (bbF c ppl lit m)) ∧ gB c (nI m) ppl lit = true then nI m else bbF c ppl lit m := rfl
    rw [e]
    split
    · right; exact ⟨m, by omega, rfl⟩
    · rcases ih with h | ⟨j, hj, h⟩
      · left; exact h
      · right; exact ⟨j, by omega, h⟩
theorem bc_m {m : Nat} (hm : m < 32) : fJ6_bitCount_0f7a4 (nI m) = some (nI (pcn (nI m))) := by
  apply bc_x
  intro i h1 h2
  rw [bt_nI m i h2]
  exact Nat.testBit_lt_two_pow (Nat.lt_of_lt_of_le hm (Nat.pow_le_pow_right (n := 2) (by omega) (show 5 ≤ i by omega)))
theorem pcn_le (x : Int32) : pcn x ≤ 10 := cnt_le _ _
def best (c : Ce) (ppl lit : Int32) : Int32 := bbF c ppl lit (2 ^ c_n c)
theorem leastBlend_5 (hw : Wf c) (ppl lit : Int32) : ∀ (d m n : Nat) (A : Me), RC A 3 c → m + d = 2 ^ c_n c → d < n →
    ∃ A', fX3_leastBlend_5 n A ppl lit (bbF c ppl lit m) (nI m) = some (best c ppl lit, A') ∧ Ag (S2 54) A A' := by
  have hn5 := hw.1
  have hpw : 2 ^ c_n c ≤ 32 := Nat.pow_le_pow_right (by omega) hn5
  intro d
  induction d with
  | zero =>
    intro m n A h hi hn
    obtain ⟨n, rfl, -⟩ := fuel hn
    have : m = 2 ^ c_n c := by omega
    rw [fX3_leastBlend_5, h.2.1, shl_n hn5, this, if_pos (lim_t (Nat.le_refl _))]
    exact ⟨A, rfl, Ag.rf⟩
  | succ d ih =>
    intro m n A h hi hn
    obtain ⟨n, rfl, hn2⟩ := fuel hn
    have e : bbF c ppl lit (m + 1) = if (bbF c ppl lit m = -1 ∨ pcn (nI m) < pcn (bbF c ppl lit m)) ∧ gB c (nI m) ppl lit = true then nI m else bbF c ppl lit m := rfl
    have hin := bbF_in c ppl lit m
    -- what is done if there are fewer
    have key : (bbF c ppl lit m = -1 ∨ pcn (nI m) < pcn (bbF c ppl lit m)) → ∃ A', fX3_leastBlend_36 (fun m x0 x1 x2 x3 => fX3_leastBlend_5 n m x0 x1 x2 x3) A ppl lit (bbF c ppl lit m) (nI m) = some (best c ppl lit, A') ∧ Ag (S2 54) A A' := by
      intro hf
      unfold fX3_leastBlend_36 fX3_leastBlend_41 fX3_leastBlend_86
      rw [if_neg (by decide), nI_1]
      obtain ⟨A1, q1, q2, q3⟩ := mix_ h hw (nI m)
      have hR1 := h.ag q2 s54
      obtain ⟨A', g1, g2⟩ := ih (m + 1) n A1 hR1 (by omega) (by omega)
      refine ⟨A', ?_, q2.tr g2⟩
      rw [b2_e q1]
      rw [e] at g1
      unfold gB at g1
      cases hk : bok c (nI m) (c_n c)
      · rw [if_pos (by decide)]
        rw [hk, if_neg (by simp)] at g1
        exact g1
      · have hC := q3 hk
        have hl := bsm_le hw (nI m) (c_n c) hn5
        rw [if_neg (by decide), hC.2]
        rw [hk] at g1
        by_cases z : nI (sf (bsm c (nI m) (c_n c)) 10) < lit
        · rw [if_pos z]
          rw [decide_eq_true z, if_neg (by simp)] at g1
          exact g1
        · rw [if_neg z, bi_e (allMay hR1 hw hC (by omega) ppl)]
          rw [decide_eq_false z] at g1
          cases ha : alB c (bsm c (nI m) (c_n c)) ppl
          · rw [if_pos (by decide)]
            rw [ha, if_neg (by simp)] at g1
            exact g1
          · rw [if_neg (by decide)]
            rw [ha, if_pos ⟨hf, rfl⟩] at g1
            exact g1
    rw [fX3_leastBlend_5, h.2.1, shl_n hn5, if_neg (lim_f (by omega))]
    by_cases hb : bbF c ppl lit m = -1
    · rw [if_pos hb]
      exact key (Or.inl hb)
    · rw [if_neg hb]
      rcases hin with hq | ⟨j, hj, hq⟩
      · exact absurd hq hb
      · have p1 := pcn_le (nI m)
        have p2 := pcn_le (nI j)
        rw [bi_e (bc_m (by omega)), hq, bi_e (bc_m (by omega))]
        by_cases hf : pcn (nI m) < pcn (nI j)
        · rw [if_neg (fun x => by have := (nI_leI (by omega) (by omega)).mp x; omega), ← hq]
          exact key (Or.inr (by rw [hq]; exact hf))
        · rw [if_pos ((nI_leI (by omega) (by omega)).mpr (by omega))]
          unfold fX3_leastBlend_41 fX3_leastBlend_86
          rw [if_pos rfl, nI_1]
          have := ih (m + 1) n A h (by omega) (by omega)
          rw [e, if_neg (fun x => x.1.elim (fun y => hb y) (fun y => hf (by rw [hq] at y; exact y))), hq] at this
          exact this
theorem leastBlend (h : RC A 3 c) (hw : Wf c) (ppl lit : Int32) : ∃ A', fX3_leastBlend A ppl lit = some (best c ppl lit, A') ∧ Ag (S2 54) A A' :=
  leastBlend_5 hw ppl lit (2 ^ c_n c) 0 FU A h (by omega) (Nat.lt_of_le_of_lt (Nat.pow_le_pow_right (n := 2) (by omega) hw.1) (by decide))
/-- what blend tells -/
def bln (c : Ce) (ppl lit what : Int32) : Int32 := if best c ppl lit = -1 ∨ what = 1 then best c ppl lit else nI (pcn (best c ppl lit))
theorem blendNow_6 (hw : Wf c) (ppl lit what : Int32) : ∀ (d m n : Nat) (B : Me), RB B c → m + d = 2 ^ c_n c → d < n →
    ∃ B', fX4_blendNow_6 n B ppl lit what (bbF c ppl lit m) (nI m) = some (bln c ppl lit what, B') ∧ Ag S60 B B' := by
  have hn5 := hw.1
  have hpw : 2 ^ c_n c ≤ 32 := Nat.pow_le_pow_right (by omega) hn5
  intro d
  induction d with
  | zero =>
    intro m n B h hi hn
    obtain ⟨n, rfl, -⟩ := fuel hn
    have : m = 2 ^ c_n c := by omega
    rw [fX4_blendNow_6, h.2.1, shl_n hn5, this, if_pos (lim_t (Nat.le_refl _))]
    refine ⟨B, ?_, Ag.rf⟩
    unfold fX4_blendNow_85 fX4_blendNow_95 bln best
    by_cases h1 : bbF c ppl lit (2 ^ c_n c) = -1
    · rw [if_pos h1, if_pos (Or.inl h1)]
    · rw [if_neg h1]
      by_cases h2 : what = 1
      · rw [if_pos h2, if_pos (Or.inr h2)]
      · rw [if_neg h2, if_neg (fun x => x.elim h1 h2), bi_e (size_x _)]
        rfl
  | succ d ih =>
    intro m n B h hi hn
    obtain ⟨n, rfl, hn2⟩ := fuel hn
    have e : bbF c ppl lit (m + 1) = if (bbF c ppl lit m = -1 ∨ pcn (nI m) < pcn (bbF c ppl lit m)) ∧ gB c (nI m) ppl lit = true then nI m else bbF c ppl lit m := rfl
    have key : (bbF c ppl lit m = -1 ∨ pcn (nI m) < pcn (bbF c ppl lit m)) → ∃ B', fX4_blendNow_36 (fun m x0 x1 x2 x3 x4 => fX4_blendNow_6 n m x0 x1 x2 x3 x4) B ppl lit what (bbF c ppl lit m) (nI m) = some (bln c ppl lit what, B') ∧ Ag S60 B B' := by
      intro hf
      unfold fX4_blendNow_36 fX4_blendNow_41 fX4_blendNow_64 fX4_blendNow_66
      rw [if_neg (by decide), nI_1]
      obtain ⟨B1, q1, q2⟩ := isBlend h hw (nI m) ppl lit
      obtain ⟨B', g1, g2⟩ := ih (m + 1) n B1 (h.ag q2) (by omega) (by omega)
      refine ⟨B', ?_, q2.tr g2⟩
      rw [b2_e q1]
      rw [e] at g1
      cases hk : gB c (nI m) ppl lit
      · rw [if_pos (by decide)]
        rw [hk, if_neg (by simp)] at g1
        exact g1
      · rw [if_neg (by decide)]
        rw [hk, if_pos ⟨hf, rfl⟩] at g1
        exact g1
    rw [fX4_blendNow_6, h.2.1, shl_n hn5, if_neg (lim_f (by omega))]
    by_cases hb : bbF c ppl lit m = -1
    · rw [if_pos hb]
      exact key (Or.inl hb)
    · have p1 := pcn_le (nI m)
      have p2 := pcn_le (bbF c ppl lit m)
      rw [if_neg hb, bi_e (size_x _), bi_e (size_x _)]
      show ∃ B', (if nI (pcn (bbF c ppl lit m)) ≤ nI (pcn (nI m)) then _ else _) = _ ∧ _
      by_cases hf : pcn (nI m) < pcn (bbF c ppl lit m)
      · rw [if_neg (fun x => by have := (nI_leI (by omega) (by omega)).mp x; omega)]
        exact key (Or.inr hf)
      · rw [if_pos ((nI_leI (by omega) (by omega)).mpr (by omega))]
        unfold fX4_blendNow_41 fX4_blendNow_64 fX4_blendNow_66
        rw [if_pos rfl, nI_1]
        have := ih (m + 1) n B h (by omega) (by omega)
        rw [e, if_neg (fun x => x.1.elim (fun y => hb y) hf)] at this
        exact this
theorem blendNow (h : RB B c) (hw : Wf c) (ppl lit what : Int32) : ∃ B', fX4_blendNow B ppl lit what = some (bln c ppl lit what, B') ∧ Ag S60 B B' :=
  blendNow_6 hw ppl lit what (2 ^ c_n c) 0 FU B h (by omega) (Nat.lt_of_le_of_lt (Nat.pow_le_pow_right (n := 2) (by omega) hw.1) (by decide))
theorem best_in (hw : Wf c) (ppl lit : Int32) : best c ppl lit = -1 ∨ ∃ j, j < 32 ∧ best c ppl lit = nI j := by
  have hpw : 2 ^ c_n c ≤ 32 := Nat.pow_le_pow_right (by omega) hw.1
  rcases bbF_in c ppl lit (2 ^ c_n c) with h | ⟨j, hj, h⟩
  · left; exact h
  · right; exact ⟨j, by omega, h⟩
theorem casksIn (hw : Wf c) (ppl lit : Int32) : fX3_casksIn (best c ppl lit) = some (bln c ppl lit 0) := by
  unfold fX3_casksIn fX3_casksIn_13 bln
  by_cases h : best c ppl lit = -1
  · rw [if_pos h, if_pos (Or.inl h), h]
  · rw [if_neg h, if_neg (fun x => x.elim h (by decide))]
    rcases best_in hw ppl lit with q | ⟨j, hj, q⟩
    · exact absurd q h
    · rw [q, bi_e (bc_m hj)]
end
