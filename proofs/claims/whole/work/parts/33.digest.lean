/-! ===== the digest ===== -/
section
variable {A B : Me} {c : Ce} {len tr N : Nat} {pg : Nat → Nat}
theorem lt3_t {y : Nat} (h : 3 < y) (h2 : y < 2 ^ 31 := by omega) : (3 : Int32) < nI y := nI_lt (a := 3) h h2
theorem lt3_f {y : Nat} (h : y ≤ 3) : ¬ (3 : Int32) < nI y := nI_nlt (a := 3) h (by decide)
theorem lt4_t {y : Nat} (h : y < 4) : nI y < (4 : Int32) := nI_lt (b := 4) h (by decide)
theorem lt4_f {y : Nat} (h : 4 ≤ y) (h2 : y < 2 ^ 31 := by omega) : ¬ nI y < (4 : Int32) := nI_nlt (b := 4) h h2
theorem le9_t {y : Nat} (h : y ≤ 9) : nI y ≤ (9 : Int32) := nI_le (b := 9) h (by decide)
theorem le9_f {y : Nat} (h : 9 < y) (h2 : y < 2 ^ 31 := by omega) : ¬ nI y ≤ (9 : Int32) := nI_ge (a := 9) h h2
theorem upl29 {B : Me} {v : Int64} : AgB B (upl B 58 29 v) := fun k j q => by
  unfold upl
  by_cases e : k = 58
  · subst e
    rw [if_pos rfl]
    unfold updl upd
    have n1 : ¬ j = 129 := fun x => by subst x; cases q
    have n2 : ¬ j = 29 := fun x => by subst x; cases q
    rw [if_neg n1, if_neg n2]
  · rw [if_neg e]
theorem mixB (B : Me) (v : Int32) : ∃ B', fX4_mix B v.toInt64 = some B' ∧ AgB B B' ∧ gl (B' 58) 29 = 31 * gl (B 58) 29 + v.toInt64 := ⟨_, rfl, upl29, by rw [upl_at, gl_updl]⟩
theorem with_x (h : Int64) (v : Int32) : fX3_with h v = some (31 * h + v.toInt64) := rfl
theorem digest_skip (j9 : Me → Int32 → Option (Int64 × Me)) (i : Int32) : ∀ (d x m : Nat), x + d = 6 → d ≤ m → ∃ m', m' + d = m ∧ fX4_digest_19 j9 m B i (nI (4 + x)) = fX4_digest_19 j9 m' B i (nI 10) := by
  intro d
  induction d with
  | zero =>
    intro x m hx hm
    have : x = 6 := by omega
    exact ⟨m, by omega, by rw [this]⟩
  | succ d ih =>
    intro x m hx hm
    obtain ⟨m, rfl, hm2⟩ := fuel hm
    obtain ⟨m', q1, q2⟩ := ih (x + 1) m (by omega) (by omega)
    refine ⟨m', by omega, ?_⟩
    rw [fX4_digest_19, if_neg (g20_f (by omega)), if_neg (lt4_f (by omega)), if_pos (le9_t (by omega)), fX4_digest_47, nI_1]
    exact q2
theorem wc35 (hA : RC A 3 c) (hw : Wf c) {i : Nat} (hi : i < c_n c) (j9 : Me → Int32 → Option (Int64 × Me)) : ∀ (d y n m : Nat) (B : Me), y + d = 10 → d < n → d < m → RB B c → ∃ B', fX3_withCask_35 A n (nI i) (gl (B 58) 29) (nI y) = some (gl (B' 58) 29) ∧ fX4_digest_19 j9 m B (nI i) (nI (10 + y)) = j9 B' (nI (i + 1)) ∧ AgB B B' := by
  have hn5 := hw.1
  intro d
  induction d with
  | zero =>
    intro y n m B hy hn hm hB
    obtain ⟨n, rfl, -⟩ := fuel hn
    obtain ⟨m, rfl, -⟩ := fuel hm
    refine ⟨B, ?_, ?_, AgB.rf⟩
    · rw [fX3_withCask_35, if_pos (g10_t (by omega))]
    · rw [fX4_digest_19, if_pos (g20_t (by omega)), nI_1]
  | succ d ih =>
    intro y n m B hy hn hm hB
    obtain ⟨n, rfl, hn2⟩ := fuel hn
    obtain ⟨m, rfl, hm2⟩ := fuel hm
    obtain ⟨B1, q1, q2⟩ := caskNow_y hB (show i < 5 by omega) (show y < 10 by omega)
    obtain ⟨B2, q3, q4, q5⟩ := mixB B1 (nI (c_l c i y))
    obtain ⟨B', t1, t2, t3⟩ := ih (y + 1) n m B2 (by omega) (by omega) (by omega) ((hB.ag q2).agB q4)
    refine ⟨B', ?_, ?_, ((AgB.of q2).tr q4).tr t3⟩
    · rw [fX3_withCask_35, if_neg (g10_f (by omega)), show (10 : Int32) + nI y = nI (10 + y) from nI_add 10 y, bi_e (cask_y hA hw hi (by omega)), bi_e (with_x _ _), nI_1, ← q2 58 rfl, ← q5]
      exact t1
    · rw [fX4_digest_19, if_neg (g20_f (by omega)), if_neg (lt4_f (by omega)), if_neg (le9_f (by omega)), fX4_digest_36, b2_e q1, bi_e q3, fX4_digest_47, nI_1]
      exact t2
theorem four {y : Nat} (h : y < 4) : nI y = 0 ∨ nI y = 1 ∨ nI y = 2 ∨ nI y = 3 := (by decide +kernel : ∀ y : Fin 4, nI y.val = 0 ∨ nI y.val = 1 ∨ nI y.val = 2 ∨ nI y.val = 3) ⟨y, h⟩
theorem wc6 (hA : RC A 3 c) (hw : Wf c) {i : Nat} (hi : i < c_n c) (j9 : Me → Int32 → Option (Int64 × Me)) : ∀ (d y n m : Nat) (B : Me), y + d = 4 → d < n → d + 20 < m → RB B c → ∃ B', fX3_withCask_6 A n (nI i) (gl (B 58) 29) (nI y) = some (gl (B' 58) 29) ∧ fX4_digest_19 j9 m B (nI i) (nI y) = j9 B' (nI (i + 1)) ∧ AgB B B' := by
  have hn5 := hw.1
  intro d
  induction d with
  | zero =>
    intro y n m B hy hn hm hB
    obtain ⟨n, rfl, -⟩ := fuel hn
    have : y = 4 := by omega
    subst this
    obtain ⟨m', q1, q2⟩ := digest_skip (B := B) j9 (nI i) 6 0 m (by omega) (by omega)
    obtain ⟨B', t1, t2, t3⟩ := wc35 hA hw hi j9 10 0 FU m' B (by omega) (by decide) (by omega) hB
    refine ⟨B', ?_, ?_, t3⟩
    · rw [fX3_withCask_6, if_pos (lt3_t (by omega))]
      exact t1
    · rw [show nI 4 = nI (4 + 0) from rfl, q2]
      exact t2
  | succ d ih =>
    intro y n m B hy hn hm hB
    obtain ⟨n, rfl, hn2⟩ := fuel hn
    obtain ⟨m, rfl, hm2⟩ := fuel hm
    obtain ⟨B1, q1, q2⟩ := caskNow_x hB hw (show i < 5 by omega) (nI y) (four (by omega))
    obtain ⟨B2, q3, q4, q5⟩ := mixB B1 (if nI y = 0 then nI (sf (c_l c i) 10) else if nI y = 1 then ag (c_w c) (c_l c i) else if nI y = 2 then who c (c_l c i) else bsF (yb (c_l c i)) 10)
    obtain ⟨B', t1, t2, t3⟩ := ih (y + 1) n m B2 (by omega) (by omega) (by omega) ((hB.ag q2).agB q4)
    refine ⟨B', ?_, ?_, ((AgB.of q2).tr q4).tr t3⟩
    · rw [fX3_withCask_6, if_neg (lt3_f (by omega)), bi_e (cask_x hA hw hi _ (four (by omega))), bi_e (with_x _ _), nI_1, ← q2 58 rfl, ← q5]
      exact t1
    · rw [fX4_digest_19, if_neg (g20_f (by omega)), if_pos (lt4_t (by omega)), fX4_digest_36, b2_e q1, bi_e q3, fX4_digest_47, nI_1]
      exact t2
theorem dg1 (hA : RC A 3 c) (hw : Wf c) : ∀ (d i n m : Nat) (B : Me), i + d = c_n c → d < n → d < m → RB B c → ∃ B', fX3_digest_6 n A (gl (B 58) 29) (nI i) = fX3_digest_32 FU A (gl (B' 58) 29) 0 ∧ fX4_digest_9 m B (nI i) = fX4_digest_61 FU B' 0 ∧ AgB B B' := by
  have hn5 := hw.1
  intro d
  induction d with
  | zero =>
    intro i n m B hi hn hm hB
    obtain ⟨n, rfl, -⟩ := fuel hn
    obtain ⟨m, rfl, -⟩ := fuel hm
    refine ⟨B, ?_, ?_, AgB.rf⟩
    · rw [fX3_digest_6, hA.2.1, if_pos (ge_t (by omega) (by omega))]
    · rw [fX4_digest_9, hB.2.1, if_pos (ge_t (by omega) (by omega))]
  | succ d ih =>
    intro i n m B hi hn hm hB
    obtain ⟨n, rfl, hn2⟩ := fuel hn
    obtain ⟨m, rfl, hm2⟩ := fuel hm
    obtain ⟨B1, q1, q2, q3⟩ := wc6 hA hw (show i < c_n c by omega) (fun x0 x1 => fX4_digest_9 m x0 x1) 4 0 FU FU B (by omega) (by decide) (by decide) hB
    obtain ⟨B', t1, t2, t3⟩ := ih (i + 1) n m B1 (by omega) (by omega) (by omega) (hB.agB q3)
    refine ⟨B', ?_, ?_, q3.tr t3⟩
    · rw [fX3_digest_6, hA.2.1, if_neg (ge_f (by omega) (by omega)), fX3_withCask]
      rw [show (0 : Int32) = nI 0 from rfl, bi_e q1, nI_1]
      exact t1
    · rw [fX4_digest_9, hB.2.1, if_neg (ge_f (by omega) (by omega))]
      exact q2.trans t2
theorem dg46 (hA : RC A 3 c) (hw : Wf c) {p : Nat} (hp : p < c_p c) (j32 : Me → Int64 → Int32 → Option (Int64 × Me)) (j61 : Me → Int32 → Option (Int64 × Me)) : ∀ (d y n m : Nat) (B : Me), y + d = 4 → d < n → d < m → RB B c → ∃ B', fX3_digest_46 j32 n A (gl (B 58) 29) (nI p) (nI y) = j32 A (gl (B' 58) 29) (nI (p + 1)) ∧ fX4_digest_71 j61 m B (nI p) (nI y) = j61 B' (nI (p + 1)) ∧ AgB B B' := by
  intro d
  induction d with
  | zero =>
    intro y n m B hy hn hm hB
    obtain ⟨n, rfl, -⟩ := fuel hn
    obtain ⟨m, rfl, -⟩ := fuel hm
    refine ⟨B, ?_, ?_, AgB.rf⟩
    · rw [fX3_digest_46, if_pos (lt3_t (by omega)), nI_1]
    · rw [fX4_digest_71, if_pos (g4_t (by omega)), nI_1]
  | succ d ih =>
    intro y n m B hy hn hm hB
    obtain ⟨n, rfl, hn2⟩ := fuel hn
    obtain ⟨m, rfl, hm2⟩ := fuel hm
    obtain ⟨B1, q1, q2⟩ := personNow_x hB hw hp (nI y) (four (by omega))
    obtain ⟨B2, q3, q4, q5⟩ := mixB B1 (if nI y = 0 then c_k c p else if nI y = 1 then c_b c p else if nI y = 2 then mof_ c p else c_i c p)
    obtain ⟨B', t1, t2, t3⟩ := ih (y + 1) n m B2 (by omega) (by omega) (by omega) ((hB.ag q2).agB q4)
    refine ⟨B', ?_, ?_, ((AgB.of q2).tr q4).tr t3⟩
    · rw [fX3_digest_46, if_neg (lt3_f (by omega)), bi_e (about_x hA hw hp _ (four (by omega))), bi_e (with_x _ _), nI_1, ← q2 58 rfl, ← q5]
      exact t1
    · rw [fX4_digest_71, if_neg (g4_f (by omega)), b2_e q1, bi_e q3, nI_1]
      exact t2
theorem dg32 (hA : RC A 3 c) (hw : Wf c) : ∀ (d p n m : Nat) (B : Me), p + d = c_p c → d < n → d < m → RB B c → ∃ B' n' m', fX3_digest_32 n A (gl (B 58) 29) (nI p) = fX3_digest_32 (n' + 1) A (gl (B' 58) 29) (nI (c_p c)) ∧ fX4_digest_61 m B (nI p) = fX4_digest_61 (m' + 1) B' (nI (c_p c)) ∧ AgB B B' := by
  have hp5 := hw.2.1
  intro d
  induction d with
  | zero =>
    intro p n m B hi hn hm hB
    obtain ⟨n, rfl, -⟩ := fuel hn
    obtain ⟨m, rfl, -⟩ := fuel hm
    have : p = c_p c := by omega
    subst this
    exact ⟨B, n, m, rfl, rfl, AgB.rf⟩
  | succ d ih =>
    intro p n m B hi hn hm hB
    obtain ⟨n, rfl, hn2⟩ := fuel hn
    obtain ⟨m, rfl, hm2⟩ := fuel hm
    obtain ⟨B1, q1, q2, q3⟩ := dg46 hA hw (show p < c_p c by omega) (fun m x0 x1 => fX3_digest_32 n m x0 x1) (fun x0 x1 => fX4_digest_61 m x0 x1) 4 0 FU FU B (by omega) (by decide) (by decide) hB
    obtain ⟨B', n', m', t1, t2, t3⟩ := ih (p + 1) n m B1 (by omega) (by omega) (by omega) (hB.agB q3)
    refine ⟨B', n', m', ?_, ?_, q3.tr t3⟩
    · rw [fX3_digest_32, hA.2.2.1, if_neg (ge_f (by omega) (by omega))]
      exact q1.trans t1
    · rw [fX4_digest_61, hB.2.2.1, if_neg (ge_f (by omega) (by omega))]
      exact q2.trans t2
theorem dg54 (hA : RC A 3 c) (hw : Wf c) : ∀ (d k n m : Nat) (B : Me), k + d = 5 → d < n → d < m → RB B c → ∃ B', fX3_withQuestions_54 n A (gl (B 58) 29) (nI k) = some (gl (B' 58) 29, A) ∧ fX4_mixCellar_45 m B (nI k) = some B' ∧ AgB B B' := by
  intro d
  induction d with
  | zero =>
    intro k n m B hi hn hm hB
    obtain ⟨n, rfl, -⟩ := fuel hn
    obtain ⟨m, rfl, -⟩ := fuel hm
    refine ⟨B, ?_, ?_, AgB.rf⟩
    · rw [fX3_withQuestions_54, if_pos (g5_t (by omega))]
    · rw [fX4_mixCellar_45, if_pos (g5_t (by omega))]
  | succ d ih =>
    intro k n m B hi hn hm hB
    obtain ⟨n, rfl, hn2⟩ := fuel hn
    obtain ⟨m, rfl, hm2⟩ := fuel hm
    obtain ⟨B1, q1, q2⟩ := birthsNow hB hw (nI k)
    obtain ⟨B2, q3, q4, q5⟩ := mixB B1 (bth c (nI k))
    have hB2 := (hB.ag q2).agB q4
    obtain ⟨B3, q6, q7⟩ := askNow hB2 hw (nI k)
    obtain ⟨B4, q8, q9, q10⟩ := mixB B3 (ask_ c (nI k))
    obtain ⟨B', t1, t2, t3⟩ := ih (k + 1) n m B4 (by omega) (by omega) (by omega) ((hB2.ag q7).agB q9)
    refine ⟨B', ?_, ?_, (((AgB.of q2).tr q4).tr ((AgB.of q7).tr q9)).tr t3⟩
    · rw [fX3_withQuestions_54, if_neg (g5_f (by omega)), bi_e (possibleBirths hA hw _), bi_e (with_x _ _), bi_e (bestQuestion hA hw _), bi_e (with_x _ _), nI_1, ← q2 58 rfl, ← q5, ← q7 58 rfl, ← q10]
      exact t1
    · rw [fX4_mixCellar_45, if_neg (g5_f (by omega)), b2_e q1, bi_e q3, b2_e q6, bi_e q8, nI_1]
      exact t2
theorem dgQ (h : RelX A B c len pg tr) : ∃ A' B', fX3_withQuestions A (gl (B 58) 29) = some (gl (B' 58) 29, A') ∧ fX4_mixCellar B = some B' ∧ Ag SA A A' ∧ AgB B B' := by
  obtain ⟨hA, hB, hw, -⟩ := id h
  have hp5 := hw.2.1
  have hpw : 2 ^ c_p c ≤ 32 := Nat.pow_le_pow_right (n := 2) (by omega) hp5
  obtain ⟨A1, a1, a2⟩ := leastBlend hA hw (nI (2 ^ c_p c - 1)) 5
  have r1 := h.ag (SA_S2 (by omega) (by omega) a2) (AgB.rf (B := B))
  obtain ⟨A2, a3, a4⟩ := seated_c r1.1 hw (nI (2 ^ c_p c - 1)) (fun i h1 h2 => by
    rw [bt_nI _ i h2]
    exact Nat.testBit_lt_two_pow (Nat.lt_of_lt_of_le (show 2 ^ c_p c - 1 < 32 by omega) (Nat.pow_le_pow_right (n := 2) (by omega) (show 5 ≤ i by omega))))
  have r2 := r1.ag (SA_9 a4) (AgB.rf (B := B))
  obtain ⟨B1, b1, b2'⟩ := tableNow_7 hw (nI (2 ^ c_p c - 1)) (c_p c) 0 FU B hB (fun q hq => by omega) (by omega) (Nat.lt_of_le_of_lt hw.2.1 (by decide))
  have g1 : AgB B B1 := fun k j a => by
    have : (k == 60 || (k == 67 || k == 68)) = false := by
      unfold scr at a
      simp at a ⊢
      exact ⟨a.1, a.2.1, a.2.2.1⟩
    rw [b2' k this]
  obtain ⟨B2, b3, b4, b5⟩ := mixB B1 (nI (mxF c (nI (2 ^ c_p c - 1)) (6 ^ c_p c)))
  have hB2 := (hB.agB g1).agB b4
  obtain ⟨B3, b6, b7⟩ := blendNow hB2 hw (nI (2 ^ c_p c - 1)) 5 0
  obtain ⟨B4, b8, b9, b10⟩ := mixB B3 (bln c (nI (2 ^ c_p c - 1)) 5 0)
  have hB4 := (hB2.ag b7).agB b9
  obtain ⟨B5, b11, b12⟩ := blendNow hB4 hw (nI (2 ^ c_p c - 1)) 5 1
  obtain ⟨B6, b13, b14, b15⟩ := mixB B5 (bln c (nI (2 ^ c_p c - 1)) 5 1)
  have hB6 := (hB4.ag b12).agB b14
  obtain ⟨B', t1, t2, t3⟩ := dg54 r2.1 hw 5 0 FU FU B6 (by omega) (by decide) (by decide) hB6
  have eb : best c (nI (2 ^ c_p c - 1)) 5 = bln c (nI (2 ^ c_p c - 1)) 5 1 := by unfold bln; rw [if_pos (Or.inr rfl)]
  refine ⟨A2, B', ?_, ?_, (SA_S2 (by omega) (by omega) a2).tr (SA_9 a4), (g1.tr b4).tr (((AgB.of b7).tr b9).tr (((AgB.of b12).tr b14).tr t3))⟩
  · unfold fX3_withQuestions
    rw [bi_e (allPeople hA hw), b2_e a1, b2_e a3, bi_e (with_x _ _), bi_e (casksIn hw _ _), bi_e (with_x _ _), bi_e (with_x _ _), eb, koenig hw, ← b2' 58 rfl, ← b5, ← b7 58 rfl, ← b10, ← b12 58 rfl, ← b15]
    exact t1
  · unfold fX4_mixCellar
    rw [hB.2.2.1, shl_p hp5]
    have b1' : fX4_tableNow B (nI (2 ^ c_p c - 1)) = some (nI (mxF c (nI (2 ^ c_p c - 1)) (6 ^ c_p c)), B1) := b1
    rw [b2_e b1', bi_e b3, b2_e b6, bi_e b8, b2_e b11, bi_e b13]
    exact t2
theorem dg127 : ∀ (d v n m : Nat) (A B : Me), RelX A B c len pg tr → v + d = 8 → d < n → d < m → ∃ B', fX3_digest_127 n A (gl (B 58) 29) (nI v) = some (gl (B' 58) 29, A) ∧ fX4_digest_139 m B (nI v) = some (gl (B' 58) 29, B') ∧ AgB B B' := by
  intro d
  induction d with
  | zero =>
    intro v n m A B h hv hn hm
    obtain ⟨n, rfl, -⟩ := fuel hn
    obtain ⟨m, rfl, -⟩ := fuel hm
    refine ⟨B, ?_, ?_, AgB.rf⟩
    · rw [fX3_digest_127, if_pos (g8_t (by omega))]
    · rw [fX4_digest_139, if_pos (g8_t (by omega))]
  | succ d ih =>
    intro v n m A B h hv hn hm
    obtain ⟨n, rfl, hn2⟩ := fuel hn
    obtain ⟨m, rfl, hm2⟩ := fuel hm
    obtain ⟨B1, q1, q2⟩ := howMany_x h (nI v)
    obtain ⟨B2, q3, q4, q5⟩ := mixB B1 (cntv c len tr (nI v))
    obtain ⟨B', t1, t2, t3⟩ := ih (v + 1) n m A B2 (h.ag Ag.rf ((AgB.of q2).tr q4)) (by omega) (by omega) (by omega)
    refine ⟨B', ?_, ?_, ((AgB.of q2).tr q4).tr t3⟩
    · rw [fX3_digest_127, if_neg (g8_f (by omega)), bi_e (count_x h _), bi_e (with_x _ _), nI_1, ← q2 58 rfl, ← q5]
      exact t1
    · rw [fX4_digest_139, if_neg (g8_f (by omega)), b2_e q1, bi_e q3, nI_1]
      exact t2
theorem dg94 : ∀ (d v n m : Nat) (A B : Me), RelX A B c len pg tr → v + d = len → d < n → d < m → ∃ B', fX3_digest_94 n A (gl (B 58) 29) (nI v) = some (gl (B' 58) 29, A) ∧ fX4_digest_112 m B (nI v) = some (gl (B' 58) 29, B') ∧ AgB B B' := by
  intro d
  induction d with
  | zero =>
    intro v n m A B h hv hn hm
    have hp := h.2.2.2.1
    have hl := hp.2.2.1
    obtain ⟨n, rfl, -⟩ := fuel hn
    obtain ⟨m, rfl, -⟩ := fuel hm
    obtain ⟨B', t1, t2, t3⟩ := dg127 8 0 FU FU A B h (by omega) (by decide) (by decide)
    refine ⟨B', ?_, ?_, t3⟩
    · rw [fX3_digest_94, hp.1, if_pos (ge_t (by omega) (by omega))]; exact t1
    · rw [fX4_digest_112, hp.2.1, if_pos (ge_t (by omega) (by omega))]; exact t2
  | succ d ih =>
    intro v n m A B h hv hn hm
    have hp := h.2.2.2.1
    have hl := hp.2.2.1
    obtain ⟨n, rfl, hn2⟩ := fuel hn
    obtain ⟨m, rfl, hm2⟩ := fuel hm
    have hx := hp.2.2.2 v (by omega)
    obtain ⟨B2, q3, q4, q5⟩ := mixB B (nI (pg v))
    obtain ⟨B', t1, t2, t3⟩ := ih (v + 1) n m A B2 (h.ag Ag.rf q4) (by omega) (by omega) (by omega)
    refine ⟨B', ?_, ?_, q4.tr t3⟩
    · rw [fX3_digest_94, hp.1, if_neg (ge_f (by omega) (by omega)), ck_t (inb_t (by omega) (by omega)), nI_clamp (by omega), hx.1, bi_e (with_x _ _), nI_1, ← q5]
      exact t1
    · rw [fX4_digest_112, hp.2.1, if_neg (ge_f (by omega) (by omega)), ck_t (inb_t (by omega) (by omega)), nI_clamp (by omega), hx.2.1, bi_e q3, nI_1]
      exact t2
theorem st_digest (h : Rel A B N) : ∃ r A' B', fX3_digest A = some (r, A') ∧ fX4_digest B = some (r, B') ∧ Rel A' B' (N + 1) := by
  obtain ⟨c, len, pg, tr, h, hN⟩ := h
  have h0 := h.ag (Ag.rf (A := A)) (upl29 (B := B) (v := (863 : Int64)))
  have e0 : gl (upl B 58 29 (863 : Int64) 58) 29 = 863 := by rw [upl_at, gl_updl]
  unfold fX3_digest fX4_digest
  generalize hBB : upl B 58 29 (863 : Int64) = B0 at h0 e0 ⊢
  obtain ⟨hA, hB, hw, hp, -⟩ := id h0
  have hn5 := hw.1
  have hl := hp.2.2.1
  obtain ⟨B1, q1, q2, q3⟩ := dg1 hA hw (c_n c) 0 FU FU B0 (by omega) (Nat.lt_of_le_of_lt hw.1 (by decide)) (Nat.lt_of_le_of_lt hw.1 (by decide)) hB
  have h1 := h0.ag (Ag.rf (A := A)) q3
  obtain ⟨B2, n', m', q4, q5, q6⟩ := dg32 hA hw (c_p c) 0 FU FU B1 (by omega) (Nat.lt_of_le_of_lt hw.2.1 (by decide)) (Nat.lt_of_le_of_lt hw.2.1 (by decide)) h1.2.1
  have h2 := h1.ag (Ag.rf (A := A)) q6
  rw [← e0, show (0 : Int32) = nI 0 from rfl, q1, q2, show (0 : Int32) = nI 0 from rfl, q4, q5, fX3_digest_32, fX4_digest_61, hA.2.2.1, h2.2.1.2.2.1, if_pos (ge_t (Nat.le_refl _) (by have := hw.2.1; omega)), if_pos (ge_t (Nat.le_refl _) (by have := hw.2.1; omega)), bi_e (isThere hA hw), h2.2.1.2.1]
  have fin : ∀ (A3 B3 : Me), RelX A3 B3 c len pg tr → ∃ r A' B', fX3_digest_92 A3 (gl (B3 58) 29) = some (r, A') ∧ fX4_digest_110 B3 = some (r, B') ∧ Rel A' B' (N + 1) := fun A3 B3 h3 => by
    obtain ⟨B', t1, t2, t3⟩ := dg94 len 0 FU FU A3 B3 h3 (by omega) (Nat.lt_of_le_of_lt hl (by decide)) (Nat.lt_of_le_of_lt hl (by decide))
    exact ⟨_, A3, B', t1, t2, c, len, pg, tr, h3.ag (Ag.rf (A := A3)) t3, by omega⟩
  by_cases z : 0 < c_n c
  · rw [decide_eq_true z, if_neg bI_t, if_neg (fun (x : nI (c_n c) ≤ 0) => by have := (nI_le0 (by omega)).mp x; omega)]
    obtain ⟨A3, B3, t1, t2, t3, t4⟩ := dgQ h2
    rw [b2_e t1, bi_e t2]
    exact fin A3 B3 (h2.ag t3 t4)
  · rw [decide_eq_false z, if_pos bI_f, if_pos ((nI_le0 (a := c_n c) (by omega)).mpr (by omega))]
    exact fin A B2 h2
end
