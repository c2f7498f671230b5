/-! ===== the relation of the two memories ===== -/
def KB (B : Me) (c : Ce) : Prop := B 58 23 = nI (c_p c) ∧ B 58 24 = nI (c_t c) ∧ (∀ i, i < 5 → ∀ y, y < 10 → B 70 (10 * i + y) = nI (c_l c i y)) ∧ (∀ i, i < c_p c → B 71 i = c_i c i) ∧ ∀ i, i < c_t c → B 72 i = nI (c_c c i) ∧ B 73 i = bI (c_o c i)
/-- ck is an image of an earlier state of c -/
def Old (ck c : Ce) : Prop := Wf ck ∧ c_w ck = c_w c ∧ c_n ck = c_n c ∧ c_p ck ≤ c_p c ∧ ∀ i, i < c_p ck → c_k ck i = c_k c i ∧ c_b ck i = c_b c i
def Img (A B : Me) (c : Ce) (tr : Nat) : Prop :=
  (A 0 6 = 0 ∧ (B 58 21 = 0 ∨ ∃ kc, kc < tr ∧ B 58 22 = nI kc)) ∨ (A 0 6 = 1 ∧ B 58 21 = 1 ∧ B 58 22 = nI tr ∧ ∃ ck, RC A 20 ck ∧ Old ck c ∧ KB B ck)
def RelX (A B : Me) (c : Ce) (len : Nat) (pg : Nat → Nat) (tr : Nat) : Prop := RC A 3 c ∧ RB B c ∧ Wf c ∧ PG A B len pg ∧ A 0 7 = nI tr ∧ B 58 0 = nI tr ∧ Img A B c tr
def Rel (A B : Me) (N : Nat) : Prop := ∃ c len pg tr, RelX A B c len pg tr ∧ tr ≤ N
def StpA (N : Nat) (f g : Option (Int32 × Me)) : Prop := ∃ r A' B', f = some (r, A') ∧ g = some (r, B') ∧ Rel A' B' (N + 1)
def StpP (N : Nat) (A : Me) (f : Option Int32) (g : Option (Int32 × Me)) : Prop := ∃ r B', f = some r ∧ g = some (r, B') ∧ Rel A B' (N + 1)
def StpQ (N : Nat) (A B : Me) (f : Option Int32) (g : Option Int32) : Prop := ∃ r, f = some r ∧ g = some r ∧ Rel A B (N + 1)
theorem KB.agB {B B' : Me} {c : Ce} (h : KB B c) (g : AgB B B') : KB B' c := by
  obtain ⟨h1, h2, h3, h4, h5⟩ := h
  exact ⟨by rw [g 58 23 rfl]; exact h1, by rw [g 58 24 rfl]; exact h2, fun i hi y hy => by rw [g 70 _ rfl]; exact h3 i hi y hy, fun i hi => by rw [g 71 i rfl]; exact h4 i hi, fun i hi => by rw [g 72 i rfl, g 73 i rfl]; exact h5 i hi⟩
def SA : Nat → Bool := fun j => j == 9 || (decide (37 ≤ j) && decide (j ≤ 57))
theorem SA_f {j : Nat} (h9 : j ≠ 9) (h : j < 37) : SA j = false := by
  unfold SA
  rw [decide_eq_false (by omega : ¬ 37 ≤ j)]
  simp [h9]
theorem RC.ag6 {A A' : Me} {S : Nat → Bool} {k : Nat} {c : Ce} (h : RC A k c) (g : Ag S A A') (hs : ∀ j, j ≤ 16 → j ≠ 6 → S (k + j) = false) : RC A' k c := by
  obtain ⟨h1, h2, h3, h4, h5, h6, h7, h8⟩ := h
  have e0 : A' k = A k := g k (hs 0 (by omega) (by omega))
  refine ⟨by rw [e0]; exact h1, by rw [e0]; exact h2, by rw [e0]; exact h3, by rw [e0]; exact h4, by rw [e0]; exact h5, fun i hi => ?_, fun i hi => ?_, fun i hi => ?_⟩
  · refine (h6 i hi).ag g ?_ ?_
    · have := hs (7 + 2 * i) (by omega) (by omega)
      rw [show k + 1 + 6 + 2 * i = k + (7 + 2 * i) by omega]
      exact this
    · have := hs (8 + 2 * i) (by omega) (by omega)
      rw [show k + 1 + 6 + 2 * i + 1 = k + (8 + 2 * i) by omega]
      exact this
  · rw [g (k + 2) (hs 2 (by omega) (by omega)), g (k + 3) (hs 3 (by omega) (by omega)), g (k + 4) (hs 4 (by omega) (by omega))]
    exact h7 i hi
  · rw [g (k + 5) (hs 5 (by omega) (by omega))]
    exact h8 i hi
theorem PG.agA {A A' B : Me} {len : Nat} {pg : Nat → Nat} (h : PG A B len pg) (h1 : A' 1 = A 1) (h2 : A' 2 = A 2) : PG A' B len pg := by
  unfold PG
  rw [h1, h2]
  exact h
theorem RelX.ag {A A' B B' : Me} {c : Ce} {len tr : Nat} {pg : Nat → Nat} (h : RelX A B c len pg tr) (ga : Ag SA A A') (gb : AgB B B') : RelX A' B' c len pg tr := by
  obtain ⟨h1, h2, h3, h4, h5, h6, h7⟩ := h
  have e0 : A' 0 = A 0 := ga 0 (SA_f (by omega) (by omega))
  refine ⟨h1.ag6 ga (fun j hj hj6 => SA_f (by omega) (by omega)), h2.agB gb, h3, (h4.agB gb).agA (ga 1 (SA_f (by omega) (by omega))) (ga 2 (SA_f (by omega) (by omega))), by rw [e0]; exact h5, by rw [gb 58 0 rfl]; exact h6, ?_⟩
  rcases h7 with ⟨g1, g2⟩ | ⟨g1, g2, g3, ck, g4, g5, g6⟩
  · left
    exact ⟨by rw [e0]; exact g1, by rw [gb 58 21 rfl, gb 58 22 rfl]; exact g2⟩
  · right
    exact ⟨by rw [e0]; exact g1, by rw [gb 58 21 rfl]; exact g2, by rw [gb 58 22 rfl]; exact g3, ck, g4.ag6 ga (fun j hj hj6 => SA_f (by omega) (by omega)), g5, g6.agB gb⟩
theorem SA_S2 {k : Nat} (h1 : 37 ≤ k) (h2 : k + 1 ≤ 57) {A A' : Me} (h : Ag (S2 k) A A') : Ag SA A A' := h.mono (fun j hj => by
  have := S2_y hj
  unfold SA
  rw [decide_eq_true (by omega : 37 ≤ j), decide_eq_true (by omega : j ≤ 57)]
  simp)
theorem SA_S4 {A A' : Me} (h : Ag S4 A A') : Ag SA A A' := h.mono (fun j hj => by
  have : j = 54 ∨ j = 55 ∨ j = 56 ∨ j = 57 := by
    unfold S4 at hj
    rw [Bool.or_eq_true] at hj
    rcases hj with q | q
    · have := S2_y q; omega
    · have := S2_y q; omega
  unfold SA
  rw [decide_eq_true (by omega : 37 ≤ j), decide_eq_true (by omega : j ≤ 57)]
  simp)
theorem SA_37 {A A' : Me} (h : Ag (SC 37) A A') : Ag SA A A' := h.mono (fun j hj => by
  cases q : SA j
  · exfalso
    have : j < 37 ∨ 57 < j := by
      unfold SA at q
      by_cases l1 : 37 ≤ j
      · by_cases l2 : j ≤ 57
        · rw [decide_eq_true l1, decide_eq_true l2] at q; simp at q
        · omega
      · omega
    have := SC_f (k := 37) (j := j) (by omega)
    rw [this] at hj; cases hj
  · rfl)
theorem SA_9 {A A' : Me} (h : Ag (fun j => j == 3 + 6) A A') : Ag SA A A' := h.mono (fun j hj => by
  have : j = 9 := by simpa using hj
  subst this; rfl)
/-! tests of arguments, the two ways -/
def kdB (v : Int32) : Bool := decide (¬ v < 0 ∧ ¬ (5 : Int32) ≤ v)
theorem isKind (v : Int32) : fX3_isKind v = some (bI (kdB v)) := by
  unfold fX3_isKind fX3_isKind_13 fX3_isKind_14 kdB
  rw [ck_t zb_0, ck_t zb_1]
  by_cases h : v < 0
  · rw [if_pos h, decide_eq_false (fun q => q.1 h)]; rfl
  · rw [if_neg h]
    by_cases h2 : (5 : Int32) ≤ v
    · rw [if_pos h2, decide_eq_false (fun q => q.2 h2)]; rfl
    · rw [if_neg h2, decide_eq_true ⟨h, h2⟩]; rfl
theorem within_kd (v : Int32) : fX4_within v 0 4 = some (bI (kdB v)) := by
  rw [withinX]
  unfold kdB
  rw [show (decide (¬ v < 0 ∧ ¬ (4 : Int32) < v)) = decide (¬ v < 0 ∧ ¬ (5 : Int32) ≤ v) from by
    rw [decide_eq_decide, show (5 : Int32) = nI 5 from rfl, ← pred_lt (n := 5) (by omega), show nI 5 - 1 = (4 : Int32) from by decide]]
theorem zo_iff (v : Int32) : (¬ v < 0 ∧ ¬ (1 : Int32) < v) ↔ (v = 0 ∨ v = 1) := by
  constructor
  · rintro ⟨h1, h2⟩
    obtain ⟨j, hj, rfl⟩ := nI_of h1
    have : ¬ 1 < j := fun q => h2 (nI_lt (a := 1) q hj)
    rcases (show j = 0 ∨ j = 1 by omega) with q | q
    · left; rw [q]; rfl
    · right; rw [q]; rfl
  · rintro (rfl | rfl) <;> decide
theorem isZeroOrOne (v : Int32) : fX3_isZeroOrOne v = some (bI (decide (v = 0 ∨ v = 1))) := by
  unfold fX3_isZeroOrOne fX3_isZeroOrOne_9 fX3_isZeroOrOne_14
  rw [ck_t zb_0, ck_t zb_1]
  by_cases h : v = 0
  · rw [if_pos h, decide_eq_true (Or.inl h)]; rfl
  · rw [if_neg h]
    by_cases h2 : v = 1
    · rw [if_pos h2, decide_eq_true (Or.inr h2)]; rfl
    · rw [if_neg h2, decide_eq_false (fun q => q.elim h h2)]; rfl
theorem within_zo (v : Int32) : fX4_within v 0 1 = some (bI (decide (v = 0 ∨ v = 1))) := by
  rw [withinX]
  congr 2
  rw [decide_eq_decide]
  exact zo_iff v
theorem bI_t : ¬ bI true = 0 := by decide
theorem bI_f : bI false = 0 := by decide
section
variable {A B : Me} {c : Ce} {len tr N : Nat} {pg : Nat → Nat}
theorem stay (h : RelX A B c len pg tr) (hN : tr ≤ N) {A' B' : Me} (ga : Ag SA A A') (gb : AgB B B') : Rel A' B' (N + 1) := ⟨c, len, pg, tr, h.ag ga gb, by omega⟩
theorem st_fault (h : Rel A B N) : StpP N A (fX3_fault A) (fX4_fault B) := by
  obtain ⟨c, len, pg, tr, h, hN⟩ := h
  obtain ⟨v, hv, e⟩ := firstFault h.2.2.2.1
  obtain ⟨w, B', hw, e2, g, -⟩ := read_ h.2.2.2.1
  have := hv.uniq hw
  subst this
  refine ⟨nI v, B', ?_, ?_, stay h hN Ag.rf g⟩
  · unfold fX3_fault; rw [bi_e e]
  · unfold fX4_fault; rw [b2_e e2]
theorem st_table (h : Rel A B N) (v : Int32) : StpA N (fX3_table A v) (fX4_table B v) := by
  obtain ⟨c, len, pg, tr, h, hN⟩ := h
  obtain ⟨hA, hB, hw, -⟩ := id h
  unfold fX3_table fX4_table fX4_table_28
  rw [bi_e (arePeople hA hw v), bi_e (arePeopleT hB hw v)]
  cases hp : apB v (c_p c)
  · rw [if_pos bI_f, if_pos bI_f]
    exact ⟨_, A, B, rfl, rfl, stay h hN Ag.rf AgB.rf⟩
  · rw [if_neg bI_t, if_neg bI_t, bi_e (isThere hA hw), hB.2.1]
    have hn5 := hw.1
    by_cases z : 0 < c_n c
    · rw [decide_eq_true z, if_neg bI_t, if_neg (fun x => by have := (nI_eq0 (by omega)).mp x; omega)]
      obtain ⟨m, hm, rfl⟩ := apB_of hw.2.1 hp
      have hpw : 2 ^ c_p c ≤ 32 := Nat.pow_le_pow_right (by omega) hw.2.1
      obtain ⟨A', q1, q2⟩ := seated_c hA hw (nI m) (fun i h1 h2 => by
        rw [bt_nI m i h2]
        exact Nat.testBit_lt_two_pow (Nat.lt_of_lt_of_le (show m < 32 by omega) (Nat.pow_le_pow_right (n := 2) (by omega) (show 5 ≤ i by omega))))
      obtain ⟨B', p1, p2⟩ := tableNow hB hw (nI m)
      rw [b2_e q1, b2_e p1, koenig hw]
      exact ⟨_, A', B', rfl, rfl, stay h hN (SA_9 q2) p2⟩
    · rw [decide_eq_false z, if_pos bI_f, if_pos ((nI_eq0 (by omega)).mpr (by omega))]
      exact ⟨_, A, B, rfl, rfl, stay h hN Ag.rf AgB.rf⟩
theorem st_blend (h : Rel A B N) (v l w : Int32) : StpA N (fX3_blend A v l w) (fX4_blend B v l w) := by
  obtain ⟨c, len, pg, tr, h, hN⟩ := h
  obtain ⟨hA, hB, hw, -⟩ := id h
  have out : StpA N (some ((-102 : Int32), A)) (some ((-102 : Int32), B)) := ⟨_, A, B, rfl, rfl, stay h hN Ag.rf AgB.rf⟩
  unfold fX3_blend fX3_blend_28 fX3_blend_66 fX4_blend fX4_blend_27 fX4_blend_49
  rw [bi_e (arePeople hA hw v), bi_e (arePeopleT hB hw v), bi_e (withinX _ _ _), bi_e (isZeroOrOne w), bi_e (within_zo w)]
  cases hp : apB v (c_p c)
  · rw [if_pos bI_f, if_pos bI_f]; exact out
  · rw [if_neg bI_t, if_neg bI_t]
    by_cases z1 : l < 0
    · rw [if_pos z1, decide_eq_false (fun q => q.1 z1), if_pos bI_f]; exact out
    · rw [if_neg z1]
      by_cases z2 : (99 : Int32) < l
      · rw [if_pos z2, decide_eq_false (fun q => q.2 z2), if_pos bI_f]; exact out
      · rw [if_neg z2, decide_eq_true (⟨z1, z2⟩ : ¬ l < 0 ∧ ¬ (99 : Int32) < l), if_neg bI_t]
        by_cases z3 : w = 0 ∨ w = 1
        · rw [decide_eq_true z3, if_neg bI_t, if_neg bI_t, bi_e (isThere hA hw), hB.2.1]
          have hn5 := hw.1
          by_cases z : 0 < c_n c
          · rw [decide_eq_true z, if_neg bI_t, if_neg (fun x => by have := (nI_eq0 (by omega)).mp x; omega)]
            obtain ⟨A', q1, q2⟩ := leastBlend hA hw v l
            obtain ⟨B', p1, p2⟩ := blendNow hB hw v l w
            rw [b2_e q1, b2_e p1]
            by_cases y : w = 0
            · rw [if_pos y, bi_e (casksIn hw v l), y]
              exact ⟨_, A', B', rfl, rfl, stay h hN (SA_S2 (by omega) (by omega) q2) (AgB.of p2)⟩
            · rw [if_neg y]
              have w1 : w = 1 := z3.elim (fun x => absurd x y) id
              refine ⟨_, A', B', rfl, ?_, stay h hN (SA_S2 (by omega) (by omega) q2) (AgB.of p2)⟩
              unfold bln
              rw [if_pos (Or.inr w1)]
          · rw [decide_eq_false z, if_pos bI_f, if_pos ((nI_eq0 (by omega)).mpr (by omega))]
            exact ⟨_, A, B, rfl, rfl, stay h hN Ag.rf AgB.rf⟩
        · rw [decide_eq_false z3, if_pos bI_f, if_pos bI_f]; exact out
theorem st_top (h : Rel A B N) (v i w : Int32) : StpA N (fX3_top A v i w) (fX4_top B v i w) := by
  obtain ⟨c, len, pg, tr, h, hN⟩ := h
  obtain ⟨hA, hB, hw, -⟩ := id h
  have hn5 := hw.1
  unfold fX3_top fX3_top_32 fX4_top fX4_top_38 fX4_top_40
  rw [bi_e (hasCask hA i), bi_e (isCask hB hw i), bi_e (arePeople hA hw v), bi_e (arePeopleT hB hw v), bi_e (isZeroOrOne w), bi_e (within_zo w)]
  cases hc : icB i (c_n c)
  · rw [if_pos bI_f, if_pos bI_f]
    exact ⟨_, A, B, rfl, rfl, stay h hN Ag.rf AgB.rf⟩
  · rw [if_neg bI_t, if_neg bI_t]
    cases hp : apB v (c_p c)
    · rw [if_pos bI_f, if_pos bI_f]
      exact ⟨_, A, B, rfl, rfl, stay h hN Ag.rf AgB.rf⟩
    · rw [if_neg bI_t, if_neg bI_t]
      by_cases z3 : w = 0 ∨ w = 1
      · rw [decide_eq_true z3, if_neg bI_t, if_neg bI_t]
        obtain ⟨j, hj, rfl⟩ := icB_of (by omega) hc
        rw [ck_t (inb_t (by omega) (by omega)), nI_clamp (by omega)]
        obtain ⟨r, A', B', t1, t2, t3, t4⟩ := top_both hA hB hw v w (show j < 5 by omega)
        rw [t1, b2_e t3]
        exact ⟨r, A', B', rfl, rfl, stay h hN (SA_S4 t2) (AgB.of t4)⟩
      · rw [decide_eq_false z3, if_pos bI_f, if_pos bI_f]
        exact ⟨_, A, B, rfl, rfl, stay h hN Ag.rf AgB.rf⟩
theorem st_births (h : Rel A B N) (v : Int32) : StpP N A (fX3_births A v) (fX4_births B v) := by
  obtain ⟨c, len, pg, tr, h, hN⟩ := h
  obtain ⟨hA, hB, hw, -⟩ := id h
  have hn5 := hw.1
  unfold fX3_births fX4_births fX4_births_29
  rw [bi_e (isKind v), bi_e (within_kd v)]
  cases hk : kdB v
  · rw [if_pos bI_f, if_pos bI_f]
    exact ⟨_, B, rfl, rfl, stay h hN Ag.rf AgB.rf⟩
  · rw [if_neg bI_t, if_neg bI_t, bi_e (isThere hA hw), hB.2.1]
    by_cases z : 0 < c_n c
    · rw [decide_eq_true z, if_neg bI_t, if_neg (fun x => by have := (nI_eq0 (by omega)).mp x; omega), bi_e (possibleBirths hA hw v)]
      obtain ⟨B', p1, p2⟩ := birthsNow hB hw v
      rw [b2_e p1]
      exact ⟨_, B', rfl, rfl, stay h hN Ag.rf (AgB.of p2)⟩
    · rw [decide_eq_false z, if_pos bI_f, if_pos ((nI_eq0 (by omega)).mpr (by omega))]
      exact ⟨_, B, rfl, rfl, stay h hN Ag.rf AgB.rf⟩
theorem st_ask (h : Rel A B N) (v : Int32) : StpP N A (fX3_ask A v) (fX4_ask B v) := by
  obtain ⟨c, len, pg, tr, h, hN⟩ := h
  obtain ⟨hA, hB, hw, -⟩ := id h
  have hn5 := hw.1
  unfold fX3_ask fX4_ask fX4_ask_29
  rw [bi_e (isKind v), bi_e (within_kd v)]
  cases hk : kdB v
  · rw [if_pos bI_f, if_pos bI_f]
    exact ⟨_, B, rfl, rfl, stay h hN Ag.rf AgB.rf⟩
  · rw [if_neg bI_t, if_neg bI_t, bi_e (isThere hA hw), hB.2.1]
    by_cases z : 0 < c_n c
    · rw [decide_eq_true z, if_neg bI_t, if_neg (fun x => by have := (nI_eq0 (by omega)).mp x; omega), bi_e (bestQuestion hA hw v)]
      obtain ⟨B', p1, p2⟩ := askNow hB hw v
      rw [b2_e p1]
      exact ⟨_, B', rfl, rfl, stay h hN Ag.rf (AgB.of p2)⟩
    · rw [decide_eq_false z, if_pos bI_f, if_pos ((nI_eq0 (by omega)).mpr (by omega))]
      exact ⟨_, B, rfl, rfl, stay h hN Ag.rf AgB.rf⟩
theorem st_topped (h : Rel A B N) (i v w : Int32) : StpA N (fX3_topped A i v w) (fX4_topped B i v w) := by
  obtain ⟨c, len, pg, tr, h, hN⟩ := h
  obtain ⟨hA, hB, hw, -⟩ := id h
  have hn5 := hw.1
  unfold fX3_topped fX3_topped_32 fX4_topped fX4_topped_38 fX4_topped_40
  rw [bi_e (hasCask hA i), bi_e (isCask hB hw i), bi_e (arePeople hA hw v), bi_e (arePeopleT hB hw v), bi_e (isZeroOrOne w), bi_e (within_zo w)]
  cases hc : icB i (c_n c)
  · rw [if_pos bI_f, if_pos bI_f]
    exact ⟨_, A, B, rfl, rfl, stay h hN Ag.rf AgB.rf⟩
  · rw [if_neg bI_t, if_neg bI_t]
    cases hp : apB v (c_p c)
    · rw [if_pos bI_f, if_pos bI_f]
      exact ⟨_, A, B, rfl, rfl, stay h hN Ag.rf AgB.rf⟩
    · rw [if_neg bI_t, if_neg bI_t]
      by_cases z3 : w = 0 ∨ w = 1
      · rw [decide_eq_true z3, if_neg bI_t, if_neg bI_t]
        obtain ⟨j, hj, rfl⟩ := icB_of (by omega) hc
        obtain ⟨A', t1, t2⟩ := topped_c hA hw (show j < 5 by omega) v w
        obtain ⟨B', t3, t4⟩ := toppedNow hB hw (show j < 5 by omega) v w
        rw [t1, b2_e t3]
        exact ⟨_, A', B', rfl, rfl, stay h hN (SA_S2 (by omega) (by omega) t2) t4⟩
      · rw [decide_eq_false z3, if_pos bI_f, if_pos bI_f]
        exact ⟨_, A, B, rfl, rfl, stay h hN Ag.rf AgB.rf⟩
theorem st_feasts (h : Rel A B N) (t s w : Int32) : StpA N (fX3_feasts A t s w) (fX4_feasts B t s w) := by
  obtain ⟨c, len, pg, tr, h, hN⟩ := h
  obtain ⟨hA, hB, hw, -⟩ := id h
  have hp5 := hw.2.1
  have out : StpA N (some ((-102 : Int32), A)) (some ((-102 : Int32), B)) := ⟨_, A, B, rfl, rfl, stay h hN Ag.rf AgB.rf⟩
  unfold fX3_feasts fX3_feasts_24 fX4_feasts fX4_feasts_23 fX4_feasts_45
  rw [bi_e (withinX _ _ _), bi_e (withinX _ _ _)]
  by_cases z1 : t < 1
  · rw [if_pos z1, decide_eq_false (fun q => q.1 z1), if_pos bI_f]; exact out
  · rw [if_neg z1]
    by_cases z2 : (60 : Int32) < t
    · rw [if_pos z2, decide_eq_false (fun q => q.2 z2), if_pos bI_f]; exact out
    · rw [if_neg z2, decide_eq_true (⟨z1, z2⟩ : ¬ t < 1 ∧ ¬ (60 : Int32) < t), if_neg bI_t]
      by_cases z3 : s < 0
      · rw [if_pos z3, if_pos z3]; exact out
      · rw [if_neg z3, if_neg z3]
        by_cases z4 : w < 0
        · rw [if_pos z4, decide_eq_false (fun q => q.1 z4), if_pos bI_f]; exact out
        · rw [if_neg z4]
          by_cases z5 : w ≤ 2
          · rw [if_pos z5, decide_eq_true (⟨z4, Int32.not_lt.mpr z5⟩ : ¬ w < 0 ∧ ¬ (2 : Int32) < w), if_neg bI_t, hA.2.2.1, hB.2.2.1]
            by_cases z6 : c_p c = 0
            · rw [if_pos ((nI_eq0 (by omega)).mpr z6), if_pos ((nI_eq0 (by omega)).mpr z6)]
              exact ⟨_, A, B, rfl, rfl, stay h hN Ag.rf AgB.rf⟩
            · rw [if_neg (fun x => z6 ((nI_eq0 (by omega)).mp x)), if_neg (fun x => z6 ((nI_eq0 (by omega)).mp x))]
              have t0 : ¬ t < 0 := fun x => z1 (Int32.lt_trans x (by decide))
              obtain ⟨tn, htn, rfl⟩ := nI_of t0
              obtain ⟨q, hq, rfl⟩ := nI_of z3
              have ht60 : tn ≤ 60 := by
                rcases Nat.lt_or_ge 60 tn with l | l
                · exact absurd (nI_lt (a := 60) l htn) z2
                · exact l
              obtain ⟨r, A', B', u1, u2, u3, u4⟩ := feasts_both hA hB hw (by omega) ht60 hq w
              rw [u1, b2_e u3]
              exact ⟨r, A', B', rfl, rfl, stay h hN (SA_37 u2) u4⟩
          · rw [if_neg z5, decide_eq_false (fun q => q.2 (Int32.not_le.mp z5)), if_pos bI_f]; exact out
end
