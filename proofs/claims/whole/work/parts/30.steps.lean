/-! ===== steps: cask, about, as, count, letter, blank, forget, trial, person ===== -/
section
variable {A B : Me} {c : Ce} {len tr N : Nat} {pg : Nat → Nat}
theorem caskNow_x (hB : RB B c) (hw : Wf c) {i : Nat} (hi : i < 5) (w : Int32) (hw5 : w = 0 ∨ w = 1 ∨ w = 2 ∨ w = 3) : ∃ B', fX4_caskNow B (nI i) w = some (if w = 0 then nI (sf (c_l c i) 10) else if w = 1 then ag (c_w c) (c_l c i) else if w = 2 then who c (c_l c i) else bsF (yb (c_l c i)) 10, B') ∧ Ag S60 B B' := by
  have hl := hw.2.2.2.1 i hi
  obtain ⟨B1, q1, q2, q3⟩ := think hi hB.2.2.2.2.1
  have hB1 := hB.ag q2
  refine ⟨B1, ?_, q2⟩
  unfold fX4_caskNow
  rw [bi_e q1, bi_e (litresThought q3), bi_e (ageThought q3 (by omega)), bi_e (whoMayT hB1 hw q3 (by omega)), bi_e (yearsThought q3 (by omega)), hB1.1]
  rcases hw5 with rfl | rfl | rfl | rfl
  · rw [if_pos rfl, if_pos rfl]
  · rw [if_neg (by decide), if_pos rfl, if_neg (by decide), if_pos rfl]
  · rw [if_neg (by decide), if_neg (by decide), if_pos rfl, if_neg (by decide), if_neg (by decide), if_pos rfl]
  · rw [if_neg (by decide), if_neg (by decide), if_neg (by decide), if_pos rfl, if_neg (by decide), if_neg (by decide), if_neg (by decide)]
theorem caskNow_y (hB : RB B c) {i y : Nat} (hi : i < 5) (hy : y < 10) : ∃ B', fX4_caskNow B (nI i) (nI (10 + y)) = some (nI (c_l c i y), B') ∧ Ag S60 B B' := by
  obtain ⟨B1, q1, q2, q3⟩ := think hi hB.2.2.2.2.1
  refine ⟨B1, ?_, q2⟩
  have ne : ∀ k : Nat, k < 10 → ¬ nI (10 + y) = nI k := fun k hk x => by have := nI_inj (by omega) (by omega) x; omega
  unfold fX4_caskNow
  rw [bi_e q1, if_neg (show ¬ nI (10 + y) = 0 from ne 0 (by omega)), if_neg (show ¬ nI (10 + y) = 1 from ne 1 (by omega)), if_neg (show ¬ nI (10 + y) = 2 from ne 2 (by omega)), if_neg (show ¬ nI (10 + y) = 3 from ne 3 (by omega)), show (10 : Int32) = nI 10 from rfl, pk_sub (by omega), show 10 + y - 10 = y by omega, ck_t (inb_t hy (by omega)), nI_clamp (by omega), q3 y hy]
theorem cask_x (hA : RC A 3 c) (hw : Wf c) {i : Nat} (hi : i < c_n c) (w : Int32) (hw5 : w = 0 ∨ w = 1 ∨ w = 2 ∨ w = 3) : fX3_cask A (nI i) w = some (if w = 0 then nI (sf (c_l c i) 10) else if w = 1 then ag (c_w c) (c_l c i) else if w = 2 then who c (c_l c i) else bsF (yb (c_l c i)) 10) := by
  have hn5 := hw.1
  have hl := hw.2.2.2.1 i (by omega)
  have hC : CR A (4 + 6 + 2 * i) (c_l c i) := hA.2.2.2.2.2.1 i (by omega)
  unfold fX3_cask fX3_cask_46
  rw [bi_e (hasCask hA _), icB_t hi (by omega), if_neg bI_t, ck_t (inb_t (by omega) (by omega)), nI_clamp (by omega), hC.2, hA.1, bi_e (age hC.1 (by omega) hC.2 _), bi_e (whoMay hA hw hC (by omega)), bi_e (yearBits hC.1 (by omega))]
  rcases hw5 with rfl | rfl | rfl | rfl
  · rw [if_pos (by decide), if_pos rfl, if_pos rfl]
  · rw [if_pos (by decide), if_neg (by decide), if_pos rfl, if_neg (by decide), if_pos rfl]
  · rw [if_pos (by decide), if_neg (by decide), if_neg (by decide), if_pos rfl, if_neg (by decide), if_neg (by decide), if_pos rfl]
  · rw [if_pos (by decide), if_neg (by decide), if_neg (by decide), if_neg (by decide), if_pos rfl, if_neg (by decide), if_neg (by decide), if_neg (by decide)]
theorem cask_y (hA : RC A 3 c) (hw : Wf c) {i y : Nat} (hi : i < c_n c) (hy : y < 10) : fX3_cask A (nI i) (nI (10 + y)) = some (nI (c_l c i y)) := by
  have hn5 := hw.1
  have hC : CR A (4 + 6 + 2 * i) (c_l c i) := hA.2.2.2.2.2.1 i (by omega)
  unfold fX3_cask
  rw [bi_e (hasCask hA _), icB_t hi (by omega), if_neg bI_t, ck_t (inb_t (by omega) (by omega)), nI_clamp (n := i) (by omega), show (10 : Int32) = nI 10 from rfl, show (20 : Int32) = nI 20 from rfl, if_neg (fun x => by have := (nI_ltI (by omega) (by omega)).mp x; omega), if_neg (lim_f (by omega)), pk_sub (by omega), show 10 + y - 10 = y by omega, ck_t (inb_t hy (by omega)), nI_clamp (by omega), hC.1 y hy]
/-- where what is neither of 0 to 3 nor of 10 to 19 -/
theorem what_cases (w : Int32) : (w = 0 ∨ w = 1 ∨ w = 2 ∨ w = 3) ∨ (∃ y, y < 10 ∧ w = nI (10 + y)) ∨ ((w < 10 ∨ (20 : Int32) ≤ w) ∧ ¬ w = 0 ∧ ¬ w = 1 ∧ ¬ w = 2 ∧ ¬ w = 3 ∧ ¬ (¬ w < 0 ∧ ¬ (3 : Int32) < w) ∧ ¬ (¬ w < 10 ∧ ¬ (19 : Int32) < w)) := by
  by_cases h0 : w < 0
  · right; right
    have ne : ∀ k : Nat, k < 100 → ¬ w = nI k := fun k hk e => by rw [e] at h0; exact nI_pos (by omega) h0
    have l10 : w < 10 := Int32.lt_trans h0 (by decide)
    exact ⟨Or.inl l10, ne 0 (by omega), ne 1 (by omega), ne 2 (by omega), ne 3 (by omega), fun x => x.1 h0, fun x => x.1 l10⟩
  · obtain ⟨j, hj, rfl⟩ := nI_of h0
    by_cases c1 : j < 4
    · left
      rcases (show j = 0 ∨ j = 1 ∨ j = 2 ∨ j = 3 by omega) with q | q | q | q
      · left; rw [q]; rfl
      · right; left; rw [q]; rfl
      · right; right; left; rw [q]; rfl
      · right; right; right; rw [q]; rfl
    · right
      by_cases c2 : 10 ≤ j ∧ j < 20
      · left; exact ⟨j - 10, by omega, by rw [show 10 + (j - 10) = j by omega]⟩
      · right
        have ne : ∀ k : Nat, k < 4 → ¬ nI j = nI k := fun k hk e => by have := nI_inj hj (by omega) e; omega
        refine ⟨?_, ne 0 (by omega), ne 1 (by omega), ne 2 (by omega), ne 3 (by omega), fun x => x.2 (nI_lt (a := 3) (by omega) hj), fun x => ?_⟩
        · by_cases c3 : j < 10
          · left; exact nI_lt (b := 10) c3 (by omega)
          · right; exact nI_le (a := 20) (by omega) hj
        · by_cases c3 : j < 10
          · exact x.1 (nI_lt (b := 10) c3 (by omega))
          · exact x.2 (nI_lt (a := 19) (by omega) hj)
theorem st_cask (h : Rel A B N) (v w : Int32) : StpP N A (fX3_cask A v w) (fX4_cask B v w) := by
  obtain ⟨c, len, pg, tr, h, hN⟩ := h
  obtain ⟨hA, hB, hw, -⟩ := id h
  have hn5 := hw.1
  cases hc : icB v (c_n c)
  · unfold fX3_cask fX4_cask fX4_cask_44
    rw [bi_e (hasCask hA v), bi_e (isCask hB hw v), hc, if_pos bI_f, if_pos bI_f]
    exact ⟨_, B, rfl, rfl, stay h hN Ag.rf AgB.rf⟩
  · obtain ⟨i, hi, rfl⟩ := icB_of (by omega) hc
    have em : fX4_cask B (nI i) w = (if bI (decide (¬ w < 0 ∧ ¬ (3 : Int32) < w)) = 0 then (if bI (decide (¬ w < 10 ∧ ¬ (19 : Int32) < w)) = 0 then some ((-102 : Int32), B) else b2 (fX4_caskNow B (nI i) w) fun r36 B36 => some (r36, B36)) else b2 (fX4_caskNow B (nI i) w) fun r36 B36 => some (r36, B36)) := by
      unfold fX4_cask fX4_cask_33 fX4_cask_44
      rw [bi_e (isCask hB hw _), hc, if_neg bI_t, bi_e (withinX _ _ _), bi_e (withinX _ _ _)]
    rw [em]
    rcases what_cases w with q | ⟨y, hy, rfl⟩ | ⟨q1, q2, q3, q4, q5, q6, q7⟩
    · obtain ⟨B', t1, t2⟩ := caskNow_x hB hw (show i < 5 by omega) w q
      rw [cask_x hA hw hi w q, show (decide (¬ w < 0 ∧ ¬ (3 : Int32) < w)) = true from by rcases q with rfl | rfl | rfl | rfl <;> decide, if_neg bI_t, b2_e t1]
      exact ⟨_, B', rfl, rfl, stay h hN Ag.rf (AgB.of t2)⟩
    · obtain ⟨B', t1, t2⟩ := caskNow_y hB (show i < 5 by omega) hy
      have n1 : (decide (¬ nI (10 + y) < (0 : Int32) ∧ ¬ (3 : Int32) < nI (10 + y))) = false := decide_eq_false (fun x => x.2 (nI_lt (a := 3) (by omega) (by omega)))
      have n2 : (decide (¬ nI (10 + y) < (10 : Int32) ∧ ¬ (19 : Int32) < nI (10 + y))) = true := decide_eq_true ⟨nI_nlt (b := 10) (by omega) (by omega), nI_nlt (a := 19) (by omega) (by omega)⟩
      rw [cask_y hA hw hi hy, n1, n2, if_pos bI_f, if_neg bI_t, b2_e t1]
      exact ⟨_, B', rfl, rfl, stay h hN Ag.rf (AgB.of t2)⟩
    · rw [decide_eq_false q6, decide_eq_false q7, if_pos bI_f, if_pos bI_f]
      refine ⟨-102, B, ?_, rfl, stay h hN Ag.rf AgB.rf⟩
      unfold fX3_cask fX3_cask_46
      rw [bi_e (hasCask hA _), hc, if_neg bI_t, ck_t (inb_t (by omega) (by omega))]
      rw [if_neg q2, if_neg q3, if_neg q4, if_neg q5]
      rcases q1 with z | z
      · rw [if_pos z]
      · by_cases y : w < 10
        · rw [if_pos y]
        · rw [if_neg y, if_pos z]
theorem about_x (hA : RC A 3 c) (hw : Wf c) {p : Nat} (hp : p < c_p c) (w : Int32) (hw5 : w = 0 ∨ w = 1 ∨ w = 2 ∨ w = 3) : fX3_about A (nI p) w = some (if w = 0 then c_k c p else if w = 1 then c_b c p else if w = 2 then mof_ c p else c_i c p) := by
  have hp5 := hw.2.1
  have hx : A 5 p = c_k c p ∧ A 6 p = c_b c p ∧ A 7 p = c_i c p := hA.2.2.2.2.2.2.1 p hp
  unfold fX3_about
  rw [bi_e (hasPerson hA _), icB_t hp (by omega), if_neg bI_t, ck_t (inb_t (by omega) (by omega)), ck_t (inb_t (by omega) (by omega)), ck_t (inb_t (by omega) (by omega)), nI_clamp (by omega), hx.1, hx.2.1, hx.2.2, bi_e (casksFor hA hw hp)]
  rcases hw5 with rfl | rfl | rfl | rfl
  · rw [if_pos rfl, if_pos rfl]
  · rw [if_neg (by decide), if_pos rfl, if_neg (by decide), if_pos rfl]
  · rw [if_neg (by decide), if_neg (by decide), if_pos rfl, if_neg (by decide), if_neg (by decide), if_pos rfl]
  · rw [if_neg (by decide), if_neg (by decide), if_neg (by decide), if_pos rfl, if_neg (by decide), if_neg (by decide), if_neg (by decide)]
theorem personNow_x (hB : RB B c) (hw : Wf c) {p : Nat} (hp : p < c_p c) (w : Int32) (hw5 : w = 0 ∨ w = 1 ∨ w = 2 ∨ w = 3) : ∃ B', fX4_personNow B (nI p) w = some (if w = 0 then c_k c p else if w = 1 then c_b c p else if w = 2 then mof_ c p else c_i c p, B') ∧ Ag S60 B B' := by
  have hp5 := hw.2.1
  have hx := hB.2.2.2.2.2.1 p hp
  obtain ⟨B1, q1, q2⟩ := mayOf hB hw hp
  unfold fX4_personNow fX4_personNow_46
  rw [ck_t (inb_t (by omega) (by omega)), ck_t (inb_t (by omega) (by omega)), ck_t (inb_t (by omega) (by omega)), nI_clamp (by omega), hx.1, hx.2.1, hx.2.2, b2_e q1]
  rcases hw5 with rfl | rfl | rfl | rfl
  · rw [if_pos rfl, if_pos rfl]; exact ⟨B, rfl, Ag.rf⟩
  · rw [if_neg (by decide), if_pos rfl, if_neg (by decide), if_pos rfl]; exact ⟨B, rfl, Ag.rf⟩
  · rw [if_neg (by decide), if_neg (by decide), if_pos rfl, if_neg (by decide), if_neg (by decide), if_pos rfl]; exact ⟨B1, rfl, q2⟩
  · rw [if_neg (by decide), if_neg (by decide), if_neg (by decide), if_neg (by decide), if_neg (by decide), if_neg (by decide)]; exact ⟨B, rfl, Ag.rf⟩
theorem what4 (w : Int32) : (w = 0 ∨ w = 1 ∨ w = 2 ∨ w = 3) ∨ (¬ w = 0 ∧ ¬ w = 1 ∧ ¬ w = 2 ∧ ¬ w = 3 ∧ ¬ (¬ w < 0 ∧ ¬ (3 : Int32) < w)) := by
  rcases what_cases w with q | ⟨y, hy, rfl⟩ | ⟨-, q2, q3, q4, q5, q6, -⟩
  · left; exact q
  · right
    have ne : ∀ k : Nat, k < 4 → ¬ nI (10 + y) = nI k := fun k hk e => by have := nI_inj (by omega) (by omega) e; omega
    exact ⟨ne 0 (by omega), ne 1 (by omega), ne 2 (by omega), ne 3 (by omega), fun x => x.2 (nI_lt (a := 3) (by omega) (by omega))⟩
  · right; exact ⟨q2, q3, q4, q5, q6⟩
theorem st_about (h : Rel A B N) (v w : Int32) : StpP N A (fX3_about A v w) (fX4_about B v w) := by
  obtain ⟨c, len, pg, tr, h, hN⟩ := h
  obtain ⟨hA, hB, hw, -⟩ := id h
  have hp5 := hw.2.1
  unfold fX4_about fX4_about_33
  rw [bi_e (isPerson hB hw v)]
  cases hc : icB v (c_p c)
  · unfold fX3_about
    rw [bi_e (hasPerson hA v), hc, if_pos bI_f, if_pos bI_f]
    exact ⟨_, B, rfl, rfl, stay h hN Ag.rf AgB.rf⟩
  · obtain ⟨p, hp, rfl⟩ := icB_of (by omega) hc
    rw [if_neg bI_t, bi_e (withinX _ _ _)]
    rcases what4 w with q | ⟨q2, q3, q4, q5, q6⟩
    · obtain ⟨B', t1, t2⟩ := personNow_x hB hw hp w q
      rw [about_x hA hw hp w q, show (decide (¬ w < 0 ∧ ¬ (3 : Int32) < w)) = true from by rcases q with rfl | rfl | rfl | rfl <;> decide, if_neg bI_t, b2_e t1]
      exact ⟨_, B', rfl, rfl, stay h hN Ag.rf (AgB.of t2)⟩
    · rw [decide_eq_false q6, if_pos bI_f]
      refine ⟨-102, B, ?_, rfl, stay h hN Ag.rf AgB.rf⟩
      unfold fX3_about
      rw [bi_e (hasPerson hA _), hc, if_neg bI_t, if_neg q2, if_neg q3, if_neg q4, if_neg q5]
theorem st_as (h : Rel A B N) (v w : Int32) : StpQ N A B (fX3_as A v w) (fX4_as B v w) := by
  obtain ⟨c, len, pg, tr, h, hN⟩ := h
  obtain ⟨hA, hB, hw, -⟩ := id h
  have hp5 := hw.2.1
  have st : ∀ r : Int32, StpQ N A B (some r) (some r) := fun r => ⟨r, rfl, rfl, stay h hN Ag.rf AgB.rf⟩
  unfold fX3_as fX3_as_45 fX4_as fX4_as_49 fX4_as_53 fX4_as_54
  rw [bi_e (hasPerson hA v), bi_e (isPerson hB hw v)]
  cases hc : icB v (c_p c)
  · rw [if_pos bI_f, if_pos bI_f]; exact st _
  · obtain ⟨p, hp, rfl⟩ := icB_of (by omega) hc
    rw [if_neg bI_t, if_neg bI_t, bi_e (isKind w), bi_e (within_kd w)]
    cases hk : kdB w
    · rw [if_pos bI_f, if_pos bI_f]; exact st _
    · have hx : A 5 p = c_k c p ∧ A 6 p = c_b c p ∧ A 7 p = c_i c p := hA.2.2.2.2.2.2.1 p hp
      have hy := hB.2.2.2.2.2.1 p hp
      rw [if_neg bI_t, if_neg bI_t, ck_t (inb_t (by omega) (by omega)), ck_t (inb_t (by omega) (by omega)), nI_clamp (by omega), hx.1, hy.1]
      unfold fX3_isOfKind fX3_isOfKind_19 fX3_isOfKind_23 fX3_isOfKind_24
      rw [ck_t zb_0, ck_t zb_1]
      by_cases z1 : w = 0
      · rw [if_pos z1, if_pos z1]; exact st _
      · rw [if_neg z1, if_neg z1]
        by_cases z2 : w = c_k c p
        · rw [if_pos z2, if_pos z2.symm]; exact st _
        · rw [if_neg z2, if_neg (show ¬ c_k c p = w from fun x => z2 x.symm)]
          by_cases z3 : w = 1
          · rw [if_pos z3, if_pos z3]
            by_cases z4 : c_k c p = 4
            · rw [if_pos z4, if_pos z4]; exact st _
            · rw [if_neg z4, if_neg z4]; exact st _
          · rw [if_neg z3, if_neg z3]; exact st _
/-- what count tells -/
def cntv (c : Ce) (len tr : Nat) (v : Int32) : Int32 := if v = 0 then c_w c else if v = 1 then nI (c_n c) else if v = 2 then nI (lsum (c_l c) (c_n c)) else if v = 3 then nI (c_p c) else if v = 4 then isum (c_i c) (c_p c) else if v = 5 then nI (c_t c) else if v = 6 then nI len else if v = 7 then nI tr else -102
theorem count_x (h : RelX A B c len pg tr) (v : Int32) : fX3_count A v = some (cntv c len tr v) := by
  obtain ⟨hA, hB, hw, hp, h7, -⟩ := h
  unfold fX3_count cntv
  rw [hA.1, hA.2.1, bi_e (litresInAll hA hw), hA.2.2.1, bi_e (illInAll hA hw), hA.2.2.2.1, hp.1, h7]
  repeat' split
  all_goals first | rfl | contradiction
theorem howMany_x (h : RelX A B c len pg tr) (v : Int32) : ∃ B', fX4_howMany B v = some (cntv c len tr v, B') ∧ Ag S60 B B' := by
  obtain ⟨hA, hB, hw, hp, -, h7, -⟩ := h
  obtain ⟨B1, q1, q2⟩ := litresAll hB hw
  unfold fX4_howMany cntv
  rw [hB.1, hB.2.1, b2_e q1, hB.2.2.1, bi_e (illAll hB hw), hB.2.2.2.1, hp.2.1, h7]
  by_cases z2 : v = 2
  · rw [if_neg (by rw [z2]; decide), if_neg (by rw [z2]; decide), if_pos z2, if_neg (by rw [z2]; decide), if_neg (by rw [z2]; decide), if_pos z2]
    exact ⟨B1, rfl, q2⟩
  · refine ⟨B, ?_, Ag.rf⟩
    rw [if_neg z2, if_neg z2]
    repeat' split
    all_goals first | rfl | contradiction
theorem st_count (h : Rel A B N) (v : Int32) : StpP N A (fX3_count A v) (fX4_count B v) := by
  obtain ⟨c, len, pg, tr, h, hN⟩ := h
  obtain ⟨B', t1, t2⟩ := howMany_x h v
  unfold fX4_count
  rw [count_x h v, b2_e t1]
  exact ⟨_, B', rfl, rfl, stay h hN Ag.rf (AgB.of t2)⟩
/-! what changes the page -/
theorem RelX.page {A' B' : Me} {len' : Nat} {pg' : Nat → Nat} (h : RelX A B c len pg tr) (ga : ∀ k, k ≠ 1 → k ≠ 2 → A' k = A k) (gb : ∀ k j, ¬ (k = 58 ∧ j = 12) → k ≠ 66 → B' k j = B k j) (hp : PG A' B' len' pg') : RelX A' B' c len' pg' tr := by
  obtain ⟨h1, h2, h3, h4, h5, h6, h7⟩ := h
  have e0 : A' 0 = A 0 := ga 0 (by omega) (by omega)
  have ag : Ag (fun j => j == 1 || j == 2) A A' := fun k hk => by
    simp at hk
    exact ga k hk.1 hk.2
  have kb : ∀ ck, KB B ck → KB B' ck := fun ck ⟨g1, g2, g3, g4, g5⟩ => ⟨by rw [gb 58 23 (by omega) (by omega)]; exact g1, by rw [gb 58 24 (by omega) (by omega)]; exact g2, fun i hi y hy => by rw [gb 70 _ (by omega) (by omega)]; exact g3 i hi y hy, fun i hi => by rw [gb 71 _ (by omega) (by omega)]; exact g4 i hi, fun i hi => by rw [gb 72 _ (by omega) (by omega), gb 73 _ (by omega) (by omega)]; exact g5 i hi⟩
  refine ⟨h1.ag ag (fun j hj => by simp; omega), ?_, h3, hp, by rw [e0]; exact h5, by rw [gb 58 0 (by omega) (by omega)]; exact h6, ?_⟩
  · obtain ⟨g1, g2, g3, g4, g5, g6, g7⟩ := h2
    exact ⟨by rw [gb 58 1 (by omega) (by omega)]; exact g1, by rw [gb 58 2 (by omega) (by omega)]; exact g2, by rw [gb 58 5 (by omega) (by omega)]; exact g3, by rw [gb 58 9 (by omega) (by omega)]; exact g4, fun i hi y hy => by rw [gb 59 _ (by omega) (by omega)]; exact g5 i hi y hy, fun i hi => by rw [gb 61 _ (by omega) (by omega), gb 62 _ (by omega) (by omega), gb 63 _ (by omega) (by omega)]; exact g6 i hi, fun i hi => by rw [gb 64 _ (by omega) (by omega), gb 65 _ (by omega) (by omega)]; exact g7 i hi⟩
  · rcases h7 with ⟨g1, g2⟩ | ⟨g1, g2, g3, ck, g4, g5, g6⟩
    · left
      exact ⟨by rw [e0]; exact g1, by rw [gb 58 21 (by omega) (by omega), gb 58 22 (by omega) (by omega)]; exact g2⟩
    · right
      exact ⟨by rw [e0]; exact g1, by rw [gb 58 21 (by omega) (by omega)]; exact g2, by rw [gb 58 22 (by omega) (by omega)]; exact g3, ck, g4.ag ag (fun j hj => by simp; omega), g5, kb ck g6⟩
theorem byte_x {x : Nat} (hx : x < 127) : vp_nar .byte (nI x).toInt8.toInt32 = nI x :=
  (by decide +kernel : ∀ x : Fin 127, vp_nar .byte (nI x.val).toInt8.toInt32 = nI x.val) ⟨x, hx⟩
theorem st_letter (h : Rel A B N) (v : Int32) : StpA N (fX3_letter A v) (fX4_letter B v) := by
  obtain ⟨c, len, pg, tr, h, hN⟩ := h
  have hp := h.2.2.2.1
  have hl := hp.2.2.1
  unfold fX3_letter fX3_letter_12 fX4_letter
  rw [bi_e (withinX _ _ _)]
  by_cases z1 : v < 32
  · rw [if_pos z1, decide_eq_false (fun q => q.1 z1), if_pos bI_f]
    exact ⟨_, A, B, rfl, rfl, stay h hN Ag.rf AgB.rf⟩
  · rw [if_neg z1]
    by_cases z2 : v ≤ 126
    · rw [if_pos z2, decide_eq_true (⟨z1, Int32.not_lt.mpr z2⟩ : ¬ v < 32 ∧ ¬ (126 : Int32) < v), if_neg bI_t, hp.1, hp.2.1]
      have v0 : ¬ v < 0 := fun x => z1 (Int32.lt_trans x (by decide))
      obtain ⟨x, hx, rfl⟩ := nI_of v0
      have x1 : 32 ≤ x := by
        rcases Nat.lt_or_ge x 32 with l | l
        · exact absurd (nI_lt (b := 32) l (by omega)) z1
        · exact l
      have x2 : x ≤ 126 := (nI_leI (b := 126) hx (by omega)).mp z2
      by_cases z3 : len = 18
      · rw [z3, if_neg (by decide), if_pos (by decide)]
        exact ⟨_, A, B, rfl, rfl, stay h hN Ag.rf AgB.rf⟩
      · rw [if_pos (by rw [show (18 : Int32) = nI 18 from rfl, nI_ltI (by omega) (by omega)]; omega), if_neg (fun (y : nI len = 18) => z3 (nI_inj (b := 18) (by omega) (by omega) y)), ck_t (inb_t (by omega) (by omega)), nI_clamp (by omega), byte_x (by omega)]
        unfold fX2_append fX2_append_29
        rw [hp.1, if_neg (g18_f (by omega)), ck_t (inb_t (by omega) (by omega)), nI_clamp (by omega)]
        rw [show (1 : Nat) + 1 = 2 from rfl, up2_ne (A := A) (k := 2) (i := 1) (by omega), hp.1, nI_1, up2_ne (A := B) (k := 66) (i := 58) (by omega), hp.2.1, nI_1, cell58s]
        have e1 : up2 (up2 A 2 len (nI x)) 1 1 (nI (len + 1)) 1 1 = nI (len + 1) := by rw [up2_at]; exact if_pos rfl
        rw [e1, b2_e rfl]
        refine ⟨_, _, _, rfl, rfl, c, len + 1, (fun i => if i = len then x else pg i), tr, h.page (fun k h1 h2 => by rw [up2_ne h1, up2_ne h2]) (fun k j h1 h2 => ?_) ⟨e1, cell58s, by omega, fun i hi => ?_⟩, by omega⟩
        · unfold up2
          by_cases ek : k = 58
          · rw [if_pos ek]
            unfold upd
            rw [if_neg (fun y => h1 ⟨ek, y⟩), if_neg (by omega), ek]
          · rw [if_neg ek, if_neg h2]
        · rw [up2_ne (by omega), up2_at, up2_ne (by omega), up2_at]
          unfold upd
          by_cases e : i = len
          · rw [if_pos e, if_pos e]
            show nI x = nI (if i = len then x else pg i) ∧ nI x = nI (if i = len then x else pg i) ∧ 32 ≤ (if i = len then x else pg i) ∧ (if i = len then x else pg i) ≤ 126
            rw [if_pos e]; exact ⟨rfl, rfl, x1, x2⟩
          · rw [if_neg e, if_neg e]
            show A 2 i = nI (if i = len then x else pg i) ∧ B 66 i = nI (if i = len then x else pg i) ∧ 32 ≤ (if i = len then x else pg i) ∧ (if i = len then x else pg i) ≤ 126
            rw [if_neg e]; exact hp.2.2.2 i (by omega)
    · rw [if_neg z2, decide_eq_false (fun q => q.2 (Int32.not_le.mp z2)), if_pos bI_f]
      exact ⟨_, A, B, rfl, rfl, stay h hN Ag.rf AgB.rf⟩
theorem st_blank (h : Rel A B N) : StpA N (fX3_blank A) (fX4_blank B) := by
  obtain ⟨c, len, pg, tr, h, hN⟩ := h
  have hp := h.2.2.2.1
  unfold fX3_blank fX2_clear fX4_blank
  rw [hp.1, hp.2.1, b2_e rfl]
  refine ⟨_, _, _, rfl, rfl, c, 0, pg, tr, h.page (fun k h1 _ => by rw [up2_ne h1]) (fun k j h1 h2 => ?_) ⟨by rw [up2_at]; exact if_pos rfl, cell58s, by omega, fun i hi => by omega⟩, by omega⟩
  unfold up2
  by_cases ek : k = 58
  · rw [if_pos ek]
    unfold upd
    rw [if_neg (fun y => h1 ⟨ek, y⟩), ek]
  · rw [if_neg ek]
end
