/-! ===== steps that change the cellar ===== -/
section
variable {A B A' B' : Me} {c c' : Ce} {len tr N : Nat} {pg : Nat → Nat}
theorem KB.mv {ck : Ce} (h : KB B ck) (gb1 : ∀ k, (k = 66 ∨ (70 ≤ k ∧ k ≤ 73)) → B' k = B k) (gb2 : ∀ j, (j = 0 ∨ j = 12 ∨ (21 ≤ j ∧ j ≤ 24)) → B' 58 j = B 58 j) : KB B' ck := by
  obtain ⟨g1, g2, g3, g4, g5⟩ := h
  exact ⟨by rw [gb2 23 (by omega)]; exact g1, by rw [gb2 24 (by omega)]; exact g2, by rw [gb1 70 (by omega)]; exact g3, by rw [gb1 71 (by omega)]; exact g4, by rw [gb1 72 (by omega), gb1 73 (by omega)]; exact g5⟩
theorem RelX.move (h : RelX A B c len pg tr) (hA : RC A' 3 c') (hB : RB B' c') (hw : Wf c') (ga : ∀ k, (k < 3 ∨ 19 < k) → A' k = A k) (gb1 : ∀ k, (k = 66 ∨ (70 ≤ k ∧ k ≤ 73)) → B' k = B k) (gb2 : ∀ j, (j = 0 ∨ j = 12 ∨ (21 ≤ j ∧ j ≤ 24)) → B' 58 j = B 58 j) (ho : ∀ ck, Old ck c → Old ck c') : RelX A' B' c' len pg tr := by
  obtain ⟨-, -, -, h4, h5, h6, h7⟩ := h
  have ag : Ag (SC 3) A A' := fun k hk => ga k (by have := SC_n hk; omega)
  refine ⟨hA, hB, hw, ?_, by rw [ga 0 (by omega)]; exact h5, by rw [gb2 0 (by omega)]; exact h6, ?_⟩
  · unfold PG
    rw [ga 1 (by omega), ga 2 (by omega), gb2 12 (by omega), gb1 66 (by omega)]
    exact h4
  · rcases h7 with ⟨g1, g2⟩ | ⟨g1, g2, g3, ck, g4, g5, g6⟩
    · left
      exact ⟨by rw [ga 0 (by omega)]; exact g1, by rw [gb2 21 (by omega), gb2 22 (by omega)]; exact g2⟩
    · right
      exact ⟨by rw [ga 0 (by omega)]; exact g1, by rw [gb2 21 (by omega)]; exact g2, by rw [gb2 22 (by omega)]; exact g3, ck, g4.ag ag (fun j hj => SC_f (by omega)), ho ck g5, g6.mv gb1 gb2⟩
def setT (c : Ce) (t : Nat) (cc : Nat → Nat) (oo : Nat → Bool) : Ce := (c_w c, c_n c, c_l c, c_p c, c_k c, c_b c, c_i c, t, cc, oo)
theorem st_forget (h : Rel A B N) : StpA N (fX3_forget A) (fX4_forget B) := by
  obtain ⟨c, len, pg, tr, h, hN⟩ := h
  obtain ⟨hA, hB, hw, -⟩ := id h
  unfold fX3_forget fX1_dropTrials fX4_forget
  rw [hA.2.2.2.1, hB.2.2.2.1, b2_e rfl]
  obtain ⟨a1, a2, a3, a4, a5, a6, a7, a8⟩ := hA
  obtain ⟨b1, b2, b3, b4, b5, b6, b7⟩ := hB
  have ne : ∀ k, k ≠ 3 → up2 (up2 A 3 9 0) 3 10 0 k = A k := fun k hk => by rw [up2_ne hk, up2_ne hk]
  refine ⟨_, _, _, rfl, rfl, setT c 0 (c_c c) (c_o c), len, pg, tr, h.move ?_ ?_ ?_ (fun k hk => ne k (by omega)) (fun k hk => up2_ne (by omega)) (fun j hj => cell58 (by omega)) (fun ck o => o), by omega⟩
  · refine ⟨by simp [up2, upd]; exact a1, by simp [up2, upd]; exact a2, by simp [up2, upd]; exact a3, by simp [up2, upd]; rfl, fun i hi => ?_, fun i hi => ?_, fun i hi => ?_, fun i hi => absurd hi (Nat.not_lt_zero _)⟩
    · have : up2 (up2 A 3 9 0) 3 10 0 3 10 = 0 := by simp [up2, upd]
      rw [this, b_0]
      show false = (decide (i < 0) && _)
      simp
    · unfold CR; rw [ne _ (by omega), ne _ (by omega)]; exact a6 i hi
    · rw [ne _ (by omega), ne _ (by omega), ne _ (by omega)]; exact a7 i hi
  · refine ⟨by rw [cell58 (by omega)]; exact b1, by rw [cell58 (by omega)]; exact b2, by rw [cell58 (by omega)]; exact b3, by rw [cell58s]; rfl, fun i hi y hy => by rw [up2_ne (by omega)]; exact b5 i hi y hy, fun i hi => by rw [up2_ne (by omega), up2_ne (by omega), up2_ne (by omega)]; exact b6 i hi, fun i hi => absurd hi (Nat.not_lt_zero _)⟩
  · exact ⟨hw.1, hw.2.1, Nat.zero_le _, hw.2.2.2.1, fun i hi => absurd hi (Nat.not_lt_zero _), hw.2.2.2.2.2⟩
theorem st_trial (h : Rel A B N) (v w : Int32) : StpA N (fX3_trial A v w) (fX4_trial B v w) := by
  obtain ⟨c, len, pg, tr, h, hN⟩ := h
  obtain ⟨hA, hB, hw, -⟩ := id h
  have hn5 := hw.1
  have ht8 := hw.2.2.1
  unfold fX3_trial fX4_trial
  rw [bi_e (hasCask hA v), bi_e (isCask hB hw v)]
  cases hc : icB v (c_n c)
  · rw [if_pos bI_f, if_pos bI_f]
    exact ⟨_, A, B, rfl, rfl, stay h hN Ag.rf AgB.rf⟩
  · obtain ⟨i, hi, rfl⟩ := icB_of (by omega) hc
    rw [if_neg bI_t, if_neg bI_t, hA.2.2.2.1, hB.2.2.2.1]
    by_cases z : c_t c = 8
    · rw [z, if_neg (by decide), if_pos (by decide)]
      exact ⟨_, A, B, rfl, rfl, stay h hN Ag.rf AgB.rf⟩
    · rw [if_pos (by rw [show (8 : Int32) = nI 8 from rfl, nI_ltI (by omega) (by omega)]; omega), if_neg (fun (y : nI (c_t c) = 8) => z (nI_inj (b := 8) (by omega) (by omega) y)), ck_t (inb_t (by omega) (by omega)), nI_clamp (by omega)]
      unfold fX1_noteTrial fX1_noteTrial_38 fX1_noteTrial_48 fX4_trial_50
      rw [hA.2.2.2.1, if_neg (g8_f (by omega)), ck_t (inb_t (by omega) (by omega)), nI_clamp (by omega), up2_ne (A := A) (k := 3 + 5) (i := 3) (by omega), hA.2.2.2.1]
      rw [up2_ne (A := B) (k := 64) (i := 58) (by omega), hB.2.2.2.1, ck_t (inb_t (by omega) (by omega)), nI_clamp (by omega)]
      rw [show ∀ x : Int32, up2 (up2 B 64 (c_t c) (nI i)) 65 (c_t c) x 58 9 = nI (c_t c) from fun x => by rw [up2_ne (by omega), up2_ne (by omega), hB.2.2.2.1]]
      obtain ⟨a1, a2, a3, a4, a5, a6, a7, a8⟩ := hA
      obtain ⟨b1, b2, b3, b4, b5, b6, b7⟩ := hB
      have hwf : Wf (setT c (c_t c + 1) (fun j => if j = c_t c then i else c_c c j) (fun j => if j = c_t c then decide (¬ w = 0) else c_o c j)) := by
        refine ⟨hw.1, hw.2.1, by show c_t c + 1 ≤ 8; omega, hw.2.2.2.1, fun j hj => ?_, hw.2.2.2.2.2⟩
        show (if j = c_t c then i else c_c c j) < c_n c
        by_cases e : j = c_t c
        · rw [if_pos e]; exact hi
        · rw [if_neg e]; exact hw.2.2.2.2.1 j (by have : j < c_t c + 1 := hj; omega)
      have fin : ∀ (A1 : Me) (bo : Int32), (∀ k, k ≠ 3 → k ≠ 8 → A1 k = A k) → A1 8 = upd (A 8) (c_t c) (nI i) → (∀ j, j ≠ 9 → j ≠ 10 → A1 3 j = A 3 j) → A1 3 9 = nI (c_t c + 1) → (∀ q, q < 32 → bt (A1 3 10) q = (decide (q < c_t c + 1) && (if q = c_t c then decide (¬ w = 0) else c_o c q))) → bo = bI (decide (¬ w = 0)) →
          ∃ r A' B', some (A1 3 9, A1) = some (r, A') ∧ some ((up2 (up2 (up2 B 64 (c_t c) (nI i)) 65 (c_t c) bo) 58 9 (nI (c_t c) + 1)) 58 9, up2 (up2 (up2 B 64 (c_t c) (nI i)) 65 (c_t c) bo) 58 9 (nI (c_t c) + 1)) = some (r, B') ∧ Rel A' B' (N + 1) := by
        intro A1 bo e1 e2 e3 e4 e5 e6
        rw [cell58s, nI_1, e4]
        refine ⟨_, _, _, rfl, rfl, _, len, pg, tr, h.move (c' := setT c (c_t c + 1) (fun j => if j = c_t c then i else c_c c j) (fun j => if j = c_t c then decide (¬ w = 0) else c_o c j)) ?_ ?_ hwf (fun k hk => e1 k (by omega) (by omega)) (fun k hk => by rw [up2_ne (by omega), up2_ne (by omega), up2_ne (by omega)]) (fun j hj => by rw [cell58 (by omega), up2_ne (by omega), up2_ne (by omega)]) (fun ck o => o), by omega⟩
        · refine ⟨by rw [e3 6 (by omega) (by omega)]; exact a1, by rw [e3 7 (by omega) (by omega)]; exact a2, by rw [e3 8 (by omega) (by omega)]; exact a3, e4, e5, fun j hj => ?_, fun j hj => ?_, fun j hj => ?_⟩
          · unfold CR; rw [e1 _ (by omega) (by omega), e1 _ (by omega) (by omega)]; exact a6 j hj
          · rw [e1 _ (by omega) (by omega), e1 _ (by omega) (by omega), e1 _ (by omega) (by omega)]; exact a7 j hj
          · show A1 8 j = nI (if j = c_t c then i else c_c c j)
            rw [e2]
            unfold upd
            by_cases e : j = c_t c
            · rw [if_pos e, if_pos e]
            · rw [if_neg e, if_neg e]; exact a8 j (by have : j < c_t c + 1 := hj; omega)
        · refine ⟨by rw [cell58 (by omega), up2_ne (by omega), up2_ne (by omega)]; exact b1, by rw [cell58 (by omega), up2_ne (by omega), up2_ne (by omega)]; exact b2, by rw [cell58 (by omega), up2_ne (by omega), up2_ne (by omega)]; exact b3, by rw [cell58s]; rfl, fun j hj y hy => by rw [up2_ne (by omega), up2_ne (by omega), up2_ne (by omega)]; exact b5 j hj y hy, fun j hj => by rw [up2_ne (by omega), up2_ne (by omega), up2_ne (by omega), up2_ne (by omega), up2_ne (by omega), up2_ne (by omega), up2_ne (by omega), up2_ne (by omega), up2_ne (by omega)]; exact b6 j hj, fun j hj => ?_⟩
          rw [up2_ne (by omega), up2_ne (by omega), up2_at, up2_ne (by omega), up2_at, up2_ne (by omega)]
          show upd (B 64) (c_t c) (nI i) j = nI (if j = c_t c then i else c_c c j) ∧ upd (B 65) (c_t c) bo j = bI (if j = c_t c then decide (¬ w = 0) else c_o c j)
          unfold upd
          by_cases e : j = c_t c
          · rw [if_pos e, if_pos e, if_pos e, if_pos e]; exact ⟨rfl, e6⟩
          · rw [if_neg e, if_neg e, if_neg e, if_neg e]; exact b7 j (by have : j < c_t c + 1 := hj; omega)
      have dl : ∀ q : Nat, q ≠ c_t c → (decide (q < c_t c) : Bool) = decide (q < c_t c + 1) := fun q hq => by
        by_cases l : q < c_t c
        · rw [decide_eq_true l, decide_eq_true (by omega : q < c_t c + 1)]
        · rw [decide_eq_false l, decide_eq_false (by omega : ¬ q < c_t c + 1)]
      by_cases y : w = 0
      · rw [if_pos y, if_pos y, b2_e rfl]
        refine fin _ 0 (fun k h1 h2 => by rw [up2_ne h1, up2_ne h2]) (by rw [up2_ne (by omega), up2_at]) (fun j h1 h2 => by rw [up2_at, up2_ne (by omega)]; exact if_neg h1) (by rw [up2_at, nI_1]; exact if_pos rfl) (fun q hq => ?_) (by rw [decide_eq_false (fun (x : ¬ w = 0) => x y)]; rfl)
        rw [up2_at, up2_ne (by omega)]
        rw [show upd (A 3) 9 (nI (c_t c) + 1) 10 = A 3 10 from if_neg (by omega), a5 q hq]
        by_cases e : q = c_t c
        · rw [if_pos e, decide_eq_false (by omega : ¬ q < c_t c), decide_eq_false (fun (x : ¬ w = 0) => x y)]; simp
        · rw [if_neg e, dl q e]
      · rw [if_neg y, if_neg y, b2_e rfl]
        rw [ck_t (inb_t (by omega) (by omega)), show up2 (up2 B 64 (c_t c) (nI i)) 65 (c_t c) 1 58 9 = nI (c_t c) from by rw [up2_ne (by omega), up2_ne (by omega), b4]]
        refine fin (up2 (up2 (up2 A (3 + 5) (c_t c) (nI i)) 3 10 (A 3 10 ||| 1 <<< (nI (c_t c) &&& 31))) 3 9 (up2 (up2 A (3 + 5) (c_t c) (nI i)) 3 10 (A 3 10 ||| 1 <<< (nI (c_t c) &&& 31)) 3 9 + 1)) 1 (fun k h1 h2 => by rw [up2_ne h1, up2_ne h1, up2_ne h2]) (by rw [up2_ne (by omega), up2_ne (by omega), up2_at]) (fun j h1 h2 => by rw [up2_at, up2_at, up2_ne (by omega)]; unfold upd; rw [if_neg h1, if_neg h2]) (by rw [up2_at]; show (if (9 : Nat) = 9 then _ else _) = _; rw [if_pos rfl, up2_at, up2_ne (by omega)]; show upd (A 3) 10 _ 9 + 1 = _; rw [show ∀ z, upd (A 3) 10 z 9 = A 3 9 from fun z => if_neg (by omega), a4, nI_1]) (fun q hq => ?_) (by rw [decide_eq_true y]; rfl)
        rw [up2_at, up2_at, up2_ne (by omega)]
        show bt (upd (upd (A 3) 10 (A 3 10 ||| (1 <<< (nI (c_t c) &&& 31)))) 9 _ 10) q = _
        rw [show ∀ z, upd (upd (A 3) 10 (A 3 10 ||| (1 <<< (nI (c_t c) &&& 31)))) 9 z 10 = A 3 10 ||| (1 <<< (nI (c_t c) &&& 31)) from fun z => by unfold upd; rw [if_neg (by omega), if_pos rfl], b_or, a5 q hq, b_one (c_t c) (by omega) hq]
        by_cases e : q = c_t c
        · rw [if_pos e, decide_eq_true e, decide_eq_true y, decide_eq_true (by omega : q < c_t c + 1)]; simp
        · rw [if_neg e, decide_eq_false e, dl q e]; simp
theorem st_person (h : Rel A B N) (v w : Int32) : StpA N (fX3_person A v w) (fX4_person B v w) := by
  obtain ⟨c, len, pg, tr, h, hN⟩ := h
  obtain ⟨hA, hB, hw, -⟩ := id h
  have hn5 := hw.1
  have hp5 := hw.2.1
  have out : StpA N (some ((-102 : Int32), A)) (some ((-102 : Int32), B)) := ⟨_, A, B, rfl, rfl, stay h hN Ag.rf AgB.rf⟩
  unfold fX3_person fX3_person_17 fX4_person fX4_person_19
  rw [bi_e (isKind v), bi_e (within_kd v), bi_e (withinX _ _ _)]
  cases hk : kdB v
  · rw [if_pos bI_f, if_pos bI_f]; exact out
  · rw [if_neg bI_t, if_neg bI_t]
    have h910 : (9 : Int32) < w ↔ ¬ w < 10 := by
      rw [Int32.not_lt, show (10 : Int32) = (9 : Int32) + 1 from by decide, Int32.lt_iff_toInt_lt, Int32.le_iff_toInt_le, show ((9 : Int32) + 1).toInt = 10 from by decide, show (9 : Int32).toInt = 9 from by decide]
      omega
    by_cases z1 : w < 0
    · rw [if_pos z1, decide_eq_false (fun q => q.1 z1), if_pos bI_f]; exact out
    · rw [if_neg z1]
      by_cases z2 : w < 10
      · rw [if_pos z2, decide_eq_true (⟨z1, fun q => h910.mp q z2⟩ : ¬ w < 0 ∧ ¬ (9 : Int32) < w), if_neg bI_t, bi_e (isThere hA hw), hB.2.1]
        by_cases z : 0 < c_n c
        · rw [decide_eq_true z, if_neg bI_t, if_neg (fun (x : nI (c_n c) = 0) => by have := (nI_eq0 (by omega)).mp x; omega), hA.2.2.1, hB.2.2.1]
          by_cases z3 : c_p c = 5
          · rw [z3, if_neg (by decide), if_pos (by decide)]
            exact ⟨_, A, B, rfl, rfl, stay h hN Ag.rf AgB.rf⟩
          · rw [if_pos (by rw [show (5 : Int32) = nI 5 from rfl, nI_ltI (by omega) (by omega)]; omega), if_neg (fun (y : nI (c_p c) = 5) => z3 (nI_inj (b := 5) (by omega) (by omega) y))]
            unfold fX1_welcome
            rw [hA.2.2.1, if_pos (by rw [show (5 : Int32) = nI 5 from rfl, nI_ltI (by omega) (by omega)]; omega), ck_t (inb_t (by omega) (by omega)), ck_t (inb_t (by omega) (by omega)), ck_t (inb_t (by omega) (by omega)), nI_clamp (by omega)]
            rw [up2_ne (k := 3 + 4) (i := 3) (by omega), up2_ne (k := 3 + 3) (i := 3) (by omega), up2_ne (k := 3 + 2) (i := 3) (by omega), hA.2.2.1, nI_1, b2_e rfl]
            rw [ck_t (inb_t (by omega) (by omega))]
            rw [up2_ne (A := B) (k := 61) (i := 58) (by omega), hB.2.2.1, nI_clamp (by omega), ck_t (inb_t (by omega) (by omega))]
            rw [up2_ne (k := 62) (i := 58) (by omega), up2_ne (A := B) (k := 61) (i := 58) (by omega), hB.2.2.1, nI_clamp (by omega), ck_t (inb_t (by omega) (by omega))]
            rw [up2_ne (k := 63) (i := 58) (by omega), up2_ne (k := 62) (i := 58) (by omega), up2_ne (A := B) (k := 61) (i := 58) (by omega), hB.2.2.1, nI_1, cell58s, nI_pred]
            obtain ⟨a1, a2, a3, a4, a5, a6, a7, a8⟩ := hA
            obtain ⟨b1, b2, b3, b4, b5, b6, b7⟩ := hB
            have neA : ∀ k, k ≠ 3 → k ≠ 5 → k ≠ 6 → k ≠ 7 → up2 (up2 (up2 (up2 A (3 + 2) (c_p c) v) (3 + 3) (c_p c) w) (3 + 4) (c_p c) 0) 3 8 (nI (c_p c + 1)) k = A k := fun k h1 h2 h3 h4 => by rw [up2_ne h1, up2_ne (by omega), up2_ne (by omega), up2_ne (by omega)]
            have ne3 : ∀ j, j ≠ 8 → up2 (up2 (up2 (up2 A (3 + 2) (c_p c) v) (3 + 3) (c_p c) w) (3 + 4) (c_p c) 0) 3 8 (nI (c_p c + 1)) 3 j = A 3 j := fun j hj => by rw [up2_at, up2_ne (by omega), up2_ne (by omega), up2_ne (by omega)]; exact if_neg hj
            refine ⟨_, _, _, rfl, rfl, (c_w c, c_n c, c_l c, c_p c + 1, (fun j => if j = c_p c then v else c_k c j), (fun j => if j = c_p c then w else c_b c j), (fun j => if j = c_p c then 0 else c_i c j), c_t c, c_c c, c_o c), len, pg, tr, h.move ?_ ?_ ?_ (fun k hk => neA k (by omega) (by omega) (by omega) (by omega)) (fun k hk => by rw [up2_ne (by omega), up2_ne (by omega), up2_ne (by omega), up2_ne (by omega)]) (fun j hj => by rw [cell58 (by omega), up2_ne (by omega), up2_ne (by omega), up2_ne (by omega)]) (fun ck o => ⟨o.1, o.2.1, o.2.2.1, by show c_p ck ≤ c_p c + 1; have := o.2.2.2.1; omega, fun j hj => ?_⟩), by omega⟩
            · refine ⟨by rw [ne3 6 (by omega)]; exact a1, by rw [ne3 7 (by omega)]; exact a2, by rw [up2_at]; exact if_pos rfl, by rw [ne3 9 (by omega)]; exact a4, by rw [ne3 10 (by omega)]; exact a5, fun j hj => ?_, fun j hj => ?_, fun j hj => ?_⟩
              · unfold CR; rw [neA _ (by omega) (by omega) (by omega) (by omega), neA _ (by omega) (by omega) (by omega) (by omega)]; exact a6 j hj
              · rw [up2_ne (by omega), up2_ne (by omega), up2_ne (by omega), up2_at, up2_ne (by omega), up2_ne (by omega), up2_at, up2_ne (by omega), up2_ne (by omega), up2_at, up2_ne (by omega), up2_ne (by omega)]
                show upd (A 5) (c_p c) v j = (if j = c_p c then v else c_k c j) ∧ upd (A 6) (c_p c) w j = (if j = c_p c then w else c_b c j) ∧ upd (A 7) (c_p c) 0 j = (if j = c_p c then 0 else c_i c j)
                unfold upd
                by_cases e : j = c_p c
                · rw [if_pos e, if_pos e, if_pos e, if_pos e, if_pos e, if_pos e]; exact ⟨rfl, rfl, rfl⟩
                · rw [if_neg e, if_neg e, if_neg e, if_neg e, if_neg e, if_neg e]; exact a7 j (by have : j < c_p c + 1 := hj; omega)
              · rw [neA _ (by omega) (by omega) (by omega) (by omega)]; exact a8 j hj
            · refine ⟨by rw [cell58 (by omega), up2_ne (by omega), up2_ne (by omega), up2_ne (by omega)]; exact b1, by rw [cell58 (by omega), up2_ne (by omega), up2_ne (by omega), up2_ne (by omega)]; exact b2, by rw [cell58s], by rw [cell58 (by omega), up2_ne (by omega), up2_ne (by omega), up2_ne (by omega)]; exact b4, fun j hj y hy => by rw [up2_ne (by omega), up2_ne (by omega), up2_ne (by omega), up2_ne (by omega)]; exact b5 j hj y hy, fun j hj => ?_, fun j hj => by rw [up2_ne (by omega), up2_ne (by omega), up2_ne (by omega), up2_ne (by omega), up2_ne (by omega), up2_ne (by omega), up2_ne (by omega), up2_ne (by omega)]; exact b7 j hj⟩
              rw [up2_ne (by omega), up2_ne (by omega), up2_ne (by omega), up2_at, up2_ne (by omega), up2_ne (by omega), up2_at, up2_ne (by omega), up2_ne (by omega), up2_at, up2_ne (by omega), up2_ne (by omega)]
              show upd (B 61) (c_p c) v j = (if j = c_p c then v else c_k c j) ∧ upd (B 62) (c_p c) w j = (if j = c_p c then w else c_b c j) ∧ upd (B 63) (c_p c) 0 j = (if j = c_p c then 0 else c_i c j)
              unfold upd
              by_cases e : j = c_p c
              · rw [if_pos e, if_pos e, if_pos e, if_pos e, if_pos e, if_pos e]; exact ⟨rfl, rfl, rfl⟩
              · rw [if_neg e, if_neg e, if_neg e, if_neg e, if_neg e, if_neg e]; exact b6 j (by have : j < c_p c + 1 := hj; omega)
            · exact ⟨hw.1, by show c_p c + 1 ≤ 5; omega, hw.2.2.1, hw.2.2.2.1, hw.2.2.2.2.1, fun _ => z⟩
            · have e : ¬ j = c_p c := by have := o.2.2.2.1; omega
              show c_k ck j = (if j = c_p c then v else c_k c j) ∧ c_b ck j = (if j = c_p c then w else c_b c j)
              rw [if_neg e, if_neg e]
              exact o.2.2.2.2 j hj
        · rw [decide_eq_false z, if_pos bI_f, if_pos ((nI_eq0 (a := c_n c) (by omega)).mpr (by omega))]
          exact ⟨_, A, B, rfl, rfl, stay h hN Ag.rf AgB.rf⟩
      · rw [if_neg z2, decide_eq_false (fun q => q.2 (h910.mpr z2)), if_pos bI_f]; exact out
theorem st_drink (h : Rel A B N) (v w : Int32) : StpA N (fX3_drink A v w) (fX4_drink B v w) := by
  obtain ⟨c, len, pg, tr, h, hN⟩ := h
  obtain ⟨hA, hB, hw, -⟩ := id h
  have hn5 := hw.1
  have hp5 := hw.2.1
  cases hp : icB v (c_p c)
  · unfold fX3_drink fX3_drink_22 fX4_drink fX4_drink_16
    rw [bi_e (hasPerson hA v), bi_e (isPerson hB hw v), hp, if_pos bI_f, if_pos bI_f]
    exact ⟨_, A, B, rfl, rfl, stay h hN Ag.rf AgB.rf⟩
  · cases hc : icB w (c_n c)
    · unfold fX3_drink fX3_drink_22 fX4_drink fX4_drink_16
      rw [bi_e (hasPerson hA v), bi_e (isPerson hB hw v), hp, if_neg bI_t, if_neg bI_t, bi_e (hasCask hA w), bi_e (isCask hB hw w), hc, if_pos bI_f, if_pos bI_f]
      exact ⟨_, A, B, rfl, rfl, stay h hN Ag.rf AgB.rf⟩
    · obtain ⟨p, hp2, rfl⟩ := icB_of (by omega) hp
      obtain ⟨i, hi, rfl⟩ := icB_of (by omega) hc
      have hC : CR A (4 + 6 + 2 * i) (c_l c i) := hA.2.2.2.2.2.1 i (by omega)
      have hl := hw.2.2.2.1 i (by omega)
      have ec : fX3_drink A (nI p) (nI i) = (if nI (sf (c_l c i) 10) = 0 then (some ((-103 : Int32), A)) else (b2 (fX1_sip A 3 (nI p) (nI i)) fun r49 A49 => some (r49, A49))) := by
        unfold fX3_drink
        rw [bi_e (hasPerson hA _), hp, if_neg bI_t, bi_e (hasCask hA _), hc, if_neg bI_t, ck_t (inb_t (by omega) (by omega)), nI_clamp (by omega), hC.2]
      rw [ec]
      by_cases z : sf (c_l c i) 10 = 0
      · rw [if_pos ((nI_eq0 (by omega)).mpr z)]
        obtain ⟨B1, q1, q2, -⟩ := latestIn hB hw (show i < 5 by omega)
        refine ⟨_, A, B1, rfl, ?_, stay h hN Ag.rf (AgB.of q2)⟩
        unfold fX4_drink
        rw [bi_e (isPerson hB hw _), hp, if_neg bI_t, bi_e (isCask hB hw _), hc, if_neg bI_t, b2_e q1, if_pos (ltf_0 z)]
      · rw [if_neg (fun x => z ((nI_eq0 (by omega)).mp x))]
        obtain ⟨A', t1, t2, t3⟩ := sip hA hw hp2 hi (by omega)
        obtain ⟨B', u1, u2, u3⟩ := drinkT hB hw hp2 hi (by omega)
        rw [b2_e t1, u1]
        exact ⟨_, A', B', rfl, rfl, drk c p i, len, pg, tr, h.move t2 u2 (drk_wf hw (by omega) (by omega)) (fun k hk => t3 k (SC_f (by omega))) (fun k hk => u3 k (by omega) (by omega) (by omega)) (fun j _ => by rw [u3 58 (by omega) (by omega) (by omega)]) (fun ck o => o), by omega⟩
end
