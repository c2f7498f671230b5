/-! ===== pour, image, restore, cellar ===== -/
section
variable {A B A' B' : Me} {c c' : Ce} {len tr N : Nat} {pg : Nat → Nat}
theorem RC_pr1 {a b : Nat} {A1 A2 : Me} (h : RC A 3 c) (ha : a < 5) (hb : b < 5) (hab : a ≠ b) (h1 : CR A1 (4 + 6 + 2 * a) (tk (c_l c a))) (g1 : Ag (S2 (4 + 6 + 2 * a)) A A1) (h2 : CR A2 (4 + 6 + 2 * b) (ru (c_l c b) (lyf (c_l c a) 10) (c_l c b (lyf (c_l c a) 10) + 1))) (g2 : Ag (S2 (4 + 6 + 2 * b)) A1 A2) : RC A2 3 (setL c (pr1 (c_l c) a b)) := by
  have g : ∀ j, j < 10 → A2 j = A j := fun j hj => by rw [g2 j (S2_f (by omega) (by omega)), g1 j (S2_f (by omega) (by omega))]
  obtain ⟨a1, a2, a3, a4, a5, a6, a7, a8⟩ := h
  refine ⟨by rw [g 3 (by omega)]; exact a1, by rw [g 3 (by omega)]; exact a2, by rw [g 3 (by omega)]; exact a3, by rw [g 3 (by omega)]; exact a4, by rw [g 3 (by omega)]; exact a5, fun i hi => ?_, fun i hi => by rw [g _ (by omega), g _ (by omega), g _ (by omega)]; exact a7 i hi, fun i hi => by rw [g _ (by omega)]; exact a8 i hi⟩
  show CR A2 (4 + 6 + 2 * i) (pr1 (c_l c) a b i)
  unfold pr1
  by_cases e : i = a
  · rw [if_pos e, e]; exact h1.ag g2 (S2_f (by omega) (by omega)) (S2_f (by omega) (by omega))
  · rw [if_neg e]
    by_cases e2 : i = b
    · rw [if_pos e2, e2]; exact h2
    · rw [if_neg e2]
      exact ((show CR A (4 + 6 + 2 * i) (c_l c i) from a6 i hi).ag g1 (S2_f (by omega) (by omega)) (S2_f (by omega) (by omega))).ag g2 (S2_f (by omega) (by omega)) (S2_f (by omega) (by omega))
theorem pour_loop {a b k : Nat} (ha : a < 5) (hb : b < 5) (hab : a ≠ b) (hk : k ≤ 9) : ∀ (d i n m : Nat) (c : Ce) (A B : Me), RC A 3 c → RB B c → Wf c → i + d = k → d < n → d < m → d ≤ sf (c_l c a) 10 → sf (c_l c b) 10 + d ≤ 20 →
    ∃ r A' B' l, fX3_pour_90 n A (nI k) (4 + 6 + 2 * a) (4 + 6 + 2 * b) (nI i) = some (r, A') ∧ fX4_pour_64 m B (nI a) (nI b) (nI k) (nI i) = some (r, B') ∧ RC A' 3 (setL c l) ∧ RB B' (setL c l) ∧ Wf (setL c l) ∧ (∀ k, (k < 3 ∨ 19 < k) → A' k = A k) ∧ ∀ k, k ≠ 59 → k ≠ 60 → B' k = B k := by
  intro d
  induction d with
  | zero =>
    intro i n m c A B hA hB hw hi hn hm _ _
    obtain ⟨n, rfl, -⟩ := fuel hn
    obtain ⟨m, rfl, -⟩ := fuel hm
    obtain ⟨B1, q1, q2, -⟩ := litresIn hB hb
    have hC : CR A (4 + 6 + 2 * b) (c_l c b) := hA.2.2.2.2.2.1 b hb
    rw [fX3_pour_90, if_pos (ge_t (by omega) (by omega)), fX4_pour_64, if_pos (ge_t (by omega) (by omega)), b2_e q1, hC.2]
    exact ⟨_, A, B1, c_l c, rfl, rfl, hA, hB.ag q2, hw, fun _ _ => rfl, fun k _ h => q2 k (by unfold S60; simpa using h)⟩
  | succ d ih =>
    intro i n m c A B hA hB hw hi hn hm hda hdb
    obtain ⟨n, rfl, hn2⟩ := fuel hn
    obtain ⟨m, rfl, hm2⟩ := fuel hm
    have hCa : CR A (4 + 6 + 2 * a) (c_l c a) := hA.2.2.2.2.2.1 a ha
    have hCb : CR A (4 + 6 + 2 * b) (c_l c b) := hA.2.2.2.2.2.1 b hb
    have hla := hw.2.2.2.1 a ha
    obtain ⟨A1, t1, t2, t3⟩ := takeLatest hCa (by omega) (by omega)
    obtain ⟨-, y1, y2⟩ := lyf_ok (show 0 < sf (c_l c a) 10 by omega)
    obtain ⟨A2, u1, u2, u3⟩ := put_add (hCb.ag t3 (S2_f (by omega) (by omega)) (S2_f (by omega) (by omega))) y1 1
    obtain ⟨B2, v1, v2⟩ := pourOne_x hB hw ha hb hab (by omega)
    have hB2 := hB.ag v2
    have hc1 := RC_pr1 hA ha hb hab t2 t3 u2 u3
    have hb1 := hB2.setL (fun k (hk : k ≠ 59) => by rw [up2_ne hk, up2_ne hk]) (pr1_LB hB2.2.2.2.2.1 ha hb hab (by omega))
    have s1 : sf (tk (c_l c a)) 10 + 1 = sf (c_l c a) 10 := sf_tk (by omega)
    have s2 : sf (ru (c_l c b) (lyf (c_l c a) 10) (c_l c b (lyf (c_l c a) 10) + 1)) 10 = sf (c_l c b) 10 + 1 := by
      have := sf_ru10 (r := c_l c b) (v := c_l c b (lyf (c_l c a) 10) + 1) y1
      omega
    have pa : pr1 (c_l c) a b a = tk (c_l c a) := if_pos rfl
    have pb : pr1 (c_l c) a b b = ru (c_l c b) (lyf (c_l c a) 10) (c_l c b (lyf (c_l c a) 10) + 1) := by
      show (if b = a then _ else if b = b then _ else _) = _
      rw [if_neg (fun x => hab x.symm), if_pos rfl]
    have hw1 : Wf (setL c (pr1 (c_l c) a b)) := by
      refine ⟨hw.1, hw.2.1, hw.2.2.1, fun j hj => ?_, hw.2.2.2.2.1, hw.2.2.2.2.2⟩
      show sf (pr1 (c_l c) a b j) 10 ≤ 20
      by_cases e : j = a
      · rw [e, pa]; omega
      · by_cases e2 : j = b
        · rw [e2, pb]; omega
        · show sf (if j = a then _ else if j = b then _ else _) 10 ≤ 20
          rw [if_neg e, if_neg e2]; exact hw.2.2.2.1 j hj
    obtain ⟨r, A', B', l, w1, w2, w3, w4, w5, w6, w7⟩ := ih (i + 1) n m (setL c (pr1 (c_l c) a b)) _ _ hc1 hb1 hw1 (by omega) (by omega) (by omega) (by show d ≤ sf (pr1 (c_l c) a b a) 10; rw [pa]; omega) (by show sf (pr1 (c_l c) a b b) 10 + d ≤ 20; rw [pb]; omega)
    refine ⟨r, A', B', l, ?_, ?_, w3, w4, w5, fun k hk => ?_, fun k h1 h2 => ?_⟩
    · rw [fX3_pour_90, if_neg (ge_f (by omega) (by omega)), b2_e t1, show (1 : Int32) = nI 1 from rfl, bi_e u1, show nI i + nI 1 = nI (i + 1) from nI_add _ _]
      exact w1
    · rw [fX4_pour_64, if_neg (ge_f (by omega) (by omega)), bi_e v1, nI_1]
      exact w2
    · rw [w6 k hk, u3 k (S2_f (by omega) (by omega)), t3 k (S2_f (by omega) (by omega))]
    · rw [w7 k h1 h2, up2_ne h1, up2_ne h1, v2 k (by unfold S60; simpa using h2)]
theorem st_pour (h : Rel A B N) (v w x : Int32) : StpA N (fX3_pour A v w x) (fX4_pour B v w x) := by
  obtain ⟨c, len, pg, tr, h, hN⟩ := h
  obtain ⟨hA, hB, hw, -⟩ := id h
  have hn5 := hw.1
  unfold fX3_pour fX4_pour fX3_pour_27 fX4_pour_21 fX3_pour_41 fX3_pour_84 fX4_pour_58
  rw [bi_e (hasCask hA v), bi_e (isCask hB hw v), bi_e (hasCask hA w), bi_e (isCask hB hw w), bi_e (withinX _ _ _)]
  cases hv : icB v (c_n c)
  · rw [if_pos bI_f, if_pos bI_f]; exact ⟨_, A, B, rfl, rfl, stay h hN Ag.rf AgB.rf⟩
  rw [if_neg bI_t, if_neg bI_t]
  cases hv2 : icB w (c_n c)
  · rw [if_pos bI_f, if_pos bI_f]; exact ⟨_, A, B, rfl, rfl, stay h hN Ag.rf AgB.rf⟩
  rw [if_neg bI_t, if_neg bI_t]
  by_cases e : v = w
  · rw [if_pos e, if_pos e]; exact ⟨_, A, B, rfl, rfl, stay h hN Ag.rf AgB.rf⟩
  rw [if_neg e, if_neg e]
  have h9 : x ≤ 9 ↔ ¬ (9 : Int32) < x := Int32.not_lt.symm
  by_cases z1 : x < 1
  · rw [if_pos z1, decide_eq_false (fun q => q.1 z1), if_pos bI_f]; exact ⟨_, A, B, rfl, rfl, stay h hN Ag.rf AgB.rf⟩
  rw [if_neg z1]
  by_cases z2 : x ≤ 9
  · rw [if_pos z2, decide_eq_true (⟨z1, h9.mp z2⟩ : ¬ x < 1 ∧ ¬ (9 : Int32) < x), if_neg bI_t]
    obtain ⟨a, ha, rfl⟩ := icB_of (by omega) hv
    obtain ⟨b, hb, rfl⟩ := icB_of (by omega) hv2
    have hab : a ≠ b := fun q => e (by rw [q])
    obtain ⟨k, hk1, hk2⟩ : ∃ k, k ≤ 9 ∧ x = nI k := by
      obtain ⟨k, hk, e⟩ := nI_of (x := x) (fun q => z1 (by
        rw [Int32.lt_iff_toInt_lt] at q ⊢
        rw [show (1 : Int32).toInt = 1 from by decide]
        rw [show (0 : Int32).toInt = 0 from by decide] at q
        omega))
      refine ⟨k, ?_, e⟩
      rw [e] at z2
      by_cases q : 10 ≤ k
      · exact absurd z2 (nI_ge (a := 9) (by omega) (by omega))
      · omega
    subst hk2
    have hCa : CR A (4 + 6 + 2 * a) (c_l c a) := hA.2.2.2.2.2.1 a (by omega)
    have hCb : CR A (4 + 6 + 2 * b) (c_l c b) := hA.2.2.2.2.2.1 b (by omega)
    have hla := hw.2.2.2.1 a (by omega)
    have hlb := hw.2.2.2.1 b (by omega)
    obtain ⟨B1, q1, q2, -⟩ := litresIn hB (show a < 5 by omega)
    have hB1 := hB.ag q2
    obtain ⟨B2, q3, q4, -⟩ := litresIn hB1 (show b < 5 by omega)
    have hB2 := hB1.ag q4
    rw [ck_t (inb_t (by omega) (by omega)), ck_t (inb_t (by omega) (by omega)), nI_clamp (by omega), nI_clamp (by omega), hCa.2, bi_e (room_ hCb hlb), b2_e q1, b2_e q3]
    by_cases y1 : sf (c_l c a) 10 < k
    · rw [if_pos ((nI_ltI (by omega) (by omega)).mpr y1), if_pos ((nI_ltI (by omega) (by omega)).mpr y1)]
      exact ⟨_, A, B1, rfl, rfl, stay h hN Ag.rf (AgB.of q2)⟩
    · rw [if_neg (fun q => y1 ((nI_ltI (by omega) (by omega)).mp q)), if_neg (fun q => y1 ((nI_ltI (by omega) (by omega)).mp q)), nI_add]
      by_cases y2 : sf (c_l c b) 10 + k ≤ 20
      · rw [if_pos (nI_le (by omega) (by omega)), if_pos (show nI (sf (c_l c b) 10 + k) ≤ (20 : Int32) from nI_le (b := 20) (by omega) (by omega))]
        obtain ⟨r, A', B', l, w1, w2, w3, w4, w5, w6, w7⟩ := pour_loop (show a < 5 by omega) (show b < 5 by omega) hab hk1 k 0 FU FU c A B2 hA hB2 hw (by omega) (Nat.lt_of_le_of_lt hk1 (by decide)) (Nat.lt_of_le_of_lt hk1 (by decide)) (by omega) y2
        have gB : ∀ k, k ≠ 59 → k ≠ 60 → B' k = B k := fun k h1 h2 => by
          have hs : S60 k = false := by unfold S60; simpa using h2
          rw [w7 k h1 h2, q4 k hs, q2 k hs]
        exact ⟨r, A', B', w1, w2, setL c l, len, pg, tr, h.move w3 w4 w5 w6 (fun k hk => gB k (by omega) (by omega)) (fun j _ => by rw [gB 58 (by omega) (by omega)]) (fun ck o => o), by omega⟩
      · rw [if_neg (nI_ge (by omega) (by omega)), if_neg (show ¬ nI (sf (c_l c b) 10 + k) ≤ (20 : Int32) from nI_ge (a := 20) (by omega) (by omega))]
        exact ⟨_, A, B2, rfl, rfl, stay h hN Ag.rf (AgB.of (q2.tr q4))⟩
  · rw [if_neg z2, decide_eq_false (fun q => z2 (h9.mpr q.2)), if_pos bI_f]; exact ⟨_, A, B, rfl, rfl, stay h hN Ag.rf AgB.rf⟩
theorem image_41 : ∀ (d i n : Nat) (B : Me), i + d = 50 → d < n → ∃ B1, fX4_image_41 n B (nI i) = fX4_image_67 FU B1 0 ∧ (∀ k, k ≠ 70 → B1 k = B k) ∧ (∀ j, i ≤ j → j < 50 → B1 70 j = B 59 j) ∧ ∀ j, j < i → B1 70 j = B 70 j := by
  intro d
  induction d with
  | zero =>
    intro i n B hi hn
    obtain ⟨n, rfl, -⟩ := fuel hn
    rw [fX4_image_41, if_pos (g50_t (by omega))]
    exact ⟨B, rfl, fun _ _ => rfl, fun j h1 h2 => by omega, fun _ _ => rfl⟩
  | succ d ih =>
    intro i n B hi hn
    obtain ⟨n, rfl, hn2⟩ := fuel hn
    obtain ⟨B1, q1, q2, q3, q4⟩ := ih (i + 1) n (up2 B 70 i (B 59 i)) (by omega) (by omega)
    rw [fX4_image_41, if_neg (g50_f (by omega)), ck_t (inb_t (by omega) (by omega)), ck_t (inb_t (by omega) (by omega)), nI_clamp (by omega), nI_1]
    refine ⟨B1, q1, fun k hk => by rw [q2 k hk, up2_ne hk], fun j h1 h2 => ?_, fun j hj => by rw [q4 j (by omega), up2_at]; exact if_neg (by omega)⟩
    by_cases e : j = i
    · rw [q4 j (by omega), up2_at, e]; exact if_pos rfl
    · rw [q3 j (by omega) h2, up2_ne (by omega)]
theorem image_67 : ∀ (d i n : Nat) (B : Me), i + d = 5 → d < n → ∃ B1, fX4_image_67 n B (nI i) = fX4_image_92 FU B1 0 ∧ (∀ k, k ≠ 71 → B1 k = B k) ∧ (∀ j, i ≤ j → j < 5 → B1 71 j = B 63 j) ∧ ∀ j, j < i → B1 71 j = B 71 j := by
  intro d
  induction d with
  | zero =>
    intro i n B hi hn
    obtain ⟨n, rfl, -⟩ := fuel hn
    rw [fX4_image_67, if_pos (g5_t (by omega))]
    exact ⟨B, rfl, fun _ _ => rfl, fun j h1 h2 => by omega, fun _ _ => rfl⟩
  | succ d ih =>
    intro i n B hi hn
    obtain ⟨n, rfl, hn2⟩ := fuel hn
    obtain ⟨B1, q1, q2, q3, q4⟩ := ih (i + 1) n (up2 B 71 i (B 63 i)) (by omega) (by omega)
    rw [fX4_image_67, if_neg (g5_f (by omega)), ck_t (inb_t (by omega) (by omega)), ck_t (inb_t (by omega) (by omega)), nI_clamp (by omega), nI_1]
    refine ⟨B1, q1, fun k hk => by rw [q2 k hk, up2_ne hk], fun j h1 h2 => ?_, fun j hj => by rw [q4 j (by omega), up2_at]; exact if_neg (by omega)⟩
    by_cases e : j = i
    · rw [q4 j (by omega), up2_at, e]; exact if_pos rfl
    · rw [q3 j (by omega) h2, up2_ne (by omega)]
theorem image_92 : ∀ (d i n : Nat) (B : Me), i + d = 8 → d < n → ∃ B1, fX4_image_92 n B (nI i) = (b2 (fX4_litresAll B1) fun r B' => some (r, B')) ∧ (∀ k, k ≠ 72 → k ≠ 73 → B1 k = B k) ∧ (∀ j, i ≤ j → j < 8 → B1 72 j = B 64 j ∧ B1 73 j = B 65 j) ∧ ∀ j, j < i → B1 72 j = B 72 j ∧ B1 73 j = B 73 j := by
  intro d
  induction d with
  | zero =>
    intro i n B hi hn
    obtain ⟨n, rfl, -⟩ := fuel hn
    rw [fX4_image_92, if_pos (g8_t (by omega))]
    exact ⟨B, rfl, fun _ _ _ => rfl, fun j h1 h2 => by omega, fun _ _ => ⟨rfl, rfl⟩⟩
  | succ d ih =>
    intro i n B hi hn
    obtain ⟨n, rfl, hn2⟩ := fuel hn
    obtain ⟨B1, q1, q2, q3, q4⟩ := ih (i + 1) n (up2 (up2 B 72 i (B 64 i)) 73 i (B 65 i)) (by omega) (by omega)
    rw [fX4_image_92, if_neg (g8_f (by omega)), ck_t (inb_t (by omega) (by omega)), ck_t (inb_t (by omega) (by omega)), ck_t (inb_t (by omega) (by omega)), ck_t (inb_t (by omega) (by omega)), nI_clamp (by omega), nI_1, up2_ne (A := B) (k := 72) (i := 65) (by omega)]
    refine ⟨B1, q1, fun k h1 h2 => by rw [q2 k h1 h2, up2_ne h2, up2_ne h1], fun j h1 h2 => ?_, fun j hj => ?_⟩
    · by_cases e : j = i
      · rw [(q4 j (by omega)).1, (q4 j (by omega)).2, up2_ne (by omega), up2_at, up2_at, e]; exact ⟨if_pos rfl, if_pos rfl⟩
      · rw [(q3 j (by omega) h2).1, (q3 j (by omega) h2).2, up2_ne (by omega), up2_ne (by omega), up2_ne (by omega), up2_ne (by omega)]; exact ⟨rfl, rfl⟩
    · rw [(q4 j (by omega)).1, (q4 j (by omega)).2, up2_ne (by omega), up2_at, up2_at]; exact ⟨if_neg (by omega), if_neg (by omega)⟩
theorem restore_39 : ∀ (d i n : Nat) (B : Me), i + d = 50 → d < n → ∃ B1, fX4_restore_39 n B (nI i) = fX4_restore_65 FU B1 0 ∧ (∀ k, k ≠ 59 → B1 k = B k) ∧ (∀ j, i ≤ j → j < 50 → B1 59 j = B 70 j) ∧ ∀ j, j < i → B1 59 j = B 59 j := by
  intro d
  induction d with
  | zero =>
    intro i n B hi hn
    obtain ⟨n, rfl, -⟩ := fuel hn
    rw [fX4_restore_39, if_pos (g50_t (by omega))]
    exact ⟨B, rfl, fun _ _ => rfl, fun j h1 h2 => by omega, fun _ _ => rfl⟩
  | succ d ih =>
    intro i n B hi hn
    obtain ⟨n, rfl, hn2⟩ := fuel hn
    obtain ⟨B1, q1, q2, q3, q4⟩ := ih (i + 1) n (up2 B 59 i (B 70 i)) (by omega) (by omega)
    rw [fX4_restore_39, if_neg (g50_f (by omega)), ck_t (inb_t (by omega) (by omega)), ck_t (inb_t (by omega) (by omega)), nI_clamp (by omega), nI_1]
    refine ⟨B1, q1, fun k hk => by rw [q2 k hk, up2_ne hk], fun j h1 h2 => ?_, fun j hj => by rw [q4 j (by omega), up2_at]; exact if_neg (by omega)⟩
    by_cases e : j = i
    · rw [q4 j (by omega), up2_at, e]; exact if_pos rfl
    · rw [q3 j (by omega) h2, up2_ne (by omega)]
theorem restore_65 : ∀ (d i n : Nat) (B : Me), i + d = 5 → d < n → ∃ B1, fX4_restore_65 n B (nI i) = fX4_restore_90 FU B1 0 ∧ (∀ k, k ≠ 63 → B1 k = B k) ∧ (∀ j, i ≤ j → j < 5 → B1 63 j = B 71 j) ∧ ∀ j, j < i → B1 63 j = B 63 j := by
  intro d
  induction d with
  | zero =>
    intro i n B hi hn
    obtain ⟨n, rfl, -⟩ := fuel hn
    rw [fX4_restore_65, if_pos (g5_t (by omega))]
    exact ⟨B, rfl, fun _ _ => rfl, fun j h1 h2 => by omega, fun _ _ => rfl⟩
  | succ d ih =>
    intro i n B hi hn
    obtain ⟨n, rfl, hn2⟩ := fuel hn
    obtain ⟨B1, q1, q2, q3, q4⟩ := ih (i + 1) n (up2 B 63 i (B 71 i)) (by omega) (by omega)
    rw [fX4_restore_65, if_neg (g5_f (by omega)), ck_t (inb_t (by omega) (by omega)), ck_t (inb_t (by omega) (by omega)), nI_clamp (by omega), nI_1]
    refine ⟨B1, q1, fun k hk => by rw [q2 k hk, up2_ne hk], fun j h1 h2 => ?_, fun j hj => by rw [q4 j (by omega), up2_at]; exact if_neg (by omega)⟩
    by_cases e : j = i
    · rw [q4 j (by omega), up2_at, e]; exact if_pos rfl
    · rw [q3 j (by omega) h2, up2_ne (by omega)]
theorem restore_90 : ∀ (d i n : Nat) (B : Me), i + d = 8 → d < n → ∃ B1, fX4_restore_90 n B (nI i) = (b2 (fX4_litresAll B1) fun r B' => some (r, B')) ∧ (∀ k, k ≠ 64 → k ≠ 65 → B1 k = B k) ∧ (∀ j, i ≤ j → j < 8 → B1 64 j = B 72 j ∧ B1 65 j = B 73 j) ∧ ∀ j, j < i → B1 64 j = B 64 j ∧ B1 65 j = B 65 j := by
  intro d
  induction d with
  | zero =>
    intro i n B hi hn
    obtain ⟨n, rfl, -⟩ := fuel hn
    rw [fX4_restore_90, if_pos (g8_t (by omega))]
    exact ⟨B, rfl, fun _ _ _ => rfl, fun j h1 h2 => by omega, fun _ _ => ⟨rfl, rfl⟩⟩
  | succ d ih =>
    intro i n B hi hn
    obtain ⟨n, rfl, hn2⟩ := fuel hn
    obtain ⟨B1, q1, q2, q3, q4⟩ := ih (i + 1) n (up2 (up2 B 64 i (B 72 i)) 65 i (B 73 i)) (by omega) (by omega)
    rw [fX4_restore_90, if_neg (g8_f (by omega)), ck_t (inb_t (by omega) (by omega)), ck_t (inb_t (by omega) (by omega)), ck_t (inb_t (by omega) (by omega)), ck_t (inb_t (by omega) (by omega)), nI_clamp (by omega), nI_1, up2_ne (A := B) (k := 64) (i := 73) (by omega)]
    refine ⟨B1, q1, fun k h1 h2 => by rw [q2 k h1 h2, up2_ne h2, up2_ne h1], fun j h1 h2 => ?_, fun j hj => ?_⟩
    · by_cases e : j = i
      · rw [(q4 j (by omega)).1, (q4 j (by omega)).2, up2_ne (by omega), up2_at, up2_at, e]; exact ⟨if_pos rfl, if_pos rfl⟩
      · rw [(q3 j (by omega) h2).1, (q3 j (by omega) h2).2, up2_ne (by omega), up2_ne (by omega), up2_ne (by omega), up2_ne (by omega)]; exact ⟨rfl, rfl⟩
    · rw [(q4 j (by omega)).1, (q4 j (by omega)).2, up2_ne (by omega), up2_at, up2_at]; exact ⟨if_neg (by omega), if_neg (by omega)⟩
theorem Old.rf (hw : Wf c) : Old c c := ⟨hw, rfl, rfl, Nat.le_refl _, fun _ _ => ⟨rfl, rfl⟩⟩
theorem S60_f {k : Nat} (h : k ≠ 60) : S60 k = false := by unfold S60; simpa using h
theorem st_image (h : Rel A B N) : StpA N (fX3_image A) (fX4_image B) := by
  obtain ⟨c, len, pg, tr, h, hN⟩ := h
  obtain ⟨hA, hB, hw, hP, h7, h0, hI⟩ := id h
  have hn5 := hw.1
  have hp5 := hw.2.1
  have ht8 := hw.2.2.1
  unfold fX3_image fX4_image
  rw [bi_e (isThere hA hw), hB.2.1]
  by_cases z : 0 < c_n c
  · rw [decide_eq_true z, if_neg bI_t, if_neg (fun (x : nI (c_n c) = 0) => by have := (nI_eq0 (by omega)).mp x; omega)]
    obtain ⟨A1, t1, t2, t3⟩ := cellarBecome (k := 20) hA hw (Or.inr (by omega))
    have hA3 : RC (up2 A1 0 6 1) 3 c := by
      have h1 : RC A1 3 c := hA.ag t3 (fun j hj => SC_f (by omega))
      exact h1.ag (S := fun k => k == 0) (fun k hk => up2_ne (by simpa using hk)) (fun j hj => by simp)
    have hA20 : RC (up2 A1 0 6 1) 20 c := t2.ag (S := fun k => k == 0) (fun k hk => up2_ne (by simpa using hk)) (fun j hj => by simp)
    rw [bi_e t1, bi_e (litresInAll hA3 hw)]
    rw [show (0 : Int32) = nI 0 from rfl]
    generalize hB0 : (up2 (up2 (up2 (up2 B 58 21 1) 58 22 ((up2 B 58 21 1) 58 0)) 58 23 ((up2 (up2 B 58 21 1) 58 22 ((up2 B 58 21 1) 58 0)) 58 5)) 58 24 ((up2 (up2 (up2 B 58 21 1) 58 22 ((up2 B 58 21 1) 58 0)) 58 23 ((up2 (up2 B 58 21 1) 58 22 ((up2 B 58 21 1) 58 0)) 58 5)) 58 9)) = B0
    have e1 : ∀ k, k ≠ 58 → B0 k = B k := fun k hk => by rw [← hB0, up2_ne hk, up2_ne hk, up2_ne hk, up2_ne hk]
    have e2 : ∀ j, j < 21 ∨ 24 < j → B0 58 j = B 58 j := fun j hj => by rw [← hB0, cell58 (by omega), cell58 (by omega), cell58 (by omega), cell58 (by omega)]
    have e3 : B0 58 21 = 1 := by rw [← hB0, cell58 (by omega), cell58 (by omega), cell58 (by omega), cell58s]
    have e4 : B0 58 22 = B 58 0 := by rw [← hB0, cell58 (by omega), cell58 (by omega), cell58s, cell58 (by omega)]
    have e5 : B0 58 23 = B 58 5 := by rw [← hB0, cell58 (by omega), cell58s, cell58 (by omega), cell58 (by omega)]
    have e6 : B0 58 24 = B 58 9 := by rw [← hB0, cell58s, cell58 (by omega), cell58 (by omega), cell58 (by omega)]
    clear hB0
    obtain ⟨B1, p1, p2, p3, -⟩ := image_41 50 0 FU B0 (by omega) (by decide)
    obtain ⟨B2, p4, p5, p6, -⟩ := image_67 5 0 FU B1 (by omega) (by decide)
    obtain ⟨B3, p7, p8, p9, -⟩ := image_92 8 0 FU B2 (by omega) (by decide)
    have gB3 : ∀ k, k ≠ 58 → (k < 70 ∨ 73 < k) → B3 k = B k := fun k h1 h2 => by rw [p8 k (by omega) (by omega), p5 k (by omega), p2 k (by omega), e1 k h1]
    have gB4 : B3 58 = B0 58 := by rw [p8 58 (by omega) (by omega), p5 58 (by omega), p2 58 (by omega)]
    have hB3 : RB B3 c := by
      obtain ⟨b1, b2, b3, b4, b5, b6, b7⟩ := hB
      refine ⟨by rw [gB4, e2 1 (by omega)]; exact b1, by rw [gB4, e2 2 (by omega)]; exact b2, by rw [gB4, e2 5 (by omega)]; exact b3, by rw [gB4, e2 9 (by omega)]; exact b4, fun i hi y hy => by rw [gB3 59 (by omega) (by omega)]; exact b5 i hi y hy, fun i hi => by rw [gB3 61 (by omega) (by omega), gB3 62 (by omega) (by omega), gB3 63 (by omega) (by omega)]; exact b6 i hi, fun i hi => by rw [gB3 64 (by omega) (by omega), gB3 65 (by omega) (by omega)]; exact b7 i hi⟩
    obtain ⟨B4, s1, s2⟩ := litresAll hB3 hw
    rw [p1, show (0 : Int32) = nI 0 from rfl, p4, show (0 : Int32) = nI 0 from rfl, p7, b2_e s1]
    have gA : ∀ k, k < 20 → k ≠ 0 → (up2 A1 0 6 1) k = A k := fun k h1 h2 => by rw [up2_ne h2, t3 k (SC_f (by omega))]
    refine ⟨_, _, _, rfl, rfl, c, len, pg, tr, ⟨hA3, hB3.ag s2, hw, ?_, ?_, ?_, Or.inr ⟨?_, ?_, ?_, c, hA20, Old.rf hw, ?_⟩⟩, by omega⟩
    · unfold PG
      rw [gA 1 (by omega) (by omega), gA 2 (by omega) (by omega), s2 58 (S60_f (by omega)), s2 66 (S60_f (by omega)), gB4, e2 12 (by omega), gB3 66 (by omega) (by omega)]
      exact hP
    · rw [up2_at, show upd (A1 0) 6 1 7 = A1 0 7 from if_neg (by omega), t3 0 (SC_f (by omega))]; exact h7
    · rw [s2 58 (S60_f (by omega)), gB4, e2 0 (by omega)]; exact h0
    · rw [up2_at]; exact if_pos rfl
    · rw [s2 58 (S60_f (by omega)), gB4, e3]
    · rw [s2 58 (S60_f (by omega)), gB4, e4]; exact h0
    · refine ⟨by rw [s2 58 (S60_f (by omega)), gB4, e5]; exact hB.2.2.1, by rw [s2 58 (S60_f (by omega)), gB4, e6]; exact hB.2.2.2.1, fun i hi y hy => ?_, fun i hi => ?_, fun i hi => ?_⟩
      · rw [s2 70 (S60_f (by omega)), p8 70 (by omega) (by omega), p5 70 (by omega), p3 _ (by omega) (by omega), e1 59 (by omega)]; exact hB.2.2.2.2.1 i hi y hy
      · rw [s2 71 (S60_f (by omega)), p8 71 (by omega) (by omega), p6 _ (by omega) (by omega), p2 63 (by omega), e1 63 (by omega)]; exact (hB.2.2.2.2.2.1 i hi).2.2
      · rw [s2 72 (S60_f (by omega)), s2 73 (S60_f (by omega)), (p9 i (by omega) (by omega)).1, (p9 i (by omega) (by omega)).2, p5 64 (by omega), p5 65 (by omega), p2 64 (by omega), p2 65 (by omega), e1 64 (by omega), e1 65 (by omega)]; exact hB.2.2.2.2.2.2 i hi
  · rw [decide_eq_false z, if_pos bI_f, if_pos ((nI_eq0 (a := c_n c) (by omega)).mpr (by omega))]
    exact ⟨_, A, B, rfl, rfl, stay h hN Ag.rf AgB.rf⟩
theorem st_restore (h : Rel A B N) (hb : N < 2 ^ 31) : StpA N (fX3_restore A) (fX4_restore B) := by
  obtain ⟨c, len, pg, tr, h, hN⟩ := h
  obtain ⟨hA, hB, hw, hP, h7, h0, hI⟩ := id h
  unfold fX3_restore fX4_restore fX4_restore_18
  rcases hI with ⟨g1, g2⟩ | ⟨g1, g2, g3, ck, g4, g5, g6⟩
  · rw [if_pos g1]
    refine ⟨_, A, B, rfl, ?_, stay h hN Ag.rf AgB.rf⟩
    rcases g2 with g2 | ⟨kc, k1, k2⟩
    · rw [if_pos g2]
    · rw [k2, h0, if_neg (fun (x : nI kc = nI tr) => by have := nI_inj (by omega) (by omega) x; omega)]
      by_cases q : B 58 21 = 0
      · rw [if_pos q]
      · rw [if_neg q]
  · rw [g1, if_neg (by decide), g2, if_neg (by decide), g3, h0, if_pos rfl]
    have hwk : Wf ck := g5.1
    have hn5 := hwk.1
    have hp5 := hwk.2.1
    have ht8 := hwk.2.2.1
    obtain ⟨A1, t1, t2, t3⟩ := cellarBecome (k := 3) g4 hwk (Or.inl (by omega))
    rw [bi_e t1, bi_e (litresInAll t2 hwk)]
    rw [show (0 : Int32) = nI 0 from rfl]
    generalize hB0 : (up2 (up2 B 58 5 (B 58 23)) 58 9 ((up2 B 58 5 (B 58 23)) 58 24)) = B0
    have e1 : ∀ k, k ≠ 58 → B0 k = B k := fun k hk => by rw [← hB0, up2_ne hk, up2_ne hk]
    have e2 : ∀ j, j ≠ 5 → j ≠ 9 → B0 58 j = B 58 j := fun j h1 h2 => by rw [← hB0, cell58 h2, cell58 h1]
    have e3 : B0 58 5 = nI (c_p ck) := by rw [← hB0, cell58 (by omega), cell58s]; exact g6.1
    have e4 : B0 58 9 = nI (c_t ck) := by rw [← hB0, cell58s, cell58 (by omega)]; exact g6.2.1
    clear hB0
    obtain ⟨B1, p1, p2, p3, -⟩ := restore_39 50 0 FU B0 (by omega) (by decide)
    obtain ⟨B2, p4, p5, p6, -⟩ := restore_65 5 0 FU B1 (by omega) (by decide)
    obtain ⟨B3, p7, p8, p9, -⟩ := restore_90 8 0 FU B2 (by omega) (by decide)
    have gB3 : ∀ k, k ≠ 58 → k ≠ 59 → k ≠ 63 → k ≠ 64 → k ≠ 65 → B3 k = B k := fun k h1 h2 h3 h4 h5 => by rw [p8 k h4 h5, p5 k h3, p2 k h2, e1 k h1]
    have gB4 : B3 58 = B0 58 := by rw [p8 58 (by omega) (by omega), p5 58 (by omega), p2 58 (by omega)]
    have hB3 : RB B3 ck := by
      obtain ⟨b1, b2, b3, b4, b5, b6, b7⟩ := hB
      refine ⟨by rw [gB4, e2 1 (by omega) (by omega), g5.2.1]; exact b1, by rw [gB4, e2 2 (by omega) (by omega), g5.2.2.1]; exact b2, by rw [gB4]; exact e3, by rw [gB4]; exact e4, fun i hi y hy => by rw [p8 59 (by omega) (by omega), p5 59 (by omega), p3 _ (by omega) (by omega), e1 70 (by omega)]; exact g6.2.2.1 i hi y hy, fun i hi => ?_, fun i hi => by rw [(p9 i (by omega) (by omega)).1, (p9 i (by omega) (by omega)).2, p5 72 (by omega), p5 73 (by omega), p2 72 (by omega), p2 73 (by omega), e1 72 (by omega), e1 73 (by omega)]; exact g6.2.2.2.2 i hi⟩
      have hip : i < c_p c := Nat.lt_of_lt_of_le hi g5.2.2.2.1
      rw [gB3 61 (by omega) (by omega) (by omega) (by omega) (by omega), gB3 62 (by omega) (by omega) (by omega) (by omega) (by omega), p8 63 (by omega) (by omega), p6 i (by omega) (by omega), p2 71 (by omega), e1 71 (by omega), (g5.2.2.2.2 i hi).1, (g5.2.2.2.2 i hi).2]
      exact ⟨(b6 i hip).1, (b6 i hip).2.1, g6.2.2.2.1 i hi⟩
    obtain ⟨B4, s1, s2⟩ := litresAll hB3 hwk
    rw [p1, show (0 : Int32) = nI 0 from rfl, p4, show (0 : Int32) = nI 0 from rfl, p7, b2_e s1]
    have gA : ∀ k, k < 3 → A1 k = A k := fun k h1 => t3 k (SC_f (by omega))
    have gk : ∀ j, j ≠ 5 → j ≠ 9 → B4 58 j = B 58 j := fun j h1 h2 => by rw [s2 58 (S60_f (by omega)), gB4, e2 j h1 h2]
    have gq : ∀ k, 66 ≤ k → B4 k = B k := fun k hk => by rw [s2 k (S60_f (by omega)), gB3 k (by omega) (by omega) (by omega) (by omega) (by omega)]
    refine ⟨_, _, _, rfl, rfl, ck, len, pg, tr, ⟨t2, hB3.ag s2, hwk, ?_, ?_, ?_, Or.inr ⟨?_, ?_, ?_, ck, g4.ag t3 (fun j hj => SC_f (by omega)), Old.rf hwk, g6.mv (fun k hk => gq k (by omega)) (fun j hj => gk j (by omega) (by omega))⟩⟩, by omega⟩
    · unfold PG
      rw [gA 1 (by omega), gA 2 (by omega), gk 12 (by omega) (by omega), gq 66 (by omega)]
      exact hP
    · rw [gA 0 (by omega)]; exact h7
    · rw [gk 0 (by omega) (by omega)]; exact h0
    · rw [gA 0 (by omega)]; exact g1
    · rw [gk 21 (by omega) (by omega)]; exact g2
    · rw [gk 22 (by omega) (by omega)]; exact g3
theorem st_cellar (h : Rel A B N) : StpA N (fX3_cellar A) (fX4_cellar B) := by
  obtain ⟨c, len, pg, tr, h, hN⟩ := h
  obtain ⟨hA, hB, hw, hP, h7, h0, hI⟩ := id h
  obtain ⟨v, B1, q1, q2, q3, q4⟩ := read_ hP
  unfold fX3_cellar fX4_cellar
  rw [bi_e (casksWritten hP q1), b2_e q2]
  have hR := stay h hN (A' := A) Ag.rf q3
  rcases q4 with ⟨y1, y2⟩ | ⟨y1, y2, y3⟩
  · rw [y1, y2, if_pos (rfl : (0 : Int32) = 0), if_pos (show nI 0 = (0 : Int32) from rfl)]
    exact ⟨_, A, B1, rfl, rfl, hR⟩
  · have hc : v = len ∧ 7 ≤ len ∧ len % 3 = 1 := by
      by_cases q : v = len ∧ 7 ≤ len ∧ len % 3 = 1
      · exact q
      · unfold cwr at y1; rw [if_neg q] at y1; omega
    obtain ⟨rfl, hc7, hc3⟩ := hc
    have ecn : cwr v v = v / 3 := if_pos ⟨rfl, hc7, hc3⟩
    have hl16 := len16 q1
    rw [ecn] at y1 y3
    rw [ecn, y2, if_neg (fun (x : nI (v / 3) = 0) => by have := (nI_eq0 (by omega)).mp x; omega), if_neg (by decide)]
    have hP1 := hP.agB q3
    obtain ⟨A1, u1, u2, u3⟩ := readFrom hP1 q1 (cn := v / 3) (by omega) (by omega) (by omega)
    obtain ⟨B2, w1, w2, w3, w4, w5, w6⟩ := cellarT hP1 q1 (cn := v / 3) (by omega) (by omega) y3
    rw [bi_e u1, w1]
    unfold fX2_clear
    rw [b2_e rfl]
    have gA : ∀ k, k ≠ 0 → k ≠ 1 → up2 (up2 (up2 A1 1 1 0) 0 6 0) 0 7 ((up2 (up2 A1 1 1 0) 0 6 0) 0 7 + 1) k = A1 k := fun k h1 h2 => by rw [up2_ne h1, up2_ne h1, up2_ne h2]
    refine ⟨_, _, _, rfl, rfl, newc pg (v / 3), 0, pg, tr + 1, ⟨u2.ag (S := fun k => k == 0 || k == 1) (fun k hk => by simp at hk; exact gA k hk.1 hk.2) (fun j hj => by simp; omega), w2, newc_wf q1 (by omega) (by omega), ?_, ?_, ?_, Or.inl ⟨?_, ?_⟩⟩, by omega⟩
    · refine ⟨?_, w4, by omega, fun i hi => absurd hi (Nat.not_lt_zero _)⟩
      rw [up2_ne (by omega), up2_ne (by omega), up2_at]; exact if_pos rfl
    · rw [up2_at, show ∀ z, upd (up2 (up2 A1 1 1 0) 0 6 0 0) 7 z 7 = z from fun z => if_pos rfl, up2_at, show ∀ f : Nat → Int32, upd f 6 0 7 = f 7 from fun f => if_neg (by omega), up2_ne (by omega), u3 0 (by omega), h7, nI_1]
    · rw [w3, q3 58 0 rfl, h0, nI_1]
    · rw [up2_at, show ∀ (f : Nat → Int32) z, upd f 7 z 6 = f 6 from fun f z => if_neg (by omega), up2_at]; exact if_pos rfl
    · rw [w6 21 (by omega) (by omega) (by omega) (by omega) (by omega) (by omega), w6 22 (by omega) (by omega) (by omega) (by omega) (by omega) (by omega), q3 58 21 rfl, q3 58 22 rfl]
      rcases hI with ⟨-, g2⟩ | ⟨-, -, g3, -⟩
      · rcases g2 with g2 | ⟨kc, k1, k2⟩
        · exact Or.inl g2
        · exact Or.inr ⟨kc, by omega, k2⟩
      · exact Or.inr ⟨tr, by omega, g3⟩
end
