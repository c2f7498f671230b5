/-! ===== a cellar becomes another; drinking ===== -/
def SC (k : Nat) : Nat → Bool := fun j => decide (k ≤ j) && decide (j ≤ k + 16)
theorem SC_f {k j : Nat} (h : j < k ∨ k + 16 < j) : SC k j = false := by
  unfold SC
  by_cases q : k ≤ j
  · rw [decide_eq_true q, decide_eq_false (by omega)]; rfl
  · rw [decide_eq_false q]; rfl
theorem SC_n {k j : Nat} (h : SC k j = false) : j < k ∨ k + 16 < j := by
  unfold SC at h
  by_cases q : k ≤ j
  · by_cases q2 : j ≤ k + 16
    · rw [decide_eq_true q, decide_eq_true q2] at h; cases h
    · omega
  · omega
theorem SC_of {S : Nat → Bool} {k : Nat} {A A' : Me} (h : Ag S A A') (hs : ∀ j, S j = true → k ≤ j ∧ j ≤ k + 16) : Ag (SC k) A A' := h.mono (fun j hj => by
  have := hs j hj
  unfold SC
  rw [decide_eq_true this.1, decide_eq_true this.2]; rfl)
theorem S2_y {k j : Nat} (h : S2 k j = true) : j = k ∨ j = k + 1 := by unfold S2 at h; simpa using h
def bexp (A : Me) (k k1 : Nat) : Me := cpa (up2 (up2 (cpa (cpa (cpa (up2 A k 8 (A k1 8)) (k1 + 2) (k + 2) (5 : Int32).toNatClampNeg) (k1 + 3) (k + 3) (5 : Int32).toNatClampNeg) (k1 + 4) (k + 4) (5 : Int32).toNatClampNeg) k 9 ((cpa (cpa (cpa (up2 A k 8 (A k1 8)) (k1 + 2) (k + 2) (5 : Int32).toNatClampNeg) (k1 + 3) (k + 3) (5 : Int32).toNatClampNeg) (k1 + 4) (k + 4) (5 : Int32).toNatClampNeg) k1 9)) k 10 ((up2 (cpa (cpa (cpa (up2 A k 8 (A k1 8)) (k1 + 2) (k + 2) (5 : Int32).toNatClampNeg) (k1 + 3) (k + 3) (5 : Int32).toNatClampNeg) (k1 + 4) (k + 4) (5 : Int32).toNatClampNeg) k 9 ((cpa (cpa (cpa (up2 A k 8 (A k1 8)) (k1 + 2) (k + 2) (5 : Int32).toNatClampNeg) (k1 + 3) (k + 3) (5 : Int32).toNatClampNeg) (k1 + 4) (k + 4) (5 : Int32).toNatClampNeg) k1 9)) k1 10)) (k1 + 5) (k + 5) (8 : Int32).toNatClampNeg
theorem cpa_ne {A : Me} {k0 k1 n j : Nat} (h : j ≠ k1) : cpa A k0 k1 n j = A j := if_neg h
theorem cpa_at {A : Me} {k0 k1 n i : Nat} (h : i < n) : cpa A k0 k1 n k1 i = A k0 i := by
  unfold cpa
  rw [if_pos rfl]
  unfold va_cpy
  rw [if_pos ⟨Nat.zero_le _, by omega⟩]
  congr 1
  omega
theorem c5 : (5 : Int32).toNatClampNeg = 5 := by decide
theorem c8 : (8 : Int32).toNatClampNeg = 8 := by decide
theorem bexp_ne {A : Me} {k k1 j : Nat} (h0 : j ≠ k) (h2 : j ≠ k + 2) (h3 : j ≠ k + 3) (h4 : j ≠ k + 4) (h5 : j ≠ k + 5) : bexp A k k1 j = A j := by
  unfold bexp
  rw [cpa_ne h5, up2_ne h0, up2_ne h0, cpa_ne h4, cpa_ne h3, cpa_ne h2, up2_ne h0]
theorem bexp_rc {A : Me} {k k1 : Nat} {c : Ce} (hw : Wf c) (hd : k + 16 < k1 ∨ k1 + 16 < k) (h : RC A k1 c) (h6 : A k 6 = c_w c) (h7 : A k 7 = nI (c_n c)) (hC : ∀ i, i < 5 → CR A (k + 1 + 6 + 2 * i) (c_l c i)) : RC (bexp A k k1) k c := by
  obtain ⟨g1, g2, g3, g4, g5, g6, g7, g8⟩ := h
  have hp := hw.2.1
  have ht := hw.2.2.1
  have e0 : bexp A k k1 k = upd (upd (upd (A k) 8 (A k1 8)) 9 (A k1 9)) 10 (A k1 10) := by
    unfold bexp
    rw [cpa_ne (by omega), up2_at, up2_at, up2_ne (j := 9) (i := k1) (by omega), cpa_ne (j := k) (by omega), cpa_ne (j := k) (by omega), cpa_ne (j := k) (by omega), up2_at, cpa_ne (j := k1) (by omega), cpa_ne (j := k1) (by omega), cpa_ne (j := k1) (by omega), up2_ne (i := k1) (by omega)]
  refine ⟨?_, ?_, ?_, ?_, ?_, fun i hi => ?_, fun i hi => ?_, fun i hi => ?_⟩
  · rw [e0]; simp only [upd]; exact h6
  · rw [e0]; simp only [upd]; exact h7
  · rw [e0]; simp only [upd]; exact g3
  · rw [e0]; simp only [upd]; exact g4
  · rw [e0]; simp only [upd]; exact g5
  · unfold CR
    rw [bexp_ne (by omega) (by omega) (by omega) (by omega) (by omega), bexp_ne (by omega) (by omega) (by omega) (by omega) (by omega)]
    exact hC i hi
  · have hx := g7 i hi
    refine ⟨?_, ?_, ?_⟩
    · unfold bexp
      rw [c5, c8, cpa_ne (by omega), up2_ne (by omega), up2_ne (by omega), cpa_ne (by omega), cpa_ne (by omega), cpa_at (by omega), up2_ne (by omega)]
      exact hx.1
    · unfold bexp
      rw [c5, c8, cpa_ne (by omega), up2_ne (by omega), up2_ne (by omega), cpa_ne (by omega), cpa_at (by omega), cpa_ne (by omega), up2_ne (by omega)]
      exact hx.2.1
    · unfold bexp
      rw [c5, c8, cpa_ne (by omega), up2_ne (by omega), up2_ne (by omega), cpa_at (by omega), cpa_ne (by omega), cpa_ne (by omega), up2_ne (by omega)]
      exact hx.2.2
  · unfold bexp
    rw [c5, c8, cpa_at (by omega), up2_ne (by omega), up2_ne (by omega), cpa_ne (by omega), cpa_ne (by omega), cpa_ne (by omega), up2_ne (by omega)]
    exact g8 i hi
section
variable {A B : Me} {k k1 : Nat} {c : Ce}
theorem become_18 (hw : Wf c) (hd : k + 16 < k1 ∨ k1 + 16 < k) : ∀ (d i n : Nat) (A : Me), RC A k1 c → A k 6 = c_w c → A k 7 = nI (c_n c) → (∀ j, j < i → CR A (k + 1 + 6 + 2 * j) (c_l c j)) → i + d = 5 → d < n →
    ∃ A', fX1_become_18 k n A k1 (nI i) = some A' ∧ RC A' k c ∧ Ag (SC k) A A' := by
  intro d
  induction d with
  | zero =>
    intro i n A h h6 h7 hC hi hn
    obtain ⟨n, rfl, -⟩ := fuel hn
    rw [fX1_become_18, if_pos (g5_t (by omega))]
    refine ⟨bexp A k k1, rfl, bexp_rc hw hd h h6 h7 (fun j hj => hC j (by omega)), fun j hj => ?_⟩
    have := SC_n hj
    exact bexp_ne (by omega) (by omega) (by omega) (by omega) (by omega)
  | succ d ih =>
    intro i n A h h6 h7 hC hi hn
    obtain ⟨n, rfl, hn2⟩ := fuel hn
    rw [fX1_become_18, if_neg (g5_f (by omega)), ck_t (inb_t (by omega) (by omega)), ck_t (inb_t (by omega) (by omega)), nI_clamp (by omega)]
    obtain ⟨A1, q1, q2, q3⟩ := caskBecome (A := A) (k := k + 1 + 6 + 2 * i) (k1 := k1 + 1 + 6 + 2 * i) (S2_f (by omega) (by omega)) (h.2.2.2.2.2.1 i (by omega)).1
    have g : Ag (SC k) A A1 := SC_of q3 (fun j hj => by have := S2_y hj; omega)
    have hk : A1 k = A k := q3 k (S2_f (by omega) (by omega))
    rw [bi_e q1, nI_1]
    obtain ⟨A', t1, t2, t3⟩ := ih (i + 1) n A1 (h.ag g (fun j hj => SC_f (by omega))) (by rw [hk]; exact h6) (by rw [hk]; exact h7) (fun j hj => by
      by_cases e : j = i
      · rw [e]; exact q2
      · exact (hC j (by omega)).ag q3 (S2_f (by omega) (by omega)) (S2_f (by omega) (by omega))) (by omega) (by omega)
    exact ⟨A', t1, t2, g.tr t3⟩
theorem cellarBecome (h : RC A k1 c) (hw : Wf c) (hd : k + 16 < k1 ∨ k1 + 16 < k) : ∃ A', fX1_become A k k1 = some A' ∧ RC A' k c ∧ Ag (SC k) A A' := by
  have g : Ag (SC k) A (up2 (up2 A k 6 (A k1 6)) k 7 ((up2 A k 6 (A k1 6)) k1 7)) := fun j hj => by
    have := SC_n hj
    rw [up2_ne (by omega), up2_ne (by omega)]
  obtain ⟨A', t1, t2, t3⟩ := become_18 hw hd 5 0 FU (up2 (up2 A k 6 (A k1 6)) k 7 ((up2 A k 6 (A k1 6)) k1 7)) (h.ag g (fun j hj => SC_f (by omega))) (by
    rw [up2_at, up2_at]; simp only [upd]; exact h.1) (by
    rw [up2_at, up2_at, up2_ne (by omega)]; simp only [upd]; exact h.2.1) (fun j hj => by omega) (by omega) (by decide)
  exact ⟨A', t1, t2, g.tr t3⟩
/-- person p has drunk of cask i, which isn't empty -/
def drk (c : Ce) (p i : Nat) : Ce := (c_w c, c_n c, (fun j => if j = i then tk (c_l c i) else c_l c j), c_p c, c_k c, c_b c, (fun q => if q = p then c_i c p + bI (!(may (c_w c) (c_l c i) (c_k c p) (c_b c p))) else c_i c q), c_t c, c_c c, c_o c)
theorem drk_wf (hw : Wf c) {p i : Nat} (hi : i < 5) (hp : 0 < sf (c_l c i) 10) : Wf (drk c p i) := by
  refine ⟨hw.1, hw.2.1, hw.2.2.1, fun j hj => ?_, hw.2.2.2.2.1, hw.2.2.2.2.2⟩
  show sf (if j = i then tk (c_l c i) else c_l c j) 10 ≤ 20
  have h1 := hw.2.2.2.1 i hi
  have h2 := sf_tk hp
  by_cases e : j = i
  · rw [if_pos e]; omega
  · rw [if_neg e]; exact hw.2.2.2.1 j hj
theorem sip_e (h : RC A k c) (hw : Wf c) {p i : Nat} (hp : p < c_p c) (hi : i < c_n c) (hz : sf (c_l c i) 10 = 0) : fX1_sip A k (nI p) (nI i) = some (0, A) := by
  have hn5 := hw.1
  have hp5 := hw.2.1
  unfold fX1_sip fX1_sip_28
  rw [bi_e (hasPerson h _), icB_t hp (by omega), if_neg (by decide), bi_e (hasCask h _), icB_t hi (by omega), if_neg (by decide), ck_t (inb_t (by omega) (by omega)), nI_clamp (by omega), (h.2.2.2.2.2.1 i (by omega)).2, if_pos (by rw [hz]; rfl)]
theorem sip (h : RC A k c) (hw : Wf c) {p i : Nat} (hp : p < c_p c) (hi : i < c_n c) (hz : 0 < sf (c_l c i) 10) : ∃ A', fX1_sip A k (nI p) (nI i) = some (bI (!(may (c_w c) (c_l c i) (c_k c p) (c_b c p))), A') ∧ RC A' k (drk c p i) ∧ Ag (SC k) A A' := by
  have hn5 := hw.1
  have hp5 := hw.2.1
  have hl := hw.2.2.2.1 i (by omega)
  have hC := h.2.2.2.2.2.1 i (by omega)
  have hx := h.2.2.2.2.2.2.1 p hp
  unfold fX1_sip
  rw [bi_e (hasPerson h _), icB_t hp (by omega), if_neg (by decide), bi_e (hasCask h _), icB_t hi (by omega), if_neg (by decide), ck_t (inb_t (by omega) (by omega)), nI_clamp (by omega), hC.2, if_neg (fun x => by have := (nI_eq0 (by omega)).mp x; omega), ck_t (inb_t (by omega) (by omega)), bi_e (allMay h hw hC (by omega) _), alB_one hw hp]
  have key : ∀ t : Int32, t = bI (!(may (c_w c) (c_l c i) (c_k c p) (c_b c p))) → ∃ A', fX1_sip_51 A k (nI p) (nI i) t = some (bI (!(may (c_w c) (c_l c i) (c_k c p) (c_b c p))), A') ∧ RC A' k (drk c p i) ∧ Ag (SC k) A A' := by
    intro t ht
    unfold fX1_sip_51
    rw [ck_t (inb_t (by omega) (by omega)), ck_t (inb_t (by omega) (by omega)), ck_t (inb_t (by omega) (by omega)), nI_clamp (by omega), nI_clamp (by omega), hx.2.2]
    have g0 : ∀ j, j ≠ k + 4 → up2 A (k + 4) p (c_i c p + t) j = A j := fun j hj => up2_ne hj
    have hC1 : CR (up2 A (k + 4) p (c_i c p + t)) (k + 1 + 6 + 2 * i) (c_l c i) := by
      unfold CR
      rw [g0 _ (by omega), g0 _ (by omega)]
      exact hC
    obtain ⟨A', q1, q2, q3⟩ := takeLatest hC1 (by omega) hz
    have hA' : ∀ j, j ≠ k + 4 → j ≠ k + 1 + 6 + 2 * i → j ≠ k + 1 + 6 + 2 * i + 1 → A' j = A j := fun j h1 h2 h3 => by rw [q3 j (S2_f h2 h3), g0 j h1]
    rw [b2_e q1]
    refine ⟨A', by rw [ht], ?_, fun j hj => ?_⟩
    · obtain ⟨g1, g2, g3, g4, g5, g6, g7, g8⟩ := h
      have ek : A' k = A k := hA' k (by omega) (by omega) (by omega)
      refine ⟨by rw [ek]; exact g1, by rw [ek]; exact g2, by rw [ek]; exact g3, by rw [ek]; exact g4, by rw [ek]; exact g5, fun j hj => ?_, fun j hj => ?_, fun j hj => ?_⟩
      · show CR A' (k + 1 + 6 + 2 * j) (if j = i then tk (c_l c i) else c_l c j)
        by_cases e : j = i
        · subst e; rw [if_pos rfl]; exact q2
        · rw [if_neg e]
          unfold CR
          rw [hA' _ (by omega) (by omega) (by omega), hA' _ (by omega) (by omega) (by omega)]
          exact g6 j hj
      · have hy := g7 j hj
        refine ⟨by rw [hA' _ (by omega) (by omega) (by omega)]; exact hy.1, by rw [hA' _ (by omega) (by omega) (by omega)]; exact hy.2.1, ?_⟩
        show A' (k + 4) j = if j = p then c_i c p + bI (!(may (c_w c) (c_l c i) (c_k c p) (c_b c p))) else c_i c j
        rw [q3 (k + 4) (S2_f (by omega) (by omega)), up2_at]
        unfold upd
        by_cases e : j = p
        · rw [if_pos e, if_pos e, ht]
        · rw [if_neg e, if_neg e, hy.2.2]
      · rw [hA' _ (by omega) (by omega) (by omega)]
        exact g8 j hj
    · have := SC_n hj
      exact hA' j (by omega) (by omega) (by omega)
  cases hm : may (c_w c) (c_l c i) (c_k c p) (c_b c p)
  · rw [if_pos (by decide)]
    have := key 1 (by rw [hm]; rfl)
    rw [hm] at this
    exact this
  · rw [if_neg (by decide)]
    have := key 0 (by rw [hm]; rfl)
    rw [hm] at this
    exact this
theorem tk_LB {B : Me} (h : LB B (c_l c)) {i : Nat} (hi : i < 5) (hz : 0 < sf (c_l c i) 10) {v : Int32} (hv : v = B 59 (10 * i + lyf (c_l c i) 10) - 1) : LB (up2 B 59 (10 * i + lyf (c_l c i) 10) v) (fun j => if j = i then tk (c_l c i) else c_l c j) := by
  obtain ⟨e1, e2, e3⟩ := lyf_ok hz
  intro j hj y hy
  rw [up2_at, hv]
  show upd (B 59) (10 * i + lyf (c_l c i) 10) (B 59 (10 * i + lyf (c_l c i) 10) - 1) (10 * j + y) = nI ((if j = i then tk (c_l c i) else c_l c j) y)
  unfold upd
  by_cases q : 10 * j + y = 10 * i + lyf (c_l c i) 10
  · have ej : j = i := by omega
    subst ej
    have ey : y = lyf (c_l c j) 10 := by omega
    rw [if_pos q, if_pos rfl, h j hj _ e2]
    unfold tk ru
    rw [if_pos ey]
    obtain ⟨n, hn⟩ : ∃ n, c_l c j (lyf (c_l c j) 10) = n + 1 := ⟨c_l c j (lyf (c_l c j) 10) - 1, by omega⟩
    rw [hn, nI_pred]
    rfl
  · rw [if_neg q, h j hj y hy]
    by_cases e : j = i
    · subst e
      rw [if_pos rfl]
      unfold tk ru
      rw [if_neg (by omega)]
    · rw [if_neg e]
theorem drinkT (h : RB B c) (hw : Wf c) {p i : Nat} (hp : p < c_p c) (hi : i < c_n c) (hz : 0 < sf (c_l c i) 10) : ∃ B', fX4_drink B (nI p) (nI i) = some (bI (!(may (c_w c) (c_l c i) (c_k c p) (c_b c p))), B') ∧ RB B' (drk c p i) ∧ ∀ k, k ≠ 59 → k ≠ 60 → k ≠ 63 → B' k = B k := by
  have hn5 := hw.1
  have hp5 := hw.2.1
  have hl := hw.2.2.2.1 i (by omega)
  obtain ⟨e1, e2, e3⟩ := lyf_ok hz
  obtain ⟨B1, q1, q2, q3⟩ := latestIn h hw (show i < 5 by omega)
  have hB1 := h.ag q2
  have hx := hB1.2.2.2.2.2.1 p hp
  unfold fX4_drink
  rw [bi_e (isPerson h hw _), icB_t hp (by omega), if_neg (by decide), bi_e (isCask h hw _), icB_t hi (by omega), if_neg (by decide), b2_e q1, e1, if_neg (nI_neg (by omega)), ck_t (inb_t (by omega) (by omega)), ck_t (inb_t (by omega) (by omega)), nI_clamp (n := p) (by omega), hx.1, hx.2.1, bi_e (mayThought q3 (by omega) _ _), hB1.1]
  have key : ∀ t : Int32, t = bI (!(may (c_w c) (c_l c i) (c_k c p) (c_b c p))) → ∃ B', fX4_drink_57 B1 (nI p) (nI i) (nI (lyf (c_l c i) 10)) t = some (bI (!(may (c_w c) (c_l c i) (c_k c p) (c_b c p))), B') ∧ RB B' (drk c p i) ∧ ∀ k, k ≠ 59 → k ≠ 60 → k ≠ 63 → B' k = B k := by
    intro t ht
    unfold fX4_drink_57
    rw [idx, ck_t (inb_t (by omega) (by omega)), ck_t (inb_t (by omega) (by omega)), ck_t (inb_t (by omega) (by omega)), ck_t (inb_t (by omega) (by omega)), nI_clamp (by omega), nI_clamp (by omega), up2_ne (k := 59) (i := 63) (by omega), hx.2.2]
    refine ⟨_, by rw [ht], ?_, fun k h1 h2 h3 => by rw [up2_ne h3, up2_ne h1, q2 k (by unfold S60; simpa using h2)]⟩
    obtain ⟨g1, g2, g3, g4, g5, g6, g7⟩ := hB1
    have hL := tk_LB (B := B1) g5 (show i < 5 by omega) hz rfl
    refine ⟨by rw [up2_ne (by omega), up2_ne (by omega)]; exact g1, by rw [up2_ne (by omega), up2_ne (by omega)]; exact g2, by rw [up2_ne (by omega), up2_ne (by omega)]; exact g3, by rw [up2_ne (by omega), up2_ne (by omega)]; exact g4, ?_, fun j hj => ?_, fun j hj => ?_⟩
    · intro j hj y hy
      rw [up2_ne (by omega)]
      exact hL j hj y hy
    · have hy := g6 j hj
      refine ⟨by rw [up2_ne (by omega), up2_ne (by omega)]; exact hy.1, by rw [up2_ne (by omega), up2_ne (by omega)]; exact hy.2.1, ?_⟩
      show _ = if j = p then c_i c p + bI (!(may (c_w c) (c_l c i) (c_k c p) (c_b c p))) else c_i c j
      rw [up2_at, up2_ne (by omega)]
      unfold upd
      by_cases e : j = p
      · rw [if_pos e, if_pos e]
      · rw [if_neg e, if_neg e, hy.2.2]
    · rw [up2_ne (by omega), up2_ne (by omega), up2_ne (by omega), up2_ne (by omega)]
      exact g7 j hj
  cases hm : may (c_w c) (c_l c i) (c_k c p) (c_b c p)
  · rw [if_pos (by decide)]
    have := key 1 (by rw [hm]; rfl)
    rw [hm] at this
    exact this
  · rw [if_neg (by decide)]
    have := key 0 (by rw [hm]; rfl)
    rw [hm] at this
    exact this
end
