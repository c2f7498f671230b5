/-! ===== pouring litre by litre, in closed form ===== -/
/-- litres of later years -/
def upy (s : Nat → Nat) (y : Nat) : Nat := sf s 10 - sf s (y + 1)
/-- a row with k litres poured out, the latest first -/
def tkc (s : Nat → Nat) (k : Nat) : Nat → Nat := fun y => s y - (k - upy s y)
/-- a row with k litres of s poured in -/
def prc (r s : Nat → Nat) (k : Nat) : Nat → Nat := fun y => r y + min (s y) (k - upy s y)
theorem lyf_max (r : Nat → Nat) : ∀ n, 0 < sf r n → ∀ z, lyf r n < z → z < n → r z = 0 := by
  intro n
  induction n with
  | zero => intro _ z _ hz; omega
  | succ n ih =>
    intro h z h1 h2
    have e2 : lyf r (n + 1) = if 0 < r n then n else lyf r n := rfl
    have e3 : sf r (n + 1) = sf r n + r n := rfl
    rw [e2] at h1
    by_cases q : 0 < r n
    · rw [if_pos q] at h1; omega
    · rw [if_neg q] at h1
      by_cases e : z = n
      · subst e; omega
      · exact ih (by omega) z h1 (by omega)
theorem upy_tail {s : Nat → Nat} {k : Nat} : ∀ (d m : Nat), m + d = 10 → (∀ z, m ≤ z → z < 10 → tkc s k z = 0) → sf s 10 - sf s m ≤ k := by
  intro d
  induction d with
  | zero => intro m hm _; have : m = 10 := by omega
            subst this; omega
  | succ d ih =>
    intro m hm h
    have h1 := ih (m + 1) (by omega) (fun z h1 h2 => h z (by omega) h2)
    have h2 := h m (Nat.le_refl _) (by omega)
    have h3 := sf_le s (show m + 1 ≤ 10 by omega)
    have h4 : sf s (m + 1) = sf s m + s m := rfl
    unfold tkc upy at h2
    omega
theorem tkc_pos {s : Nat → Nat} {k : Nat} (h : k < sf s 10) : 0 < sf (tkc s k) 10 := by
  by_cases q : 0 < sf (tkc s k) 10
  · exact q
  · have := upy_tail (s := s) (k := k) 10 0 (by omega) (fun z _ hz => sf_0 (by omega) z hz)
    have : sf s 0 = 0 := rfl
    omega
theorem tkc_step {s : Nat → Nat} {k : Nat} (h : k < sf s 10) : (∀ y, y < 10 → tk (tkc s k) y = tkc s (k + 1) y) ∧ ∀ r y, y < 10 → ru (prc r s k) (lyf (tkc s k) 10) (prc r s k (lyf (tkc s k) 10) + 1) y = prc r s (k + 1) y := by
  have hp := tkc_pos h
  obtain ⟨-, h2, h3⟩ := lyf_ok hp
  have hmax := lyf_max (tkc s k) 10 hp
  unfold tk
  generalize lyf (tkc s k) 10 = Y at h2 h3 hmax ⊢
  have ht := upy_tail (s := s) (k := k) (10 - (Y + 1)) (Y + 1) (by omega) (fun z h1 h2 => hmax z (by omega) h2)
  have hY : sf s (Y + 1) = sf s Y + s Y := rfl
  have hYl := sf_le s (show Y + 1 ≤ 10 by omega)
  have h3' : 0 < s Y - (k - (sf s 10 - sf s (Y + 1))) := h3
  -- the three kinds of years
  have key : ∀ y, y < 10 → (y = Y ∧ k - (sf s 10 - sf s (y + 1)) + 1 = k + 1 - (sf s 10 - sf s (y + 1)) ∧ k - (sf s 10 - sf s (y + 1)) < s y) ∨ (y ≠ Y ∧ s y ≤ k - (sf s 10 - sf s (y + 1)) ∧ s y ≤ k + 1 - (sf s 10 - sf s (y + 1))) ∨ (y ≠ Y ∧ k - (sf s 10 - sf s (y + 1)) = 0 ∧ k + 1 - (sf s 10 - sf s (y + 1)) = 0) := by
    intro y hy
    by_cases e : y = Y
    · left
      subst e
      exact ⟨rfl, by omega, by omega⟩
    · right
      by_cases l : Y < y
      · left
        have := hmax y l hy
        unfold tkc upy at this
        exact ⟨e, by omega, by omega⟩
      · right
        have := sf_le s (show y + 1 ≤ Y by omega)
        exact ⟨e, by omega, by omega⟩
  constructor
  · intro y hy
    unfold ru tkc upy
    rcases key y hy with ⟨a, b, d⟩ | ⟨a, b, d⟩ | ⟨a, b, d⟩
    · subst a; rw [if_pos rfl]; omega
    · rw [if_neg a]; omega
    · rw [if_neg a]; omega
  · intro r y hy
    unfold ru prc upy
    rcases key y hy with ⟨a, b, d⟩ | ⟨a, b, d⟩ | ⟨a, b, d⟩
    · subst a; rw [if_pos rfl]; omega
    · rw [if_neg a]; omega
    · rw [if_neg a]; omega
theorem prc_0 (r s : Nat → Nat) (y : Nat) : prc r s 0 y = r y := by unfold prc; omega
theorem tkc_0 (s : Nat → Nat) (y : Nat) : tkc s 0 y = s y := by unfold tkc; omega
theorem sf_mono {r q : Nat → Nat} {n : Nat} (h : ∀ y, y < n → r y ≤ q y) : sf r n ≤ sf q n := by
  induction n with
  | zero => exact Nat.le_refl _
  | succ n ih =>
    have := ih (fun y hy => h y (by omega))
    have := h n (by omega)
    show sf r n + r n ≤ sf q n + q n
    omega
theorem prc_le (r s : Nat → Nat) (k : Nat) : sf (prc r s k) 10 ≤ sf r 10 + sf s 10 := by
  rw [← sf_add]
  exact sf_mono (fun y _ => by unfold prc; omega)
theorem tkc_le (s : Nat → Nat) (k : Nat) : sf (tkc s k) 10 ≤ sf s 10 := sf_mono (fun y _ => by unfold tkc; omega)
/-- the first of d numbers from j on -/
def ff (f : Nat → Bool) : Nat → Nat → Int32
  | 0, _ => -1
  | d + 1, j => if f j then nI j else ff f d (j + 1)
section
variable {A B : Me} {c : Ce}
theorem s5457 : ∀ j, j ≤ 16 → (fun x => S2 54 x || S2 56 x) (3 + j) = false := fun j hj => by
  show (S2 54 (3 + j) || S2 56 (3 + j)) = false
  rw [S2_f (by omega) (by omega), S2_f (by omega) (by omega)]
  rfl
def S4 : Nat → Bool := fun x => S2 54 x || S2 56 x
theorem S4_54 {A A' : Me} (h : Ag (S2 54) A A') : Ag S4 A A' := h.mono (fun k hk => by unfold S4; rw [hk]; rfl)
theorem S4_56 {A A' : Me} (h : Ag (S2 56) A A') : Ag S4 A A' := h.mono (fun k hk => by unfold S4; rw [hk]; simp)
theorem litresToTop_54 (hw : Wf c) (ppl : Int32) (r s : Nat → Nat) (hr : sf r 10 ≤ 20) (hs : sf s 10 ≤ 20) : ∀ (d j n : Nat) (A : Me), RC A 3 c → CR A 54 (prc r s j) → CR A 56 (tkc s j) → j + d ≤ sf s 10 → d < n →
    ∃ A', fX3_litresToTop_54 n A ppl (nI (j + d)) (nI (j + 1)) = some (ff (fun l => alB c (prc r s l) ppl) d (j + 1), A') ∧ Ag S4 A A' := by
  intro d
  induction d with
  | zero =>
    intro j n A h hC hC2 hj hn
    obtain ⟨n, rfl, -⟩ := fuel hn
    rw [fX3_litresToTop_54, if_pos ((nI_ltI (by omega) (by omega)).mpr (by omega))]
    exact ⟨A, rfl, Ag.rf⟩
  | succ d ih =>
    intro j n A h hC hC2 hj hn
    obtain ⟨n, rfl, hn2⟩ := fuel hn
    rw [fX3_litresToTop_54, if_neg (fun x => by have := (nI_ltI (by omega) (by omega)).mp x; omega)]
    have hp := tkc_pos (show j < sf s 10 by omega)
    have hl := tkc_le s j
    obtain ⟨A1, q1, q2, q3⟩ := takeLatest hC2 (by omega) hp
    have hy := (lyf_ok hp).2.1
    have hC1 := hC.ag q3 (S2_f (by omega) (by omega)) (S2_f (by omega) (by omega))
    obtain ⟨A2, p1, p2, p3⟩ := put_add hC1 hy 1
    obtain ⟨st1, st2⟩ := tkc_step (s := s) (k := j) (by omega)
    have hD : CR A2 54 (prc r s (j + 1)) := p2.congr (fun y hy => st2 r y hy)
    have hE : CR A2 56 (tkc s (j + 1)) := (q2.ag p3 (S2_f (by omega) (by omega)) (S2_f (by omega) (by omega))).congr st1
    have g : Ag S4 A A2 := (S4_56 q3).tr (S4_54 p3)
    have hR := h.ag g s5457
    rw [b2_e q1, bi_e (show fX0_put A1 54 (nI (lyf (tkc s j) 10)) 1 = some A2 from p1)]
    have hb := prc_le r s (j + 1)
    rw [bi_e (allMay hR hw hD (by omega) ppl)]
    have e : ff (fun l => alB c (prc r s l) ppl) (d + 1) (j + 1) = if alB c (prc r s (j + 1)) ppl then nI (j + 1) else ff (fun l => alB c (prc r s l) ppl) d (j + 1 + 1) := rfl
    rw [e]
    cases ha : alB c (prc r s (j + 1)) ppl
    · rw [if_pos (by decide), if_neg (by simp), nI_1]
      obtain ⟨A', t1, t2⟩ := ih (j + 1) n A2 hR hD hE (by omega) (by omega)
      rw [show j + 1 + d = j + (d + 1) by omega] at t1
      exact ⟨A', t1, g.tr t2⟩
    · rw [if_neg (by decide), if_pos rfl]
      exact ⟨A2, rfl, g⟩
/-- how few litres of cask f make that all may, for cask i -/
def ltt (c : Ce) (ppl : Int32) (i f : Nat) : Int32 := ff (fun l => alB c (prc (c_l c i) (c_l c f) l) ppl) (min (sf (c_l c f) 10) (20 - sf (c_l c i) 10)) 1
theorem litresToTop (h : RC A 3 c) (hw : Wf c) (ppl : Int32) {i f : Nat} (hi : i < 5) (hf : f < 5) : ∃ A', fX3_litresToTop A ppl (nI i) (nI f) = some (ltt c ppl i f, A') ∧ Ag S4 A A' := by
  have hr := hw.2.2.2.1 i hi
  have hs := hw.2.2.2.1 f hf
  have hCi : CR A (4 + 6 + 2 * i) (c_l c i) := h.2.2.2.2.2.1 i hi
  have hCf : CR A (4 + 6 + 2 * f) (c_l c f) := h.2.2.2.2.2.1 f hf
  obtain ⟨A1, q1, q2, q3⟩ := caskBecome (A := A) (k := 54) (k1 := 4 + 6 + 2 * i) (S2_f (by omega) (by omega)) hCi.1
  have hCf1 := hCf.ag q3 (S2_f (by omega) (by omega)) (S2_f (by omega) (by omega))
  obtain ⟨A2, p1, p2, p3⟩ := caskBecome (A := A1) (k := 56) (k1 := 4 + 6 + 2 * f) (S2_f (by omega) (by omega)) hCf1.1
  have hC54 := q2.ag p3 (S2_f (by omega) (by omega)) (S2_f (by omega) (by omega))
  have g : Ag S4 A A2 := (S4_54 q3).tr (S4_56 p3)
  have hR := h.ag g s5457
  obtain ⟨A', t1, t2⟩ := litresToTop_54 hw ppl (c_l c i) (c_l c f) hr hs (min (sf (c_l c f) 10) (20 - sf (c_l c i) 10)) 0 FU A2 hR (hC54.congr (fun y _ => (prc_0 _ _ y).symm)) (p2.congr (fun y _ => (tkc_0 _ y).symm)) (by omega) (Nat.lt_of_le_of_lt (Nat.min_le_left _ _) (Nat.lt_of_le_of_lt hs (by decide)))
  refine ⟨A', ?_, g.tr t2⟩
  unfold fX3_litresToTop fX3_litresToTop_51
  rw [ck_t (inb_t hi (by omega)), nI_clamp (by omega), bi_e q1, ck_t (inb_t hf (by omega)), nI_clamp (by omega), bi_e p1, bi_e (room_ hC54 hr), p2.2]
  rw [Nat.zero_add] at t1
  rw [show (if nI (20 - sf (c_l c i) 10) < nI (sf (c_l c f) 10) then nI (20 - sf (c_l c i) 10) else nI (sf (c_l c f) 10)) = nI (min (sf (c_l c f) 10) (20 - sf (c_l c i) 10)) from by
    by_cases z : 20 - sf (c_l c i) 10 < sf (c_l c f) 10
    · rw [if_pos ((nI_ltI (by omega) (by omega)).mpr z)]; congr 1; omega
    · rw [if_neg (fun x => z ((nI_ltI (by omega) (by omega)).mp x))]; congr 1; omega]
  exact t1
/-! the reference's way -/
theorem addLitres_6 {r s : Nat → Nat} {f : Nat} (hf : f < 5) (k : Nat) (hs : sf s 10 ≤ 1000) (hk : k < 1000) : ∀ (i n : Nat) (B : Me), i ≤ 10 → i < n → (∀ y, y < 10 → B 59 (10 * f + y) = nI (s y)) → RR (B 60) (fun y => if i ≤ y then prc r s k y else r y) →
    ∃ B', fX4_addLitres_6 n B (nI f) (nI (k - (sf s 10 - sf s i))) (nI i + (-1)) = some B' ∧ Ag S60 B B' ∧ RR (B' 60) (prc r s k) := by
  intro i
  induction i with
  | zero =>
    intro n B _ hn hB hr
    obtain ⟨n, rfl, -⟩ := fuel hn
    rw [fX4_addLitres_6, if_pos (by decide)]
    exact ⟨B, rfl, Ag.rf, hr.congr (fun y _ => if_pos (Nat.zero_le _))⟩
  | succ i ih =>
    intro n B hi hn hB hr
    obtain ⟨n, rfl, hn2⟩ := fuel hn
    have hm := sf_mem s (show i < 10 by omega)
    have e : sf s (i + 1) = sf s i + s i := rfl
    have hle := sf_le s (show i + 1 ≤ 10 by omega)
    have hri : B 60 i = nI (r i) := by
      rw [hr i (by omega)]
      show nI (if i + 1 ≤ i then prc r s k i else r i) = _
      rw [if_neg (by omega)]
    have fin : ∀ t : Nat, t = min (s i) (k - upy s i) → ∃ B', fX4_addLitres_43 (fun m x0 x1 x2 => fX4_addLitres_6 n m x0 x1 x2) B (nI f) (nI (k - (sf s 10 - sf s (i + 1)))) (nI i) (nI t) = some B' ∧ Ag S60 B B' ∧ RR (B' 60) (prc r s k) := by
      intro t ht
      unfold fX4_addLitres_43
      have htl : t ≤ k - (sf s 10 - sf s (i + 1)) := by unfold upy at ht; omega
      rw [ck_t (inb_t (by omega) (by omega)), ck_t (inb_t (by omega) (by omega)), nI_clamp (by omega), hri, nI_add, pk_sub htl]
      rw [show k - (sf s 10 - sf s (i + 1)) - t = k - (sf s 10 - sf s i) from by unfold upy at ht; omega]
      obtain ⟨B', h1, h2, h3⟩ := ih n (up2 B 60 i (nI (r i + t))) (by omega) (by omega) (by rw [up2_ne (by omega)]; exact hB) (by
        intro y hy
        rw [up2_at]
        unfold upd
        by_cases ey : y = i
        · rw [if_pos ey]
          show nI (r i + t) = nI (if i ≤ y then prc r s k y else r y)
          rw [if_pos (by omega), ht]
          subst ey
          rfl
        · rw [if_neg ey, hr y hy]
          show nI (if i + 1 ≤ y then prc r s k y else r y) = nI (if i ≤ y then prc r s k y else r y)
          by_cases l : i + 1 ≤ y
          · rw [if_pos l, if_pos (by omega)]
          · rw [if_neg l, if_neg (by omega)])
      exact ⟨B', h1, Ag.tr (fun j hj => up2_ne (S60_n hj)) h2, h3⟩
    rw [fX4_addLitres_6, pk_m1, if_neg (nI_pos (by omega)), idx, ck_t (inb_t (by omega) (by omega)), nI_clamp (by omega), hB i (by omega)]
    by_cases z : k - (sf s 10 - sf s (i + 1)) ≤ s i
    · rw [if_pos ((nI_leI (by omega) (by omega)).mpr z)]
      exact fin _ (by unfold upy; omega)
    · rw [if_neg (fun x => z ((nI_leI (by omega) (by omega)).mp x)), ck_t (inb_t (by omega) (by omega))]
      exact fin _ (by unfold upy; omega)
theorem addLitres {r : Nat → Nat} (h : RB B c) (hw : Wf c) {f : Nat} (hf : f < 5) {k : Nat} (hk : k < 1000) (hr : RR (B 60) r) : ∃ B', fX4_addLitres B (nI f) (nI k) = some B' ∧ Ag S60 B B' ∧ RR (B' 60) (prc r (c_l c f) k) := by
  have hs := hw.2.2.2.1 f hf
  have := addLitres_6 (r := r) (s := c_l c f) hf k (by omega) hk 10 FU B (by omega) (by decide) (h.2.2.2.2.1 f hf) (hr.congr (fun y hy => by rw [if_neg (by omega)]))
  rw [show k - (sf (c_l c f) 10 - sf (c_l c f) 10) = k by omega] at this
  exact this
theorem isTopped (h : RB B c) (hw : Wf c) {i f k : Nat} (hi : i < 5) (hf : f < 5) (hk : k < 1000) (ppl : Int32) : ∃ B', fX4_isTopped B (nI i) (nI f) (nI k) ppl = some (bI (alB c (prc (c_l c i) (c_l c f) k) ppl), B') ∧ Ag S60 B B' := by
  have h1 := hw.2.2.2.1 i hi
  have h2 := hw.2.2.2.1 f hf
  have h3 := prc_le (c_l c i) (c_l c f) k
  obtain ⟨B1, q1, q2, q3⟩ := think hi h.2.2.2.2.1
  obtain ⟨B2, p1, p2, p3⟩ := addLitres (h.ag q2) hw hf hk q3
  refine ⟨B2, ?_, q2.tr p2⟩
  unfold fX4_isTopped fX4_isTopped_28 alB
  rw [bi_e q1, bi_e p1, bi_e (whoMayT ((h.ag q2).ag p2) hw p3 (by omega)), ck_t zb_0, ck_t zb_1]
  by_cases z : (who c (prc (c_l c i) (c_l c f) k) &&& ppl) = ppl
  · rw [if_pos z, decide_eq_true z]; rfl
  · rw [if_neg z, decide_eq_false z]; rfl
end
