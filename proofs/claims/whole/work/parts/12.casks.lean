/-! ===== casks of the class ===== -/
def ru (r : Nat → Nat) (y v : Nat) : Nat → Nat := fun z => if z = y then v else r z
def S2 (k : Nat) : Nat → Bool := fun j => j == k || j == k + 1
def CR (A : Me) (k : Nat) (r : Nat → Nat) : Prop := RR (A (k + 1)) r ∧ A k 1 = nI (sf r 10)
def lyf (r : Nat → Nat) : Nat → Nat
  | 0 => 0
  | n + 1 => if 0 < r n then n else lyf r n
/-- a row with one of its latest litres taken -/
def tk (r : Nat → Nat) : Nat → Nat := ru r (lyf r 10) (r (lyf r 10) - 1)
theorem CR.congr {A : Me} {k : Nat} {r q : Nat → Nat} (h : CR A k r) (e : ∀ y, y < 10 → r y = q y) : CR A k q :=
  ⟨fun y hy => by rw [h.1 y hy, e y hy], by rw [h.2, sf_congr e]⟩
theorem CR.ag {A A' : Me} {S : Nat → Bool} {k : Nat} {r : Nat → Nat} (h : CR A k r) (g : Ag S A A') (h0 : S k = false) (h1 : S (k + 1) = false) : CR A' k r := by
  unfold CR
  rw [g k h0, g (k + 1) h1]
  exact h
theorem S2_f {k j : Nat} (h : j ≠ k) (h2 : j ≠ k + 1) : S2 k j = false := by simp [S2, h, h2]
theorem S2_n {k j : Nat} (h : S2 k j = false) : j ≠ k ∧ j ≠ k + 1 := by
  unfold S2 at h
  simp at h
  exact h
theorem sf_ru (r : Nat → Nat) (y v : Nat) : ∀ n, (y < n → sf (ru r y v) n + r y = sf r n + v) ∧ (n ≤ y → sf (ru r y v) n = sf r n) := by
  intro n
  induction n with
  | zero => exact ⟨fun h => by omega, fun _ => rfl⟩
  | succ n ih =>
    have e : sf (ru r y v) (n + 1) = sf (ru r y v) n + (if n = y then v else r n) := rfl
    have e2 : sf r (n + 1) = sf r n + r n := rfl
    constructor
    · intro h
      by_cases q : n = y
      · subst q
        have := ih.2 (Nat.le_refl _)
        rw [e, if_pos rfl, e2]
        omega
      · have := ih.1 (by omega)
        rw [e, if_neg q, e2]
        omega
    · intro h
      have := ih.2 (by omega)
      rw [e, if_neg (by omega), e2, this]
theorem sf_ru10 {r : Nat → Nat} {y v : Nat} (h : y < 10) : sf (ru r y v) 10 + r y = sf r 10 + v := (sf_ru r y v 10).1 h
theorem lyf_spec (r : Nat → Nat) : ∀ n, (0 < sf r n → ltf r n = nI (lyf r n) ∧ lyf r n < n ∧ 0 < r (lyf r n)) ∧ (sf r n = 0 → ltf r n = -1) := by
  intro n
  induction n with
  | zero => exact ⟨fun h => absurd h (Nat.lt_irrefl 0), fun _ => rfl⟩
  | succ n ih =>
    have e : ltf r (n + 1) = if 0 < r n then nI n else ltf r n := rfl
    have e2 : lyf r (n + 1) = if 0 < r n then n else lyf r n := rfl
    have e3 : sf r (n + 1) = sf r n + r n := rfl
    by_cases h : 0 < r n
    · rw [e, e2, if_pos h, if_pos h]
      exact ⟨fun _ => ⟨rfl, by omega, h⟩, fun q => by omega⟩
    · rw [e, e2, if_neg h, if_neg h]
      constructor
      · intro q
        have := ih.1 (by omega)
        exact ⟨this.1, by omega, this.2.2⟩
      · intro q
        exact ih.2 (by omega)
theorem lyf_ok {r : Nat → Nat} (h : 0 < sf r 10) : ltf r 10 = nI (lyf r 10) ∧ lyf r 10 < 10 ∧ 0 < r (lyf r 10) := (lyf_spec r 10).1 h
theorem ltf_0 {r : Nat → Nat} (h : sf r 10 = 0) : ltf r 10 = -1 := (lyf_spec r 10).2 h
theorem sf_tk {r : Nat → Nat} (h : 0 < sf r 10) : sf (tk r) 10 + 1 = sf r 10 := by
  obtain ⟨-, h2, h3⟩ := lyf_ok h
  have := sf_ru10 (r := r) (y := lyf r 10) (v := r (lyf r 10) - 1) h2
  unfold tk
  omega
theorem ltf_m1 {r : Nat → Nat} : ltf r 10 = -1 ↔ sf r 10 = 0 := by
  constructor
  · intro h
    by_cases q : 0 < sf r 10
    · obtain ⟨h1, h2, -⟩ := lyf_ok q
      rw [h1] at h
      exact absurd h (nI_neg (by omega))
    · omega
  · exact ltf_0
section
variable {A : Me} {k : Nat} {r : Nat → Nat}
theorem put_any (y : Nat) (hy : y < 10) (v : Int32) : fX0_put A k (nI y) v = some (up2 (up2 A (k + 1) y (A (k + 1) y + v)) k 1 (A k 1 + v)) := by
  unfold fX0_put fX0_put_30
  rw [if_neg (nI_pos (by omega)), if_neg (g10_f hy), ck_t (inb_t hy (by omega)), ck_t (inb_t hy (by omega)), nI_clamp (by omega)]
  rw [up2_ne (A := A) (k := k + 1) (i := k) (by omega)]
theorem put_ag (y : Nat) (v w : Int32) : Ag (S2 k) A (up2 (up2 A (k + 1) y v) k 1 w) := by
  intro j hj
  have := S2_n hj
  rw [up2_ne this.1, up2_ne this.2]
theorem put_cr {y : Nat} {v w : Int32} {n : Nat} (h : CR A k r) (hy : y < 10) (hv : v = nI n) (hw : w = nI (sf (ru r y n) 10)) : CR (up2 (up2 A (k + 1) y v) k 1 w) k (ru r y n) := by
  constructor
  · intro z hz
    rw [up2_ne (by omega), up2_at]
    unfold upd ru
    by_cases e : z = y
    · rw [if_pos e, if_pos e, hv]
    · rw [if_neg e, if_neg e, h.1 z hz]
  · rw [up2_at]
    show (if (1 : Nat) = 1 then w else _) = _
    rw [if_pos rfl, hw]
theorem put_add (h : CR A k r) {y : Nat} (hy : y < 10) (n : Nat) : ∃ A', fX0_put A k (nI y) (nI n) = some A' ∧ CR A' k (ru r y (r y + n)) ∧ Ag (S2 k) A A' := by
  refine ⟨_, put_any y hy _, put_cr h hy ?_ ?_, put_ag _ _ _⟩
  · rw [h.1 y hy, nI_add]
  · rw [h.2, nI_add]
    have := sf_ru10 (r := r) (v := r y + n) hy
    congr 1
    omega
theorem put_sub (h : CR A k r) {y : Nat} (hy : y < 10) (hr : 0 < r y) : ∃ A', fX0_put A k (nI y) (-1) = some A' ∧ CR A' k (ru r y (r y - 1)) ∧ Ag (S2 k) A A' := by
  refine ⟨_, put_any y hy _, put_cr h hy ?_ ?_, put_ag _ _ _⟩
  · rw [h.1 y hy]
    obtain ⟨n, hn⟩ : ∃ n, r y = n + 1 := ⟨r y - 1, by omega⟩
    rw [hn, pk_m1]
    congr 1
  · rw [h.2]
    have := sf_ru10 (r := r) (v := r y - 1) hy
    obtain ⟨n, hn⟩ : ∃ n, sf r 10 = n + 1 := ⟨sf r 10 - 1, by have := sf_mem r hy; omega⟩
    rw [hn, pk_m1]
    congr 1
    omega
theorem put_neg (v : Int32) : fX0_put A k (-1) v = some A := by
  unfold fX0_put fX0_put_30
  rw [if_pos (by decide)]
theorem drain_2 : ∀ (d i n : Nat) (A : Me), i + d = 10 → d < n → ∃ A', fX0_drain_2 k n A (nI i) = some A' ∧ Ag (S2 k) A A' ∧ (∀ y, i ≤ y → y < 10 → A' (k + 1) y = 0) ∧ (∀ y, y < i → A' (k + 1) y = A (k + 1) y) ∧ A' k 1 = 0 := by
  intro d
  induction d with
  | zero =>
    intro i n A hi hn
    obtain ⟨n, rfl, -⟩ := fuel hn
    rw [fX0_drain_2, if_pos (g10_t (by omega))]
    refine ⟨_, rfl, fun j hj => up2_ne (S2_n hj).1, fun y h1 h2 => by omega, fun y _ => by rw [up2_ne (by omega)], ?_⟩
    rw [up2_at]; rfl
  | succ d ih =>
    intro i n A hi hn
    obtain ⟨n, rfl, hn2⟩ := fuel hn
    rw [fX0_drain_2, if_neg (g10_f (by omega)), ck_t (inb_t (by omega) (by omega)), nI_clamp (by omega), nI_1]
    obtain ⟨A', h1, h2, h3, h4, h5⟩ := ih (i + 1) n (up2 A (k + 1) i 0) (by omega) (by omega)
    refine ⟨A', h1, Ag.tr (fun j hj => up2_ne (S2_n hj).2) h2, fun y hy hy2 => ?_, fun y hy => ?_, h5⟩
    · by_cases e : y = i
      · subst e
        rw [h4 y (by omega), up2_at]
        exact if_pos rfl
      · exact h3 y (by omega) hy2
    · rw [h4 y (by omega), up2_at]
      exact if_neg (by omega)
theorem sf_zero (n : Nat) : sf (fun _ => 0) n = 0 := by
  induction n with
  | zero => rfl
  | succ n ih => show sf (fun _ => 0) n + 0 = 0; omega
theorem drain : ∃ A', fX0_drain A k = some A' ∧ CR A' k (fun _ => 0) ∧ Ag (S2 k) A A' := by
  obtain ⟨A', h1, h2, h3, h4, h5⟩ := drain_2 (k := k) 10 0 FU A (by omega) (by decide)
  exact ⟨A', h1, ⟨fun y hy => h3 y (by omega) hy, by rw [h5, sf_zero]; rfl⟩, h2⟩
theorem putAllOf_2 {k1 : Nat} {q : Nat → Nat} (hk : S2 k (k1 + 1) = false) : ∀ (d i n : Nat) (A : Me) (r : Nat → Nat), i + d = 10 → d < n → CR A k r → RR (A (k1 + 1)) q → ∃ A', fX0_putAllOf_2 k n A k1 (nI i) = some A' ∧ CR A' k (fun y => if i ≤ y then r y + q y else r y) ∧ Ag (S2 k) A A' := by
  intro d
  induction d with
  | zero =>
    intro i n A r hi hn h hq
    obtain ⟨n, rfl, -⟩ := fuel hn
    rw [fX0_putAllOf_2, if_pos (g10_t (by omega))]
    exact ⟨A, rfl, h.congr (fun y hy => by rw [if_neg (by omega)]), Ag.rf⟩
  | succ d ih =>
    intro i n A r hi hn h hq
    obtain ⟨n, rfl, hn2⟩ := fuel hn
    rw [fX0_putAllOf_2, if_neg (g10_f (by omega)), ck_t (inb_t (by omega) (by omega)), nI_clamp (by omega), hq i (by omega)]
    obtain ⟨A1, h1, h2, h3⟩ := put_add h (show i < 10 by omega) (q i)
    rw [bi_e h1, nI_1]
    obtain ⟨A', h4, h5, h6⟩ := ih (i + 1) n A1 (ru r i (r i + q i)) (by omega) (by omega) h2 (by rw [h3 _ hk]; exact hq)
    refine ⟨A', h4, h5.congr (fun y hy => ?_), h3.tr h6⟩
    unfold ru
    by_cases e : y = i
    · subst e
      rw [if_neg (by omega), if_pos rfl, if_pos (Nat.le_refl _)]
    · rw [if_neg e]
      by_cases l : i ≤ y
      · rw [if_pos (by omega), if_pos l]
      · rw [if_neg (by omega), if_neg l]
theorem putAllOf {k1 : Nat} {q : Nat → Nat} (h : CR A k r) (hk : S2 k (k1 + 1) = false) (hq : RR (A (k1 + 1)) q) : ∃ A', fX0_putAllOf A k k1 = some A' ∧ CR A' k (fun y => r y + q y) ∧ Ag (S2 k) A A' := by
  obtain ⟨A', h1, h2, h3⟩ := putAllOf_2 (q := q) hk 10 0 FU A r (by omega) (by decide) h hq
  exact ⟨A', h1, h2.congr (fun y _ => if_pos (Nat.zero_le _)), h3⟩
theorem caskBecome {k1 : Nat} {q : Nat → Nat} (hk : S2 k (k1 + 1) = false) (hq : RR (A (k1 + 1)) q) : ∃ A', fX0_become A k k1 = some A' ∧ CR A' k q ∧ Ag (S2 k) A A' := by
  obtain ⟨A1, h1, h2, h3⟩ := drain (A := A) (k := k)
  obtain ⟨A2, h4, h5, h6⟩ := putAllOf (q := q) h2 hk (by rw [h3 _ hk]; exact hq)
  refine ⟨A2, ?_, h5.congr (fun y _ => Nat.zero_add _), h3.tr h6⟩
  unfold fX0_become
  rw [bi_e h1, bi_e h4]
theorem takeLatest (h : CR A k r) (hb : sf r 10 ≤ 1000) (h0 : 0 < sf r 10) : ∃ A', fX0_takeLatest A k = some (nI (lyf r 10), A') ∧ CR A' k (tk r) ∧ Ag (S2 k) A A' := by
  obtain ⟨h1, h2, h3⟩ := lyf_ok h0
  obtain ⟨A', h4, h5, h6⟩ := put_sub h h2 h3
  refine ⟨A', ?_, h5, h6⟩
  unfold fX0_takeLatest
  rw [bi_e (latestYear h.1 hb), h1, bi_e h4]
theorem room_ (h : CR A k r) (hb : sf r 10 ≤ 20) : fX0_room A k = some (nI (20 - sf r 10)) := by
  unfold fX0_room
  rw [h.2, show (20 : Int32) = nI 20 from rfl, pk_sub hb]
end
