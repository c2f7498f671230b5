/-! ===== seats: the most that can be seated are the least that bound it (Koenig, with litres) ===== -/
def anyf (f : Nat → Bool) : Nat → Bool
  | 0 => false
  | n + 1 => anyf f n || f n
theorem anyf_t {f : Nat → Bool} {n : Nat} : anyf f n = true ↔ ∃ i, i < n ∧ f i = true := by
  induction n with
  | zero => exact ⟨(fun h => nomatch h), (fun ⟨i, h, _⟩ => by omega)⟩
  | succ n ih =>
    have e : anyf f (n + 1) = (anyf f n || f n) := rfl
    rw [e, Bool.or_eq_true, ih]
    constructor
    · rintro (⟨i, h1, h2⟩ | h)
      · exact ⟨i, by omega, h2⟩
      · exact ⟨n, by omega, h⟩
    · rintro ⟨i, h1, h2⟩
      by_cases q : i = n
      · right; rw [← q]; exact h2
      · left; exact ⟨i, by omega, h2⟩
/-- a person has a cask outside of S -/
def nbq (n : Nat) (inP : Nat → Bool) (E : Nat → Nat → Bool) (S : Nat → Bool) (q : Nat) : Bool := inP q && anyf (fun i => !(S i) && E q i) n
def nb (n : Nat) (inP : Nat → Bool) (E : Nat → Nat → Bool) (S : Nat → Bool) : Nat → Nat → Nat
  | 0, _ => 0
  | d + 1, p => (if nbq n inP E S p then 1 else 0) + nb n inP E S d (p + 1)
def caS (n : Nat) (left : Nat → Nat) (S : Nat → Bool) : Nat := sf (fun i => if S i then left i else 0) n
/-- persons p, p + 1 .. seated by a code -/
def sv (n : Nat) (inP : Nat → Bool) (E : Nat → Nat → Bool) : Nat → Nat → (Nat → Nat) → Nat → Option Nat
  | 0, _, _, _ => some 0
  | d + 1, p, left, code => if code % 6 = 0 then sv n inP E d (p + 1) left (code / 6) else if inP p = true ∧ code % 6 - 1 < n ∧ E p (code % 6 - 1) = true ∧ left (code % 6 - 1) ≠ 0 then (sv n inP E d (p + 1) (ru left (code % 6 - 1) (left (code % 6 - 1) - 1)) (code / 6)).map (· + 1) else none
section
variable {n : Nat} {inP : Nat → Bool} {E : Nat → Nat → Bool}
theorem bo3 : ∀ a b e : Bool, (!(a || b) && e) = true → a = false ∧ b = false ∧ e = true := by decide
theorem ba3 : ∀ a b e : Bool, (!(a && b) && e) = true → (!a && e) = true ∨ (!b && e) = true := by decide
theorem bn2 : ∀ u e : Bool, (!u && e) = true → u = false ∧ e = true := by decide
theorem cnt_mono {f g : Nat → Bool} {m : Nat} (h : ∀ i, i < m → f i = true → g i = true) : cnt f m ≤ cnt g m := by
  induction m with
  | zero => exact Nat.le_refl _
  | succ m ih =>
    have h1 := ih (fun i hi => h i (by omega))
    have h2 := h m (by omega)
    show cnt f m + (if f m then 1 else 0) ≤ cnt g m + (if g m then 1 else 0)
    cases hf : f m
    · simp; omega
    · rw [h2 hf]; simp; omega
theorem cnt_lt {f g : Nat → Bool} {m i : Nat} (h : ∀ i, i < m → f i = true → g i = true) (hi : i < m) (hf : f i = false) (hg : g i = true) : cnt f m + 1 ≤ cnt g m := by
  induction m with
  | zero => omega
  | succ m ih =>
    have h2 := h m (by omega)
    show cnt f m + (if f m then 1 else 0) + 1 ≤ cnt g m + (if g m then 1 else 0)
    by_cases e : i = m
    · subst e
      have h1 := cnt_mono (f := f) (g := g) (m := i) (fun j hj => h j (by omega))
      rw [hf, hg]; simp; omega
    · have h1 := ih (fun j hj => h j (by omega)) (by omega)
      cases hfm : f m
      · simp; omega
      · rw [h2 hfm]; simp; omega
theorem caS_dec {left : Nat → Nat} {S : Nat → Bool} {i : Nat} (hi : i < n) (h : left i ≠ 0) : caS n (ru left i (left i - 1)) S + (if S i then 1 else 0) = caS n left S := by
  unfold caS
  induction n with
  | zero => omega
  | succ m ih =>
    show sf (fun j => if S j then ru left i (left i - 1) j else 0) m + (if S m then ru left i (left i - 1) m else 0) + (if S i then 1 else 0) = sf (fun j => if S j then left j else 0) m + (if S m then left m else 0)
    by_cases e : i = m
    · subst e
      have : sf (fun j => if S j then ru left i (left i - 1) j else 0) i = sf (fun j => if S j then left j else 0) i := sf_congr (fun j hj => by
        show (if S j = true then ru left i (left i - 1) j else 0) = _
        rw [show ru left i (left i - 1) j = left j from if_neg (by omega)])
      rw [this]
      unfold ru
      rw [if_pos rfl]
      cases S i
      · simp
      · simp; omega
    · have := ih (by omega)
      have e2 : ru left i (left i - 1) m = left m := if_neg (fun x => e x.symm)
      rw [e2]
      omega
theorem weak : ∀ (d p : Nat) (left : Nat → Nat) (code c : Nat), sv n inP E d p left code = some c → ∀ S, c ≤ caS n left S + nb n inP E S d p := by
  intro d
  induction d with
  | zero => intro p left code c h S; cases h; omega
  | succ d ih =>
    intro p left code c h S
    have e : nb n inP E S (d + 1) p = (if nbq n inP E S p then 1 else 0) + nb n inP E S d (p + 1) := rfl
    rw [sv] at h
    by_cases z : code % 6 = 0
    · rw [if_pos z] at h
      have := ih _ _ _ _ h S
      omega
    · rw [if_neg z] at h
      by_cases y : inP p = true ∧ code % 6 - 1 < n ∧ E p (code % 6 - 1) = true ∧ left (code % 6 - 1) ≠ 0
      · rw [if_pos y] at h
        obtain ⟨y1, y2, y3, y4⟩ := y
        cases hs : sv n inP E d (p + 1) (ru left (code % 6 - 1) (left (code % 6 - 1) - 1)) (code / 6) with
        | none => rw [hs] at h; cases h
        | some c' =>
          rw [hs] at h
          cases h
          have h1 := ih _ _ _ _ hs S
          have h2 := caS_dec (S := S) y2 y4
          cases hS : S (code % 6 - 1)
          · have : nbq n inP E S p = true := by
              unfold nbq
              rw [y1, Bool.true_and]
              exact anyf_t.mpr ⟨code % 6 - 1, y2, by rw [hS, y3]; rfl⟩
            rw [this, if_pos rfl] at e
            rw [hS] at h2
            simp at h2
            show c' + 1 ≤ _
            omega
          · rw [hS, if_pos rfl] at h2
            show c' + 1 ≤ _
            omega
      · rw [if_neg y] at h; cases h
theorem cnt_or (f g : Nat → Bool) (m : Nat) : cnt (fun i => f i || g i) m + cnt (fun i => f i && g i) m = cnt f m + cnt g m := by
  induction m with
  | zero => rfl
  | succ m ih =>
    show cnt (fun i => f i || g i) m + (if f m || g m then 1 else 0) + (cnt (fun i => f i && g i) m + (if f m && g m then 1 else 0)) = cnt f m + (if f m then 1 else 0) + (cnt g m + (if g m then 1 else 0))
    cases f m <;> cases g m <;> simp <;> omega
theorem caS_mod (left : Nat → Nat) (S T : Nat → Bool) : caS n left (fun i => S i || T i) + caS n left (fun i => S i && T i) = caS n left S + caS n left T := by
  unfold caS
  dsimp only
  induction n with
  | zero => rfl
  | succ m ih =>
    have key : (if (S m || T m) = true then left m else 0) + (if (S m && T m) = true then left m else 0) = (if S m = true then left m else 0) + (if T m = true then left m else 0) := by
      cases S m <;> cases T m <;> simp
    show sf (fun i => if (S i || T i) = true then left i else 0) m + (if (S m || T m) = true then left m else 0) + (sf (fun i => if (S i && T i) = true then left i else 0) m + (if (S m && T m) = true then left m else 0)) = sf (fun i => if S i = true then left i else 0) m + (if S m = true then left m else 0) + (sf (fun i => if T i = true then left i else 0) m + (if T m = true then left m else 0))
    omega
theorem nbq_sub (S T : Nat → Bool) (p : Nat) : (if nbq n inP E (fun i => S i || T i) p then 1 else 0) + (if nbq n inP E (fun i => S i && T i) p then 1 else 0) ≤ (if nbq n inP E S p then 1 else 0) + (if nbq n inP E T p then 1 else 0) := by
  have h1 : nbq n inP E (fun i => S i || T i) p = true → nbq n inP E S p = true ∧ nbq n inP E T p = true := by
    unfold nbq
    intro h
    rw [Bool.and_eq_true] at h
    obtain ⟨a, b⟩ := h
    obtain ⟨i, hi, hb⟩ := anyf_t.mp b
    rw [a, Bool.true_and, Bool.true_and]
    have : S i = false ∧ T i = false ∧ E p i = true := bo3 _ _ _ hb
    exact ⟨anyf_t.mpr ⟨i, hi, by rw [this.1, this.2.2]; rfl⟩, anyf_t.mpr ⟨i, hi, by rw [this.2.1, this.2.2]; rfl⟩⟩
  have h2 : nbq n inP E (fun i => S i && T i) p = true → nbq n inP E S p = true ∨ nbq n inP E T p = true := by
    unfold nbq
    intro h
    rw [Bool.and_eq_true] at h
    obtain ⟨a, b⟩ := h
    obtain ⟨i, hi, hb⟩ := anyf_t.mp b
    rw [a, Bool.true_and, Bool.true_and]
    rcases ba3 _ _ _ hb with q | q
    · left; exact anyf_t.mpr ⟨i, hi, q⟩
    · right; exact anyf_t.mpr ⟨i, hi, q⟩
  cases ha : nbq n inP E (fun i => S i || T i) p
  · cases hb : nbq n inP E (fun i => S i && T i) p
    · simp
    · rcases h2 hb with q | q
      · rw [q]; simp
      · rw [q]; simp
  · obtain ⟨q1, q2⟩ := h1 ha
    rw [q1, q2]
    cases nbq n inP E (fun i => S i && T i) p <;> simp
theorem nb_sub (S T : Nat → Bool) : ∀ (d p : Nat), nb n inP E (fun i => S i || T i) d p + nb n inP E (fun i => S i && T i) d p ≤ nb n inP E S d p + nb n inP E T d p := by
  intro d
  induction d with
  | zero => intro p; exact Nat.le_refl _
  | succ d ih =>
    intro p
    have h1 := nbq_sub (n := n) (inP := inP) (E := E) S T p
    have h2 := ih (p + 1)
    show (if nbq n inP E (fun i => S i || T i) p then 1 else 0) + nb n inP E (fun i => S i || T i) d (p + 1) + ((if nbq n inP E (fun i => S i && T i) p then 1 else 0) + nb n inP E (fun i => S i && T i) d (p + 1)) ≤ (if nbq n inP E S p then 1 else 0) + nb n inP E S d (p + 1) + ((if nbq n inP E T p then 1 else 0) + nb n inP E T d (p + 1))
    omega
/-- the least of a bounded measure's greatest -/
theorem greatest (P : Nat → Prop) (N : Nat) (h : ∃ t, t ≤ N ∧ P t) : ∃ t, t ≤ N ∧ P t ∧ ∀ s, s ≤ N → P s → s ≤ t := by
  induction N with
  | zero =>
    obtain ⟨t, h1, h2⟩ := h
    exact ⟨t, h1, h2, fun s hs _ => by omega⟩
  | succ N ih =>
    by_cases q : P (N + 1)
    · exact ⟨N + 1, Nat.le_refl _, q, fun s hs _ => hs⟩
    · obtain ⟨t, h1, h2⟩ := h
      have : t ≠ N + 1 := fun e => q (e ▸ h2)
      obtain ⟨u, u1, u2, u3⟩ := ih ⟨t, by omega, h2⟩
      exact ⟨u, by omega, u2, fun s hs hp => by
        by_cases e : s = N + 1
        · exact absurd (e ▸ hp) q
        · exact u3 s (by omega) hp⟩
theorem strong : ∀ (d p : Nat) (left : Nat → Nat), n ≤ 5 → ∃ code c S, code < 6 ^ d ∧ sv n inP E d p left code = some c ∧ c = caS n left S + nb n inP E S d p := by
  intro d
  induction d with
  | zero =>
    intro p left _
    refine ⟨0, 0, fun _ => false, by decide, rfl, ?_⟩
    show 0 = caS n left (fun _ => false) + 0
    have : caS n left (fun _ => false) = 0 := by
      show sf (fun _ => 0) n = 0
      exact sf_zero n
    omega
  | succ d ih =>
    intro p left hn
    have pw : 6 ^ (d + 1) = 6 * 6 ^ d := by rw [Nat.pow_succ, Nat.mul_comm]
    obtain ⟨code0, c0, S0, g1, g2, g3⟩ := ih (p + 1) left hn
    have hmin : ∀ S, c0 ≤ caS n left S + nb n inP E S d (p + 1) := weak d (p + 1) left code0 c0 g2
    -- the largest of the least sets
    obtain ⟨t, t1, ⟨U, u1, u2⟩, t3⟩ := greatest (fun t => ∃ U : Nat → Bool, caS n left U + nb n inP E U d (p + 1) = c0 ∧ cnt U n = t) n ⟨cnt S0 n, cnt_le _ _, S0, g3.symm, rfl⟩
    have hU : ∀ S, caS n left S + nb n inP E S d (p + 1) = c0 → ∀ i, i < n → S i = true → U i = true := by
      intro S hS i hi hi2
      have m1 := caS_mod (n := n) left S U
      have m2 := nb_sub (n := n) (inP := inP) (E := E) S U d (p + 1)
      have m3 := hmin (fun i => S i || U i)
      have m4 := hmin (fun i => S i && U i)
      have hun : caS n left (fun i => S i || U i) + nb n inP E (fun i => S i || U i) d (p + 1) = c0 := by omega
      have h5 := t3 _ (cnt_le (fun i => S i || U i) n) ⟨_, hun, rfl⟩
      cases hUi : U i
      · exfalso
        -- then the union is larger
        have : cnt U n + 1 ≤ cnt (fun i => S i || U i) n := cnt_lt (i := i) (fun j _ hj => by rw [hj]; simp) hi hUi (by rw [hi2]; rfl)
        omega
      · rfl
    have eU : nb n inP E U (d + 1) p = (if nbq n inP E U p then 1 else 0) + nb n inP E U d (p + 1) := rfl
    cases hq : nbq n inP E U p
    · -- nobody new
      refine ⟨6 * code0, c0, U, by omega, ?_, ?_⟩
      · rw [sv, if_pos (by omega), show 6 * code0 / 6 = code0 by omega]
        exact g2
      · rw [eU, hq]
        simp
        omega
    · unfold nbq at hq
      rw [Bool.and_eq_true] at hq
      obtain ⟨hp, ha⟩ := hq
      obtain ⟨i, hi, hE⟩ := anyf_t.mp ha
      have hUi : U i = false := (bn2 _ _ hE).1
      have hEi : E p i = true := (bn2 _ _ hE).2
      -- cask i is in no least set
      have hno : ∀ S, S i = true → c0 + 1 ≤ caS n left S + nb n inP E S d (p + 1) := by
        intro S hS
        have := hmin S
        by_cases q : caS n left S + nb n inP E S d (p + 1) = c0
        · have := hU S q i hi hS
          rw [hUi] at this; cases this
        · omega
      have hc : left i ≠ 0 := by
        intro z
        -- U with i would be as little
        have h1 := hno (fun j => U j || decide (j = i)) (by simp)
        have h2 : caS n left (fun j => U j || decide (j = i)) = caS n left U := by
          unfold caS
          apply sf_congr
          intro j hj
          show (if (U j || decide (j = i)) = true then left j else 0) = if U j = true then left j else 0
          by_cases e : j = i
          · subst e; rw [hUi, z]; simp
          · rw [decide_eq_false e, Bool.or_false]
        have h3 : ∀ (d' p' : Nat), nb n inP E (fun j => U j || decide (j = i)) d' p' ≤ nb n inP E U d' p' := by
          intro d'
          induction d' with
          | zero => intro p'; exact Nat.le_refl _
          | succ d' ihd =>
            intro p'
            have := ihd (p' + 1)
            show (if nbq n inP E (fun j => U j || decide (j = i)) p' then 1 else 0) + _ ≤ (if nbq n inP E U p' then 1 else 0) + _
            have hx : nbq n inP E (fun j => U j || decide (j = i)) p' = true → nbq n inP E U p' = true := by
              unfold nbq
              intro h
              rw [Bool.and_eq_true] at h ⊢
              obtain ⟨a, b⟩ := h
              obtain ⟨j, hj, hb⟩ := anyf_t.mp b
              refine ⟨a, anyf_t.mpr ⟨j, hj, ?_⟩⟩
              obtain ⟨w1, w2, w3⟩ := bo3 _ _ _ hb
              show (!(U j) && E p' j) = true
              rw [w1, w3]; rfl
            cases h9 : nbq n inP E (fun j => U j || decide (j = i)) p'
            · simp; omega
            · rw [hx h9]; simp; omega
        have := h3 d (p + 1)
        omega
      obtain ⟨code1, c1, S1, k1, k2, k3⟩ := ih (p + 1) (ru left i (left i - 1)) hn
      have hd := caS_dec (S := S1) hi hc
      have hc1 : c0 ≤ c1 := by
        cases hS1 : S1 i
        · rw [hS1] at hd
          simp at hd
          have := hmin S1
          omega
        · rw [hS1, if_pos rfl] at hd
          have := hno S1 hS1
          omega
      have hsv : sv n inP E (d + 1) p left (6 * code1 + (i + 1)) = some (c1 + 1) := by
        have m1 : (6 * code1 + (i + 1)) % 6 = i + 1 := by omega
        have m2 : (6 * code1 + (i + 1)) / 6 = code1 := by omega
        rw [sv, m1, m2, if_neg (by omega), if_pos ⟨hp, by omega, by rw [show i + 1 - 1 = i by omega]; exact hEi, by rw [show i + 1 - 1 = i by omega]; exact hc⟩, show i + 1 - 1 = i by omega, k2]
        rfl
      refine ⟨6 * code1 + (i + 1), c1 + 1, U, by omega, hsv, ?_⟩
      have hw := weak (d + 1) p left _ _ hsv U
      have : nbq n inP E U p = true := by unfold nbq; rw [hp, ha]; rfl
      rw [this, if_pos rfl] at eU
      omega
theorem nb_cnt (S : Nat → Bool) : ∀ (d p : Nat), nb n inP E S d p = cnt (fun q => nbq n inP E S (p + q)) d := by
  have cons : ∀ (f : Nat → Bool) (d : Nat), cnt f (d + 1) = (if f 0 then 1 else 0) + cnt (fun q => f (q + 1)) d := by
    intro f d
    induction d with
    | zero => show 0 + (if f 0 then 1 else 0) = (if f 0 then 1 else 0) + 0; omega
    | succ d ih =>
      show cnt f (d + 1) + (if f (d + 1) then 1 else 0) = (if f 0 then 1 else 0) + (cnt (fun q => f (q + 1)) d + (if f (d + 1) then 1 else 0))
      omega
  intro d
  induction d with
  | zero => intro p; rfl
  | succ d ih =>
    intro p
    rw [cons]
    show (if nbq n inP E S p then 1 else 0) + nb n inP E S d (p + 1) = _
    rw [ih (p + 1)]
    congr 1
    exact cnt_congr (fun q _ => by rw [show p + 1 + q = p + (q + 1) by omega])
end
