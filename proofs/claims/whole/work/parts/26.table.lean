/-! ===== the table ===== -/
section
variable {A B : Me} {k : Nat} {c : Ce}
def cap (c : Ce) : Nat → Nat := fun i => sf (c_l c i) 10
def Ed (c : Ce) : Nat → Nat → Bool := fun q i => may (c_w c) (c_l c i) (c_k c q) (c_b c q)
def bnd (c : Ce) (v : Int32) (S : Nat → Bool) : Nat := caS (c_n c) (cap c) S + nb (c_n c) (bt v) (Ed c) S (c_p c) 0
theorem anyf_congr {f g : Nat → Bool} {n : Nat} (h : ∀ i, i < n → f i = g i) : anyf f n = anyf g n := by
  induction n with
  | zero => rfl
  | succ n ih => show (anyf f n || f n) = (anyf g n || g n); rw [ih (fun i hi => h i (by omega)), h n (by omega)]
theorem bnd_congr {v : Int32} {S T : Nat → Bool} (h : ∀ i, i < c_n c → S i = T i) : bnd c v S = bnd c v T := by
  unfold bnd
  congr 1
  · unfold caS
    exact sf_congr (fun i hi => by rw [h i hi])
  · rw [nb_cnt, nb_cnt]
    apply cnt_congr
    intro q _
    unfold nbq
    congr 1
    exact anyf_congr (fun i hi => by rw [h i hi])
/-- the casks' drinkers among these people -/
def DR (A : Me) (k : Nat) (c : Ce) (v : Int32) : Prop := ∀ i, i < c_n c → A (k + 6) i = v &&& who c (c_l c i)
def orF (f : Nat → Int32) (S : Nat → Bool) : Nat → Int32
  | 0 => 0
  | n + 1 => if S n then orF f S n else orF f S n ||| f n
theorem orF_bt (f : Nat → Int32) (S : Nat → Bool) (q : Nat) : ∀ n, bt (orF f S n) q = anyf (fun i => !(S i) && bt (f i) q) n := by
  intro n
  induction n with
  | zero => exact b_0 q
  | succ n ih =>
    show bt (if S n then orF f S n else orF f S n ||| f n) q = (anyf (fun i => !(S i) && bt (f i) q) n || (!(S n) && bt (f n) q))
    cases S n
    · rw [if_neg (by simp), b_or, ih]; rfl
    · rw [if_pos rfl, ih]; simp
theorem dr_bt (hw : Wf c) (v : Int32) (i : Nat) {q : Nat} (hq : q < 32) : bt (v &&& who c (c_l c i)) q = (bt v q && (decide (q < c_p c) && Ed c q i)) := by
  have := hw.2.1
  rw [b_and]
  congr 1
  exact bsF_bt _ _ (by omega) q hq
theorem out_bt (hw : Wf c) (v : Int32) (S : Nat → Bool) {q : Nat} (hq : q < 32) : bt (orF (fun i => v &&& who c (c_l c i)) S (c_n c)) q = (decide (q < c_p c) && nbq (c_n c) (bt v) (Ed c) S q) := by
  rw [orF_bt]
  unfold nbq
  rw [anyf_congr (g := fun i => !(S i) && (bt v q && (decide (q < c_p c) && Ed c q i))) (fun i _ => by rw [dr_bt hw v i hq])]
  cases decide (q < c_p c)
  · rw [Bool.false_and]
    cases h : anyf (fun i => !(S i) && (bt v q && (false && Ed c q i))) (c_n c)
    · rfl
    · obtain ⟨i, _, hi⟩ := anyf_t.mp h
      simp at hi
  · rw [Bool.true_and]
    cases bt v q
    · rw [Bool.false_and]
      cases h : anyf (fun i => !(S i) && (false && (true && Ed c q i))) (c_n c)
      · rfl
      · obtain ⟨i, _, hi⟩ := anyf_t.mp h
        simp at hi
    · rw [Bool.true_and]
      exact anyf_congr (fun i _ => by simp)
theorem cnt_trunc (f : Nat → Bool) {p m : Nat} (hp : p ≤ m) : cnt (fun q => decide (q < p) && f q) m = cnt f p := by
  induction m with
  | zero => have : p = 0 := by omega
            subst this; rfl
  | succ m ih =>
    show cnt (fun q => decide (q < p) && f q) m + (if (decide (m < p) && f m) then 1 else 0) = cnt f p
    by_cases e : p = m + 1
    · subst e
      rw [decide_eq_true (by omega : m < m + 1), Bool.true_and]
      show _ = cnt f m + (if f m then 1 else 0)
      congr 1
      exact cnt_congr (fun i hi => by rw [decide_eq_true (by omega : i < m + 1), Bool.true_and])
    · rw [ih (by omega), decide_eq_false (by omega : ¬ m < p), Bool.false_and]
      rfl
theorem out_bc (hw : Wf c) (v : Int32) (S : Nat → Bool) : fJ6_bitCount_0f7a4 (orF (fun i => v &&& who c (c_l c i)) S (c_n c)) = some (nI (nb (c_n c) (bt v) (Ed c) S (c_p c) 0)) := by
  have hp := hw.2.1
  rw [bc_x (fun i h1 h2 => by rw [out_bt hw v S h2, decide_eq_false (by omega : ¬ i < c_p c)]; rfl), nb_cnt]
  congr 2
  rw [cnt_congr (g := fun q => decide (q < c_p c) && nbq (c_n c) (bt v) (Ed c) S q) (fun i hi => out_bt hw v S (by omega)), cnt_trunc _ (by omega)]
  exact cnt_congr (fun q _ => by rw [Nat.zero_add])
theorem caS_le (hw : Wf c) (S : Nat → Bool) : ∀ i, i ≤ 5 → caS i (cap c) S ≤ 20 * i := by
  intro i
  unfold caS
  induction i with
  | zero => intro _; exact Nat.le_refl _
  | succ i ih =>
    intro hi
    have h1 := ih (by omega)
    have h2 := hw.2.2.2.1 i (by omega)
    show sf _ i + (if S i then cap c i else 0) ≤ _
    have : (if S i then cap c i else 0) ≤ 20 := by
      split
      · exact h2
      · omega
    omega
theorem boundBy_7 (h : RC A k c) (hw : Wf c) (v : Int32) (hd : DR A k c v) (set : Int32) : ∀ (d i n : Nat), i + d = c_n c → d < n →
    fX1_boundBy_7 A k n set (nI (caS i (cap c) (bt set))) (orF (fun i => v &&& who c (c_l c i)) (bt set) i) (nI i) = some (nI (bnd c v (bt set))) := by
  have hn5 := hw.1
  intro d
  induction d with
  | zero =>
    intro i n hi hn
    obtain ⟨n, rfl, -⟩ := fuel hn
    have : i = c_n c := by omega
    rw [fX1_boundBy_7, h.2.1, this, if_pos (lim_t (Nat.le_refl _)), bi_e (out_bc hw v _), nI_add]
    rfl
  | succ d ih =>
    intro i n hi hn
    obtain ⟨n, rfl, hn2⟩ := fuel hn
    have q := ih (i + 1) n (by omega) (by omega)
    have e1 : caS (i + 1) (cap c) (bt set) = caS i (cap c) (bt set) + (if bt set i then cap c i else 0) := rfl
    have e2 : orF (fun i => v &&& who c (c_l c i)) (bt set) (i + 1) = if bt set i then orF (fun i => v &&& who c (c_l c i)) (bt set) i else orF (fun i => v &&& who c (c_l c i)) (bt set) i ||| (v &&& who c (c_l c i)) := rfl
    rw [e1, e2] at q
    rw [fX1_boundBy_7, h.2.1, if_neg (lim_f (by omega))]
    unfold fX1_boundBy_38 fX1_boundBy_51
    rw [nI_1]
    cases hb : bt set i
    · rw [if_pos ((bit_test _ (by omega)).mpr hb), ck_t (inb_t (by omega) (by omega)), nI_clamp (by omega), hd i (by omega)]
      rw [hb] at q
      exact q
    · rw [if_neg (fun x => by have := (bit_test _ (by omega)).mp x; rw [hb] at this; cases this), ck_t (inb_t (by omega) (by omega)), nI_clamp (by omega), (h.2.2.2.2.2.1 i (by omega)).2, nI_add]
      rw [hb] at q
      exact q
theorem boundBy (h : RC A k c) (hw : Wf c) (v : Int32) (hd : DR A k c v) (set : Int32) : fX1_boundBy A k set = some (nI (bnd c v (bt set))) :=
  boundBy_7 h hw v hd set (c_n c) 0 FU (by omega) (Nat.lt_of_le_of_lt hw.1 (by decide))
def mnF (c : Ce) (v : Int32) : Nat → Nat
  | 0 => cnt (bt v) 10
  | m + 1 => if bnd c v (bt (nI m)) < mnF c v m then bnd c v (bt (nI m)) else mnF c v m
theorem bnd_le (hw : Wf c) (v : Int32) (S : Nat → Bool) : bnd c v S ≤ 200 := by
  have h1 := caS_le hw S (c_n c) hw.1
  have h2 : nb (c_n c) (bt v) (Ed c) S (c_p c) 0 ≤ c_p c := by rw [nb_cnt]; exact cnt_le _ _
  have := hw.1
  have := hw.2.1
  unfold bnd
  omega
theorem mnF_le (c : Ce) (v : Int32) : ∀ m, mnF c v m ≤ 10 := by
  intro m
  induction m with
  | zero => exact cnt_le _ _
  | succ m ih =>
    show (if bnd c v (bt (nI m)) < mnF c v m then bnd c v (bt (nI m)) else mnF c v m) ≤ 10
    split <;> omega
theorem seated_41 (hw : Wf c) (v : Int32) : ∀ (d m n : Nat), RC A k c → DR A k c v → m + d = 2 ^ c_n c → d < n → fX1_seated_41 k n A (nI (mnF c v m)) (nI m) = some (nI (mnF c v (2 ^ c_n c)), A) := by
  have hn5 := hw.1
  have hpw : 2 ^ c_n c ≤ 32 := Nat.pow_le_pow_right (by omega) hn5
  intro d
  induction d with
  | zero =>
    intro m n h hd hi hn
    obtain ⟨n, rfl, -⟩ := fuel hn
    have : m = 2 ^ c_n c := by omega
    rw [fX1_seated_41, h.2.1, shl_n hn5, this, if_pos (lim_t (Nat.le_refl _))]
  | succ d ih =>
    intro m n h hd hi hn
    obtain ⟨n, rfl, hn2⟩ := fuel hn
    have q := ih (m + 1) n h hd (by omega) (by omega)
    have e : mnF c v (m + 1) = if bnd c v (bt (nI m)) < mnF c v m then bnd c v (bt (nI m)) else mnF c v m := rfl
    have b1 := bnd_le hw v (bt (nI m))
    have b2 := mnF_le c v m
    rw [fX1_seated_41, h.2.1, shl_n hn5, if_neg (lim_f (by omega)), bi_e (boundBy h hw v hd _), nI_1]
    rw [e] at q
    by_cases z : bnd c v (bt (nI m)) < mnF c v m
    · rw [if_pos ((nI_ltI (by omega) (by omega)).mpr z)]
      rw [if_pos z] at q
      exact q
    · rw [if_neg (fun x => z ((nI_ltI (by omega) (by omega)).mp x))]
      rw [if_neg z] at q
      exact q
theorem seated_2 (hw : Wf c) (v : Int32) (hv : ∀ i, 10 ≤ i → i < 32 → bt v i = false) : ∀ (d i n : Nat) (A : Me), RC A k c → (∀ j, j < i → A (k + 6) j = v &&& who c (c_l c j)) → i + d = c_n c → d < n →
    ∃ A', fX1_seated_2 k n A v (nI i) = some (nI (mnF c v (2 ^ c_n c)), A') ∧ Ag (fun j => j == k + 6) A A' := by
  have hn5 := hw.1
  have hpw : 2 ^ c_n c ≤ 32 := Nat.pow_le_pow_right (by omega) hn5
  intro d
  induction d with
  | zero =>
    intro i n A h hd hi hn
    obtain ⟨n, rfl, -⟩ := fuel hn
    have hin : i = c_n c := by omega
    rw [fX1_seated_2, h.2.1, if_pos (lim_t (by omega)), bi_e (bc_x hv)]
    exact ⟨A, seated_41 hw v (2 ^ c_n c) 0 FU h (fun j hj => hd j (by omega)) (by omega) (Nat.lt_of_le_of_lt hpw (by decide)), Ag.rf⟩
  | succ d ih =>
    intro i n A h hd hi hn
    obtain ⟨n, rfl, hn2⟩ := fuel hn
    have hl := hw.2.2.2.1 i (by omega)
    rw [fX1_seated_2, h.2.1, if_neg (lim_f (by omega)), ck_t (inb_t (by omega) (by omega)), nI_clamp (by omega), bi_e (whoMay h hw (h.2.2.2.2.2.1 i (by omega)) (by omega)), ck_t (inb_t (by omega) (by omega)), nI_1]
    have hne : ∀ j, j ≠ k + 6 → up2 A (k + 6) i (v &&& who c (c_l c i)) j = A j := fun j hj => up2_ne hj
    have hR : RC (up2 A (k + 6) i (v &&& who c (c_l c i))) k c := by
      obtain ⟨g1, g2, g3, g4, g5, g6, g7, g8⟩ := h
      refine ⟨by rw [hne _ (by omega)]; exact g1, by rw [hne _ (by omega)]; exact g2, by rw [hne _ (by omega)]; exact g3, by rw [hne _ (by omega)]; exact g4, by rw [hne _ (by omega)]; exact g5, fun j hj => ?_, fun j hj => ?_, fun j hj => ?_⟩
      · unfold CR; rw [hne _ (by omega), hne _ (by omega)]; exact g6 j hj
      · rw [hne _ (by omega), hne _ (by omega), hne _ (by omega)]; exact g7 j hj
      · rw [hne _ (by omega)]; exact g8 j hj
    obtain ⟨A', t1, t2⟩ := ih (i + 1) n _ hR (fun j hj => by
      rw [up2_at]
      unfold upd
      by_cases e : j = i
      · rw [if_pos e, e]
      · rw [if_neg e]; exact hd j (by omega)) (by omega) (by omega)
    exact ⟨A', t1, Ag.tr (fun j hj => hne j (by simpa using hj)) t2⟩
theorem seated_c (h : RC A k c) (hw : Wf c) (v : Int32) (hv : ∀ i, 10 ≤ i → i < 32 → bt v i = false) : ∃ A', fX1_seated A k v = some (nI (mnF c v (2 ^ c_n c)), A') ∧ Ag (fun j => j == k + 6) A A' :=
  seated_2 hw v hv (c_n c) 0 FU A h (fun j hj => by omega) (by omega) (Nat.lt_of_le_of_lt hw.1 (by decide))
/-! the reference's way -/
def sva (c : Ce) (v : Int32) (d p : Nat) (left : Nat → Nat) (code : Nat) : Option Nat := sv (c_n c) (bt v) (Ed c) d p left code
def svr (o : Option Nat) (many : Nat) : Int32 := match o with
  | none => -1
  | some x => nI (many + x)
/-- what the reference holds while it seats -/
def SB (B : Me) (c : Ce) (left : Nat → Nat) : Prop := (∀ i, i < c_n c → B 68 i = nI (left i)) ∧ ∀ p, p < c_p c → B 67 p = mof_ c p
theorem mof_bt (hw : Wf c) {p i : Nat} (hi : i < c_n c) : bt (mof_ c p) i = Ed c p i := by
  have := hw.1
  show bt (bsF _ (c_n c)) i = _
  rw [bsF_bt _ _ (by omega) i (by omega), decide_eq_true hi]
  rfl
theorem seated_39 (hw : Wf c) (v : Int32) : ∀ (d p n : Nat) (B : Me) (left : Nat → Nat) (code many : Nat), RB B c → SB B c left → (∀ i, left i ≤ 20) → p + d = c_p c → d < n → code < 100000 →
    ∃ B', fX4_seated_39 n B v (nI code) (nI many) (nI p) = some (svr (sva c v d p left code) many, B') ∧ Ag (fun j => j == 68) B B' := by
  have hn5 := hw.1
  have hp5 := hw.2.1
  intro d
  induction d with
  | zero =>
    intro p n B left code many h hs hl hi hn hc
    obtain ⟨n, rfl, -⟩ := fuel hn
    rw [fX4_seated_39, h.2.2.1, if_pos (lim_t (by omega))]
    exact ⟨B, rfl, Ag.rf⟩
  | succ d ih =>
    intro p n B left code many h hs hl hi hn hc
    obtain ⟨n, rfl, hn2⟩ := fuel hn
    have hmod : code % 6 < 6 := Nat.mod_lt _ (by omega)
    have hsv : sva c v (d + 1) p left code = if code % 6 = 0 then sva c v d (p + 1) left (code / 6) else if bt v p = true ∧ code % 6 - 1 < c_n c ∧ Ed c p (code % 6 - 1) = true ∧ left (code % 6 - 1) ≠ 0 then (sva c v d (p + 1) (ru left (code % 6 - 1) (left (code % 6 - 1) - 1)) (code / 6)).map (· + 1) else none := rfl
    rw [fX4_seated_39, h.2.2.1, if_neg (lim_f (by omega)), show (6 : Int32) = nI 6 from rfl, pk_rem (by omega) (by omega) (by omega), pk_div (by omega) (by omega) (by omega), hsv]
    by_cases z : code % 6 = 0
    · rw [if_pos z, z, if_pos (by decide)]
      unfold fX4_seated_111 fX4_seated_130
      rw [if_pos (by decide), nI_1]
      exact ih (p + 1) n B left (code / 6) many h hs hl (by omega) (by omega) (by omega)
    · obtain ⟨x, hx⟩ : ∃ x, code % 6 = x + 1 := ⟨code % 6 - 1, by omega⟩
      rw [if_neg z, hx, nI_pred, if_neg (nI_pos (by omega)), show x + 1 - 1 = x by omega, bi_e (has_x _ (by omega))]
      unfold fX4_seated_109
      cases hb : bt v p
      · rw [if_pos (by decide), if_neg (fun y => by cases y.1)]
        exact ⟨B, rfl, Ag.rf⟩
      · rw [if_neg (by decide), h.2.1]
        by_cases z2 : x < c_n c
        · rw [if_neg (lim_f z2), ck_t (inb_t (by omega) (by omega)), nI_clamp (n := p) (by omega), hs.2 p (by omega), bi_e (has_x _ (by omega)), mof_bt hw z2]
          cases he : Ed c p x
          · rw [if_pos (by decide), if_neg (fun y => by have := y.2.2.1; cases this)]
            exact ⟨B, rfl, Ag.rf⟩
          · have hlx := hl x
            rw [if_neg (by decide), ck_t (inb_t (by omega) (by omega)), nI_clamp (by omega), hs.1 x z2]
            by_cases z3 : left x = 0
            · rw [if_pos (by rw [z3]; rfl), if_neg (fun y => y.2.2.2 z3)]
              exact ⟨B, rfl, Ag.rf⟩
            · rw [if_neg (fun y => z3 ((nI_eq0 (by omega)).mp y)), if_pos ⟨rfl, z2, rfl, z3⟩]
              unfold fX4_seated_111 fX4_seated_130
              rw [if_neg (nI_pos (by omega)), ck_t (inb_t (by omega) (by omega)), ck_t (inb_t (by omega) (by omega)), nI_clamp (by omega), hs.1 x z2, nI_1, nI_1]
              obtain ⟨y, hy⟩ : ∃ y, left x = y + 1 := ⟨left x - 1, by omega⟩
              have hag : AgB B (up2 B 68 x (nI (left x) - 1)) := AgB.up rfl
              obtain ⟨B', t1, t2⟩ := ih (p + 1) n (up2 B 68 x (nI (left x) - 1)) (ru left x (left x - 1)) (code / 6) (many + 1) (h.agB hag) ⟨fun i hi2 => by
                rw [up2_at]
                unfold upd ru
                by_cases e : i = x
                · rw [if_pos e, if_pos e, hy, nI_pred]; rfl
                · rw [if_neg e, if_neg e]; exact hs.1 i hi2, fun p' hp' => by rw [up2_ne (by omega)]; exact hs.2 p' hp'⟩ (fun i => by
                unfold ru
                have := hl i
                split <;> omega) (by omega) (by omega) (by omega)
              refine ⟨B', ?_, Ag.tr (fun j hj => up2_ne (by simpa using hj)) t2⟩
              refine t1.trans ?_
              congr 2
              cases sva c v d (p + 1) (ru left x (left x - 1)) (code / 6) with
              | none => rfl
              | some w => show nI (many + 1 + w) = nI (many + (w + 1)); congr 1; omega
        · rw [if_pos (lim_t (by omega)), if_neg (fun y => z2 y.2.1)]
          exact ⟨B, rfl, Ag.rf⟩
theorem seated_8 (hw : Wf c) (v : Int32) {code : Nat} (hc : code < 100000) : ∀ (d i n : Nat) (B : Me), RB B c → (∀ p, p < c_p c → B 67 p = mof_ c p) → (∀ j, j < i → B 68 j = nI (cap c j)) → i + d = c_n c → d < n →
    ∃ B', fX4_seated_8 n B v (nI code) 0 (nI i) = some (svr (sva c v (c_p c) 0 (fun j => if j < 5 then cap c j else 0) code) 0, B') ∧ Ag (fun j => j == 60 || j == 68) B B' := by
  have hn5 := hw.1
  intro d
  induction d with
  | zero =>
    intro i n B h hm hl hi hn
    obtain ⟨n, rfl, -⟩ := fuel hn
    rw [fX4_seated_8, h.2.1, if_pos (lim_t (by omega))]
    obtain ⟨B', t1, t2⟩ := seated_39 hw v (c_p c) 0 FU B (fun j => if j < 5 then cap c j else 0) code 0 h ⟨fun j hj => by
      show _ = nI (if j < 5 then cap c j else 0)
      rw [if_pos (by omega)]
      exact hl j (by omega), hm⟩ (fun j => by
      show (if j < 5 then cap c j else 0) ≤ 20
      by_cases e : j < 5
      · rw [if_pos e]; exact hw.2.2.2.1 j e
      · rw [if_neg e]; omega) (by omega) (Nat.lt_of_le_of_lt hw.2.1 (by decide)) hc
    exact ⟨B', t1, t2.mono (fun j hj => by simp at hj; simp [hj])⟩
  | succ d ih =>
    intro i n B h hm hl hi hn
    obtain ⟨n, rfl, hn2⟩ := fuel hn
    obtain ⟨B1, q1, q2, -⟩ := litresIn h (show i < 5 by omega)
    have hB1 := h.ag q2
    rw [fX4_seated_8, h.2.1, if_neg (lim_f (by omega)), b2_e q1, ck_t (inb_t (by omega) (by omega)), nI_clamp (by omega), nI_1]
    have hag : AgB B1 (up2 B1 68 i (nI (sf (c_l c i) 10))) := AgB.up rfl
    obtain ⟨B', t1, t2⟩ := ih (i + 1) n _ (hB1.agB hag) (fun p hp => by rw [up2_ne (by omega), q2 67 rfl]; exact hm p hp) (fun j hj => by
      rw [up2_at]
      unfold upd
      by_cases e : j = i
      · rw [if_pos e, e]; rfl
      · rw [if_neg e, q2 68 rfl]; exact hl j (by omega)) (by omega) (by omega)
    refine ⟨B', t1, (Ag.tr (q2.mono (fun j hj => by unfold S60 at hj; simp at hj; simp [hj])) (fun j hj => ?_)).tr t2⟩
    simp at hj
    exact up2_ne hj.2
def mxF (c : Ce) (v : Int32) : Nat → Nat
  | 0 => 0
  | m + 1 => match sva c v (c_p c) 0 (fun j => if j < 5 then cap c j else 0) m with
    | none => mxF c v m
    | some x => if x ≤ mxF c v m then mxF c v m else x
theorem sva_le (v : Int32) : ∀ (d p : Nat) (left : Nat → Nat) (code x : Nat), sva c v d p left code = some x → x ≤ d := by
  intro d p left code x h
  have : ∀ (d p : Nat) (left : Nat → Nat) (code x : Nat), sv (c_n c) (bt v) (Ed c) d p left code = some x → x ≤ d := by
    intro d
    induction d with
    | zero => intro p left code x h; cases h; exact Nat.le_refl _
    | succ d ih =>
      intro p left code x h
      rw [sv] at h
      by_cases z : code % 6 = 0
      · rw [if_pos z] at h
        have := ih _ _ _ _ h
        omega
      · rw [if_neg z] at h
        split at h
        · cases hs : sv (c_n c) (bt v) (Ed c) d (p + 1) (ru left (code % 6 - 1) (left (code % 6 - 1) - 1)) (code / 6) with
          | none => rw [hs] at h; cases h
          | some y =>
            rw [hs] at h
            cases h
            have := ih _ _ _ _ hs
            show y + 1 ≤ _
            omega
        · cases h
  exact this d p left code x h
theorem mxF_le (hw : Wf c) (v : Int32) : ∀ m, mxF c v m ≤ 5 := by
  have := hw.2.1
  intro m
  induction m with
  | zero => exact Nat.zero_le _
  | succ m ih =>
    rw [mxF]
    cases hs : sva c v (c_p c) 0 (fun j => if j < 5 then cap c j else 0) m with
    | none => exact ih
    | some x =>
      have := sva_le v _ _ _ _ _ hs
      show (if x ≤ mxF c v m then mxF c v m else x) ≤ 5
      split <;> omega
theorem tableNow_43 (hw : Wf c) (v : Int32) (M : Nat) (hM : M < 9000) : ∀ (d m n : Nat) (B : Me), RB B c → (∀ p, p < c_p c → B 67 p = mof_ c p) → m + d = M → d < n →
    ∃ B', fX4_tableNow_43 n B v (nI (mxF c v m)) (nI M) (nI m) = some (nI (mxF c v M), B') ∧ Ag (fun j => j == 60 || j == 68) B B' := by
  have hn5 := hw.1
  have hp5 := hw.2.1
  intro d
  induction d with
  | zero =>
    intro m n B h hm hi hn
    obtain ⟨n, rfl, -⟩ := fuel hn
    have : m = M := by omega
    rw [fX4_tableNow_43, this, if_pos (lim_t (Nat.le_refl _))]
    exact ⟨B, rfl, Ag.rf⟩
  | succ d ih =>
    intro m n B h hm hi hn
    obtain ⟨n, rfl, hn2⟩ := fuel hn
    obtain ⟨B1, q1, q2⟩ := seated_8 hw v (code := m) (by omega) (c_n c) 0 FU B h hm (fun j hj => by omega) (by omega) (Nat.lt_of_le_of_lt hn5 (by decide))
    have hB1 : RB B1 c := h.agB (fun k j a => by
      have : (k == 60 || k == 68) = false := by
        unfold scr at a
        simp at a ⊢
        exact ⟨a.1, a.2.2.1⟩
      rw [q2 k this])
    obtain ⟨B', t1, t2⟩ := ih (m + 1) n B1 hB1 (fun p hp => by rw [q2 67 rfl]; exact hm p hp) (by omega) (by omega)
    refine ⟨B', ?_, q2.tr t2⟩
    have hx := mxF_le hw v m
    rw [fX4_tableNow_43, if_neg (lim_f (by omega)), b2_e (show fX4_seated B v (nI m) = _ from q1)]
    unfold fX4_tableNow_70
    rw [nI_1]
    rw [mxF] at t1
    cases hs : sva c v (c_p c) 0 (fun j => if j < 5 then cap c j else 0) m with
    | none =>
      rw [hs] at t1
      show (if (-1 : Int32) ≤ _ then _ else _) = _
      rw [if_pos (by
        rw [Int32.le_iff_toInt_le, nI_toInt (by omega)]
        have : (-1 : Int32).toInt = -1 := by decide
        omega)]
      exact t1
    | some x =>
      rw [hs] at t1
      have hxl := sva_le v _ _ _ _ _ hs
      show (if nI (0 + x) ≤ _ then _ else _) = _
      rw [Nat.zero_add]
      dsimp only at t1
      by_cases z : x ≤ mxF c v m
      · rw [if_pos ((nI_leI (by omega) (by omega)).mpr z)]
        rw [if_pos z] at t1
        exact t1
      · rw [if_neg (fun y => z ((nI_leI (by omega) (by omega)).mp y))]
        rw [if_neg z] at t1
        show fX4_tableNow_43 n B1 v (nI (0 + x)) (nI M) (nI (m + 1)) = _
        rw [Nat.zero_add]
        exact t1
theorem tableNow_7 (hw : Wf c) (v : Int32) : ∀ (d p n : Nat) (B : Me), RB B c → (∀ q, q < p → B 67 q = mof_ c q) → p + d = c_p c → d < n →
    ∃ B', fX4_tableNow_7 n B v 0 (nI (6 ^ p)) (nI p) = some (nI (mxF c v (6 ^ c_p c)), B') ∧ Ag (fun j => j == 60 || (j == 67 || j == 68)) B B' := by
  have hp5 := hw.2.1
  have hpw : 6 ^ c_p c ≤ 7776 := Nat.pow_le_pow_right (n := 6) (by omega) hp5
  intro d
  induction d with
  | zero =>
    intro p n B h hm hi hn
    obtain ⟨n, rfl, -⟩ := fuel hn
    have hp : p = c_p c := by omega
    rw [fX4_tableNow_7, h.2.2.1, if_pos (lim_t (by omega)), hp]
    obtain ⟨B', t1, t2⟩ := tableNow_43 hw v (6 ^ c_p c) (by omega) (6 ^ c_p c) 0 FU B h (fun q hq => hm q (by omega)) (by omega) (Nat.lt_of_le_of_lt hpw (by decide))
    exact ⟨B', t1, t2.mono (fun j hj => by simp at hj ⊢; omega)⟩
  | succ d ih =>
    intro p n B h hm hi hn
    obtain ⟨n, rfl, hn2⟩ := fuel hn
    obtain ⟨B1, q1, q2⟩ := mayOf h hw (show p < c_p c by omega)
    have hB1 := h.ag q2
    rw [fX4_tableNow_7, h.2.2.1, if_neg (lim_f (by omega)), b2_e q1, ck_t (inb_t (by omega) (by omega)), nI_clamp (by omega), nI_1, show (6 : Int32) = nI 6 from rfl, pk_mul]
    rw [show 6 ^ p * 6 = 6 ^ (p + 1) from (Nat.pow_succ 6 p).symm]
    have hag : AgB B1 (up2 B1 67 p (mof_ c p)) := AgB.up rfl
    obtain ⟨B', t1, t2⟩ := ih (p + 1) n _ (hB1.agB hag) (fun q hq => by
      rw [up2_at]
      unfold upd
      by_cases e : q = p
      · rw [if_pos e, e]
      · rw [if_neg e, q2 67 rfl]; exact hm q (by omega)) (by omega) (by omega)
    refine ⟨B', t1, (Ag.tr (q2.mono (fun j hj => by unfold S60 at hj; simp at hj; simp [hj])) (fun j hj => ?_)).tr t2⟩
    simp at hj
    exact up2_ne hj.2.1
theorem tableNow (h : RB B c) (hw : Wf c) (v : Int32) : ∃ B', fX4_tableNow B v = some (nI (mxF c v (6 ^ c_p c)), B') ∧ AgB B B' := by
  obtain ⟨B', t1, t2⟩ := tableNow_7 hw v (c_p c) 0 FU B h (fun q hq => by omega) (by omega) (Nat.lt_of_le_of_lt hw.2.1 (by decide))
  refine ⟨B', t1, fun k j a => ?_⟩
  have : (k == 60 || (k == 67 || k == 68)) = false := by
    unfold scr at a
    simp at a ⊢
    exact ⟨a.1, a.2.1, a.2.2.1⟩
  rw [t2 k this]
/-! the two are the same -/
theorem mnF_spec (c : Ce) (v : Int32) : ∀ m, mnF c v m ≤ cnt (bt v) 10 ∧ (∀ j, j < m → mnF c v m ≤ bnd c v (bt (nI j))) := by
  intro m
  induction m with
  | zero => exact ⟨Nat.le_refl _, fun j hj => by omega⟩
  | succ m ih =>
    have e : mnF c v (m + 1) = if bnd c v (bt (nI m)) < mnF c v m then bnd c v (bt (nI m)) else mnF c v m := rfl
    rw [e]
    by_cases z : bnd c v (bt (nI m)) < mnF c v m
    · rw [if_pos z]
      exact ⟨by omega, fun j hj => by
        by_cases q : j = m
        · rw [q]; exact Nat.le_refl _
        · have := ih.2 j (by omega); omega⟩
    · rw [if_neg z]
      exact ⟨ih.1, fun j hj => by
        by_cases q : j = m
        · rw [q]; omega
        · exact ih.2 j (by omega)⟩
theorem mnF_att (c : Ce) (v : Int32) : ∀ m, mnF c v m = cnt (bt v) 10 ∨ ∃ j, j < m ∧ mnF c v m = bnd c v (bt (nI j)) := by
  intro m
  induction m with
  | zero => left; rfl
  | succ m ih =>
    have e : mnF c v (m + 1) = if bnd c v (bt (nI m)) < mnF c v m then bnd c v (bt (nI m)) else mnF c v m := rfl
    rw [e]
    by_cases z : bnd c v (bt (nI m)) < mnF c v m
    · rw [if_pos z]; right; exact ⟨m, by omega, rfl⟩
    · rw [if_neg z]
      rcases ih with h | ⟨j, hj, h⟩
      · left; exact h
      · right; exact ⟨j, by omega, h⟩
theorem mxF_spec (c : Ce) (v : Int32) : ∀ m, (∀ j x, j < m → sva c v (c_p c) 0 (fun j => if j < 5 then cap c j else 0) j = some x → x ≤ mxF c v m) ∧ (mxF c v m = 0 ∨ ∃ j, j < m ∧ sva c v (c_p c) 0 (fun j => if j < 5 then cap c j else 0) j = some (mxF c v m)) := by
  intro m
  induction m with
  | zero => exact ⟨fun j x hj => by omega, Or.inl rfl⟩
  | succ m ih =>
    rw [mxF]
    cases hs : sva c v (c_p c) 0 (fun j => if j < 5 then cap c j else 0) m with
    | none =>
      refine ⟨fun j x hj hx => ?_, ?_⟩
      · by_cases q : j = m
        · rw [q, hs] at hx; cases hx
        · exact ih.1 j x (by omega) hx
      · rcases ih.2 with h | ⟨j, hj, h⟩
        · left; exact h
        · right; exact ⟨j, by omega, h⟩
    | some y =>
      dsimp only
      by_cases z : y ≤ mxF c v m
      · rw [if_pos z]
        refine ⟨fun j x hj hx => ?_, ?_⟩
        · by_cases q : j = m
          · rw [q, hs] at hx; cases hx; exact z
          · exact ih.1 j x (by omega) hx
        · rcases ih.2 with h | ⟨j, hj, h⟩
          · left; exact h
          · right; exact ⟨j, by omega, h⟩
      · rw [if_neg z]
        refine ⟨fun j x hj hx => ?_, Or.inr ⟨m, by omega, hs⟩⟩
        by_cases q : j = m
        · rw [q, hs] at hx; cases hx; exact Nat.le_refl _
        · have := ih.1 j x (by omega) hx; omega
theorem mask_of (S : Nat → Bool) {n : Nat} (hn : n ≤ 5) : ∃ m, m < 2 ^ n ∧ ∀ i, i < n → bt (nI m) i = S i := by
  obtain ⟨m, h1, h2⟩ := small_of (x := bsF S n) (n := n) (by omega) (bs_hi S (Nat.le_refl _) (by omega))
  refine ⟨m, h1, fun i hi => ?_⟩
  rw [← h2, bsF_bt S n (by omega) i (by omega), decide_eq_true hi]
  rfl
theorem koenig (hw : Wf c) (v : Int32) : mnF c v (2 ^ c_n c) = mxF c v (6 ^ c_p c) := by
  have hn5 := hw.1
  have hp5 := hw.2.1
  obtain ⟨n1, n2⟩ := mnF_spec c v (2 ^ c_n c)
  obtain ⟨x1, x2⟩ := mxF_spec c v (6 ^ c_p c)
  have hcap : ∀ S, caS (c_n c) (fun j => if j < 5 then cap c j else 0) S = caS (c_n c) (cap c) S := by
    intro S
    unfold caS
    exact sf_congr (fun i hi => by
      show (if S i = true then (if i < 5 then cap c i else 0) else 0) = _
      rw [if_pos (show i < 5 by omega)])
  apply Nat.le_antisymm
  · -- somebody is seated so
    obtain ⟨code, x, S, s1, s2, s3⟩ := strong (n := c_n c) (inP := bt v) (E := Ed c) (c_p c) 0 (fun j => if j < 5 then cap c j else 0) hn5
    have h1 := x1 code x s1 s2
    obtain ⟨m, m1, m2⟩ := mask_of S hn5
    have h2 := n2 m m1
    rw [bnd_congr (T := S) m2] at h2
    unfold bnd at h2
    rw [hcap] at s3
    omega
  · rcases x2 with h | ⟨j, hj, h⟩
    · rw [h]; exact Nat.zero_le _
    · have hwk := weak _ _ _ _ _ h
      rcases mnF_att c v (2 ^ c_n c) with q | ⟨m, hm, q⟩
      · rw [q]
        have h1 := hwk (fun _ => false)
        have h2 : caS (c_n c) (fun j => if j < 5 then cap c j else 0) (fun _ => false) = 0 := by
          show sf (fun _ => 0) (c_n c) = 0
          exact sf_zero _
        have h3 : nb (c_n c) (bt v) (Ed c) (fun _ => false) (c_p c) 0 ≤ cnt (bt v) 10 := by
          rw [nb_cnt]
          have a1 : cnt (fun q => nbq (c_n c) (bt v) (Ed c) (fun _ => false) (0 + q)) (c_p c) ≤ cnt (bt v) (c_p c) := cnt_mono (fun i _ hi => by
            unfold nbq at hi
            rw [Bool.and_eq_true, Nat.zero_add] at hi
            exact hi.1)
          have a2 : cnt (bt v) (c_p c) ≤ cnt (bt v) 10 := by
            have : ∀ m, cnt (bt v) (c_p c) ≤ cnt (bt v) (c_p c + m) := by
              intro m
              induction m with
              | zero => exact Nat.le_refl _
              | succ m ih => exact Nat.le_trans ih (Nat.le_add_right _ _)
            have := this (10 - c_p c)
            rw [show c_p c + (10 - c_p c) = 10 by omega] at this
            exact this
          omega
        omega
      · rw [q]
        have h1 := hwk (bt (nI m))
        rw [hcap] at h1
        exact h1
end
