/-- a side's memory: cell index, slot -/
abbrev Me : Type := Nat → Nat → Int32
/-- classes and slots as the tables have them, the array classes (0 byte, 1 int, 2 Cask), the address of each cell index -/
abbrev Gm : Type := va_G × (Nat → ClassId) × (Nat → Nat)
def up2 (A : Me) (k j : Nat) (v : Int32) : Me := fun k' => if k' = k then upd (A k) j v else A k'
/-- the bound of every loop's steps -/
def FU : Nat := 10000
def cpa (A : Me) (k0 k1 n : Nat) : Me := fun k' => if k' = k1 then va_cpy (A k0) (A k1) 0 0 n else A k'
def kdL : List Nat := [3, 2, 6, 1, 7, 6, 6, 6, 6, 6, 0, 6, 0, 6, 0, 6, 0, 6, 0, 6, 1, 7, 6, 6, 6, 6, 6, 0, 6, 0, 6, 0, 6, 0, 6, 0, 6, 1, 7, 6, 6, 6, 6, 6, 0, 6, 0, 6, 0, 6, 0, 6, 0, 6, 0, 6, 0, 6, 4, 9, 9, 9, 9, 9, 9, 9, 5, 9, 9, 9, 9, 9, 9, 9]
def lnL : List Nat := [0, 0, 18, 0, 5, 5, 5, 5, 8, 5, 0, 10, 0, 10, 0, 10, 0, 10, 0, 10, 0, 5, 5, 5, 5, 8, 5, 0, 10, 0, 10, 0, 10, 0, 10, 0, 10, 0, 5, 5, 5, 5, 8, 5, 0, 10, 0, 10, 0, 10, 0, 10, 0, 10, 0, 10, 0, 10, 0, 50, 10, 5, 5, 5, 8, 8, 18, 5, 5, 50, 50, 5, 8, 8]
def kd (k : Nat) : Nat := kdL.getD k 99
def ln (k : Nat) : Nat := lnL.getD k 0
/-- a long field out of two words -/
def gl (b : Nat → Int32) (j : Nat) : Int64 := Int64.ofBitVec ((b j).toBitVec ++ (b (j + 100)).toBitVec)
def hiw (v : Int64) : Int32 := Int32.ofBitVec (v.toBitVec.extractLsb' 32 32)
def low (v : Int64) : Int32 := Int32.ofBitVec (v.toBitVec.extractLsb' 0 32)
def updl (b : Nat → Int32) (j : Nat) (v : Int64) : Nat → Int32 := upd (upd b j (hiw v)) (j + 100) (low v)
def upl (A : Me) (k j : Nat) (v : Int64) : Me := fun k' => if k' = k then updl (A k) j v else A k'
theorem hilo (v : Int64) : Int64.ofBitVec ((hiw v).toBitVec ++ (low v).toBitVec) = v := by
  apply Int64.toBitVec_inj.mp
  apply BitVec.eq_of_getLsbD_eq
  intro i hi
  simp only [hiw, low]
  show (BitVec.extractLsb' 32 32 v.toBitVec ++ BitVec.extractLsb' 0 32 v.toBitVec).getLsbD i = v.toBitVec.getLsbD i
  rw [BitVec.getLsbD_append]
  by_cases h : i < 32
  · simp [h]
  · have : i - 32 < 32 := by omega
    have h2 : 32 + (i - 32) = i := by omega
    simp [h, this, h2]
theorem gl_updl (b : Nat → Int32) (j : Nat) (v : Int64) : gl (updl b j v) j = v := by
  have h1 : updl b j v j = hiw v := by simp [updl, upd]
  have h2 : updl b j v (j + 100) = low v := by simp [updl, upd]
  unfold gl
  rw [h1, h2]
  exact hilo v
theorem gl_ne {b c : Nat → Int32} {j : Nat} (h1 : c j = b j) (h2 : c (j + 100) = b (j + 100)) : gl c j = gl b j := by
  unfold gl; rw [h1, h2]
/-- what a cell holds, by its kind -/
def encC (Γ : Gm) (a b : Nat → Int32) (k : Nat) : va_E :=
  if kd k = 0 then .inr (0, [.ref (Γ.2.2 (k + 1)), .int (a 1)])
  else if kd k = 1 then .inr (1, [.ref (Γ.2.2 (k + 1)), .ref (Γ.2.2 (k + 2)), .ref (Γ.2.2 (k + 3)), .ref (Γ.2.2 (k + 4)), .ref (Γ.2.2 (k + 5)), .ref (Γ.2.2 (k + 6)), .int (a 6), .int (a 7), .int (a 8), .int (a 9), .int (a 10)])
  else if kd k = 2 then .inr (2, [.ref (Γ.2.2 (k + 1)), .int (a 1)])
  else if kd k = 3 then .inr (3, [.ref (Γ.2.2 (1)), .ref (Γ.2.2 (3)), .ref (Γ.2.2 (20)), .ref (Γ.2.2 (37)), .ref (Γ.2.2 (54)), .ref (Γ.2.2 (56)), .int (a 6), .int (a 7)])
  else if kd k = 4 then .inr (4, [.int (b 0), .int (b 1), .int (b 2), .ref (Γ.2.2 (59)), .ref (Γ.2.2 (60)), .int (b 5), .ref (Γ.2.2 (61)), .ref (Γ.2.2 (62)), .ref (Γ.2.2 (63)), .int (b 9), .ref (Γ.2.2 (64)), .ref (Γ.2.2 (65)), .int (b 12), .ref (Γ.2.2 (66)), .int (b 14), .int (b 15), .ref (Γ.2.2 (67)), .ref (Γ.2.2 (68)), .int (b 18), .long (gl b 19), .ref (Γ.2.2 (69)), .int (b 21), .int (b 22), .int (b 23), .int (b 24), .ref (Γ.2.2 (70)), .ref (Γ.2.2 (71)), .ref (Γ.2.2 (72)), .ref (Γ.2.2 (73)), .long (gl b 29)])
  else if kd k = 5 then .inl (Γ.2.1 0, ln k, .inl b)
  else if kd k = 6 then .inl (Γ.2.1 1, ln k, .inl a)
  else if kd k = 7 then .inl (Γ.2.1 2, ln k, .inr (.inr (.inr (.inr (fun i => some (Γ.2.2 (k + 6 + 2 * i)))))))
  else .inl (Γ.2.1 1, ln k, .inl b)
def enc (Γ : Gm) (A B : Me) (k : Nat) : va_E := encC Γ (A k) (B k) k
def wd (Γ : Gm) (A B : Me) : va_W := (List.range 74).map (fun k => (Γ.2.2 k, enc Γ A B k))
def rg (Γ : Gm) : Nat → Prop := fun a => ∃ k, k < 74 ∧ a = Γ.2.2 k
def Kk (Γ : Gm) (U : State) : Prop := va_K Γ.1 vwCl [(Γ.2.1 0, .byte), (Γ.2.1 1, .int), (Γ.2.1 2, .object RX0)] U ∧ va_Nw (.methodLinkNest RX1 100 yX3_mayDrink "WineByYears") U ∧ ∀ i j, i < 74 → j < 74 → Γ.2.2 i = Γ.2.2 j → i = j
def Wd (Γ : Gm) (A B : Me) (H0 H : Heap) (locs : List Loc) : Prop := va_P Γ.1 vwCl (wd Γ A B) H ∧ va_S (rg Γ) H0 H locs
theorem kd_lt {k c : Nat} (h : kd k = c) (hc : c < 99) : k < 74 := by
  rcases Nat.lt_or_ge k 74 with q | q
  · exact q
  · exfalso
    have : kd k = 99 := by
      unfold kd
      rw [List.getD_eq_getElem?_getD, List.getElem?_eq_none (by simpa [kdL] using q)]
      rfl
    omega
theorem wd_at {Γ : Gm} {A B : Me} {k : Nat} (h : k < 74) : (wd Γ A B)[k]? = some (Γ.2.2 k, enc Γ A B k) := by simp [wd, h]
theorem wd_set {Γ : Gm} {A B A' B' : Me} {k : Nat} {e : va_E} (h : k < 74) (h1 : enc Γ A' B' k = e) (h2 : ∀ j, j ≠ k → A' j = A j ∧ B' j = B j) : (wd Γ A B).set k (Γ.2.2 k, e) = wd Γ A' B' := by
  apply List.ext_getElem?
  intro j
  rw [List.getElem?_set]
  by_cases hj : k = j
  · subst hj
    rw [if_pos rfl, wd_at h, h1]
    simp [wd, h]
  · rw [if_neg hj]
    have q := h2 j (fun h => hj h.symm)
    rcases Nat.lt_or_ge j 74 with l | l
    · rw [wd_at l, wd_at l]
      unfold enc
      rw [q.1, q.2]
    · rw [List.getElem?_eq_none (by simpa [wd] using l), List.getElem?_eq_none (by simpa [wd] using l)]
theorem wd_D {Γ : Gm} {U : State} {A B : Me} (h : Kk Γ U) : va_D (rg Γ) (wd Γ A B) := by
  have lt : ∀ (i : Nat) (x : Nat × va_E), (wd Γ A B)[i]? = some x → i < 74 ∧ x.1 = Γ.2.2 i := by
    intro i x hx
    have hi : i < 74 := by
      have := (List.getElem?_eq_some_iff.mp hx).1
      simpa [wd] using this
    rw [wd_at hi] at hx
    cases hx
    exact ⟨hi, rfl⟩
  refine ⟨fun i j x y hi hj e => ?_, fun k x hk => ?_⟩
  · obtain ⟨a1, a2⟩ := lt i x hi
    obtain ⟨b1, b2⟩ := lt j y hj
    exact h.2.2 i j a1 b1 (by rw [← a2, ← b2]; exact e)
  · obtain ⟨a1, a2⟩ := lt k x hk
    exact ⟨k, a1, a2⟩
theorem Kk.moved {Γ : Gm} {u U : State} (hW : u.WarmedH U.vm) (h : Kk Γ u) : Kk Γ U := ⟨va_K.moved hW.alike h.1, va_Nw.warmM hW h.2.1, h.2.2⟩
theorem Kk.same {Γ : Gm} {u U : State} (e : u.vm = U.vm) (h : Kk Γ u) : Kk Γ U := ⟨va_K.moved (by rw [e]; exact Vm.Alike.refl _) h.1, va_Nw.same rfl e h.2.1, h.2.2⟩
theorem up2_at {A : Me} {k j : Nat} {v : Int32} : up2 A k j v k = upd (A k) j v := if_pos rfl
theorem up2_ne {A : Me} {k j i : Nat} {v : Int32} (h : i ≠ k) : up2 A k j v i = A i := if_neg h
theorem upl_at {A : Me} {k j : Nat} {v : Int64} : upl A k j v k = updl (A k) j v := if_pos rfl
theorem upl_ne {A : Me} {k j i : Nat} {v : Int64} (h : i ≠ k) : upl A k j v i = A i := if_neg h
/-- contracts' start and ends -/
abbrev PC (Γ : Gm) (A B : Me) (av : List Value) : Array Value → State → Prop := va_Pc av (fun U => va_P Γ.1 vwCl (wd Γ A B) U.heap ∧ Kk Γ U)
abbrev EW (Γ : Gm) (A B : Me) : Unit → State → Prop := fun _ t => va_P Γ.1 vwCl (wd Γ A B) t.heap ∧ Kk Γ t
abbrev QI (Γ : Gm) (A B : Me) (r : Int32) : Array Value → State → Outcome → State → Prop := va_Qi (fun x (_ : Unit) => x = r) (EW Γ A B) (rg Γ)
abbrev QL (Γ : Gm) (A B : Me) (r : Int64) : Array Value → State → Outcome → State → Prop := va_Ql (fun x (_ : Unit) => x = r) (EW Γ A B) (rg Γ)
abbrev QV (Γ : Gm) (A B : Me) : Array Value → State → Outcome → State → Prop := va_Qv (fun (_ : Unit) => True) (EW Γ A B) (rg Γ)
def Cx (Γ : Gm) (p : Program) (s : State) (m : MethodId) (args : Array Value) (meth : Method) (c : Code) (cc : ByteArray) (nL : Nat) (ret : Option FieldType) (own : String) (Ts : List Cond) : Prop :=
  p.tables.exec = Jvm.exec ∧ c.code = cc ∧ meth.sig.returnType = ret ∧ c.maxLocals = nL ∧ s.vm.findClass own = some m.cls ∧ (∀ w ∈ Ts, w.before args s = true) ∧ meth.locks = false ∧ Kk Γ s
/-- the partial functions' words -/
def ck {α : Type} (b : Bool) (x : Option α) : Option α := if b = true then x else none
theorem ck_s {α : Type} {b : Bool} {x : Option α} {r : α} (h : ck b x = some r) : b = true ∧ x = some r := by
  unfold ck at h
  by_cases q : b = true
  · rw [if_pos q] at h; exact ⟨q, h⟩
  · rw [if_neg q] at h; cases h
theorem ck_t {α : Type} {b : Bool} {x : Option α} (h : b = true) : ck b x = x := if_pos h
def bi {α β : Type} (x : Option α) (g : α → Option β) : Option β := match x with
  | none => none
  | some a => g a
theorem bi_s {α β : Type} {x : Option α} {g : α → Option β} {r : β} (h : bi x g = some r) : ∃ a, x = some a ∧ g a = some r := by
  cases x with
  | none => cases h
  | some a => exact ⟨a, rfl, h⟩
def b2 {α β γ : Type} (x : Option (α × β)) (g : α → β → Option γ) : Option γ := match x with
  | none => none
  | some a => g a.1 a.2
theorem b2_s {α β γ : Type} {x : Option (α × β)} {g : α → β → Option γ} {r : γ} (h : b2 x g = some r) : ∃ a b, x = some (a, b) ∧ g a b = some r := by
  cases x with
  | none => cases h
  | some a => exact ⟨a.1, a.2, rfl, h⟩
theorem bi_e {α β : Type} {x : Option α} {a : α} {g : α → Option β} (h : x = some a) : bi x g = g a := by rw [h]; rfl
theorem b2_e {α β γ : Type} {x : Option (α × β)} {a : α} {b : β} {g : α → β → Option γ} (h : x = some (a, b)) : b2 x g = g a b := by rw [h]; rfl
theorem if_y {α : Type} {c : Prop} [Decidable c] {x y : Option α} {r : α} (h : (if c then x else y) = some r) (q : c) : x = some r := by rw [if_pos q] at h; exact h
theorem if_n {α : Type} {c : Prop} [Decidable c] {x y : Option α} {r : α} (h : (if c then x else y) = some r) (q : ¬ c) : y = some r := by rw [if_neg q] at h; exact h
def inb (i : Int32) (n : Nat) : Bool := decide (¬ (i < 0 ∨ n ≤ i.toNatClampNeg))
theorem inb_s {i : Int32} {n : Nat} (h : inb i n = true) : vp_in i n := by
  have q : ¬ (i < 0 ∨ n ≤ i.toNatClampNeg) := of_decide_eq_true h
  exact q
def nz (i : Int32) : Bool := decide (¬ i = 0)
theorem nz_s {i : Int32} (h : nz i = true) : ¬ i = 0 := of_decide_eq_true h
def nzl (i : Int64) : Bool := decide (¬ i = 0)
theorem nzl_s {i : Int64} (h : nzl i = true) : ¬ i = 0 := of_decide_eq_true h
def zb (i : Int32) : Bool := decide (i = 0 ∨ i = 1)
theorem zb_s {i : Int32} (h : zb i = true) : narrow .boolean (.int i) = .int i := by
  rcases (of_decide_eq_true h : i = 0 ∨ i = 1) with rfl | rfl <;> rfl
theorem zb_f {i : Int32} (h : zb i = true) : fits .boolean (.int i) = true := by
  rcases (of_decide_eq_true h : i = 0 ∨ i = 1) with rfl | rfl <;> rfl
/-- the kinds of what an object refers to -/
theorem tsw0_2 {x : Int32} (h0 : ¬ x = 0) (h1 : ¬ x = 1) (h2 : ¬ x = 2) : x.toInt < 0 ∨ 2 < x.toInt := by
  have q0 := lv_neT (a := 0) h0 (by decide)
  have q1 := lv_neT (a := 1) h1 (by decide)
  have q2 := lv_neT (a := 2) h2 (by decide)
  omega
theorem tsw0_3 {x : Int32} (h0 : ¬ x = 0) (h1 : ¬ x = 1) (h2 : ¬ x = 2) (h3 : ¬ x = 3) : x.toInt < 0 ∨ 3 < x.toInt := by
  have q0 := lv_neT (a := 0) h0 (by decide)
  have q1 := lv_neT (a := 1) h1 (by decide)
  have q2 := lv_neT (a := 2) h2 (by decide)
  have q3 := lv_neT (a := 3) h3 (by decide)
  omega
theorem tsw0_7 {x : Int32} (h0 : ¬ x = 0) (h1 : ¬ x = 1) (h2 : ¬ x = 2) (h3 : ¬ x = 3) (h4 : ¬ x = 4) (h5 : ¬ x = 5) (h6 : ¬ x = 6) (h7 : ¬ x = 7) : x.toInt < 0 ∨ 7 < x.toInt := by
  have q0 := lv_neT (a := 0) h0 (by decide)
  have q1 := lv_neT (a := 1) h1 (by decide)
  have q2 := lv_neT (a := 2) h2 (by decide)
  have q3 := lv_neT (a := 3) h3 (by decide)
  have q4 := lv_neT (a := 4) h4 (by decide)
  have q5 := lv_neT (a := 5) h5 (by decide)
  have q6 := lv_neT (a := 6) h6 (by decide)
  have q7 := lv_neT (a := 7) h7 (by decide)
  omega
theorem tsw1_4 {x : Int32} (h1 : ¬ x = 1) (h2 : ¬ x = 2) (h3 : ¬ x = 3) (h4 : ¬ x = 4) : x.toInt < 1 ∨ 4 < x.toInt := by
  have q1 := lv_neT (a := 1) h1 (by decide)
  have q2 := lv_neT (a := 2) h2 (by decide)
  have q3 := lv_neT (a := 3) h3 (by decide)
  have q4 := lv_neT (a := 4) h4 (by decide)
  omega
theorem tsw0_22 {x : Int32} (h0 : ¬ x = 0) (h1 : ¬ x = 1) (h2 : ¬ x = 2) (h3 : ¬ x = 3) (h4 : ¬ x = 4) (h5 : ¬ x = 5) (h6 : ¬ x = 6) (h7 : ¬ x = 7) (h8 : ¬ x = 8) (h9 : ¬ x = 9) (h10 : ¬ x = 10) (h11 : ¬ x = 11) (h12 : ¬ x = 12) (h13 : ¬ x = 13) (h14 : ¬ x = 14) (h15 : ¬ x = 15) (h16 : ¬ x = 16) (h17 : ¬ x = 17) (h18 : ¬ x = 18) (h19 : ¬ x = 19) (h20 : ¬ x = 20) (h21 : ¬ x = 21) (h22 : ¬ x = 22) : x.toInt < 0 ∨ 22 < x.toInt := by
  have q0 := lv_neT (a := 0) h0 (by decide)
  have q1 := lv_neT (a := 1) h1 (by decide)
  have q2 := lv_neT (a := 2) h2 (by decide)
  have q3 := lv_neT (a := 3) h3 (by decide)
  have q4 := lv_neT (a := 4) h4 (by decide)
  have q5 := lv_neT (a := 5) h5 (by decide)
  have q6 := lv_neT (a := 6) h6 (by decide)
  have q7 := lv_neT (a := 7) h7 (by decide)
  have q8 := lv_neT (a := 8) h8 (by decide)
  have q9 := lv_neT (a := 9) h9 (by decide)
  have q10 := lv_neT (a := 10) h10 (by decide)
  have q11 := lv_neT (a := 11) h11 (by decide)
  have q12 := lv_neT (a := 12) h12 (by decide)
  have q13 := lv_neT (a := 13) h13 (by decide)
  have q14 := lv_neT (a := 14) h14 (by decide)
  have q15 := lv_neT (a := 15) h15 (by decide)
  have q16 := lv_neT (a := 16) h16 (by decide)
  have q17 := lv_neT (a := 17) h17 (by decide)
  have q18 := lv_neT (a := 18) h18 (by decide)
  have q19 := lv_neT (a := 19) h19 (by decide)
  have q20 := lv_neT (a := 20) h20 (by decide)
  have q21 := lv_neT (a := 21) h21 (by decide)
  have q22 := lv_neT (a := 22) h22 (by decide)
  omega
theorem kd_1 {k : Nat} (h : kd k = 1) : k = 3 ∨ k = 20 ∨ k = 37 := (by decide +kernel : ∀ k, k < 74 → kd k = 1 → k = 3 ∨ k = 20 ∨ k = 37) k (kd_lt h (by decide)) h
theorem kd_0r {k : Nat} (h : kd k = 0) : kd (k + 1) = 6 ∧ ln (k + 1) = 10 := (by decide +kernel : ∀ k, k < 74 → kd k = 0 → kd (k + 1) = 6 ∧ ln (k + 1) = 10) k (kd_lt h (by decide)) h
theorem kd_1r {k : Nat} (h : kd k = 1) : (kd (k + 1) = 7 ∧ ln (k + 1) = 5) ∧ (kd (k + 2) = 6 ∧ ln (k + 2) = 5) ∧ (kd (k + 3) = 6 ∧ ln (k + 3) = 5) ∧ (kd (k + 4) = 6 ∧ ln (k + 4) = 5) ∧ (kd (k + 5) = 6 ∧ ln (k + 5) = 8) ∧ (kd (k + 6) = 6 ∧ ln (k + 6) = 5) := by
  rcases kd_1 h with rfl | rfl | rfl <;> decide +kernel
theorem kd_2r {k : Nat} (h : kd k = 2) : kd (k + 1) = 6 ∧ ln (k + 1) = 18 := (by decide +kernel : ∀ k, k < 74 → kd k = 2 → kd (k + 1) = 6 ∧ ln (k + 1) = 18) k (kd_lt h (by decide)) h
theorem kd_7r {k i : Nat} (h : kd k = 7) (hi : i < 5) : kd (k + 6 + 2 * i) = 0 := (by decide +kernel : ∀ k, k < 74 → kd k = 7 → ∀ i, i < 5 → kd (k + 6 + 2 * i) = 0) k (kd_lt h (by decide)) h i hi
theorem ln_7 {k : Nat} (h : kd k = 7) : ln k = 5 := (by decide +kernel : ∀ k, k < 74 → kd k = 7 → ln k = 5) k (kd_lt h (by decide)) h
theorem kd_7e {k n : Nat} (h : kd k = 7) {i : Int32} (hi : vp_in i n) (hn : n = 5) : kd (k + 6 + 2 * i.toNatClampNeg) = 0 := kd_7r h (by subst hn; exact Nat.not_le.mp fun q => hi (Or.inr q))
theorem en_0 {Γ : Gm} {A B : Me} {k : Nat} (h : kd k = 0) : enc Γ A B k = .inr (0, [.ref (Γ.2.2 (k + 1)), .int ((A k) 1)]) := by unfold enc encC; simp only [h]; rfl
theorem en_1 {Γ : Gm} {A B : Me} {k : Nat} (h : kd k = 1) : enc Γ A B k = .inr (1, [.ref (Γ.2.2 (k + 1)), .ref (Γ.2.2 (k + 2)), .ref (Γ.2.2 (k + 3)), .ref (Γ.2.2 (k + 4)), .ref (Γ.2.2 (k + 5)), .ref (Γ.2.2 (k + 6)), .int ((A k) 6), .int ((A k) 7), .int ((A k) 8), .int ((A k) 9), .int ((A k) 10)]) := by unfold enc encC; simp only [h]; rfl
theorem en_2 {Γ : Gm} {A B : Me} {k : Nat} (h : kd k = 2) : enc Γ A B k = .inr (2, [.ref (Γ.2.2 (k + 1)), .int ((A k) 1)]) := by unfold enc encC; simp only [h]; rfl
theorem en_3 {Γ : Gm} {A B : Me} {k : Nat} (h : kd k = 3) : enc Γ A B k = .inr (3, [.ref (Γ.2.2 (1)), .ref (Γ.2.2 (3)), .ref (Γ.2.2 (20)), .ref (Γ.2.2 (37)), .ref (Γ.2.2 (54)), .ref (Γ.2.2 (56)), .int ((A k) 6), .int ((A k) 7)]) := by unfold enc encC; simp only [h]; rfl
theorem en_4 {Γ : Gm} {A B : Me} {k : Nat} (h : kd k = 4) : enc Γ A B k = .inr (4, [.int ((B k) 0), .int ((B k) 1), .int ((B k) 2), .ref (Γ.2.2 (59)), .ref (Γ.2.2 (60)), .int ((B k) 5), .ref (Γ.2.2 (61)), .ref (Γ.2.2 (62)), .ref (Γ.2.2 (63)), .int ((B k) 9), .ref (Γ.2.2 (64)), .ref (Γ.2.2 (65)), .int ((B k) 12), .ref (Γ.2.2 (66)), .int ((B k) 14), .int ((B k) 15), .ref (Γ.2.2 (67)), .ref (Γ.2.2 (68)), .int ((B k) 18), .long (gl (B k) 19), .ref (Γ.2.2 (69)), .int ((B k) 21), .int ((B k) 22), .int ((B k) 23), .int ((B k) 24), .ref (Γ.2.2 (70)), .ref (Γ.2.2 (71)), .ref (Γ.2.2 (72)), .ref (Γ.2.2 (73)), .long (gl (B k) 29)]) := by unfold enc encC; simp only [h]; rfl
theorem en_5 {Γ : Gm} {A B : Me} {k : Nat} (h : kd k = 5) : enc Γ A B k = .inl (Γ.2.1 0, ln k, .inl (B k)) := by unfold enc encC; simp only [h]; rfl
theorem en_6 {Γ : Gm} {A B : Me} {k : Nat} (h : kd k = 6) : enc Γ A B k = .inl (Γ.2.1 1, ln k, .inl (A k)) := by unfold enc encC; simp only [h]; rfl
theorem en_7 {Γ : Gm} {A B : Me} {k : Nat} (h : kd k = 7) : enc Γ A B k = .inl (Γ.2.1 2, ln k, .inr (.inr (.inr (.inr (fun i => some (Γ.2.2 (k + 6 + 2 * i))))))) := by unfold enc encC; simp only [h]; rfl
theorem en_9 {Γ : Gm} {A B : Me} {k : Nat} (h : kd k = 9) : enc Γ A B k = .inl (Γ.2.1 1, ln k, .inl (B k)) := by unfold enc encC; simp only [h]; rfl
section
variable {p : Program} {l : Launch} {e : Env} {R : Room} {s : State} {m : MethodId} {args : Array Value} {below : List Frame} {meth : Method} {c : Code} {H : Heap} {locs : List Loc} {cells slots : Nat} {Q : State → Prop}
variable {cc : ByteArray} {nL pc : Nat} {ret : Option FieldType} {own : String} {Ts : List Cond} {ls : Array Slot} {rest : List Value} {Γ : Gm} {A B : Me} {H0 : Heap}
theorem gX0_0 (C : Cx Γ p s m args meth c cc nL ret own Ts) (hW : Wd Γ A B H0 H locs) {k index : Nat} (hk : kd k = 0) (hin : ∀ w ∈ wsX00, w ∈ Ts) (hlink : Cond.fieldLink own index "WineByYears$Cask" "ofYear" "[I" ∈ Ts) (hdg : decode cc pc = .ok (.getfield index, 3))
    (kk : W p l e R s m args below meth c H locs cells slots Q (F0 m (pc + 3) ls (.ref (Γ.2.2 (k + 1)) :: rest))) : W p l e R s m args below meth c H locs cells slots Q (F0 m pc ls (.ref (Γ.2.2 k) :: rest)) :=
  va_get (D := Γ.1) (cl := vwCl) (ci := 0) (C := RX0) (T := TX0) (N := 2) C.1 C.2.1 C.2.2.2.2.2.1 hin C.2.2.2.2.1 C.2.2.2.2.2.2.2.1 hW.1 k ((wd_at (kd_lt hk (by decide))).trans (congrArg (fun x => some (_, x)) (en_0 hk))) rfl 0 (by decide) (C.2.2.2.2.2.1 _ hlink) (fun _ h9 => h9) rfl hdg kk
theorem gX0_1 (C : Cx Γ p s m args meth c cc nL ret own Ts) (hW : Wd Γ A B H0 H locs) {k index : Nat} (hk : kd k = 0) (hin : ∀ w ∈ wsX00, w ∈ Ts) (hlink : Cond.fieldLink own index "WineByYears$Cask" "litres" "I" ∈ Ts) (hdg : decode cc pc = .ok (.getfield index, 3))
    (kk : W p l e R s m args below meth c H locs cells slots Q (F0 m (pc + 3) ls (.int ((A k) 1) :: rest))) : W p l e R s m args below meth c H locs cells slots Q (F0 m pc ls (.ref (Γ.2.2 k) :: rest)) :=
  va_get (D := Γ.1) (cl := vwCl) (ci := 0) (C := RX0) (T := TX0) (N := 2) C.1 C.2.1 C.2.2.2.2.2.1 hin C.2.2.2.2.1 C.2.2.2.2.2.2.2.1 hW.1 k ((wd_at (kd_lt hk (by decide))).trans (congrArg (fun x => some (_, x)) (en_0 hk))) rfl 1 (by decide) (C.2.2.2.2.2.1 _ hlink) (fun _ h9 => h9) rfl hdg kk
theorem pX0_1 (C : Cx Γ p s m args meth c cc nL ret own Ts) (hW : Wd Γ A B H0 H locs) {k index : Nat} {v : Int32} (hk : kd k = 0) (hin : ∀ w ∈ wsX00, w ∈ Ts) (hlink : Cond.fieldLink own index "WineByYears$Cask" "litres" "I" ∈ Ts) (hdg : decode cc pc = .ok (.putfield index, 3))
    (kk : ∀ (H1 : Heap) (locs1 : List Loc), Wd Γ (up2 A k 1 v) B H0 H1 locs1 → W p l e R s m args below meth c H1 locs1 cells slots Q (F0 m (pc + 3) ls rest)) : W p l e R s m args below meth c H locs cells slots Q (F0 m pc ls (.int v :: .ref (Γ.2.2 k) :: rest)) := by
  have hlt := kd_lt hk (by decide)
  refine va_put (D := Γ.1) (cl := vwCl) (ci := 0) (ty := .int) (C := RX0) (T := TX0) (N := 2) C.1 C.2.1 C.2.2.2.2.2.1 hin tyX0 tyX0_ok nmX0 C.2.2.2.2.1 C.2.2.2.2.2.2.2.1 hW.1 (wd_D C.2.2.2.2.2.2.2) hW.2 k ((wd_at hlt).trans (congrArg (fun x => some (_, x)) (en_0 hk))) rfl 1 (by decide) (C.2.2.2.2.2.1 _ hlink) (fun _ h9 => h9) rfl (by decide +kernel) rfl rfl (by simp) hdg (fun H1 locs1 hP hD hS => ?_)
  refine kk H1 locs1 ⟨?_, hS⟩
  rw [wd_set (A' := (up2 A k 1 v)) (B' := B) hlt ?_ ?_] at hP
  · exact hP
  · rw [en_0 hk, up2_at]
    simp [upd, updl, gl_updl, gl, hilo]
  · intro j hj
    exact ⟨up2_ne hj, rfl⟩
theorem gX1_0 (C : Cx Γ p s m args meth c cc nL ret own Ts) (hW : Wd Γ A B H0 H locs) {k index : Nat} (hk : kd k = 1) (hin : ∀ w ∈ wsX10, w ∈ Ts) (hlink : Cond.fieldLink own index "WineByYears$Cellar" "casks" "[LWineByYears$Cask;" ∈ Ts) (hdg : decode cc pc = .ok (.getfield index, 3))
    (kk : W p l e R s m args below meth c H locs cells slots Q (F0 m (pc + 3) ls (.ref (Γ.2.2 (k + 1)) :: rest))) : W p l e R s m args below meth c H locs cells slots Q (F0 m pc ls (.ref (Γ.2.2 k) :: rest)) :=
  va_get (D := Γ.1) (cl := vwCl) (ci := 1) (C := RX1) (T := TX1) (N := 11) C.1 C.2.1 C.2.2.2.2.2.1 hin C.2.2.2.2.1 C.2.2.2.2.2.2.2.1 hW.1 k ((wd_at (kd_lt hk (by decide))).trans (congrArg (fun x => some (_, x)) (en_1 hk))) rfl 0 (by decide) (C.2.2.2.2.2.1 _ hlink) (fun _ h9 => h9) rfl hdg kk
theorem gX1_1 (C : Cx Γ p s m args meth c cc nL ret own Ts) (hW : Wd Γ A B H0 H locs) {k index : Nat} (hk : kd k = 1) (hin : ∀ w ∈ wsX10, w ∈ Ts) (hlink : Cond.fieldLink own index "WineByYears$Cellar" "kinds" "[I" ∈ Ts) (hdg : decode cc pc = .ok (.getfield index, 3))
    (kk : W p l e R s m args below meth c H locs cells slots Q (F0 m (pc + 3) ls (.ref (Γ.2.2 (k + 2)) :: rest))) : W p l e R s m args below meth c H locs cells slots Q (F0 m pc ls (.ref (Γ.2.2 k) :: rest)) :=
  va_get (D := Γ.1) (cl := vwCl) (ci := 1) (C := RX1) (T := TX1) (N := 11) C.1 C.2.1 C.2.2.2.2.2.1 hin C.2.2.2.2.1 C.2.2.2.2.2.2.2.1 hW.1 k ((wd_at (kd_lt hk (by decide))).trans (congrArg (fun x => some (_, x)) (en_1 hk))) rfl 1 (by decide) (C.2.2.2.2.2.1 _ hlink) (fun _ h9 => h9) rfl hdg kk
theorem gX1_2 (C : Cx Γ p s m args meth c cc nL ret own Ts) (hW : Wd Γ A B H0 H locs) {k index : Nat} (hk : kd k = 1) (hin : ∀ w ∈ wsX10, w ∈ Ts) (hlink : Cond.fieldLink own index "WineByYears$Cellar" "borns" "[I" ∈ Ts) (hdg : decode cc pc = .ok (.getfield index, 3))
    (kk : W p l e R s m args below meth c H locs cells slots Q (F0 m (pc + 3) ls (.ref (Γ.2.2 (k + 3)) :: rest))) : W p l e R s m args below meth c H locs cells slots Q (F0 m pc ls (.ref (Γ.2.2 k) :: rest)) :=
  va_get (D := Γ.1) (cl := vwCl) (ci := 1) (C := RX1) (T := TX1) (N := 11) C.1 C.2.1 C.2.2.2.2.2.1 hin C.2.2.2.2.1 C.2.2.2.2.2.2.2.1 hW.1 k ((wd_at (kd_lt hk (by decide))).trans (congrArg (fun x => some (_, x)) (en_1 hk))) rfl 2 (by decide) (C.2.2.2.2.2.1 _ hlink) (fun _ h9 => h9) rfl hdg kk
theorem gX1_3 (C : Cx Γ p s m args meth c cc nL ret own Ts) (hW : Wd Γ A B H0 H locs) {k index : Nat} (hk : kd k = 1) (hin : ∀ w ∈ wsX10, w ∈ Ts) (hlink : Cond.fieldLink own index "WineByYears$Cellar" "ills" "[I" ∈ Ts) (hdg : decode cc pc = .ok (.getfield index, 3))
    (kk : W p l e R s m args below meth c H locs cells slots Q (F0 m (pc + 3) ls (.ref (Γ.2.2 (k + 4)) :: rest))) : W p l e R s m args below meth c H locs cells slots Q (F0 m pc ls (.ref (Γ.2.2 k) :: rest)) :=
  va_get (D := Γ.1) (cl := vwCl) (ci := 1) (C := RX1) (T := TX1) (N := 11) C.1 C.2.1 C.2.2.2.2.2.1 hin C.2.2.2.2.1 C.2.2.2.2.2.2.2.1 hW.1 k ((wd_at (kd_lt hk (by decide))).trans (congrArg (fun x => some (_, x)) (en_1 hk))) rfl 3 (by decide) (C.2.2.2.2.2.1 _ hlink) (fun _ h9 => h9) rfl hdg kk
theorem gX1_4 (C : Cx Γ p s m args meth c cc nL ret own Ts) (hW : Wd Γ A B H0 H locs) {k index : Nat} (hk : kd k = 1) (hin : ∀ w ∈ wsX10, w ∈ Ts) (hlink : Cond.fieldLink own index "WineByYears$Cellar" "trialCasks" "[I" ∈ Ts) (hdg : decode cc pc = .ok (.getfield index, 3))
    (kk : W p l e R s m args below meth c H locs cells slots Q (F0 m (pc + 3) ls (.ref (Γ.2.2 (k + 5)) :: rest))) : W p l e R s m args below meth c H locs cells slots Q (F0 m pc ls (.ref (Γ.2.2 k) :: rest)) :=
  va_get (D := Γ.1) (cl := vwCl) (ci := 1) (C := RX1) (T := TX1) (N := 11) C.1 C.2.1 C.2.2.2.2.2.1 hin C.2.2.2.2.1 C.2.2.2.2.2.2.2.1 hW.1 k ((wd_at (kd_lt hk (by decide))).trans (congrArg (fun x => some (_, x)) (en_1 hk))) rfl 4 (by decide) (C.2.2.2.2.2.1 _ hlink) (fun _ h9 => h9) rfl hdg kk
theorem gX1_5 (C : Cx Γ p s m args meth c cc nL ret own Ts) (hW : Wd Γ A B H0 H locs) {k index : Nat} (hk : kd k = 1) (hin : ∀ w ∈ wsX10, w ∈ Ts) (hlink : Cond.fieldLink own index "WineByYears$Cellar" "drinkers" "[I" ∈ Ts) (hdg : decode cc pc = .ok (.getfield index, 3))
    (kk : W p l e R s m args below meth c H locs cells slots Q (F0 m (pc + 3) ls (.ref (Γ.2.2 (k + 6)) :: rest))) : W p l e R s m args below meth c H locs cells slots Q (F0 m pc ls (.ref (Γ.2.2 k) :: rest)) :=
  va_get (D := Γ.1) (cl := vwCl) (ci := 1) (C := RX1) (T := TX1) (N := 11) C.1 C.2.1 C.2.2.2.2.2.1 hin C.2.2.2.2.1 C.2.2.2.2.2.2.2.1 hW.1 k ((wd_at (kd_lt hk (by decide))).trans (congrArg (fun x => some (_, x)) (en_1 hk))) rfl 5 (by decide) (C.2.2.2.2.2.1 _ hlink) (fun _ h9 => h9) rfl hdg kk
theorem gX1_6 (C : Cx Γ p s m args meth c cc nL ret own Ts) (hW : Wd Γ A B H0 H locs) {k index : Nat} (hk : kd k = 1) (hin : ∀ w ∈ wsX10, w ∈ Ts) (hlink : Cond.fieldLink own index "WineByYears$Cellar" "law" "I" ∈ Ts) (hdg : decode cc pc = .ok (.getfield index, 3))
    (kk : W p l e R s m args below meth c H locs cells slots Q (F0 m (pc + 3) ls (.int ((A k) 6) :: rest))) : W p l e R s m args below meth c H locs cells slots Q (F0 m pc ls (.ref (Γ.2.2 k) :: rest)) :=
  va_get (D := Γ.1) (cl := vwCl) (ci := 1) (C := RX1) (T := TX1) (N := 11) C.1 C.2.1 C.2.2.2.2.2.1 hin C.2.2.2.2.1 C.2.2.2.2.2.2.2.1 hW.1 k ((wd_at (kd_lt hk (by decide))).trans (congrArg (fun x => some (_, x)) (en_1 hk))) rfl 6 (by decide) (C.2.2.2.2.2.1 _ hlink) (fun _ h9 => h9) rfl hdg kk
theorem pX1_6 (C : Cx Γ p s m args meth c cc nL ret own Ts) (hW : Wd Γ A B H0 H locs) {k index : Nat} {v : Int32} (hk : kd k = 1) (hin : ∀ w ∈ wsX10, w ∈ Ts) (hlink : Cond.fieldLink own index "WineByYears$Cellar" "law" "I" ∈ Ts) (hdg : decode cc pc = .ok (.putfield index, 3))
    (kk : ∀ (H1 : Heap) (locs1 : List Loc), Wd Γ (up2 A k 6 v) B H0 H1 locs1 → W p l e R s m args below meth c H1 locs1 cells slots Q (F0 m (pc + 3) ls rest)) : W p l e R s m args below meth c H locs cells slots Q (F0 m pc ls (.int v :: .ref (Γ.2.2 k) :: rest)) := by
  have hlt := kd_lt hk (by decide)
  refine va_put (D := Γ.1) (cl := vwCl) (ci := 1) (ty := .int) (C := RX1) (T := TX1) (N := 11) C.1 C.2.1 C.2.2.2.2.2.1 hin tyX1 tyX1_ok nmX1 C.2.2.2.2.1 C.2.2.2.2.2.2.2.1 hW.1 (wd_D C.2.2.2.2.2.2.2) hW.2 k ((wd_at hlt).trans (congrArg (fun x => some (_, x)) (en_1 hk))) rfl 6 (by decide) (C.2.2.2.2.2.1 _ hlink) (fun _ h9 => h9) rfl (by decide +kernel) rfl rfl (by simp) hdg (fun H1 locs1 hP hD hS => ?_)
  refine kk H1 locs1 ⟨?_, hS⟩
  rw [wd_set (A' := (up2 A k 6 v)) (B' := B) hlt ?_ ?_] at hP
  · exact hP
  · rw [en_1 hk, up2_at]
    simp [upd, updl, gl_updl, gl, hilo]
  · intro j hj
    exact ⟨up2_ne hj, rfl⟩
theorem gX1_7 (C : Cx Γ p s m args meth c cc nL ret own Ts) (hW : Wd Γ A B H0 H locs) {k index : Nat} (hk : kd k = 1) (hin : ∀ w ∈ wsX10, w ∈ Ts) (hlink : Cond.fieldLink own index "WineByYears$Cellar" "caskCount" "I" ∈ Ts) (hdg : decode cc pc = .ok (.getfield index, 3))
    (kk : W p l e R s m args below meth c H locs cells slots Q (F0 m (pc + 3) ls (.int ((A k) 7) :: rest))) : W p l e R s m args below meth c H locs cells slots Q (F0 m pc ls (.ref (Γ.2.2 k) :: rest)) :=
  va_get (D := Γ.1) (cl := vwCl) (ci := 1) (C := RX1) (T := TX1) (N := 11) C.1 C.2.1 C.2.2.2.2.2.1 hin C.2.2.2.2.1 C.2.2.2.2.2.2.2.1 hW.1 k ((wd_at (kd_lt hk (by decide))).trans (congrArg (fun x => some (_, x)) (en_1 hk))) rfl 7 (by decide) (C.2.2.2.2.2.1 _ hlink) (fun _ h9 => h9) rfl hdg kk
theorem pX1_7 (C : Cx Γ p s m args meth c cc nL ret own Ts) (hW : Wd Γ A B H0 H locs) {k index : Nat} {v : Int32} (hk : kd k = 1) (hin : ∀ w ∈ wsX10, w ∈ Ts) (hlink : Cond.fieldLink own index "WineByYears$Cellar" "caskCount" "I" ∈ Ts) (hdg : decode cc pc = .ok (.putfield index, 3))
    (kk : ∀ (H1 : Heap) (locs1 : List Loc), Wd Γ (up2 A k 7 v) B H0 H1 locs1 → W p l e R s m args below meth c H1 locs1 cells slots Q (F0 m (pc + 3) ls rest)) : W p l e R s m args below meth c H locs cells slots Q (F0 m pc ls (.int v :: .ref (Γ.2.2 k) :: rest)) := by
  have hlt := kd_lt hk (by decide)
  refine va_put (D := Γ.1) (cl := vwCl) (ci := 1) (ty := .int) (C := RX1) (T := TX1) (N := 11) C.1 C.2.1 C.2.2.2.2.2.1 hin tyX1 tyX1_ok nmX1 C.2.2.2.2.1 C.2.2.2.2.2.2.2.1 hW.1 (wd_D C.2.2.2.2.2.2.2) hW.2 k ((wd_at hlt).trans (congrArg (fun x => some (_, x)) (en_1 hk))) rfl 7 (by decide) (C.2.2.2.2.2.1 _ hlink) (fun _ h9 => h9) rfl (by decide +kernel) rfl rfl (by simp) hdg (fun H1 locs1 hP hD hS => ?_)
  refine kk H1 locs1 ⟨?_, hS⟩
  rw [wd_set (A' := (up2 A k 7 v)) (B' := B) hlt ?_ ?_] at hP
  · exact hP
  · rw [en_1 hk, up2_at]
    simp [upd, updl, gl_updl, gl, hilo]
  · intro j hj
    exact ⟨up2_ne hj, rfl⟩
theorem gX1_8 (C : Cx Γ p s m args meth c cc nL ret own Ts) (hW : Wd Γ A B H0 H locs) {k index : Nat} (hk : kd k = 1) (hin : ∀ w ∈ wsX10, w ∈ Ts) (hlink : Cond.fieldLink own index "WineByYears$Cellar" "peopleCount" "I" ∈ Ts) (hdg : decode cc pc = .ok (.getfield index, 3))
    (kk : W p l e R s m args below meth c H locs cells slots Q (F0 m (pc + 3) ls (.int ((A k) 8) :: rest))) : W p l e R s m args below meth c H locs cells slots Q (F0 m pc ls (.ref (Γ.2.2 k) :: rest)) :=
  va_get (D := Γ.1) (cl := vwCl) (ci := 1) (C := RX1) (T := TX1) (N := 11) C.1 C.2.1 C.2.2.2.2.2.1 hin C.2.2.2.2.1 C.2.2.2.2.2.2.2.1 hW.1 k ((wd_at (kd_lt hk (by decide))).trans (congrArg (fun x => some (_, x)) (en_1 hk))) rfl 8 (by decide) (C.2.2.2.2.2.1 _ hlink) (fun _ h9 => h9) rfl hdg kk
theorem pX1_8 (C : Cx Γ p s m args meth c cc nL ret own Ts) (hW : Wd Γ A B H0 H locs) {k index : Nat} {v : Int32} (hk : kd k = 1) (hin : ∀ w ∈ wsX10, w ∈ Ts) (hlink : Cond.fieldLink own index "WineByYears$Cellar" "peopleCount" "I" ∈ Ts) (hdg : decode cc pc = .ok (.putfield index, 3))
    (kk : ∀ (H1 : Heap) (locs1 : List Loc), Wd Γ (up2 A k 8 v) B H0 H1 locs1 → W p l e R s m args below meth c H1 locs1 cells slots Q (F0 m (pc + 3) ls rest)) : W p l e R s m args below meth c H locs cells slots Q (F0 m pc ls (.int v :: .ref (Γ.2.2 k) :: rest)) := by
  have hlt := kd_lt hk (by decide)
  refine va_put (D := Γ.1) (cl := vwCl) (ci := 1) (ty := .int) (C := RX1) (T := TX1) (N := 11) C.1 C.2.1 C.2.2.2.2.2.1 hin tyX1 tyX1_ok nmX1 C.2.2.2.2.1 C.2.2.2.2.2.2.2.1 hW.1 (wd_D C.2.2.2.2.2.2.2) hW.2 k ((wd_at hlt).trans (congrArg (fun x => some (_, x)) (en_1 hk))) rfl 8 (by decide) (C.2.2.2.2.2.1 _ hlink) (fun _ h9 => h9) rfl (by decide +kernel) rfl rfl (by simp) hdg (fun H1 locs1 hP hD hS => ?_)
  refine kk H1 locs1 ⟨?_, hS⟩
  rw [wd_set (A' := (up2 A k 8 v)) (B' := B) hlt ?_ ?_] at hP
  · exact hP
  · rw [en_1 hk, up2_at]
    simp [upd, updl, gl_updl, gl, hilo]
  · intro j hj
    exact ⟨up2_ne hj, rfl⟩
theorem gX1_9 (C : Cx Γ p s m args meth c cc nL ret own Ts) (hW : Wd Γ A B H0 H locs) {k index : Nat} (hk : kd k = 1) (hin : ∀ w ∈ wsX10, w ∈ Ts) (hlink : Cond.fieldLink own index "WineByYears$Cellar" "trialCount" "I" ∈ Ts) (hdg : decode cc pc = .ok (.getfield index, 3))
    (kk : W p l e R s m args below meth c H locs cells slots Q (F0 m (pc + 3) ls (.int ((A k) 9) :: rest))) : W p l e R s m args below meth c H locs cells slots Q (F0 m pc ls (.ref (Γ.2.2 k) :: rest)) :=
  va_get (D := Γ.1) (cl := vwCl) (ci := 1) (C := RX1) (T := TX1) (N := 11) C.1 C.2.1 C.2.2.2.2.2.1 hin C.2.2.2.2.1 C.2.2.2.2.2.2.2.1 hW.1 k ((wd_at (kd_lt hk (by decide))).trans (congrArg (fun x => some (_, x)) (en_1 hk))) rfl 9 (by decide) (C.2.2.2.2.2.1 _ hlink) (fun _ h9 => h9) rfl hdg kk
theorem pX1_9 (C : Cx Γ p s m args meth c cc nL ret own Ts) (hW : Wd Γ A B H0 H locs) {k index : Nat} {v : Int32} (hk : kd k = 1) (hin : ∀ w ∈ wsX10, w ∈ Ts) (hlink : Cond.fieldLink own index "WineByYears$Cellar" "trialCount" "I" ∈ Ts) (hdg : decode cc pc = .ok (.putfield index, 3))
    (kk : ∀ (H1 : Heap) (locs1 : List Loc), Wd Γ (up2 A k 9 v) B H0 H1 locs1 → W p l e R s m args below meth c H1 locs1 cells slots Q (F0 m (pc + 3) ls rest)) : W p l e R s m args below meth c H locs cells slots Q (F0 m pc ls (.int v :: .ref (Γ.2.2 k) :: rest)) := by
  have hlt := kd_lt hk (by decide)
  refine va_put (D := Γ.1) (cl := vwCl) (ci := 1) (ty := .int) (C := RX1) (T := TX1) (N := 11) C.1 C.2.1 C.2.2.2.2.2.1 hin tyX1 tyX1_ok nmX1 C.2.2.2.2.1 C.2.2.2.2.2.2.2.1 hW.1 (wd_D C.2.2.2.2.2.2.2) hW.2 k ((wd_at hlt).trans (congrArg (fun x => some (_, x)) (en_1 hk))) rfl 9 (by decide) (C.2.2.2.2.2.1 _ hlink) (fun _ h9 => h9) rfl (by decide +kernel) rfl rfl (by simp) hdg (fun H1 locs1 hP hD hS => ?_)
  refine kk H1 locs1 ⟨?_, hS⟩
  rw [wd_set (A' := (up2 A k 9 v)) (B' := B) hlt ?_ ?_] at hP
  · exact hP
  · rw [en_1 hk, up2_at]
    simp [upd, updl, gl_updl, gl, hilo]
  · intro j hj
    exact ⟨up2_ne hj, rfl⟩
theorem gX1_10 (C : Cx Γ p s m args meth c cc nL ret own Ts) (hW : Wd Γ A B H0 H locs) {k index : Nat} (hk : kd k = 1) (hin : ∀ w ∈ wsX10, w ∈ Ts) (hlink : Cond.fieldLink own index "WineByYears$Cellar" "trialIllBits" "I" ∈ Ts) (hdg : decode cc pc = .ok (.getfield index, 3))
    (kk : W p l e R s m args below meth c H locs cells slots Q (F0 m (pc + 3) ls (.int ((A k) 10) :: rest))) : W p l e R s m args below meth c H locs cells slots Q (F0 m pc ls (.ref (Γ.2.2 k) :: rest)) :=
  va_get (D := Γ.1) (cl := vwCl) (ci := 1) (C := RX1) (T := TX1) (N := 11) C.1 C.2.1 C.2.2.2.2.2.1 hin C.2.2.2.2.1 C.2.2.2.2.2.2.2.1 hW.1 k ((wd_at (kd_lt hk (by decide))).trans (congrArg (fun x => some (_, x)) (en_1 hk))) rfl 10 (by decide) (C.2.2.2.2.2.1 _ hlink) (fun _ h9 => h9) rfl hdg kk
theorem pX1_10 (C : Cx Γ p s m args meth c cc nL ret own Ts) (hW : Wd Γ A B H0 H locs) {k index : Nat} {v : Int32} (hk : kd k = 1) (hin : ∀ w ∈ wsX10, w ∈ Ts) (hlink : Cond.fieldLink own index "WineByYears$Cellar" "trialIllBits" "I" ∈ Ts) (hdg : decode cc pc = .ok (.putfield index, 3))
    (kk : ∀ (H1 : Heap) (locs1 : List Loc), Wd Γ (up2 A k 10 v) B H0 H1 locs1 → W p l e R s m args below meth c H1 locs1 cells slots Q (F0 m (pc + 3) ls rest)) : W p l e R s m args below meth c H locs cells slots Q (F0 m pc ls (.int v :: .ref (Γ.2.2 k) :: rest)) := by
  have hlt := kd_lt hk (by decide)
  refine va_put (D := Γ.1) (cl := vwCl) (ci := 1) (ty := .int) (C := RX1) (T := TX1) (N := 11) C.1 C.2.1 C.2.2.2.2.2.1 hin tyX1 tyX1_ok nmX1 C.2.2.2.2.1 C.2.2.2.2.2.2.2.1 hW.1 (wd_D C.2.2.2.2.2.2.2) hW.2 k ((wd_at hlt).trans (congrArg (fun x => some (_, x)) (en_1 hk))) rfl 10 (by decide) (C.2.2.2.2.2.1 _ hlink) (fun _ h9 => h9) rfl (by decide +kernel) rfl rfl (by simp) hdg (fun H1 locs1 hP hD hS => ?_)
  refine kk H1 locs1 ⟨?_, hS⟩
  rw [wd_set (A' := (up2 A k 10 v)) (B' := B) hlt ?_ ?_] at hP
  · exact hP
  · rw [en_1 hk, up2_at]
    simp [upd, updl, gl_updl, gl, hilo]
  · intro j hj
    exact ⟨up2_ne hj, rfl⟩
theorem gX2_0 (C : Cx Γ p s m args meth c cc nL ret own Ts) (hW : Wd Γ A B H0 H locs) {k index : Nat} (hk : kd k = 2) (hin : ∀ w ∈ wsX20, w ∈ Ts) (hlink : Cond.fieldLink own index "WineByYears$Page" "codes" "[I" ∈ Ts) (hdg : decode cc pc = .ok (.getfield index, 3))
    (kk : W p l e R s m args below meth c H locs cells slots Q (F0 m (pc + 3) ls (.ref (Γ.2.2 (k + 1)) :: rest))) : W p l e R s m args below meth c H locs cells slots Q (F0 m pc ls (.ref (Γ.2.2 k) :: rest)) :=
  va_get (D := Γ.1) (cl := vwCl) (ci := 2) (C := RX2) (T := TX2) (N := 2) C.1 C.2.1 C.2.2.2.2.2.1 hin C.2.2.2.2.1 C.2.2.2.2.2.2.2.1 hW.1 k ((wd_at (kd_lt hk (by decide))).trans (congrArg (fun x => some (_, x)) (en_2 hk))) rfl 0 (by decide) (C.2.2.2.2.2.1 _ hlink) (fun _ h9 => h9) rfl hdg kk
theorem gX2_1 (C : Cx Γ p s m args meth c cc nL ret own Ts) (hW : Wd Γ A B H0 H locs) {k index : Nat} (hk : kd k = 2) (hin : ∀ w ∈ wsX20, w ∈ Ts) (hlink : Cond.fieldLink own index "WineByYears$Page" "length" "I" ∈ Ts) (hdg : decode cc pc = .ok (.getfield index, 3))
    (kk : W p l e R s m args below meth c H locs cells slots Q (F0 m (pc + 3) ls (.int ((A k) 1) :: rest))) : W p l e R s m args below meth c H locs cells slots Q (F0 m pc ls (.ref (Γ.2.2 k) :: rest)) :=
  va_get (D := Γ.1) (cl := vwCl) (ci := 2) (C := RX2) (T := TX2) (N := 2) C.1 C.2.1 C.2.2.2.2.2.1 hin C.2.2.2.2.1 C.2.2.2.2.2.2.2.1 hW.1 k ((wd_at (kd_lt hk (by decide))).trans (congrArg (fun x => some (_, x)) (en_2 hk))) rfl 1 (by decide) (C.2.2.2.2.2.1 _ hlink) (fun _ h9 => h9) rfl hdg kk
theorem pX2_1 (C : Cx Γ p s m args meth c cc nL ret own Ts) (hW : Wd Γ A B H0 H locs) {k index : Nat} {v : Int32} (hk : kd k = 2) (hin : ∀ w ∈ wsX20, w ∈ Ts) (hlink : Cond.fieldLink own index "WineByYears$Page" "length" "I" ∈ Ts) (hdg : decode cc pc = .ok (.putfield index, 3))
    (kk : ∀ (H1 : Heap) (locs1 : List Loc), Wd Γ (up2 A k 1 v) B H0 H1 locs1 → W p l e R s m args below meth c H1 locs1 cells slots Q (F0 m (pc + 3) ls rest)) : W p l e R s m args below meth c H locs cells slots Q (F0 m pc ls (.int v :: .ref (Γ.2.2 k) :: rest)) := by
  have hlt := kd_lt hk (by decide)
  refine va_put (D := Γ.1) (cl := vwCl) (ci := 2) (ty := .int) (C := RX2) (T := TX2) (N := 2) C.1 C.2.1 C.2.2.2.2.2.1 hin tyX2 tyX2_ok nmX2 C.2.2.2.2.1 C.2.2.2.2.2.2.2.1 hW.1 (wd_D C.2.2.2.2.2.2.2) hW.2 k ((wd_at hlt).trans (congrArg (fun x => some (_, x)) (en_2 hk))) rfl 1 (by decide) (C.2.2.2.2.2.1 _ hlink) (fun _ h9 => h9) rfl (by decide +kernel) rfl rfl (by simp) hdg (fun H1 locs1 hP hD hS => ?_)
  refine kk H1 locs1 ⟨?_, hS⟩
  rw [wd_set (A' := (up2 A k 1 v)) (B' := B) hlt ?_ ?_] at hP
  · exact hP
  · rw [en_2 hk, up2_at]
    simp [upd, updl, gl_updl, gl, hilo]
  · intro j hj
    exact ⟨up2_ne hj, rfl⟩
theorem gX3_0 (C : Cx Γ p s m args meth c cc nL ret own Ts) (hW : Wd Γ A B H0 H locs) {k index : Nat} (hk : kd k = 3) (hin : ∀ w ∈ wsX30, w ∈ Ts) (hlink : Cond.fieldLink own index "WineByYears" "page" "LWineByYears$Page;" ∈ Ts) (hdg : decode cc pc = .ok (.getfield index, 3))
    (kk : W p l e R s m args below meth c H locs cells slots Q (F0 m (pc + 3) ls (.ref (Γ.2.2 (1)) :: rest))) : W p l e R s m args below meth c H locs cells slots Q (F0 m pc ls (.ref (Γ.2.2 k) :: rest)) :=
  va_get (D := Γ.1) (cl := vwCl) (ci := 3) (C := RX3) (T := TX3) (N := 8) C.1 C.2.1 C.2.2.2.2.2.1 hin C.2.2.2.2.1 C.2.2.2.2.2.2.2.1 hW.1 k ((wd_at (kd_lt hk (by decide))).trans (congrArg (fun x => some (_, x)) (en_3 hk))) rfl 0 (by decide) (C.2.2.2.2.2.1 _ hlink) (fun _ h9 => h9) rfl hdg kk
theorem gX3_1 (C : Cx Γ p s m args meth c cc nL ret own Ts) (hW : Wd Γ A B H0 H locs) {k index : Nat} (hk : kd k = 3) (hin : ∀ w ∈ wsX30, w ∈ Ts) (hlink : Cond.fieldLink own index "WineByYears" "now" "LWineByYears$Cellar;" ∈ Ts) (hdg : decode cc pc = .ok (.getfield index, 3))
    (kk : W p l e R s m args below meth c H locs cells slots Q (F0 m (pc + 3) ls (.ref (Γ.2.2 (3)) :: rest))) : W p l e R s m args below meth c H locs cells slots Q (F0 m pc ls (.ref (Γ.2.2 k) :: rest)) :=
  va_get (D := Γ.1) (cl := vwCl) (ci := 3) (C := RX3) (T := TX3) (N := 8) C.1 C.2.1 C.2.2.2.2.2.1 hin C.2.2.2.2.1 C.2.2.2.2.2.2.2.1 hW.1 k ((wd_at (kd_lt hk (by decide))).trans (congrArg (fun x => some (_, x)) (en_3 hk))) rfl 1 (by decide) (C.2.2.2.2.2.1 _ hlink) (fun _ h9 => h9) rfl hdg kk
theorem gX3_2 (C : Cx Γ p s m args meth c cc nL ret own Ts) (hW : Wd Γ A B H0 H locs) {k index : Nat} (hk : kd k = 3) (hin : ∀ w ∈ wsX30, w ∈ Ts) (hlink : Cond.fieldLink own index "WineByYears" "kept" "LWineByYears$Cellar;" ∈ Ts) (hdg : decode cc pc = .ok (.getfield index, 3))
    (kk : W p l e R s m args below meth c H locs cells slots Q (F0 m (pc + 3) ls (.ref (Γ.2.2 (20)) :: rest))) : W p l e R s m args below meth c H locs cells slots Q (F0 m pc ls (.ref (Γ.2.2 k) :: rest)) :=
  va_get (D := Γ.1) (cl := vwCl) (ci := 3) (C := RX3) (T := TX3) (N := 8) C.1 C.2.1 C.2.2.2.2.2.1 hin C.2.2.2.2.1 C.2.2.2.2.2.2.2.1 hW.1 k ((wd_at (kd_lt hk (by decide))).trans (congrArg (fun x => some (_, x)) (en_3 hk))) rfl 2 (by decide) (C.2.2.2.2.2.1 _ hlink) (fun _ h9 => h9) rfl hdg kk
theorem gX3_3 (C : Cx Γ p s m args meth c cc nL ret own Ts) (hW : Wd Γ A B H0 H locs) {k index : Nat} (hk : kd k = 3) (hin : ∀ w ∈ wsX30, w ∈ Ts) (hlink : Cond.fieldLink own index "WineByYears" "tried" "LWineByYears$Cellar;" ∈ Ts) (hdg : decode cc pc = .ok (.getfield index, 3))
    (kk : W p l e R s m args below meth c H locs cells slots Q (F0 m (pc + 3) ls (.ref (Γ.2.2 (37)) :: rest))) : W p l e R s m args below meth c H locs cells slots Q (F0 m pc ls (.ref (Γ.2.2 k) :: rest)) :=
  va_get (D := Γ.1) (cl := vwCl) (ci := 3) (C := RX3) (T := TX3) (N := 8) C.1 C.2.1 C.2.2.2.2.2.1 hin C.2.2.2.2.1 C.2.2.2.2.2.2.2.1 hW.1 k ((wd_at (kd_lt hk (by decide))).trans (congrArg (fun x => some (_, x)) (en_3 hk))) rfl 3 (by decide) (C.2.2.2.2.2.1 _ hlink) (fun _ h9 => h9) rfl hdg kk
theorem gX3_4 (C : Cx Γ p s m args meth c cc nL ret own Ts) (hW : Wd Γ A B H0 H locs) {k index : Nat} (hk : kd k = 3) (hin : ∀ w ∈ wsX30, w ∈ Ts) (hlink : Cond.fieldLink own index "WineByYears" "mixed" "LWineByYears$Cask;" ∈ Ts) (hdg : decode cc pc = .ok (.getfield index, 3))
    (kk : W p l e R s m args below meth c H locs cells slots Q (F0 m (pc + 3) ls (.ref (Γ.2.2 (54)) :: rest))) : W p l e R s m args below meth c H locs cells slots Q (F0 m pc ls (.ref (Γ.2.2 k) :: rest)) :=
  va_get (D := Γ.1) (cl := vwCl) (ci := 3) (C := RX3) (T := TX3) (N := 8) C.1 C.2.1 C.2.2.2.2.2.1 hin C.2.2.2.2.1 C.2.2.2.2.2.2.2.1 hW.1 k ((wd_at (kd_lt hk (by decide))).trans (congrArg (fun x => some (_, x)) (en_3 hk))) rfl 4 (by decide) (C.2.2.2.2.2.1 _ hlink) (fun _ h9 => h9) rfl hdg kk
theorem gX3_5 (C : Cx Γ p s m args meth c cc nL ret own Ts) (hW : Wd Γ A B H0 H locs) {k index : Nat} (hk : kd k = 3) (hin : ∀ w ∈ wsX30, w ∈ Ts) (hlink : Cond.fieldLink own index "WineByYears" "source" "LWineByYears$Cask;" ∈ Ts) (hdg : decode cc pc = .ok (.getfield index, 3))
    (kk : W p l e R s m args below meth c H locs cells slots Q (F0 m (pc + 3) ls (.ref (Γ.2.2 (56)) :: rest))) : W p l e R s m args below meth c H locs cells slots Q (F0 m pc ls (.ref (Γ.2.2 k) :: rest)) :=
  va_get (D := Γ.1) (cl := vwCl) (ci := 3) (C := RX3) (T := TX3) (N := 8) C.1 C.2.1 C.2.2.2.2.2.1 hin C.2.2.2.2.1 C.2.2.2.2.2.2.2.1 hW.1 k ((wd_at (kd_lt hk (by decide))).trans (congrArg (fun x => some (_, x)) (en_3 hk))) rfl 5 (by decide) (C.2.2.2.2.2.1 _ hlink) (fun _ h9 => h9) rfl hdg kk
theorem gX3_6 (C : Cx Γ p s m args meth c cc nL ret own Ts) (hW : Wd Γ A B H0 H locs) {k index : Nat} (hk : kd k = 3) (hin : ∀ w ∈ wsX30, w ∈ Ts) (hlink : Cond.fieldLink own index "WineByYears" "hasImage" "Z" ∈ Ts) (hdg : decode cc pc = .ok (.getfield index, 3))
    (kk : W p l e R s m args below meth c H locs cells slots Q (F0 m (pc + 3) ls (.int ((A k) 6) :: rest))) : W p l e R s m args below meth c H locs cells slots Q (F0 m pc ls (.ref (Γ.2.2 k) :: rest)) :=
  va_get (D := Γ.1) (cl := vwCl) (ci := 3) (C := RX3) (T := TX3) (N := 8) C.1 C.2.1 C.2.2.2.2.2.1 hin C.2.2.2.2.1 C.2.2.2.2.2.2.2.1 hW.1 k ((wd_at (kd_lt hk (by decide))).trans (congrArg (fun x => some (_, x)) (en_3 hk))) rfl 6 (by decide) (C.2.2.2.2.2.1 _ hlink) (fun _ h9 => h9) rfl hdg kk
theorem pX3_6 (C : Cx Γ p s m args meth c cc nL ret own Ts) (hW : Wd Γ A B H0 H locs) {k index : Nat} {v : Int32} (hk : kd k = 3) (hz : zb v = true) (hin : ∀ w ∈ wsX30, w ∈ Ts) (hlink : Cond.fieldLink own index "WineByYears" "hasImage" "Z" ∈ Ts) (hdg : decode cc pc = .ok (.putfield index, 3))
    (kk : ∀ (H1 : Heap) (locs1 : List Loc), Wd Γ (up2 A k 6 v) B H0 H1 locs1 → W p l e R s m args below meth c H1 locs1 cells slots Q (F0 m (pc + 3) ls rest)) : W p l e R s m args below meth c H locs cells slots Q (F0 m pc ls (.int v :: .ref (Γ.2.2 k) :: rest)) := by
  have hlt := kd_lt hk (by decide)
  refine va_put (D := Γ.1) (cl := vwCl) (ci := 3) (ty := .boolean) (C := RX3) (T := TX3) (N := 8) C.1 C.2.1 C.2.2.2.2.2.1 hin tyX3 tyX3_ok nmX3 C.2.2.2.2.1 C.2.2.2.2.2.2.2.1 hW.1 (wd_D C.2.2.2.2.2.2.2) hW.2 k ((wd_at hlt).trans (congrArg (fun x => some (_, x)) (en_3 hk))) rfl 6 (by decide) (C.2.2.2.2.2.1 _ hlink) (fun _ h9 => h9) rfl (by decide +kernel) (zb_s hz) (zb_f hz) (by simp) hdg (fun H1 locs1 hP hD hS => ?_)
  refine kk H1 locs1 ⟨?_, hS⟩
  rw [wd_set (A' := (up2 A k 6 v)) (B' := B) hlt ?_ ?_] at hP
  · exact hP
  · rw [en_3 hk, up2_at]
    simp [upd, updl, gl_updl, gl, hilo]
  · intro j hj
    exact ⟨up2_ne hj, rfl⟩
theorem gX3_7 (C : Cx Γ p s m args meth c cc nL ret own Ts) (hW : Wd Γ A B H0 H locs) {k index : Nat} (hk : kd k = 3) (hin : ∀ w ∈ wsX30, w ∈ Ts) (hlink : Cond.fieldLink own index "WineByYears" "timesRead" "I" ∈ Ts) (hdg : decode cc pc = .ok (.getfield index, 3))
    (kk : W p l e R s m args below meth c H locs cells slots Q (F0 m (pc + 3) ls (.int ((A k) 7) :: rest))) : W p l e R s m args below meth c H locs cells slots Q (F0 m pc ls (.ref (Γ.2.2 k) :: rest)) :=
  va_get (D := Γ.1) (cl := vwCl) (ci := 3) (C := RX3) (T := TX3) (N := 8) C.1 C.2.1 C.2.2.2.2.2.1 hin C.2.2.2.2.1 C.2.2.2.2.2.2.2.1 hW.1 k ((wd_at (kd_lt hk (by decide))).trans (congrArg (fun x => some (_, x)) (en_3 hk))) rfl 7 (by decide) (C.2.2.2.2.2.1 _ hlink) (fun _ h9 => h9) rfl hdg kk
theorem pX3_7 (C : Cx Γ p s m args meth c cc nL ret own Ts) (hW : Wd Γ A B H0 H locs) {k index : Nat} {v : Int32} (hk : kd k = 3) (hin : ∀ w ∈ wsX30, w ∈ Ts) (hlink : Cond.fieldLink own index "WineByYears" "timesRead" "I" ∈ Ts) (hdg : decode cc pc = .ok (.putfield index, 3))
    (kk : ∀ (H1 : Heap) (locs1 : List Loc), Wd Γ (up2 A k 7 v) B H0 H1 locs1 → W p l e R s m args below meth c H1 locs1 cells slots Q (F0 m (pc + 3) ls rest)) : W p l e R s m args below meth c H locs cells slots Q (F0 m pc ls (.int v :: .ref (Γ.2.2 k) :: rest)) := by
  have hlt := kd_lt hk (by decide)
  refine va_put (D := Γ.1) (cl := vwCl) (ci := 3) (ty := .int) (C := RX3) (T := TX3) (N := 8) C.1 C.2.1 C.2.2.2.2.2.1 hin tyX3 tyX3_ok nmX3 C.2.2.2.2.1 C.2.2.2.2.2.2.2.1 hW.1 (wd_D C.2.2.2.2.2.2.2) hW.2 k ((wd_at hlt).trans (congrArg (fun x => some (_, x)) (en_3 hk))) rfl 7 (by decide) (C.2.2.2.2.2.1 _ hlink) (fun _ h9 => h9) rfl (by decide +kernel) rfl rfl (by simp) hdg (fun H1 locs1 hP hD hS => ?_)
  refine kk H1 locs1 ⟨?_, hS⟩
  rw [wd_set (A' := (up2 A k 7 v)) (B' := B) hlt ?_ ?_] at hP
  · exact hP
  · rw [en_3 hk, up2_at]
    simp [upd, updl, gl_updl, gl, hilo]
  · intro j hj
    exact ⟨up2_ne hj, rfl⟩
theorem gX4_0 (C : Cx Γ p s m args meth c cc nL ret own Ts) (hW : Wd Γ A B H0 H locs) {k index : Nat} (hk : kd k = 4) (hin : ∀ w ∈ wsX40, w ∈ Ts) (hlink : Cond.fieldLink own index "WineByYearsModel" "cellars" "I" ∈ Ts) (hdg : decode cc pc = .ok (.getfield index, 3))
    (kk : W p l e R s m args below meth c H locs cells slots Q (F0 m (pc + 3) ls (.int ((B k) 0) :: rest))) : W p l e R s m args below meth c H locs cells slots Q (F0 m pc ls (.ref (Γ.2.2 k) :: rest)) :=
  va_get (D := Γ.1) (cl := vwCl) (ci := 4) (C := RX4) (T := TX4) (N := 30) C.1 C.2.1 C.2.2.2.2.2.1 hin C.2.2.2.2.1 C.2.2.2.2.2.2.2.1 hW.1 k ((wd_at (kd_lt hk (by decide))).trans (congrArg (fun x => some (_, x)) (en_4 hk))) rfl 0 (by decide) (C.2.2.2.2.2.1 _ hlink) (fun _ h9 => h9) rfl hdg kk
theorem pX4_0 (C : Cx Γ p s m args meth c cc nL ret own Ts) (hW : Wd Γ A B H0 H locs) {k index : Nat} {v : Int32} (hk : kd k = 4) (hin : ∀ w ∈ wsX40, w ∈ Ts) (hlink : Cond.fieldLink own index "WineByYearsModel" "cellars" "I" ∈ Ts) (hdg : decode cc pc = .ok (.putfield index, 3))
    (kk : ∀ (H1 : Heap) (locs1 : List Loc), Wd Γ A (up2 B k 0 v) H0 H1 locs1 → W p l e R s m args below meth c H1 locs1 cells slots Q (F0 m (pc + 3) ls rest)) : W p l e R s m args below meth c H locs cells slots Q (F0 m pc ls (.int v :: .ref (Γ.2.2 k) :: rest)) := by
  have hlt := kd_lt hk (by decide)
  refine va_put (D := Γ.1) (cl := vwCl) (ci := 4) (ty := .int) (C := RX4) (T := TX4) (N := 30) C.1 C.2.1 C.2.2.2.2.2.1 hin tyX4 tyX4_ok nmX4 C.2.2.2.2.1 C.2.2.2.2.2.2.2.1 hW.1 (wd_D C.2.2.2.2.2.2.2) hW.2 k ((wd_at hlt).trans (congrArg (fun x => some (_, x)) (en_4 hk))) rfl 0 (by decide) (C.2.2.2.2.2.1 _ hlink) (fun _ h9 => h9) rfl (by decide +kernel) rfl rfl (by simp) hdg (fun H1 locs1 hP hD hS => ?_)
  refine kk H1 locs1 ⟨?_, hS⟩
  rw [wd_set (A' := A) (B' := (up2 B k 0 v)) hlt ?_ ?_] at hP
  · exact hP
  · rw [en_4 hk, up2_at]
    simp [upd, updl, gl_updl, gl, hilo]
  · intro j hj
    exact ⟨rfl, up2_ne hj⟩
theorem gX4_1 (C : Cx Γ p s m args meth c cc nL ret own Ts) (hW : Wd Γ A B H0 H locs) {k index : Nat} (hk : kd k = 4) (hin : ∀ w ∈ wsX40, w ∈ Ts) (hlink : Cond.fieldLink own index "WineByYearsModel" "law" "I" ∈ Ts) (hdg : decode cc pc = .ok (.getfield index, 3))
    (kk : W p l e R s m args below meth c H locs cells slots Q (F0 m (pc + 3) ls (.int ((B k) 1) :: rest))) : W p l e R s m args below meth c H locs cells slots Q (F0 m pc ls (.ref (Γ.2.2 k) :: rest)) :=
  va_get (D := Γ.1) (cl := vwCl) (ci := 4) (C := RX4) (T := TX4) (N := 30) C.1 C.2.1 C.2.2.2.2.2.1 hin C.2.2.2.2.1 C.2.2.2.2.2.2.2.1 hW.1 k ((wd_at (kd_lt hk (by decide))).trans (congrArg (fun x => some (_, x)) (en_4 hk))) rfl 1 (by decide) (C.2.2.2.2.2.1 _ hlink) (fun _ h9 => h9) rfl hdg kk
theorem pX4_1 (C : Cx Γ p s m args meth c cc nL ret own Ts) (hW : Wd Γ A B H0 H locs) {k index : Nat} {v : Int32} (hk : kd k = 4) (hin : ∀ w ∈ wsX40, w ∈ Ts) (hlink : Cond.fieldLink own index "WineByYearsModel" "law" "I" ∈ Ts) (hdg : decode cc pc = .ok (.putfield index, 3))
    (kk : ∀ (H1 : Heap) (locs1 : List Loc), Wd Γ A (up2 B k 1 v) H0 H1 locs1 → W p l e R s m args below meth c H1 locs1 cells slots Q (F0 m (pc + 3) ls rest)) : W p l e R s m args below meth c H locs cells slots Q (F0 m pc ls (.int v :: .ref (Γ.2.2 k) :: rest)) := by
  have hlt := kd_lt hk (by decide)
  refine va_put (D := Γ.1) (cl := vwCl) (ci := 4) (ty := .int) (C := RX4) (T := TX4) (N := 30) C.1 C.2.1 C.2.2.2.2.2.1 hin tyX4 tyX4_ok nmX4 C.2.2.2.2.1 C.2.2.2.2.2.2.2.1 hW.1 (wd_D C.2.2.2.2.2.2.2) hW.2 k ((wd_at hlt).trans (congrArg (fun x => some (_, x)) (en_4 hk))) rfl 1 (by decide) (C.2.2.2.2.2.1 _ hlink) (fun _ h9 => h9) rfl (by decide +kernel) rfl rfl (by simp) hdg (fun H1 locs1 hP hD hS => ?_)
  refine kk H1 locs1 ⟨?_, hS⟩
  rw [wd_set (A' := A) (B' := (up2 B k 1 v)) hlt ?_ ?_] at hP
  · exact hP
  · rw [en_4 hk, up2_at]
    simp [upd, updl, gl_updl, gl, hilo]
  · intro j hj
    exact ⟨rfl, up2_ne hj⟩
theorem gX4_2 (C : Cx Γ p s m args meth c cc nL ret own Ts) (hW : Wd Γ A B H0 H locs) {k index : Nat} (hk : kd k = 4) (hin : ∀ w ∈ wsX40, w ∈ Ts) (hlink : Cond.fieldLink own index "WineByYearsModel" "casks" "I" ∈ Ts) (hdg : decode cc pc = .ok (.getfield index, 3))
    (kk : W p l e R s m args below meth c H locs cells slots Q (F0 m (pc + 3) ls (.int ((B k) 2) :: rest))) : W p l e R s m args below meth c H locs cells slots Q (F0 m pc ls (.ref (Γ.2.2 k) :: rest)) :=
  va_get (D := Γ.1) (cl := vwCl) (ci := 4) (C := RX4) (T := TX4) (N := 30) C.1 C.2.1 C.2.2.2.2.2.1 hin C.2.2.2.2.1 C.2.2.2.2.2.2.2.1 hW.1 k ((wd_at (kd_lt hk (by decide))).trans (congrArg (fun x => some (_, x)) (en_4 hk))) rfl 2 (by decide) (C.2.2.2.2.2.1 _ hlink) (fun _ h9 => h9) rfl hdg kk
theorem pX4_2 (C : Cx Γ p s m args meth c cc nL ret own Ts) (hW : Wd Γ A B H0 H locs) {k index : Nat} {v : Int32} (hk : kd k = 4) (hin : ∀ w ∈ wsX40, w ∈ Ts) (hlink : Cond.fieldLink own index "WineByYearsModel" "casks" "I" ∈ Ts) (hdg : decode cc pc = .ok (.putfield index, 3))
    (kk : ∀ (H1 : Heap) (locs1 : List Loc), Wd Γ A (up2 B k 2 v) H0 H1 locs1 → W p l e R s m args below meth c H1 locs1 cells slots Q (F0 m (pc + 3) ls rest)) : W p l e R s m args below meth c H locs cells slots Q (F0 m pc ls (.int v :: .ref (Γ.2.2 k) :: rest)) := by
  have hlt := kd_lt hk (by decide)
  refine va_put (D := Γ.1) (cl := vwCl) (ci := 4) (ty := .int) (C := RX4) (T := TX4) (N := 30) C.1 C.2.1 C.2.2.2.2.2.1 hin tyX4 tyX4_ok nmX4 C.2.2.2.2.1 C.2.2.2.2.2.2.2.1 hW.1 (wd_D C.2.2.2.2.2.2.2) hW.2 k ((wd_at hlt).trans (congrArg (fun x => some (_, x)) (en_4 hk))) rfl 2 (by decide) (C.2.2.2.2.2.1 _ hlink) (fun _ h9 => h9) rfl (by decide +kernel) rfl rfl (by simp) hdg (fun H1 locs1 hP hD hS => ?_)
  refine kk H1 locs1 ⟨?_, hS⟩
  rw [wd_set (A' := A) (B' := (up2 B k 2 v)) hlt ?_ ?_] at hP
  · exact hP
  · rw [en_4 hk, up2_at]
    simp [upd, updl, gl_updl, gl, hilo]
  · intro j hj
    exact ⟨rfl, up2_ne hj⟩
theorem gX4_3 (C : Cx Γ p s m args meth c cc nL ret own Ts) (hW : Wd Γ A B H0 H locs) {k index : Nat} (hk : kd k = 4) (hin : ∀ w ∈ wsX40, w ∈ Ts) (hlink : Cond.fieldLink own index "WineByYearsModel" "litresOf" "[I" ∈ Ts) (hdg : decode cc pc = .ok (.getfield index, 3))
    (kk : W p l e R s m args below meth c H locs cells slots Q (F0 m (pc + 3) ls (.ref (Γ.2.2 (59)) :: rest))) : W p l e R s m args below meth c H locs cells slots Q (F0 m pc ls (.ref (Γ.2.2 k) :: rest)) :=
  va_get (D := Γ.1) (cl := vwCl) (ci := 4) (C := RX4) (T := TX4) (N := 30) C.1 C.2.1 C.2.2.2.2.2.1 hin C.2.2.2.2.1 C.2.2.2.2.2.2.2.1 hW.1 k ((wd_at (kd_lt hk (by decide))).trans (congrArg (fun x => some (_, x)) (en_4 hk))) rfl 3 (by decide) (C.2.2.2.2.2.1 _ hlink) (fun _ h9 => h9) rfl hdg kk
theorem gX4_4 (C : Cx Γ p s m args meth c cc nL ret own Ts) (hW : Wd Γ A B H0 H locs) {k index : Nat} (hk : kd k = 4) (hin : ∀ w ∈ wsX40, w ∈ Ts) (hlink : Cond.fieldLink own index "WineByYearsModel" "thought" "[I" ∈ Ts) (hdg : decode cc pc = .ok (.getfield index, 3))
    (kk : W p l e R s m args below meth c H locs cells slots Q (F0 m (pc + 3) ls (.ref (Γ.2.2 (60)) :: rest))) : W p l e R s m args below meth c H locs cells slots Q (F0 m pc ls (.ref (Γ.2.2 k) :: rest)) :=
  va_get (D := Γ.1) (cl := vwCl) (ci := 4) (C := RX4) (T := TX4) (N := 30) C.1 C.2.1 C.2.2.2.2.2.1 hin C.2.2.2.2.1 C.2.2.2.2.2.2.2.1 hW.1 k ((wd_at (kd_lt hk (by decide))).trans (congrArg (fun x => some (_, x)) (en_4 hk))) rfl 4 (by decide) (C.2.2.2.2.2.1 _ hlink) (fun _ h9 => h9) rfl hdg kk
theorem gX4_5 (C : Cx Γ p s m args meth c cc nL ret own Ts) (hW : Wd Γ A B H0 H locs) {k index : Nat} (hk : kd k = 4) (hin : ∀ w ∈ wsX40, w ∈ Ts) (hlink : Cond.fieldLink own index "WineByYearsModel" "people" "I" ∈ Ts) (hdg : decode cc pc = .ok (.getfield index, 3))
    (kk : W p l e R s m args below meth c H locs cells slots Q (F0 m (pc + 3) ls (.int ((B k) 5) :: rest))) : W p l e R s m args below meth c H locs cells slots Q (F0 m pc ls (.ref (Γ.2.2 k) :: rest)) :=
  va_get (D := Γ.1) (cl := vwCl) (ci := 4) (C := RX4) (T := TX4) (N := 30) C.1 C.2.1 C.2.2.2.2.2.1 hin C.2.2.2.2.1 C.2.2.2.2.2.2.2.1 hW.1 k ((wd_at (kd_lt hk (by decide))).trans (congrArg (fun x => some (_, x)) (en_4 hk))) rfl 5 (by decide) (C.2.2.2.2.2.1 _ hlink) (fun _ h9 => h9) rfl hdg kk
theorem pX4_5 (C : Cx Γ p s m args meth c cc nL ret own Ts) (hW : Wd Γ A B H0 H locs) {k index : Nat} {v : Int32} (hk : kd k = 4) (hin : ∀ w ∈ wsX40, w ∈ Ts) (hlink : Cond.fieldLink own index "WineByYearsModel" "people" "I" ∈ Ts) (hdg : decode cc pc = .ok (.putfield index, 3))
    (kk : ∀ (H1 : Heap) (locs1 : List Loc), Wd Γ A (up2 B k 5 v) H0 H1 locs1 → W p l e R s m args below meth c H1 locs1 cells slots Q (F0 m (pc + 3) ls rest)) : W p l e R s m args below meth c H locs cells slots Q (F0 m pc ls (.int v :: .ref (Γ.2.2 k) :: rest)) := by
  have hlt := kd_lt hk (by decide)
  refine va_put (D := Γ.1) (cl := vwCl) (ci := 4) (ty := .int) (C := RX4) (T := TX4) (N := 30) C.1 C.2.1 C.2.2.2.2.2.1 hin tyX4 tyX4_ok nmX4 C.2.2.2.2.1 C.2.2.2.2.2.2.2.1 hW.1 (wd_D C.2.2.2.2.2.2.2) hW.2 k ((wd_at hlt).trans (congrArg (fun x => some (_, x)) (en_4 hk))) rfl 5 (by decide) (C.2.2.2.2.2.1 _ hlink) (fun _ h9 => h9) rfl (by decide +kernel) rfl rfl (by simp) hdg (fun H1 locs1 hP hD hS => ?_)
  refine kk H1 locs1 ⟨?_, hS⟩
  rw [wd_set (A' := A) (B' := (up2 B k 5 v)) hlt ?_ ?_] at hP
  · exact hP
  · rw [en_4 hk, up2_at]
    simp [upd, updl, gl_updl, gl, hilo]
  · intro j hj
    exact ⟨rfl, up2_ne hj⟩
theorem gX4_6 (C : Cx Γ p s m args meth c cc nL ret own Ts) (hW : Wd Γ A B H0 H locs) {k index : Nat} (hk : kd k = 4) (hin : ∀ w ∈ wsX40, w ∈ Ts) (hlink : Cond.fieldLink own index "WineByYearsModel" "kindOf" "[I" ∈ Ts) (hdg : decode cc pc = .ok (.getfield index, 3))
    (kk : W p l e R s m args below meth c H locs cells slots Q (F0 m (pc + 3) ls (.ref (Γ.2.2 (61)) :: rest))) : W p l e R s m args below meth c H locs cells slots Q (F0 m pc ls (.ref (Γ.2.2 k) :: rest)) :=
  va_get (D := Γ.1) (cl := vwCl) (ci := 4) (C := RX4) (T := TX4) (N := 30) C.1 C.2.1 C.2.2.2.2.2.1 hin C.2.2.2.2.1 C.2.2.2.2.2.2.2.1 hW.1 k ((wd_at (kd_lt hk (by decide))).trans (congrArg (fun x => some (_, x)) (en_4 hk))) rfl 6 (by decide) (C.2.2.2.2.2.1 _ hlink) (fun _ h9 => h9) rfl hdg kk
theorem gX4_7 (C : Cx Γ p s m args meth c cc nL ret own Ts) (hW : Wd Γ A B H0 H locs) {k index : Nat} (hk : kd k = 4) (hin : ∀ w ∈ wsX40, w ∈ Ts) (hlink : Cond.fieldLink own index "WineByYearsModel" "bornOf" "[I" ∈ Ts) (hdg : decode cc pc = .ok (.getfield index, 3))
    (kk : W p l e R s m args below meth c H locs cells slots Q (F0 m (pc + 3) ls (.ref (Γ.2.2 (62)) :: rest))) : W p l e R s m args below meth c H locs cells slots Q (F0 m pc ls (.ref (Γ.2.2 k) :: rest)) :=
  va_get (D := Γ.1) (cl := vwCl) (ci := 4) (C := RX4) (T := TX4) (N := 30) C.1 C.2.1 C.2.2.2.2.2.1 hin C.2.2.2.2.1 C.2.2.2.2.2.2.2.1 hW.1 k ((wd_at (kd_lt hk (by decide))).trans (congrArg (fun x => some (_, x)) (en_4 hk))) rfl 7 (by decide) (C.2.2.2.2.2.1 _ hlink) (fun _ h9 => h9) rfl hdg kk
theorem gX4_8 (C : Cx Γ p s m args meth c cc nL ret own Ts) (hW : Wd Γ A B H0 H locs) {k index : Nat} (hk : kd k = 4) (hin : ∀ w ∈ wsX40, w ∈ Ts) (hlink : Cond.fieldLink own index "WineByYearsModel" "illOf" "[I" ∈ Ts) (hdg : decode cc pc = .ok (.getfield index, 3))
    (kk : W p l e R s m args below meth c H locs cells slots Q (F0 m (pc + 3) ls (.ref (Γ.2.2 (63)) :: rest))) : W p l e R s m args below meth c H locs cells slots Q (F0 m pc ls (.ref (Γ.2.2 k) :: rest)) :=
  va_get (D := Γ.1) (cl := vwCl) (ci := 4) (C := RX4) (T := TX4) (N := 30) C.1 C.2.1 C.2.2.2.2.2.1 hin C.2.2.2.2.1 C.2.2.2.2.2.2.2.1 hW.1 k ((wd_at (kd_lt hk (by decide))).trans (congrArg (fun x => some (_, x)) (en_4 hk))) rfl 8 (by decide) (C.2.2.2.2.2.1 _ hlink) (fun _ h9 => h9) rfl hdg kk
theorem gX4_9 (C : Cx Γ p s m args meth c cc nL ret own Ts) (hW : Wd Γ A B H0 H locs) {k index : Nat} (hk : kd k = 4) (hin : ∀ w ∈ wsX40, w ∈ Ts) (hlink : Cond.fieldLink own index "WineByYearsModel" "trials" "I" ∈ Ts) (hdg : decode cc pc = .ok (.getfield index, 3))
    (kk : W p l e R s m args below meth c H locs cells slots Q (F0 m (pc + 3) ls (.int ((B k) 9) :: rest))) : W p l e R s m args below meth c H locs cells slots Q (F0 m pc ls (.ref (Γ.2.2 k) :: rest)) :=
  va_get (D := Γ.1) (cl := vwCl) (ci := 4) (C := RX4) (T := TX4) (N := 30) C.1 C.2.1 C.2.2.2.2.2.1 hin C.2.2.2.2.1 C.2.2.2.2.2.2.2.1 hW.1 k ((wd_at (kd_lt hk (by decide))).trans (congrArg (fun x => some (_, x)) (en_4 hk))) rfl 9 (by decide) (C.2.2.2.2.2.1 _ hlink) (fun _ h9 => h9) rfl hdg kk
theorem pX4_9 (C : Cx Γ p s m args meth c cc nL ret own Ts) (hW : Wd Γ A B H0 H locs) {k index : Nat} {v : Int32} (hk : kd k = 4) (hin : ∀ w ∈ wsX40, w ∈ Ts) (hlink : Cond.fieldLink own index "WineByYearsModel" "trials" "I" ∈ Ts) (hdg : decode cc pc = .ok (.putfield index, 3))
    (kk : ∀ (H1 : Heap) (locs1 : List Loc), Wd Γ A (up2 B k 9 v) H0 H1 locs1 → W p l e R s m args below meth c H1 locs1 cells slots Q (F0 m (pc + 3) ls rest)) : W p l e R s m args below meth c H locs cells slots Q (F0 m pc ls (.int v :: .ref (Γ.2.2 k) :: rest)) := by
  have hlt := kd_lt hk (by decide)
  refine va_put (D := Γ.1) (cl := vwCl) (ci := 4) (ty := .int) (C := RX4) (T := TX4) (N := 30) C.1 C.2.1 C.2.2.2.2.2.1 hin tyX4 tyX4_ok nmX4 C.2.2.2.2.1 C.2.2.2.2.2.2.2.1 hW.1 (wd_D C.2.2.2.2.2.2.2) hW.2 k ((wd_at hlt).trans (congrArg (fun x => some (_, x)) (en_4 hk))) rfl 9 (by decide) (C.2.2.2.2.2.1 _ hlink) (fun _ h9 => h9) rfl (by decide +kernel) rfl rfl (by simp) hdg (fun H1 locs1 hP hD hS => ?_)
  refine kk H1 locs1 ⟨?_, hS⟩
  rw [wd_set (A' := A) (B' := (up2 B k 9 v)) hlt ?_ ?_] at hP
  · exact hP
  · rw [en_4 hk, up2_at]
    simp [upd, updl, gl_updl, gl, hilo]
  · intro j hj
    exact ⟨rfl, up2_ne hj⟩
theorem gX4_10 (C : Cx Γ p s m args meth c cc nL ret own Ts) (hW : Wd Γ A B H0 H locs) {k index : Nat} (hk : kd k = 4) (hin : ∀ w ∈ wsX40, w ∈ Ts) (hlink : Cond.fieldLink own index "WineByYearsModel" "trialCask" "[I" ∈ Ts) (hdg : decode cc pc = .ok (.getfield index, 3))
    (kk : W p l e R s m args below meth c H locs cells slots Q (F0 m (pc + 3) ls (.ref (Γ.2.2 (64)) :: rest))) : W p l e R s m args below meth c H locs cells slots Q (F0 m pc ls (.ref (Γ.2.2 k) :: rest)) :=
  va_get (D := Γ.1) (cl := vwCl) (ci := 4) (C := RX4) (T := TX4) (N := 30) C.1 C.2.1 C.2.2.2.2.2.1 hin C.2.2.2.2.1 C.2.2.2.2.2.2.2.1 hW.1 k ((wd_at (kd_lt hk (by decide))).trans (congrArg (fun x => some (_, x)) (en_4 hk))) rfl 10 (by decide) (C.2.2.2.2.2.1 _ hlink) (fun _ h9 => h9) rfl hdg kk
theorem gX4_11 (C : Cx Γ p s m args meth c cc nL ret own Ts) (hW : Wd Γ A B H0 H locs) {k index : Nat} (hk : kd k = 4) (hin : ∀ w ∈ wsX40, w ∈ Ts) (hlink : Cond.fieldLink own index "WineByYearsModel" "trialIll" "[I" ∈ Ts) (hdg : decode cc pc = .ok (.getfield index, 3))
    (kk : W p l e R s m args below meth c H locs cells slots Q (F0 m (pc + 3) ls (.ref (Γ.2.2 (65)) :: rest))) : W p l e R s m args below meth c H locs cells slots Q (F0 m pc ls (.ref (Γ.2.2 k) :: rest)) :=
  va_get (D := Γ.1) (cl := vwCl) (ci := 4) (C := RX4) (T := TX4) (N := 30) C.1 C.2.1 C.2.2.2.2.2.1 hin C.2.2.2.2.1 C.2.2.2.2.2.2.2.1 hW.1 k ((wd_at (kd_lt hk (by decide))).trans (congrArg (fun x => some (_, x)) (en_4 hk))) rfl 11 (by decide) (C.2.2.2.2.2.1 _ hlink) (fun _ h9 => h9) rfl hdg kk
theorem gX4_12 (C : Cx Γ p s m args meth c cc nL ret own Ts) (hW : Wd Γ A B H0 H locs) {k index : Nat} (hk : kd k = 4) (hin : ∀ w ∈ wsX40, w ∈ Ts) (hlink : Cond.fieldLink own index "WineByYearsModel" "pageLength" "I" ∈ Ts) (hdg : decode cc pc = .ok (.getfield index, 3))
    (kk : W p l e R s m args below meth c H locs cells slots Q (F0 m (pc + 3) ls (.int ((B k) 12) :: rest))) : W p l e R s m args below meth c H locs cells slots Q (F0 m pc ls (.ref (Γ.2.2 k) :: rest)) :=
  va_get (D := Γ.1) (cl := vwCl) (ci := 4) (C := RX4) (T := TX4) (N := 30) C.1 C.2.1 C.2.2.2.2.2.1 hin C.2.2.2.2.1 C.2.2.2.2.2.2.2.1 hW.1 k ((wd_at (kd_lt hk (by decide))).trans (congrArg (fun x => some (_, x)) (en_4 hk))) rfl 12 (by decide) (C.2.2.2.2.2.1 _ hlink) (fun _ h9 => h9) rfl hdg kk
theorem pX4_12 (C : Cx Γ p s m args meth c cc nL ret own Ts) (hW : Wd Γ A B H0 H locs) {k index : Nat} {v : Int32} (hk : kd k = 4) (hin : ∀ w ∈ wsX40, w ∈ Ts) (hlink : Cond.fieldLink own index "WineByYearsModel" "pageLength" "I" ∈ Ts) (hdg : decode cc pc = .ok (.putfield index, 3))
    (kk : ∀ (H1 : Heap) (locs1 : List Loc), Wd Γ A (up2 B k 12 v) H0 H1 locs1 → W p l e R s m args below meth c H1 locs1 cells slots Q (F0 m (pc + 3) ls rest)) : W p l e R s m args below meth c H locs cells slots Q (F0 m pc ls (.int v :: .ref (Γ.2.2 k) :: rest)) := by
  have hlt := kd_lt hk (by decide)
  refine va_put (D := Γ.1) (cl := vwCl) (ci := 4) (ty := .int) (C := RX4) (T := TX4) (N := 30) C.1 C.2.1 C.2.2.2.2.2.1 hin tyX4 tyX4_ok nmX4 C.2.2.2.2.1 C.2.2.2.2.2.2.2.1 hW.1 (wd_D C.2.2.2.2.2.2.2) hW.2 k ((wd_at hlt).trans (congrArg (fun x => some (_, x)) (en_4 hk))) rfl 12 (by decide) (C.2.2.2.2.2.1 _ hlink) (fun _ h9 => h9) rfl (by decide +kernel) rfl rfl (by simp) hdg (fun H1 locs1 hP hD hS => ?_)
  refine kk H1 locs1 ⟨?_, hS⟩
  rw [wd_set (A' := A) (B' := (up2 B k 12 v)) hlt ?_ ?_] at hP
  · exact hP
  · rw [en_4 hk, up2_at]
    simp [upd, updl, gl_updl, gl, hilo]
  · intro j hj
    exact ⟨rfl, up2_ne hj⟩
theorem gX4_13 (C : Cx Γ p s m args meth c cc nL ret own Ts) (hW : Wd Γ A B H0 H locs) {k index : Nat} (hk : kd k = 4) (hin : ∀ w ∈ wsX40, w ∈ Ts) (hlink : Cond.fieldLink own index "WineByYearsModel" "page" "[B" ∈ Ts) (hdg : decode cc pc = .ok (.getfield index, 3))
    (kk : W p l e R s m args below meth c H locs cells slots Q (F0 m (pc + 3) ls (.ref (Γ.2.2 (66)) :: rest))) : W p l e R s m args below meth c H locs cells slots Q (F0 m pc ls (.ref (Γ.2.2 k) :: rest)) :=
  va_get (D := Γ.1) (cl := vwCl) (ci := 4) (C := RX4) (T := TX4) (N := 30) C.1 C.2.1 C.2.2.2.2.2.1 hin C.2.2.2.2.1 C.2.2.2.2.2.2.2.1 hW.1 k ((wd_at (kd_lt hk (by decide))).trans (congrArg (fun x => some (_, x)) (en_4 hk))) rfl 13 (by decide) (C.2.2.2.2.2.1 _ hlink) (fun _ h9 => h9) rfl hdg kk
theorem gX4_14 (C : Cx Γ p s m args meth c cc nL ret own Ts) (hW : Wd Γ A B H0 H locs) {k index : Nat} (hk : kd k = 4) (hin : ∀ w ∈ wsX40, w ∈ Ts) (hlink : Cond.fieldLink own index "WineByYearsModel" "isWhole" "Z" ∈ Ts) (hdg : decode cc pc = .ok (.getfield index, 3))
    (kk : W p l e R s m args below meth c H locs cells slots Q (F0 m (pc + 3) ls (.int ((B k) 14) :: rest))) : W p l e R s m args below meth c H locs cells slots Q (F0 m pc ls (.ref (Γ.2.2 k) :: rest)) :=
  va_get (D := Γ.1) (cl := vwCl) (ci := 4) (C := RX4) (T := TX4) (N := 30) C.1 C.2.1 C.2.2.2.2.2.1 hin C.2.2.2.2.1 C.2.2.2.2.2.2.2.1 hW.1 k ((wd_at (kd_lt hk (by decide))).trans (congrArg (fun x => some (_, x)) (en_4 hk))) rfl 14 (by decide) (C.2.2.2.2.2.1 _ hlink) (fun _ h9 => h9) rfl hdg kk
theorem pX4_14 (C : Cx Γ p s m args meth c cc nL ret own Ts) (hW : Wd Γ A B H0 H locs) {k index : Nat} {v : Int32} (hk : kd k = 4) (hz : zb v = true) (hin : ∀ w ∈ wsX40, w ∈ Ts) (hlink : Cond.fieldLink own index "WineByYearsModel" "isWhole" "Z" ∈ Ts) (hdg : decode cc pc = .ok (.putfield index, 3))
    (kk : ∀ (H1 : Heap) (locs1 : List Loc), Wd Γ A (up2 B k 14 v) H0 H1 locs1 → W p l e R s m args below meth c H1 locs1 cells slots Q (F0 m (pc + 3) ls rest)) : W p l e R s m args below meth c H locs cells slots Q (F0 m pc ls (.int v :: .ref (Γ.2.2 k) :: rest)) := by
  have hlt := kd_lt hk (by decide)
  refine va_put (D := Γ.1) (cl := vwCl) (ci := 4) (ty := .boolean) (C := RX4) (T := TX4) (N := 30) C.1 C.2.1 C.2.2.2.2.2.1 hin tyX4 tyX4_ok nmX4 C.2.2.2.2.1 C.2.2.2.2.2.2.2.1 hW.1 (wd_D C.2.2.2.2.2.2.2) hW.2 k ((wd_at hlt).trans (congrArg (fun x => some (_, x)) (en_4 hk))) rfl 14 (by decide) (C.2.2.2.2.2.1 _ hlink) (fun _ h9 => h9) rfl (by decide +kernel) (zb_s hz) (zb_f hz) (by simp) hdg (fun H1 locs1 hP hD hS => ?_)
  refine kk H1 locs1 ⟨?_, hS⟩
  rw [wd_set (A' := A) (B' := (up2 B k 14 v)) hlt ?_ ?_] at hP
  · exact hP
  · rw [en_4 hk, up2_at]
    simp [upd, updl, gl_updl, gl, hilo]
  · intro j hj
    exact ⟨rfl, up2_ne hj⟩
theorem gX4_15 (C : Cx Γ p s m args meth c cc nL ret own Ts) (hW : Wd Γ A B H0 H locs) {k index : Nat} (hk : kd k = 4) (hin : ∀ w ∈ wsX40, w ∈ Ts) (hlink : Cond.fieldLink own index "WineByYearsModel" "newMany" "I" ∈ Ts) (hdg : decode cc pc = .ok (.getfield index, 3))
    (kk : W p l e R s m args below meth c H locs cells slots Q (F0 m (pc + 3) ls (.int ((B k) 15) :: rest))) : W p l e R s m args below meth c H locs cells slots Q (F0 m pc ls (.ref (Γ.2.2 k) :: rest)) :=
  va_get (D := Γ.1) (cl := vwCl) (ci := 4) (C := RX4) (T := TX4) (N := 30) C.1 C.2.1 C.2.2.2.2.2.1 hin C.2.2.2.2.1 C.2.2.2.2.2.2.2.1 hW.1 k ((wd_at (kd_lt hk (by decide))).trans (congrArg (fun x => some (_, x)) (en_4 hk))) rfl 15 (by decide) (C.2.2.2.2.2.1 _ hlink) (fun _ h9 => h9) rfl hdg kk
theorem pX4_15 (C : Cx Γ p s m args meth c cc nL ret own Ts) (hW : Wd Γ A B H0 H locs) {k index : Nat} {v : Int32} (hk : kd k = 4) (hin : ∀ w ∈ wsX40, w ∈ Ts) (hlink : Cond.fieldLink own index "WineByYearsModel" "newMany" "I" ∈ Ts) (hdg : decode cc pc = .ok (.putfield index, 3))
    (kk : ∀ (H1 : Heap) (locs1 : List Loc), Wd Γ A (up2 B k 15 v) H0 H1 locs1 → W p l e R s m args below meth c H1 locs1 cells slots Q (F0 m (pc + 3) ls rest)) : W p l e R s m args below meth c H locs cells slots Q (F0 m pc ls (.int v :: .ref (Γ.2.2 k) :: rest)) := by
  have hlt := kd_lt hk (by decide)
  refine va_put (D := Γ.1) (cl := vwCl) (ci := 4) (ty := .int) (C := RX4) (T := TX4) (N := 30) C.1 C.2.1 C.2.2.2.2.2.1 hin tyX4 tyX4_ok nmX4 C.2.2.2.2.1 C.2.2.2.2.2.2.2.1 hW.1 (wd_D C.2.2.2.2.2.2.2) hW.2 k ((wd_at hlt).trans (congrArg (fun x => some (_, x)) (en_4 hk))) rfl 15 (by decide) (C.2.2.2.2.2.1 _ hlink) (fun _ h9 => h9) rfl (by decide +kernel) rfl rfl (by simp) hdg (fun H1 locs1 hP hD hS => ?_)
  refine kk H1 locs1 ⟨?_, hS⟩
  rw [wd_set (A' := A) (B' := (up2 B k 15 v)) hlt ?_ ?_] at hP
  · exact hP
  · rw [en_4 hk, up2_at]
    simp [upd, updl, gl_updl, gl, hilo]
  · intro j hj
    exact ⟨rfl, up2_ne hj⟩
theorem gX4_16 (C : Cx Γ p s m args meth c cc nL ret own Ts) (hW : Wd Γ A B H0 H locs) {k index : Nat} (hk : kd k = 4) (hin : ∀ w ∈ wsX40, w ∈ Ts) (hlink : Cond.fieldLink own index "WineByYearsModel" "mays" "[I" ∈ Ts) (hdg : decode cc pc = .ok (.getfield index, 3))
    (kk : W p l e R s m args below meth c H locs cells slots Q (F0 m (pc + 3) ls (.ref (Γ.2.2 (67)) :: rest))) : W p l e R s m args below meth c H locs cells slots Q (F0 m pc ls (.ref (Γ.2.2 k) :: rest)) :=
  va_get (D := Γ.1) (cl := vwCl) (ci := 4) (C := RX4) (T := TX4) (N := 30) C.1 C.2.1 C.2.2.2.2.2.1 hin C.2.2.2.2.1 C.2.2.2.2.2.2.2.1 hW.1 k ((wd_at (kd_lt hk (by decide))).trans (congrArg (fun x => some (_, x)) (en_4 hk))) rfl 16 (by decide) (C.2.2.2.2.2.1 _ hlink) (fun _ h9 => h9) rfl hdg kk
theorem gX4_17 (C : Cx Γ p s m args meth c cc nL ret own Ts) (hW : Wd Γ A B H0 H locs) {k index : Nat} (hk : kd k = 4) (hin : ∀ w ∈ wsX40, w ∈ Ts) (hlink : Cond.fieldLink own index "WineByYearsModel" "left" "[I" ∈ Ts) (hdg : decode cc pc = .ok (.getfield index, 3))
    (kk : W p l e R s m args below meth c H locs cells slots Q (F0 m (pc + 3) ls (.ref (Γ.2.2 (68)) :: rest))) : W p l e R s m args below meth c H locs cells slots Q (F0 m pc ls (.ref (Γ.2.2 k) :: rest)) :=
  va_get (D := Γ.1) (cl := vwCl) (ci := 4) (C := RX4) (T := TX4) (N := 30) C.1 C.2.1 C.2.2.2.2.2.1 hin C.2.2.2.2.1 C.2.2.2.2.2.2.2.1 hW.1 k ((wd_at (kd_lt hk (by decide))).trans (congrArg (fun x => some (_, x)) (en_4 hk))) rfl 17 (by decide) (C.2.2.2.2.2.1 _ hlink) (fun _ h9 => h9) rfl hdg kk
theorem gX4_18 (C : Cx Γ p s m args meth c cc nL ret own Ts) (hW : Wd Γ A B H0 H locs) {k index : Nat} (hk : kd k = 4) (hin : ∀ w ∈ wsX40, w ∈ Ts) (hlink : Cond.fieldLink own index "WineByYearsModel" "pouredYear" "I" ∈ Ts) (hdg : decode cc pc = .ok (.getfield index, 3))
    (kk : W p l e R s m args below meth c H locs cells slots Q (F0 m (pc + 3) ls (.int ((B k) 18) :: rest))) : W p l e R s m args below meth c H locs cells slots Q (F0 m pc ls (.ref (Γ.2.2 k) :: rest)) :=
  va_get (D := Γ.1) (cl := vwCl) (ci := 4) (C := RX4) (T := TX4) (N := 30) C.1 C.2.1 C.2.2.2.2.2.1 hin C.2.2.2.2.1 C.2.2.2.2.2.2.2.1 hW.1 k ((wd_at (kd_lt hk (by decide))).trans (congrArg (fun x => some (_, x)) (en_4 hk))) rfl 18 (by decide) (C.2.2.2.2.2.1 _ hlink) (fun _ h9 => h9) rfl hdg kk
theorem pX4_18 (C : Cx Γ p s m args meth c cc nL ret own Ts) (hW : Wd Γ A B H0 H locs) {k index : Nat} {v : Int32} (hk : kd k = 4) (hin : ∀ w ∈ wsX40, w ∈ Ts) (hlink : Cond.fieldLink own index "WineByYearsModel" "pouredYear" "I" ∈ Ts) (hdg : decode cc pc = .ok (.putfield index, 3))
    (kk : ∀ (H1 : Heap) (locs1 : List Loc), Wd Γ A (up2 B k 18 v) H0 H1 locs1 → W p l e R s m args below meth c H1 locs1 cells slots Q (F0 m (pc + 3) ls rest)) : W p l e R s m args below meth c H locs cells slots Q (F0 m pc ls (.int v :: .ref (Γ.2.2 k) :: rest)) := by
  have hlt := kd_lt hk (by decide)
  refine va_put (D := Γ.1) (cl := vwCl) (ci := 4) (ty := .int) (C := RX4) (T := TX4) (N := 30) C.1 C.2.1 C.2.2.2.2.2.1 hin tyX4 tyX4_ok nmX4 C.2.2.2.2.1 C.2.2.2.2.2.2.2.1 hW.1 (wd_D C.2.2.2.2.2.2.2) hW.2 k ((wd_at hlt).trans (congrArg (fun x => some (_, x)) (en_4 hk))) rfl 18 (by decide) (C.2.2.2.2.2.1 _ hlink) (fun _ h9 => h9) rfl (by decide +kernel) rfl rfl (by simp) hdg (fun H1 locs1 hP hD hS => ?_)
  refine kk H1 locs1 ⟨?_, hS⟩
  rw [wd_set (A' := A) (B' := (up2 B k 18 v)) hlt ?_ ?_] at hP
  · exact hP
  · rw [en_4 hk, up2_at]
    simp [upd, updl, gl_updl, gl, hilo]
  · intro j hj
    exact ⟨rfl, up2_ne hj⟩
theorem gX4_19 (C : Cx Γ p s m args meth c cc nL ret own Ts) (hW : Wd Γ A B H0 H locs) {k index : Nat} (hk : kd k = 4) (hin : ∀ w ∈ wsX40, w ∈ Ts) (hlink : Cond.fieldLink own index "WineByYearsModel" "seedNow" "J" ∈ Ts) (hdg : decode cc pc = .ok (.getfield index, 3))
    (kk : W p l e R s m args below meth c H locs cells slots Q (F0 m (pc + 3) ls (.long (gl (B k) 19) :: rest))) : W p l e R s m args below meth c H locs cells slots Q (F0 m pc ls (.ref (Γ.2.2 k) :: rest)) :=
  va_get (D := Γ.1) (cl := vwCl) (ci := 4) (C := RX4) (T := TX4) (N := 30) C.1 C.2.1 C.2.2.2.2.2.1 hin C.2.2.2.2.1 C.2.2.2.2.2.2.2.1 hW.1 k ((wd_at (kd_lt hk (by decide))).trans (congrArg (fun x => some (_, x)) (en_4 hk))) rfl 19 (by decide) (C.2.2.2.2.2.1 _ hlink) (fun _ h9 => h9) rfl hdg kk
theorem pX4_19 (C : Cx Γ p s m args meth c cc nL ret own Ts) (hW : Wd Γ A B H0 H locs) {k index : Nat} {v : Int64} (hk : kd k = 4) (hin : ∀ w ∈ wsX40, w ∈ Ts) (hlink : Cond.fieldLink own index "WineByYearsModel" "seedNow" "J" ∈ Ts) (hdg : decode cc pc = .ok (.putfield index, 3))
    (kk : ∀ (H1 : Heap) (locs1 : List Loc), Wd Γ A (upl B k 19 v) H0 H1 locs1 → W p l e R s m args below meth c H1 locs1 cells slots Q (F0 m (pc + 3) ls rest)) : W p l e R s m args below meth c H locs cells slots Q (F0 m pc ls (.long v :: .ref (Γ.2.2 k) :: rest)) := by
  have hlt := kd_lt hk (by decide)
  refine va_put (D := Γ.1) (cl := vwCl) (ci := 4) (ty := .long) (C := RX4) (T := TX4) (N := 30) C.1 C.2.1 C.2.2.2.2.2.1 hin tyX4 tyX4_ok nmX4 C.2.2.2.2.1 C.2.2.2.2.2.2.2.1 hW.1 (wd_D C.2.2.2.2.2.2.2) hW.2 k ((wd_at hlt).trans (congrArg (fun x => some (_, x)) (en_4 hk))) rfl 19 (by decide) (C.2.2.2.2.2.1 _ hlink) (fun _ h9 => h9) rfl (by decide +kernel) rfl rfl (by simp) hdg (fun H1 locs1 hP hD hS => ?_)
  refine kk H1 locs1 ⟨?_, hS⟩
  rw [wd_set (A' := A) (B' := (upl B k 19 v)) hlt ?_ ?_] at hP
  · exact hP
  · rw [en_4 hk, upl_at]
    simp [upd, updl, gl_updl, gl, hilo]
  · intro j hj
    exact ⟨rfl, upl_ne hj⟩
theorem gX4_20 (C : Cx Γ p s m args meth c cc nL ret own Ts) (hW : Wd Γ A B H0 H locs) {k index : Nat} (hk : kd k = 4) (hin : ∀ w ∈ wsX40, w ∈ Ts) (hlink : Cond.fieldLink own index "WineByYearsModel" "saved" "[I" ∈ Ts) (hdg : decode cc pc = .ok (.getfield index, 3))
    (kk : W p l e R s m args below meth c H locs cells slots Q (F0 m (pc + 3) ls (.ref (Γ.2.2 (69)) :: rest))) : W p l e R s m args below meth c H locs cells slots Q (F0 m pc ls (.ref (Γ.2.2 k) :: rest)) :=
  va_get (D := Γ.1) (cl := vwCl) (ci := 4) (C := RX4) (T := TX4) (N := 30) C.1 C.2.1 C.2.2.2.2.2.1 hin C.2.2.2.2.1 C.2.2.2.2.2.2.2.1 hW.1 k ((wd_at (kd_lt hk (by decide))).trans (congrArg (fun x => some (_, x)) (en_4 hk))) rfl 20 (by decide) (C.2.2.2.2.2.1 _ hlink) (fun _ h9 => h9) rfl hdg kk
theorem gX4_21 (C : Cx Γ p s m args meth c cc nL ret own Ts) (hW : Wd Γ A B H0 H locs) {k index : Nat} (hk : kd k = 4) (hin : ∀ w ∈ wsX40, w ∈ Ts) (hlink : Cond.fieldLink own index "WineByYearsModel" "isKept" "Z" ∈ Ts) (hdg : decode cc pc = .ok (.getfield index, 3))
    (kk : W p l e R s m args below meth c H locs cells slots Q (F0 m (pc + 3) ls (.int ((B k) 21) :: rest))) : W p l e R s m args below meth c H locs cells slots Q (F0 m pc ls (.ref (Γ.2.2 k) :: rest)) :=
  va_get (D := Γ.1) (cl := vwCl) (ci := 4) (C := RX4) (T := TX4) (N := 30) C.1 C.2.1 C.2.2.2.2.2.1 hin C.2.2.2.2.1 C.2.2.2.2.2.2.2.1 hW.1 k ((wd_at (kd_lt hk (by decide))).trans (congrArg (fun x => some (_, x)) (en_4 hk))) rfl 21 (by decide) (C.2.2.2.2.2.1 _ hlink) (fun _ h9 => h9) rfl hdg kk
theorem pX4_21 (C : Cx Γ p s m args meth c cc nL ret own Ts) (hW : Wd Γ A B H0 H locs) {k index : Nat} {v : Int32} (hk : kd k = 4) (hz : zb v = true) (hin : ∀ w ∈ wsX40, w ∈ Ts) (hlink : Cond.fieldLink own index "WineByYearsModel" "isKept" "Z" ∈ Ts) (hdg : decode cc pc = .ok (.putfield index, 3))
    (kk : ∀ (H1 : Heap) (locs1 : List Loc), Wd Γ A (up2 B k 21 v) H0 H1 locs1 → W p l e R s m args below meth c H1 locs1 cells slots Q (F0 m (pc + 3) ls rest)) : W p l e R s m args below meth c H locs cells slots Q (F0 m pc ls (.int v :: .ref (Γ.2.2 k) :: rest)) := by
  have hlt := kd_lt hk (by decide)
  refine va_put (D := Γ.1) (cl := vwCl) (ci := 4) (ty := .boolean) (C := RX4) (T := TX4) (N := 30) C.1 C.2.1 C.2.2.2.2.2.1 hin tyX4 tyX4_ok nmX4 C.2.2.2.2.1 C.2.2.2.2.2.2.2.1 hW.1 (wd_D C.2.2.2.2.2.2.2) hW.2 k ((wd_at hlt).trans (congrArg (fun x => some (_, x)) (en_4 hk))) rfl 21 (by decide) (C.2.2.2.2.2.1 _ hlink) (fun _ h9 => h9) rfl (by decide +kernel) (zb_s hz) (zb_f hz) (by simp) hdg (fun H1 locs1 hP hD hS => ?_)
  refine kk H1 locs1 ⟨?_, hS⟩
  rw [wd_set (A' := A) (B' := (up2 B k 21 v)) hlt ?_ ?_] at hP
  · exact hP
  · rw [en_4 hk, up2_at]
    simp [upd, updl, gl_updl, gl, hilo]
  · intro j hj
    exact ⟨rfl, up2_ne hj⟩
theorem gX4_22 (C : Cx Γ p s m args meth c cc nL ret own Ts) (hW : Wd Γ A B H0 H locs) {k index : Nat} (hk : kd k = 4) (hin : ∀ w ∈ wsX40, w ∈ Ts) (hlink : Cond.fieldLink own index "WineByYearsModel" "keptCellar" "I" ∈ Ts) (hdg : decode cc pc = .ok (.getfield index, 3))
    (kk : W p l e R s m args below meth c H locs cells slots Q (F0 m (pc + 3) ls (.int ((B k) 22) :: rest))) : W p l e R s m args below meth c H locs cells slots Q (F0 m pc ls (.ref (Γ.2.2 k) :: rest)) :=
  va_get (D := Γ.1) (cl := vwCl) (ci := 4) (C := RX4) (T := TX4) (N := 30) C.1 C.2.1 C.2.2.2.2.2.1 hin C.2.2.2.2.1 C.2.2.2.2.2.2.2.1 hW.1 k ((wd_at (kd_lt hk (by decide))).trans (congrArg (fun x => some (_, x)) (en_4 hk))) rfl 22 (by decide) (C.2.2.2.2.2.1 _ hlink) (fun _ h9 => h9) rfl hdg kk
theorem pX4_22 (C : Cx Γ p s m args meth c cc nL ret own Ts) (hW : Wd Γ A B H0 H locs) {k index : Nat} {v : Int32} (hk : kd k = 4) (hin : ∀ w ∈ wsX40, w ∈ Ts) (hlink : Cond.fieldLink own index "WineByYearsModel" "keptCellar" "I" ∈ Ts) (hdg : decode cc pc = .ok (.putfield index, 3))
    (kk : ∀ (H1 : Heap) (locs1 : List Loc), Wd Γ A (up2 B k 22 v) H0 H1 locs1 → W p l e R s m args below meth c H1 locs1 cells slots Q (F0 m (pc + 3) ls rest)) : W p l e R s m args below meth c H locs cells slots Q (F0 m pc ls (.int v :: .ref (Γ.2.2 k) :: rest)) := by
  have hlt := kd_lt hk (by decide)
  refine va_put (D := Γ.1) (cl := vwCl) (ci := 4) (ty := .int) (C := RX4) (T := TX4) (N := 30) C.1 C.2.1 C.2.2.2.2.2.1 hin tyX4 tyX4_ok nmX4 C.2.2.2.2.1 C.2.2.2.2.2.2.2.1 hW.1 (wd_D C.2.2.2.2.2.2.2) hW.2 k ((wd_at hlt).trans (congrArg (fun x => some (_, x)) (en_4 hk))) rfl 22 (by decide) (C.2.2.2.2.2.1 _ hlink) (fun _ h9 => h9) rfl (by decide +kernel) rfl rfl (by simp) hdg (fun H1 locs1 hP hD hS => ?_)
  refine kk H1 locs1 ⟨?_, hS⟩
  rw [wd_set (A' := A) (B' := (up2 B k 22 v)) hlt ?_ ?_] at hP
  · exact hP
  · rw [en_4 hk, up2_at]
    simp [upd, updl, gl_updl, gl, hilo]
  · intro j hj
    exact ⟨rfl, up2_ne hj⟩
theorem gX4_23 (C : Cx Γ p s m args meth c cc nL ret own Ts) (hW : Wd Γ A B H0 H locs) {k index : Nat} (hk : kd k = 4) (hin : ∀ w ∈ wsX40, w ∈ Ts) (hlink : Cond.fieldLink own index "WineByYearsModel" "keptPeople" "I" ∈ Ts) (hdg : decode cc pc = .ok (.getfield index, 3))
    (kk : W p l e R s m args below meth c H locs cells slots Q (F0 m (pc + 3) ls (.int ((B k) 23) :: rest))) : W p l e R s m args below meth c H locs cells slots Q (F0 m pc ls (.ref (Γ.2.2 k) :: rest)) :=
  va_get (D := Γ.1) (cl := vwCl) (ci := 4) (C := RX4) (T := TX4) (N := 30) C.1 C.2.1 C.2.2.2.2.2.1 hin C.2.2.2.2.1 C.2.2.2.2.2.2.2.1 hW.1 k ((wd_at (kd_lt hk (by decide))).trans (congrArg (fun x => some (_, x)) (en_4 hk))) rfl 23 (by decide) (C.2.2.2.2.2.1 _ hlink) (fun _ h9 => h9) rfl hdg kk
theorem pX4_23 (C : Cx Γ p s m args meth c cc nL ret own Ts) (hW : Wd Γ A B H0 H locs) {k index : Nat} {v : Int32} (hk : kd k = 4) (hin : ∀ w ∈ wsX40, w ∈ Ts) (hlink : Cond.fieldLink own index "WineByYearsModel" "keptPeople" "I" ∈ Ts) (hdg : decode cc pc = .ok (.putfield index, 3))
    (kk : ∀ (H1 : Heap) (locs1 : List Loc), Wd Γ A (up2 B k 23 v) H0 H1 locs1 → W p l e R s m args below meth c H1 locs1 cells slots Q (F0 m (pc + 3) ls rest)) : W p l e R s m args below meth c H locs cells slots Q (F0 m pc ls (.int v :: .ref (Γ.2.2 k) :: rest)) := by
  have hlt := kd_lt hk (by decide)
  refine va_put (D := Γ.1) (cl := vwCl) (ci := 4) (ty := .int) (C := RX4) (T := TX4) (N := 30) C.1 C.2.1 C.2.2.2.2.2.1 hin tyX4 tyX4_ok nmX4 C.2.2.2.2.1 C.2.2.2.2.2.2.2.1 hW.1 (wd_D C.2.2.2.2.2.2.2) hW.2 k ((wd_at hlt).trans (congrArg (fun x => some (_, x)) (en_4 hk))) rfl 23 (by decide) (C.2.2.2.2.2.1 _ hlink) (fun _ h9 => h9) rfl (by decide +kernel) rfl rfl (by simp) hdg (fun H1 locs1 hP hD hS => ?_)
  refine kk H1 locs1 ⟨?_, hS⟩
  rw [wd_set (A' := A) (B' := (up2 B k 23 v)) hlt ?_ ?_] at hP
  · exact hP
  · rw [en_4 hk, up2_at]
    simp [upd, updl, gl_updl, gl, hilo]
  · intro j hj
    exact ⟨rfl, up2_ne hj⟩
theorem gX4_24 (C : Cx Γ p s m args meth c cc nL ret own Ts) (hW : Wd Γ A B H0 H locs) {k index : Nat} (hk : kd k = 4) (hin : ∀ w ∈ wsX40, w ∈ Ts) (hlink : Cond.fieldLink own index "WineByYearsModel" "keptTrials" "I" ∈ Ts) (hdg : decode cc pc = .ok (.getfield index, 3))
    (kk : W p l e R s m args below meth c H locs cells slots Q (F0 m (pc + 3) ls (.int ((B k) 24) :: rest))) : W p l e R s m args below meth c H locs cells slots Q (F0 m pc ls (.ref (Γ.2.2 k) :: rest)) :=
  va_get (D := Γ.1) (cl := vwCl) (ci := 4) (C := RX4) (T := TX4) (N := 30) C.1 C.2.1 C.2.2.2.2.2.1 hin C.2.2.2.2.1 C.2.2.2.2.2.2.2.1 hW.1 k ((wd_at (kd_lt hk (by decide))).trans (congrArg (fun x => some (_, x)) (en_4 hk))) rfl 24 (by decide) (C.2.2.2.2.2.1 _ hlink) (fun _ h9 => h9) rfl hdg kk
theorem pX4_24 (C : Cx Γ p s m args meth c cc nL ret own Ts) (hW : Wd Γ A B H0 H locs) {k index : Nat} {v : Int32} (hk : kd k = 4) (hin : ∀ w ∈ wsX40, w ∈ Ts) (hlink : Cond.fieldLink own index "WineByYearsModel" "keptTrials" "I" ∈ Ts) (hdg : decode cc pc = .ok (.putfield index, 3))
    (kk : ∀ (H1 : Heap) (locs1 : List Loc), Wd Γ A (up2 B k 24 v) H0 H1 locs1 → W p l e R s m args below meth c H1 locs1 cells slots Q (F0 m (pc + 3) ls rest)) : W p l e R s m args below meth c H locs cells slots Q (F0 m pc ls (.int v :: .ref (Γ.2.2 k) :: rest)) := by
  have hlt := kd_lt hk (by decide)
  refine va_put (D := Γ.1) (cl := vwCl) (ci := 4) (ty := .int) (C := RX4) (T := TX4) (N := 30) C.1 C.2.1 C.2.2.2.2.2.1 hin tyX4 tyX4_ok nmX4 C.2.2.2.2.1 C.2.2.2.2.2.2.2.1 hW.1 (wd_D C.2.2.2.2.2.2.2) hW.2 k ((wd_at hlt).trans (congrArg (fun x => some (_, x)) (en_4 hk))) rfl 24 (by decide) (C.2.2.2.2.2.1 _ hlink) (fun _ h9 => h9) rfl (by decide +kernel) rfl rfl (by simp) hdg (fun H1 locs1 hP hD hS => ?_)
  refine kk H1 locs1 ⟨?_, hS⟩
  rw [wd_set (A' := A) (B' := (up2 B k 24 v)) hlt ?_ ?_] at hP
  · exact hP
  · rw [en_4 hk, up2_at]
    simp [upd, updl, gl_updl, gl, hilo]
  · intro j hj
    exact ⟨rfl, up2_ne hj⟩
theorem gX4_25 (C : Cx Γ p s m args meth c cc nL ret own Ts) (hW : Wd Γ A B H0 H locs) {k index : Nat} (hk : kd k = 4) (hin : ∀ w ∈ wsX40, w ∈ Ts) (hlink : Cond.fieldLink own index "WineByYearsModel" "keptLitres" "[I" ∈ Ts) (hdg : decode cc pc = .ok (.getfield index, 3))
    (kk : W p l e R s m args below meth c H locs cells slots Q (F0 m (pc + 3) ls (.ref (Γ.2.2 (70)) :: rest))) : W p l e R s m args below meth c H locs cells slots Q (F0 m pc ls (.ref (Γ.2.2 k) :: rest)) :=
  va_get (D := Γ.1) (cl := vwCl) (ci := 4) (C := RX4) (T := TX4) (N := 30) C.1 C.2.1 C.2.2.2.2.2.1 hin C.2.2.2.2.1 C.2.2.2.2.2.2.2.1 hW.1 k ((wd_at (kd_lt hk (by decide))).trans (congrArg (fun x => some (_, x)) (en_4 hk))) rfl 25 (by decide) (C.2.2.2.2.2.1 _ hlink) (fun _ h9 => h9) rfl hdg kk
theorem gX4_26 (C : Cx Γ p s m args meth c cc nL ret own Ts) (hW : Wd Γ A B H0 H locs) {k index : Nat} (hk : kd k = 4) (hin : ∀ w ∈ wsX40, w ∈ Ts) (hlink : Cond.fieldLink own index "WineByYearsModel" "keptIll" "[I" ∈ Ts) (hdg : decode cc pc = .ok (.getfield index, 3))
    (kk : W p l e R s m args below meth c H locs cells slots Q (F0 m (pc + 3) ls (.ref (Γ.2.2 (71)) :: rest))) : W p l e R s m args below meth c H locs cells slots Q (F0 m pc ls (.ref (Γ.2.2 k) :: rest)) :=
  va_get (D := Γ.1) (cl := vwCl) (ci := 4) (C := RX4) (T := TX4) (N := 30) C.1 C.2.1 C.2.2.2.2.2.1 hin C.2.2.2.2.1 C.2.2.2.2.2.2.2.1 hW.1 k ((wd_at (kd_lt hk (by decide))).trans (congrArg (fun x => some (_, x)) (en_4 hk))) rfl 26 (by decide) (C.2.2.2.2.2.1 _ hlink) (fun _ h9 => h9) rfl hdg kk
theorem gX4_27 (C : Cx Γ p s m args meth c cc nL ret own Ts) (hW : Wd Γ A B H0 H locs) {k index : Nat} (hk : kd k = 4) (hin : ∀ w ∈ wsX40, w ∈ Ts) (hlink : Cond.fieldLink own index "WineByYearsModel" "keptCask" "[I" ∈ Ts) (hdg : decode cc pc = .ok (.getfield index, 3))
    (kk : W p l e R s m args below meth c H locs cells slots Q (F0 m (pc + 3) ls (.ref (Γ.2.2 (72)) :: rest))) : W p l e R s m args below meth c H locs cells slots Q (F0 m pc ls (.ref (Γ.2.2 k) :: rest)) :=
  va_get (D := Γ.1) (cl := vwCl) (ci := 4) (C := RX4) (T := TX4) (N := 30) C.1 C.2.1 C.2.2.2.2.2.1 hin C.2.2.2.2.1 C.2.2.2.2.2.2.2.1 hW.1 k ((wd_at (kd_lt hk (by decide))).trans (congrArg (fun x => some (_, x)) (en_4 hk))) rfl 27 (by decide) (C.2.2.2.2.2.1 _ hlink) (fun _ h9 => h9) rfl hdg kk
theorem gX4_28 (C : Cx Γ p s m args meth c cc nL ret own Ts) (hW : Wd Γ A B H0 H locs) {k index : Nat} (hk : kd k = 4) (hin : ∀ w ∈ wsX40, w ∈ Ts) (hlink : Cond.fieldLink own index "WineByYearsModel" "keptTrialIll" "[I" ∈ Ts) (hdg : decode cc pc = .ok (.getfield index, 3))
    (kk : W p l e R s m args below meth c H locs cells slots Q (F0 m (pc + 3) ls (.ref (Γ.2.2 (73)) :: rest))) : W p l e R s m args below meth c H locs cells slots Q (F0 m pc ls (.ref (Γ.2.2 k) :: rest)) :=
  va_get (D := Γ.1) (cl := vwCl) (ci := 4) (C := RX4) (T := TX4) (N := 30) C.1 C.2.1 C.2.2.2.2.2.1 hin C.2.2.2.2.1 C.2.2.2.2.2.2.2.1 hW.1 k ((wd_at (kd_lt hk (by decide))).trans (congrArg (fun x => some (_, x)) (en_4 hk))) rfl 28 (by decide) (C.2.2.2.2.2.1 _ hlink) (fun _ h9 => h9) rfl hdg kk
theorem gX4_29 (C : Cx Γ p s m args meth c cc nL ret own Ts) (hW : Wd Γ A B H0 H locs) {k index : Nat} (hk : kd k = 4) (hin : ∀ w ∈ wsX40, w ∈ Ts) (hlink : Cond.fieldLink own index "WineByYearsModel" "h" "J" ∈ Ts) (hdg : decode cc pc = .ok (.getfield index, 3))
    (kk : W p l e R s m args below meth c H locs cells slots Q (F0 m (pc + 3) ls (.long (gl (B k) 29) :: rest))) : W p l e R s m args below meth c H locs cells slots Q (F0 m pc ls (.ref (Γ.2.2 k) :: rest)) :=
  va_get (D := Γ.1) (cl := vwCl) (ci := 4) (C := RX4) (T := TX4) (N := 30) C.1 C.2.1 C.2.2.2.2.2.1 hin C.2.2.2.2.1 C.2.2.2.2.2.2.2.1 hW.1 k ((wd_at (kd_lt hk (by decide))).trans (congrArg (fun x => some (_, x)) (en_4 hk))) rfl 29 (by decide) (C.2.2.2.2.2.1 _ hlink) (fun _ h9 => h9) rfl hdg kk
theorem pX4_29 (C : Cx Γ p s m args meth c cc nL ret own Ts) (hW : Wd Γ A B H0 H locs) {k index : Nat} {v : Int64} (hk : kd k = 4) (hin : ∀ w ∈ wsX40, w ∈ Ts) (hlink : Cond.fieldLink own index "WineByYearsModel" "h" "J" ∈ Ts) (hdg : decode cc pc = .ok (.putfield index, 3))
    (kk : ∀ (H1 : Heap) (locs1 : List Loc), Wd Γ A (upl B k 29 v) H0 H1 locs1 → W p l e R s m args below meth c H1 locs1 cells slots Q (F0 m (pc + 3) ls rest)) : W p l e R s m args below meth c H locs cells slots Q (F0 m pc ls (.long v :: .ref (Γ.2.2 k) :: rest)) := by
  have hlt := kd_lt hk (by decide)
  refine va_put (D := Γ.1) (cl := vwCl) (ci := 4) (ty := .long) (C := RX4) (T := TX4) (N := 30) C.1 C.2.1 C.2.2.2.2.2.1 hin tyX4 tyX4_ok nmX4 C.2.2.2.2.1 C.2.2.2.2.2.2.2.1 hW.1 (wd_D C.2.2.2.2.2.2.2) hW.2 k ((wd_at hlt).trans (congrArg (fun x => some (_, x)) (en_4 hk))) rfl 29 (by decide) (C.2.2.2.2.2.1 _ hlink) (fun _ h9 => h9) rfl (by decide +kernel) rfl rfl (by simp) hdg (fun H1 locs1 hP hD hS => ?_)
  refine kk H1 locs1 ⟨?_, hS⟩
  rw [wd_set (A' := A) (B' := (upl B k 29 v)) hlt ?_ ?_] at hP
  · exact hP
  · rw [en_4 hk, upl_at]
    simp [upd, updl, gl_updl, gl, hilo]
  · intro j hj
    exact ⟨rfl, upl_ne hj⟩
theorem la6 (C : Cx Γ p s m args meth c cc nL ret own Ts) (hW : Wd Γ A B H0 H locs) {k n : Nat} {i : Int32} (hk : kd k = 6 ∧ ln k = n) (hi : inb i n = true) (hdg : decode cc pc = .ok (.iaload, 1))
    (kk : W p l e R s m args below meth c H locs cells slots Q (F0 m (pc + 1) ls (.int (A k i.toNatClampNeg) :: rest))) : W p l e R s m args below meth c H locs cells slots Q (F0 m pc ls (.int i :: .ref (Γ.2.2 k) :: rest)) :=
  va_iald C.1 C.2.1 C.2.2.2.2.2.2.2.1 hW.1 k 1 ((wd_at (kd_lt hk.1 (by decide))).trans (congrArg (fun x => some (_, x)) (en_6 hk.1))) rfl (by rw [hk.2]; exact inb_s hi) hdg kk
theorem sa6 (C : Cx Γ p s m args meth c cc nL ret own Ts) (hW : Wd Γ A B H0 H locs) {k n : Nat} {i x : Int32} (hk : kd k = 6 ∧ ln k = n) (hi : inb i n = true) (hdg : decode cc pc = .ok (.iastore, 1))
    (kk : ∀ (H1 : Heap) (locs1 : List Loc), Wd Γ (up2 A k i.toNatClampNeg x) B H0 H1 locs1 → W p l e R s m args below meth c H1 locs1 cells slots Q (F0 m (pc + 1) ls rest)) : W p l e R s m args below meth c H locs cells slots Q (F0 m pc ls (.int x :: .int i :: .ref (Γ.2.2 k) :: rest)) := by
  have hlt := kd_lt hk.1 (by decide)
  refine va_iast C.1 C.2.1 C.2.2.2.2.2.2.2.1 hW.1 (wd_D C.2.2.2.2.2.2.2) hW.2 k 1 ((wd_at hlt).trans (congrArg (fun x => some (_, x)) (en_6 hk.1))) rfl (by rw [hk.2]; exact inb_s hi) hdg (fun H1 locs1 hP hD hS => ?_)
  refine kk H1 locs1 ⟨?_, hS⟩
  rw [wd_set (A' := (up2 A k i.toNatClampNeg x)) (B' := B) hlt ?_ ?_] at hP
  · exact hP
  · rw [en_6 hk.1, up2_at]
  · intro j hj
    exact ⟨up2_ne hj, rfl⟩
theorem la9 (C : Cx Γ p s m args meth c cc nL ret own Ts) (hW : Wd Γ A B H0 H locs) {k n : Nat} {i : Int32} (hk : kd k = 9 ∧ ln k = n) (hi : inb i n = true) (hdg : decode cc pc = .ok (.iaload, 1))
    (kk : W p l e R s m args below meth c H locs cells slots Q (F0 m (pc + 1) ls (.int (B k i.toNatClampNeg) :: rest))) : W p l e R s m args below meth c H locs cells slots Q (F0 m pc ls (.int i :: .ref (Γ.2.2 k) :: rest)) :=
  va_iald C.1 C.2.1 C.2.2.2.2.2.2.2.1 hW.1 k 1 ((wd_at (kd_lt hk.1 (by decide))).trans (congrArg (fun x => some (_, x)) (en_9 hk.1))) rfl (by rw [hk.2]; exact inb_s hi) hdg kk
theorem sa9 (C : Cx Γ p s m args meth c cc nL ret own Ts) (hW : Wd Γ A B H0 H locs) {k n : Nat} {i x : Int32} (hk : kd k = 9 ∧ ln k = n) (hi : inb i n = true) (hdg : decode cc pc = .ok (.iastore, 1))
    (kk : ∀ (H1 : Heap) (locs1 : List Loc), Wd Γ A (up2 B k i.toNatClampNeg x) H0 H1 locs1 → W p l e R s m args below meth c H1 locs1 cells slots Q (F0 m (pc + 1) ls rest)) : W p l e R s m args below meth c H locs cells slots Q (F0 m pc ls (.int x :: .int i :: .ref (Γ.2.2 k) :: rest)) := by
  have hlt := kd_lt hk.1 (by decide)
  refine va_iast C.1 C.2.1 C.2.2.2.2.2.2.2.1 hW.1 (wd_D C.2.2.2.2.2.2.2) hW.2 k 1 ((wd_at hlt).trans (congrArg (fun x => some (_, x)) (en_9 hk.1))) rfl (by rw [hk.2]; exact inb_s hi) hdg (fun H1 locs1 hP hD hS => ?_)
  refine kk H1 locs1 ⟨?_, hS⟩
  rw [wd_set (A' := A) (B' := (up2 B k i.toNatClampNeg x)) hlt ?_ ?_] at hP
  · exact hP
  · rw [en_9 hk.1, up2_at]
  · intro j hj
    exact ⟨rfl, up2_ne hj⟩
theorem la7 (C : Cx Γ p s m args meth c cc nL ret own Ts) (hW : Wd Γ A B H0 H locs) {k n : Nat} {i : Int32} (hk : kd k = 7 ∧ ln k = n) (hi : inb i n = true) (hdg : decode cc pc = .ok (.aaload, 1))
    (kk : W p l e R s m args below meth c H locs cells slots Q (F0 m (pc + 1) ls (.ref (Γ.2.2 (k + 6 + 2 * i.toNatClampNeg)) :: rest))) : W p l e R s m args below meth c H locs cells slots Q (F0 m pc ls (.int i :: .ref (Γ.2.2 k) :: rest)) :=
  va_aldq (C := RX0) C.1 C.2.1 C.2.2.2.2.2.2.2.1 hW.1 k 2 ((wd_at (kd_lt hk.1 (by decide))).trans (congrArg (fun x => some (_, x)) (en_7 hk.1))) rfl (by rw [hk.2]; exact inb_s hi) hdg kk
theorem la5 (C : Cx Γ p s m args meth c cc nL ret own Ts) (hW : Wd Γ A B H0 H locs) {k n : Nat} {i : Int32} (hk : kd k = 5 ∧ ln k = n) (hi : inb i n = true) (hdg : decode cc pc = .ok (.baload, 1))
    (kk : W p l e R s m args below meth c H locs cells slots Q (F0 m (pc + 1) ls (.int (B k i.toNatClampNeg) :: rest))) : W p l e R s m args below meth c H locs cells slots Q (F0 m pc ls (.int i :: .ref (Γ.2.2 k) :: rest)) :=
  va_bald C.1 C.2.1 C.2.2.2.2.2.2.2.1 hW.1 k 0 ((wd_at (kd_lt hk.1 (by decide))).trans (congrArg (fun x => some (_, x)) (en_5 hk.1))) rfl (by rw [hk.2]; exact inb_s hi) hdg kk
theorem sa5 (C : Cx Γ p s m args meth c cc nL ret own Ts) (hW : Wd Γ A B H0 H locs) {k n : Nat} {i x : Int32} (hk : kd k = 5 ∧ ln k = n) (hi : inb i n = true) (hdg : decode cc pc = .ok (.bastore, 1))
    (kk : ∀ (H1 : Heap) (locs1 : List Loc), Wd Γ A (up2 B k i.toNatClampNeg (vp_nar .byte x)) H0 H1 locs1 → W p l e R s m args below meth c H1 locs1 cells slots Q (F0 m (pc + 1) ls rest)) : W p l e R s m args below meth c H locs cells slots Q (F0 m pc ls (.int x :: .int i :: .ref (Γ.2.2 k) :: rest)) := by
  have hlt := kd_lt hk.1 (by decide)
  refine va_bast C.1 C.2.1 C.2.2.2.2.2.2.2.1 hW.1 (wd_D C.2.2.2.2.2.2.2) hW.2 k 0 ((wd_at hlt).trans (congrArg (fun x => some (_, x)) (en_5 hk.1))) rfl (by rw [hk.2]; exact inb_s hi) hdg (fun H1 locs1 hP hD hS => ?_)
  refine kk H1 locs1 ⟨?_, hS⟩
  rw [wd_set (A' := A) (B' := up2 B k i.toNatClampNeg (vp_nar .byte x)) hlt ?_ ?_] at hP
  · exact hP
  · rw [en_5 hk.1, up2_at]
  · intro j hj
    exact ⟨rfl, up2_ne hj⟩
/-- System.arraycopy of ints, within the class's side -/
theorem cp6 (C : Cx Γ p s m args meth c cc nL ret own Ts) (hW : Wd Γ A B H0 H locs) {k0 k1 n0 n1 index : Nat} {n : Int32} (hk0 : kd k0 = 6 ∧ ln k0 = n0) (hk1 : kd k1 = 6 ∧ ln k1 = n1) (hs : ls.size = nL) (h3 : ¬ n < 0) (h4 : n.toNatClampNeg ≤ n0) (h5 : n.toNatClampNeg ≤ n1)
    (hl : Cond.methodLink own index arraycopyName ∈ Ts) (hnat : Cond.native arraycopyName ∈ Ts) (hst : Cond.static arraycopyName ∈ Ts) (hini : Cond.initialized "java/lang/System" ∈ Ts) (hframes : 1 ≤ R.frames) (hlocals : (rest.map fun v => v.category).sum + (nativeFrameWords "java/lang/System" "arraycopy" 5 + 11) ≤ R.locals) (hdg : decode cc pc = .ok (.invokestatic index, 3))
    (kk : ∀ (H1 : Heap) (locs1 : List Loc), Wd Γ (cpa A k0 k1 n.toNatClampNeg) B H0 H1 locs1 → W p l e R s m args below meth c H1 locs1 cells slots Q (F0 m (pc + 3) ls rest)) : W p l e R s m args below meth c H locs cells slots Q (F0 m pc ls (.int n :: .int 0 :: .ref (Γ.2.2 k1) :: .int 0 :: .ref (Γ.2.2 k0) :: rest)) := by
  have hlt0 := kd_lt hk0.1 (by decide)
  have hlt1 := kd_lt hk1.1 (by decide)
  refine va_copyi (ty := .int) C.1 C.2.1 (C.2.2.2.1.trans hs.symm) C.2.2.2.2.1 (C.2.2.2.2.2.1 _ hl) (C.2.2.2.2.2.1 _ hnat) (C.2.2.2.2.2.1 _ hst) (C.2.2.2.2.2.1 _ hini) C.2.2.2.2.2.2.2.1 hW.1 (wd_D C.2.2.2.2.2.2.2) hW.2 k0 k1 1 1 ((wd_at hlt0).trans (congrArg (fun x => some (_, x)) (en_6 hk0.1))) ((wd_at hlt1).trans (congrArg (fun x => some (_, x)) (en_6 hk1.1))) rfl rfl rfl (by decide) (by decide) h3 (by rw [hk0.2]; simpa using h4) (by rw [hk1.2]; simpa using h5) (fun _ _ => rfl) hframes hlocals hdg (fun H1 locs1 hP hD hS => ?_)
  refine kk H1 locs1 ⟨?_, hS⟩
  rw [wd_set (A' := cpa A k0 k1 n.toNatClampNeg) (B' := B) hlt1 ?_ ?_] at hP
  · exact hP
  · rw [en_6 hk1.1]
    unfold cpa
    rw [if_pos rfl]
    rfl
  · intro j hj
    exact ⟨if_neg hj, rfl⟩
theorem z_iret (C : Cx Γ p s m args meth c cc nL (some .int) own Ts) (hW : Wd Γ A B s.heap H locs) {v : Int32} (hdg : decode cc pc = .ok (.ireturn, 1)) : W p l e R s m args below meth c H locs 0 0 (MQ below (QI Γ A B v) args s 0 0 (rg Γ)) (F0 m pc ls [.int v]) :=
  W.iret C.1 C.2.1 C.2.2.1 (fun t ht hw => ⟨⟨v, (), rfl, rfl, by rw [ht]; exact hW.1, Kk.moved hw C.2.2.2.2.2.2.2⟩, hW.2.F ht⟩) hW.2.2.2 hdg C.2.2.2.2.2.2.1
theorem z_zret (C : Cx Γ p s m args meth c cc nL (some .boolean) own Ts) (hW : Wd Γ A B s.heap H locs) {v : Int32} (hz : zb v = true) (hdg : decode cc pc = .ok (.ireturn, 1)) : W p l e R s m args below meth c H locs 0 0 (MQ below (QI Γ A B v) args s 0 0 (rg Γ)) (F0 m pc ls [.int v]) :=
  W.zret C.1 C.2.1 C.2.2.1 (zb_s hz) (fun t ht hw => ⟨⟨v, (), rfl, rfl, by rw [ht]; exact hW.1, Kk.moved hw C.2.2.2.2.2.2.2⟩, hW.2.F ht⟩) hW.2.2.2 hdg C.2.2.2.2.2.2.1
theorem z_lret (C : Cx Γ p s m args meth c cc nL (some .long) own Ts) (hW : Wd Γ A B s.heap H locs) {v : Int64} (hdg : decode cc pc = .ok (.lreturn, 1)) : W p l e R s m args below meth c H locs 0 0 (MQ below (QL Γ A B v) args s 0 0 (rg Γ)) (F0 m pc ls [.long v]) :=
  W.lret C.1 C.2.1 C.2.2.1 (fun t ht hw => ⟨⟨v, (), rfl, rfl, by rw [ht]; exact hW.1, Kk.moved hw C.2.2.2.2.2.2.2⟩, hW.2.F ht⟩) hW.2.2.2 hdg C.2.2.2.2.2.2.1
theorem z_vret (C : Cx Γ p s m args meth c cc nL none own Ts) (hW : Wd Γ A B s.heap H locs) (hdg : decode cc pc = .ok (.return_, 1)) : W p l e R s m args below meth c H locs 0 0 (MQ below (QV Γ A B) args s 0 0 (rg Γ)) (F0 m pc ls []) :=
  W.vret C.1 C.2.1 C.2.2.1 (fun t ht hw => ⟨⟨(), rfl, trivial, by rw [ht]; exact hW.1, Kk.moved hw C.2.2.2.2.2.2.2⟩, hW.2.F ht⟩) hW.2.2.2 hdg C.2.2.2.2.2.2.1
theorem pc_blind {av : List Value} : FrameBlind (PC Γ A B av) := fun _ _ _ _ q => ⟨q.1, q.2.1, Kk.same rfl q.2.2⟩
theorem rcv (C : Cx Γ p s m args meth c cc nL ret own Ts) (hW : Wd Γ A B H0 H locs) {k ci : Nat} {fs : List Value} {q : vw_C} (hlt : k < 74) (he : enc Γ A B k = .inr (ci, fs)) (hc : vwCl[ci]? = some q) : ∃ cell : Cell, H[Γ.2.2 k]? = some cell ∧ cell.vm.isStatics = false ∧ s.vm.findClass q.1 = some cell.cls :=
  va_recv C.2.2.2.2.2.2.2.1 hW.1 hc ((wd_at hlt).trans (congrArg (fun x => some (_, x)) he))
theorem rcv0 (C : Cx Γ p s m args meth c cc nL ret own Ts) (hW : Wd Γ A B H0 H locs) {k : Nat} (hk : kd k = 0) : ∃ cell : Cell, H[Γ.2.2 k]? = some cell ∧ cell.vm.isStatics = false ∧ s.vm.findClass RX0 = some cell.cls := rcv C hW (kd_lt hk (by decide)) (en_0 hk) (q := (RX0, TX0, 2)) rfl
theorem rcv1 (C : Cx Γ p s m args meth c cc nL ret own Ts) (hW : Wd Γ A B H0 H locs) {k : Nat} (hk : kd k = 1) : ∃ cell : Cell, H[Γ.2.2 k]? = some cell ∧ cell.vm.isStatics = false ∧ s.vm.findClass RX1 = some cell.cls := rcv C hW (kd_lt hk (by decide)) (en_1 hk) (q := (RX1, TX1, 11)) rfl
theorem rcv2 (C : Cx Γ p s m args meth c cc nL ret own Ts) (hW : Wd Γ A B H0 H locs) {k : Nat} (hk : kd k = 2) : ∃ cell : Cell, H[Γ.2.2 k]? = some cell ∧ cell.vm.isStatics = false ∧ s.vm.findClass RX2 = some cell.cls := rcv C hW (kd_lt hk (by decide)) (en_2 hk) (q := (RX2, TX2, 2)) rfl
theorem rcv3 (C : Cx Γ p s m args meth c cc nL ret own Ts) (hW : Wd Γ A B H0 H locs) {k : Nat} (hk : kd k = 3) : ∃ cell : Cell, H[Γ.2.2 k]? = some cell ∧ cell.vm.isStatics = false ∧ s.vm.findClass RX3 = some cell.cls := rcv C hW (kd_lt hk (by decide)) (en_3 hk) (q := (RX3, TX3, 8)) rfl
theorem rcv4 (C : Cx Γ p s m args meth c cc nL ret own Ts) (hW : Wd Γ A B H0 H locs) {k : Nat} (hk : kd k = 4) : ∃ cell : Cell, H[Γ.2.2 k]? = some cell ∧ cell.vm.isStatics = false ∧ s.vm.findClass RX4 = some cell.cls := rcv C hW (kd_lt hk (by decide)) (en_4 hk) (q := (RX4, TX4, 30)) rfl
theorem cVi (C : Cx Γ p s m args meth c cc nL ret own Ts) (hW : Wd Γ A B H0 H locs) {Cn : String} {b : Addr} {A2 B2 : Me} {y : MethodName} {bytes : ByteArray} {maxL index n : Nat} {rt : Option FieldType} {ws : List Cond} {rm : Room} {As : List Value} {r : Int32} (hM : Met l y ws rm (PC Γ A B (.ref b :: As)) (QI Γ A2 B2 r) 0 0 (rg Γ)) (cw : CallW R s args own Cn index y bytes maxL rt ws rm 0 0 n) (hrv : ∃ cell : Cell, H[b]? = some cell ∧ cell.vm.isStatics = false ∧ s.vm.findClass Cn = some cell.cls)
    (hn : As.length = n) (hs : ls.size = nL) {st : List Value} (hst : st = As.reverse ++ .ref b :: rest) (hr : (rest.map fun v => v.category).sum ≤ 8) (hdg : decode cc pc = .ok (.invokevirtual index, 3)) (hc : cells ≤ R.cells) (hsl : slots ≤ R.slots)
    (kk : ∀ (H1 : Heap) (locs1 : List Loc), Wd Γ A2 B2 H0 H1 locs1 → W p l e R s m args below meth c H1 locs1 cells slots Q (F0 m (pc + 3) ls (.int r :: rest))) : W p l e R s m args below meth c H locs cells slots Q (F0 m pc ls st) := by
  refine va_calli (va_runV (As := As) (rest := rest) ⟨C.1, C.2.1, C.2.2.2.1, C.2.2.2.2.1, C.2.2.2.2.2.1⟩ hM cw ⟨pc_blind, hrv, fun U hU hw => ⟨rfl, by rw [hU]; exact hW.1, Kk.moved hw C.2.2.2.2.2.2.2⟩⟩ rfl hn hs hst (lv_room hr) hdg ⟨hc, hsl⟩) hW.2 (fun q _ h => h) (fun q h => h) (fun r0 u t H1 locs1 ht hvm hp hB hz hk hS => ?_)
  subst hp
  refine kk H1 locs1 ⟨?_, hS⟩
  have hB1 := hB.1
  rw [ht] at hB1
  exact hB1
theorem cVl (C : Cx Γ p s m args meth c cc nL ret own Ts) (hW : Wd Γ A B H0 H locs) {Cn : String} {b : Addr} {A2 B2 : Me} {y : MethodName} {bytes : ByteArray} {maxL index n : Nat} {rt : Option FieldType} {ws : List Cond} {rm : Room} {As : List Value} {r : Int64} (hM : Met l y ws rm (PC Γ A B (.ref b :: As)) (QL Γ A2 B2 r) 0 0 (rg Γ)) (cw : CallW R s args own Cn index y bytes maxL rt ws rm 0 0 n) (hrv : ∃ cell : Cell, H[b]? = some cell ∧ cell.vm.isStatics = false ∧ s.vm.findClass Cn = some cell.cls)
    (hn : As.length = n) (hs : ls.size = nL) {st : List Value} (hst : st = As.reverse ++ .ref b :: rest) (hr : (rest.map fun v => v.category).sum ≤ 8) (hdg : decode cc pc = .ok (.invokevirtual index, 3)) (hc : cells ≤ R.cells) (hsl : slots ≤ R.slots)
    (kk : ∀ (H1 : Heap) (locs1 : List Loc), Wd Γ A2 B2 H0 H1 locs1 → W p l e R s m args below meth c H1 locs1 cells slots Q (F0 m (pc + 3) ls (.long r :: rest))) : W p l e R s m args below meth c H locs cells slots Q (F0 m pc ls st) := by
  refine va_calll (va_runV (As := As) (rest := rest) ⟨C.1, C.2.1, C.2.2.2.1, C.2.2.2.2.1, C.2.2.2.2.2.1⟩ hM cw ⟨pc_blind, hrv, fun U hU hw => ⟨rfl, by rw [hU]; exact hW.1, Kk.moved hw C.2.2.2.2.2.2.2⟩⟩ rfl hn hs hst (lv_room hr) hdg ⟨hc, hsl⟩) hW.2 (fun q _ h => h) (fun q h => h) (fun r0 u t H1 locs1 ht hvm hp hB hz hk hS => ?_)
  subst hp
  refine kk H1 locs1 ⟨?_, hS⟩
  have hB1 := hB.1
  rw [ht] at hB1
  exact hB1
theorem cVv (C : Cx Γ p s m args meth c cc nL ret own Ts) (hW : Wd Γ A B H0 H locs) {Cn : String} {b : Addr} {A2 B2 : Me} {y : MethodName} {bytes : ByteArray} {maxL index n : Nat} {rt : Option FieldType} {ws : List Cond} {rm : Room} {As : List Value} (hM : Met l y ws rm (PC Γ A B (.ref b :: As)) (QV Γ A2 B2) 0 0 (rg Γ)) (cw : CallW R s args own Cn index y bytes maxL rt ws rm 0 0 n) (hrv : ∃ cell : Cell, H[b]? = some cell ∧ cell.vm.isStatics = false ∧ s.vm.findClass Cn = some cell.cls)
    (hn : As.length = n) (hs : ls.size = nL) {st : List Value} (hst : st = As.reverse ++ .ref b :: rest) (hr : (rest.map fun v => v.category).sum ≤ 8) (hdg : decode cc pc = .ok (.invokevirtual index, 3)) (hc : cells ≤ R.cells) (hsl : slots ≤ R.slots)
    (kk : ∀ (H1 : Heap) (locs1 : List Loc), Wd Γ A2 B2 H0 H1 locs1 → W p l e R s m args below meth c H1 locs1 cells slots Q (F0 m (pc + 3) ls (rest))) : W p l e R s m args below meth c H locs cells slots Q (F0 m pc ls st) := by
  refine va_callv (va_runV (As := As) (rest := rest) ⟨C.1, C.2.1, C.2.2.2.1, C.2.2.2.2.1, C.2.2.2.2.2.1⟩ hM cw ⟨pc_blind, hrv, fun U hU hw => ⟨rfl, by rw [hU]; exact hW.1, Kk.moved hw C.2.2.2.2.2.2.2⟩⟩ rfl hn hs hst (lv_room hr) hdg ⟨hc, hsl⟩) hW.2 (fun q _ h => h) (fun q h => h) (fun u t H1 locs1 ht hvm hp hB hz hk hS => ?_)
  refine kk H1 locs1 ⟨?_, hS⟩
  have hB1 := hB.1
  rw [ht] at hB1
  exact hB1
theorem cSi (C : Cx Γ p s m args meth c cc nL ret own Ts) (hW : Wd Γ A B H0 H locs) {A2 B2 : Me} {y : MethodName} {bytes : ByteArray} {maxL index n : Nat} {rt : Option FieldType} {ws : List Cond} {rm : Room} {As : List Value} {r : Int32} (hM : Met l y ws rm (PC Γ A B (As)) (QI Γ A2 B2 r) 0 0 (rg Γ)) (cw : CallB R s args own index y bytes maxL rt ws rm 0 0 n ∧ (Cond.static y).before args s = true)
    (hn : As.length = n) (hs : ls.size = nL) {st : List Value} (hst : st = As.reverse ++ rest) (hr : (rest.map fun v => v.category).sum ≤ 8) (hdg : decode cc pc = .ok (.invokestatic index, 3)) (hc : cells ≤ R.cells) (hsl : slots ≤ R.slots)
    (kk : ∀ (H1 : Heap) (locs1 : List Loc), Wd Γ A2 B2 H0 H1 locs1 → W p l e R s m args below meth c H1 locs1 cells slots Q (F0 m (pc + 3) ls (.int r :: rest))) : W p l e R s m args below meth c H locs cells slots Q (F0 m pc ls st) := by
  refine va_calli (va_runS (As := As) (rest := rest) ⟨C.1, C.2.1, C.2.2.2.1, C.2.2.2.2.1, C.2.2.2.2.2.1⟩ hM cw ⟨pc_blind, fun U hU hw => ⟨rfl, by rw [hU]; exact hW.1, Kk.moved hw C.2.2.2.2.2.2.2⟩⟩ rfl hn hs hst (lv_room hr) hdg ⟨hc, hsl⟩) hW.2 (fun q _ h => h) (fun q h => h) (fun r0 u t H1 locs1 ht hvm hp hB hz hk hS => ?_)
  subst hp
  refine kk H1 locs1 ⟨?_, hS⟩
  have hB1 := hB.1
  rw [ht] at hB1
  exact hB1
theorem cSl (C : Cx Γ p s m args meth c cc nL ret own Ts) (hW : Wd Γ A B H0 H locs) {A2 B2 : Me} {y : MethodName} {bytes : ByteArray} {maxL index n : Nat} {rt : Option FieldType} {ws : List Cond} {rm : Room} {As : List Value} {r : Int64} (hM : Met l y ws rm (PC Γ A B (As)) (QL Γ A2 B2 r) 0 0 (rg Γ)) (cw : CallB R s args own index y bytes maxL rt ws rm 0 0 n ∧ (Cond.static y).before args s = true)
    (hn : As.length = n) (hs : ls.size = nL) {st : List Value} (hst : st = As.reverse ++ rest) (hr : (rest.map fun v => v.category).sum ≤ 8) (hdg : decode cc pc = .ok (.invokestatic index, 3)) (hc : cells ≤ R.cells) (hsl : slots ≤ R.slots)
    (kk : ∀ (H1 : Heap) (locs1 : List Loc), Wd Γ A2 B2 H0 H1 locs1 → W p l e R s m args below meth c H1 locs1 cells slots Q (F0 m (pc + 3) ls (.long r :: rest))) : W p l e R s m args below meth c H locs cells slots Q (F0 m pc ls st) := by
  refine va_calll (va_runS (As := As) (rest := rest) ⟨C.1, C.2.1, C.2.2.2.1, C.2.2.2.2.1, C.2.2.2.2.2.1⟩ hM cw ⟨pc_blind, fun U hU hw => ⟨rfl, by rw [hU]; exact hW.1, Kk.moved hw C.2.2.2.2.2.2.2⟩⟩ rfl hn hs hst (lv_room hr) hdg ⟨hc, hsl⟩) hW.2 (fun q _ h => h) (fun q h => h) (fun r0 u t H1 locs1 ht hvm hp hB hz hk hS => ?_)
  subst hp
  refine kk H1 locs1 ⟨?_, hS⟩
  have hB1 := hB.1
  rw [ht] at hB1
  exact hB1
theorem cNi (C : Cx Γ p s m args meth c cc nL ret own Ts) (hW : Wd Γ A B H0 H locs) {host : String} {A2 B2 : Me} {y : MethodName} {bytes : ByteArray} {maxL index n : Nat} {rt : Option FieldType} {ws : List Cond} {rm : Room} {As : List Value} {r : Int32} (hM : Met l y ws rm (PC Γ A B (As)) (QI Γ A2 B2 r) 0 0 (rg Γ)) (cw : va_CN R s args own index y host bytes maxL rt ws rm 0 0 n ∧ (Cond.static y).before args s = true ∧ True)
    (hn : As.length = n) (hs : ls.size = nL) {st : List Value} (hst : st = As.reverse ++ rest) (hr : (rest.map fun v => v.category).sum ≤ 8) (hdg : decode cc pc = .ok (.invokestatic index, 3)) (hc : cells ≤ R.cells) (hsl : slots ≤ R.slots)
    (kk : ∀ (H1 : Heap) (locs1 : List Loc), Wd Γ A2 B2 H0 H1 locs1 → W p l e R s m args below meth c H1 locs1 cells slots Q (F0 m (pc + 3) ls (.int r :: rest))) : W p l e R s m args below meth c H locs cells slots Q (F0 m pc ls st) := by
  refine va_calli (va_runSN (As := As) (rest := rest) ⟨C.1, C.2.1, C.2.2.2.1, C.2.2.2.2.1, C.2.2.2.2.2.1⟩ hM cw ⟨pc_blind, fun U hU hw => ⟨rfl, by rw [hU]; exact hW.1, Kk.moved hw C.2.2.2.2.2.2.2⟩⟩ rfl hn hs hst (lv_room hr) hdg ⟨hc, hsl⟩) hW.2 (fun q _ h => h) (fun q h => h) (fun r0 u t H1 locs1 ht hvm hp hB hz hk hS => ?_)
  subst hp
  refine kk H1 locs1 ⟨?_, hS⟩
  have hB1 := hB.1
  rw [ht] at hB1
  exact hB1
theorem met_of {y : MethodName} {ws ws' : List Cond} {rm : Room} {av : List Value} {Qc : Array Value → State → Outcome → State → Prop} {maxL : Nat} {rt : Option FieldType}
    (hy : plainName y.cls = true) (hw : ws = Cond.code y cc maxL rt :: ws') (hlen : (lg_sl av).length ≤ maxL)
    (body : ∀ (p : Program) (e : Env) (s : State) (m : MethodId) (below : List Frame) (meth : Method) (c : Code) (ls : Array Slot), Cx Γ p s m av.toArray meth c cc maxL rt y.cls ws → Wd Γ A B s.heap s.heap [] → lv_has ls maxL (lv_args 0 av) →
      W p l e rm s m av.toArray below meth c s.heap [] 0 0 (MQ below Qc av.toArray s 0 0 (rg Γ)) (F0 m 0 ls [])) : Met l y ws rm (PC Γ A B av) Qc 0 0 (rg Γ) := by
  refine Met.ofW (cc := cc) (maxL := maxL) (ret := rt) hy hw ?_
  intro p e s m args below meth c s₁ B0 hml hv
  obtain ⟨rfl, hP, hK⟩ := hv
  have hl := lv_entry av (n := maxL) hlen
  rw [lg_entry_eq]
  exact body p e s m below meth c _ ⟨B0.exec, B0.bytes, B0.returns, hml, findClass_of_methodNamed B0.named, atoms_spec (ws := ws) B0.pre, B0.notSynchronized, hK⟩ ⟨hP, va_S.rf⟩ hl
end
