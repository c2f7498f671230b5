/-! ===== the best question ===== -/
section
variable {A B : Me} {k : Nat} {c : Ce}
theorem akl_in (c : Ce) (kd : Int32) : ∀ j, akb.akl c kd j = 268435456 ∨ akb.akl c kd j ≤ 10 := by
  intro j
  induction j with
  | zero => left; rfl
  | succ j ih =>
    have e : akb.akl c kd (j + 1) = if wst c kd j < akb.akl c kd j then wst c kd j else akb.akl c kd j := rfl
    rw [e]
    split
    · rename_i h
      have hm : mcn c kd j ≤ 10 := cnt_le _ _
      have hn : ncn c kd j ≤ 10 := cnt_le _ _
      unfold wst at h ⊢
      by_cases z : sf (c_l c j) 10 = 0
      · rw [if_pos z] at h ⊢
        left; rfl
      · rw [if_neg z]
        right
        split <;> omega
    · exact ih
theorem wst_le {kd : Int32} {j : Nat} (z : ¬ sf (c_l c j) 10 = 0) : wst c kd j ≤ 10 := by
  have hm : mcn c kd j ≤ 10 := cnt_le _ _
  have hn : ncn c kd j ≤ 10 := cnt_le _ _
  unfold wst
  rw [if_neg z]
  split <;> omega
def few (n : Nat) : Nat := if n = 268435456 then 11 else n
theorem leftAtWorst {kd : Int32} {j : Nat} (z : ¬ sf (c_l c j) 10 = 0) : fX1_leftAtWorst (bth c kd) (bsF (fun y => may (c_w c) (c_l c j) kd (nI y)) 10) = some (nI (wst c kd j)) := by
  have hm : mcn c kd j ≤ 10 := cnt_le _ _
  have hn : ncn c kd j ≤ 10 := cnt_le _ _
  unfold fX1_leftAtWorst bth
  rw [bs_and _ _ (by omega), bs_andn _ _ (by omega), bi_e (bc_bs _ (by omega)), bi_e (bc_bs _ (by omega))]
  show some (if nI (mcn c kd j) < nI (ncn c kd j) then nI (ncn c kd j) else nI (mcn c kd j)) = _
  unfold wst
  rw [if_neg z]
  congr 1
  by_cases h : mcn c kd j < ncn c kd j
  · rw [if_pos ((nI_ltI (by omega) (by omega)).mpr h), if_pos (by omega)]
  · rw [if_neg (fun x => h ((nI_ltI (by omega) (by omega)).mp x))]
    by_cases h2 : mcn c kd j ≤ ncn c kd j
    · rw [if_pos h2]; congr 1; omega
    · rw [if_neg h2]
theorem leftAtWorst_any (kd : Int32) (j : Nat) : ∃ v, fX1_leftAtWorst (bth c kd) (bsF (fun y => may (c_w c) (c_l c j) kd (nI y)) 10) = some v := by
  unfold fX1_leftAtWorst bth
  rw [bs_and _ _ (by omega), bs_andn _ _ (by omega), bi_e (bc_bs _ (by omega)), bi_e (bc_bs _ (by omega))]
  exact ⟨_, rfl⟩
theorem bestQuestion_21 (h : RC A k c) (hw : Wf c) (kd : Int32) : ∀ (d j n : Nat), j + d = c_n c → d < n → fX1_bestQuestion_21 A k n kd (bth c kd) (akb c kd j) (nI (few (akb.akl c kd j))) (nI j) = some (akb c kd (c_n c)) := by
  have hn5 := hw.1
  intro d
  induction d with
  | zero =>
    intro j n hi hn
    obtain ⟨n, rfl, -⟩ := fuel hn
    have : j = c_n c := by omega
    rw [fX1_bestQuestion_21, h.2.1, this, if_pos (lim_t (Nat.le_refl _))]
  | succ d ih =>
    intro j n hi hn
    obtain ⟨n, rfl, hn2⟩ := fuel hn
    have hl := hw.2.2.2.1 j (by omega)
    have hC := h.2.2.2.2.2.1 j (by omega)
    have q := ih (j + 1) n (by omega) (by omega)
    have e1 : akb.akl c kd (j + 1) = if wst c kd j < akb.akl c kd j then wst c kd j else akb.akl c kd j := rfl
    have e2 : akb c kd (j + 1) = if wst c kd j < akb.akl c kd j then nI j else akb c kd j := rfl
    have ha := akl_in c kd j
    rw [e1, e2] at q
    rw [fX1_bestQuestion_21, h.2.1, if_neg (lim_f (by omega)), ck_t (inb_t (by omega) (by omega)), nI_clamp (by omega), bi_e (birthsThatMay h hC (by omega) kd)]
    unfold fX1_bestQuestion_75
    rw [nI_1]
    by_cases z : sf (c_l c j) 10 = 0
    · obtain ⟨v, hv⟩ := leftAtWorst_any (c := c) kd j
      rw [bi_e hv, ck_t (inb_t (by omega) (by omega)), hC.2, if_pos ((nI_le0 (by omega)).mpr z)]
      have hwst : wst c kd j = 268435456 := if_pos z
      rw [if_neg (by omega), if_neg (by omega)] at q
      exact q
    · have hx := wst_le (kd := kd) z
      rw [bi_e (leftAtWorst z), ck_t (inb_t (by omega) (by omega)), hC.2, if_neg (fun x => z ((nI_le0 (by omega)).mp x))]
      have hf : few (akb.akl c kd j) ≤ 11 := by unfold few; split <;> omega
      by_cases g : wst c kd j < akb.akl c kd j
      · rw [if_neg (fun x => by
          have := (nI_leI (by omega) (by omega)).mp x
          unfold few at this
          split at this <;> omega)]
        rw [if_pos g, if_pos g] at q
        have : few (wst c kd j) = wst c kd j := if_neg (by omega)
        rw [this] at q
        exact q
      · rw [if_pos ((nI_leI (by omega) (by omega)).mpr (by unfold few; split <;> omega))]
        rw [if_neg g, if_neg g] at q
        exact q
theorem bestQuestion (h : RC A k c) (hw : Wf c) (kd : Int32) : fX1_bestQuestion A k kd = some (ask_ c kd) := by
  unfold fX1_bestQuestion ask_
  rw [bi_e (possibleBirths h hw kd)]
  by_cases z : bth c kd = 0
  · rw [if_pos z, if_pos z]
  · rw [if_neg z, if_neg z]
    exact bestQuestion_21 h hw kd (c_n c) 0 FU (by omega) (Nat.lt_of_le_of_lt hw.1 (by decide))
theorem askNow_40 (hw : Wf c) (kd : Int32) {j : Nat} (hj : j < 5) (j15 : Me → Int32 → Int32 → Int32 → Int32 → Int32 → Option (Int32 × Me)) (bst lst : Int32) (jj : Int32) (hB : RB B c) (hr : RR (B 60) (c_l c j)) : ∀ (d i n : Nat), i + d = 10 → d < n →
    fX4_askNow_40 j15 n B kd (bth c kd) bst lst jj (nI (cnt (fun y => brn c kd (c_t c) y && may (c_w c) (c_l c j) kd (nI y)) i)) (nI i) = fX4_askNow_117 j15 B kd (bth c kd) bst lst jj (nI (wst c kd j)) := by
  have hl := hw.2.2.2.1 j hj
  intro d
  induction d with
  | zero =>
    intro i n hi hn
    obtain ⟨n, rfl, -⟩ := fuel hn
    have : i = 10 := by omega
    subst this
    have hm : mcn c kd j ≤ 10 := cnt_le _ _
    have hnn : ncn c kd j ≤ 10 := cnt_le _ _
    have hs := cnt_split (fun y => brn c kd (c_t c) y) (fun y => may (c_w c) (c_l c j) kd (nI y)) 10
    have hs2 : mcn c kd j + ncn c kd j = cnt (fun y => brn c kd (c_t c) y) 10 := hs
    rw [fX4_askNow_40, if_pos (g10_t (by omega)), bi_e (show fX4_size (bth c kd) = some (nI (cnt (fun y => brn c kd (c_t c) y) 10)) from size_bs _ (by omega)), bi_e (litresThought hr)]
    show (if nI (sf (c_l c j) 10) = 0 then _ else if nI (mcn c kd j) ≤ nI (cnt (fun y => brn c kd (c_t c) y) 10) - nI (mcn c kd j) then _ else _) = _
    rw [← hs2, pk_sub (by omega), show mcn c kd j + ncn c kd j - mcn c kd j = ncn c kd j by omega]
    unfold wst
    by_cases z : sf (c_l c j) 10 = 0
    · rw [if_pos z, if_pos (by rw [z]; rfl)]; rfl
    · rw [if_neg z, if_neg (fun x => z ((nI_eq0 (by omega)).mp x))]
      by_cases g : mcn c kd j ≤ ncn c kd j
      · rw [if_pos g, if_pos ((nI_leI (by omega) (by omega)).mpr g)]
        show fX4_askNow_117 j15 B kd (bth c kd) bst lst jj (nI (mcn c kd j + ncn c kd j) - nI (mcn c kd j)) = _
        rw [pk_sub (by omega), show mcn c kd j + ncn c kd j - mcn c kd j = ncn c kd j by omega]
      · rw [if_neg g, if_neg (fun x => g ((nI_leI (by omega) (by omega)).mp x))]
        rfl
  | succ d ih =>
    intro i n hi hn
    obtain ⟨n, rfl, hn2⟩ := fuel hn
    have q := ih (i + 1) n (by omega) (by omega)
    have e : cnt (fun y => brn c kd (c_t c) y && may (c_w c) (c_l c j) kd (nI y)) (i + 1) = cnt (fun y => brn c kd (c_t c) y && may (c_w c) (c_l c j) kd (nI y)) i + (if (brn c kd (c_t c) i && may (c_w c) (c_l c j) kd (nI i)) then 1 else 0) := rfl
    rw [e, ← nI_add] at q
    have hbt : bt (bth c kd) i = brn c kd (c_t c) i := by
      show bt (bsF _ 10) i = _
      rw [bsF_bt _ 10 (by omega) i (by omega), decide_eq_true (by omega : i < 10)]
      rfl
    rw [fX4_askNow_40, if_neg (g10_f (by omega)), bi_e (has_x _ (by omega)), hbt]
    unfold fX4_askNow_72 fX4_askNow_73
    rw [nI_1]
    cases hb : brn c kd (c_t c) i
    · rw [if_pos (by decide)]
      rw [hb, Bool.false_and] at q
      exact q
    · rw [if_neg (by decide), bi_e (mayThought hr (by omega) _ _), hB.1]
      cases hm : may (c_w c) (c_l c j) kd (nI i)
      · rw [if_pos (by decide)]
        rw [hb, hm] at q
        exact q
      · rw [if_neg (by decide)]
        rw [hb, hm] at q
        exact q
theorem askNow_15 (hw : Wf c) (kd : Int32) (z : ¬ bth c kd = 0) : ∀ (d j n : Nat) (B : Me), RB B c → j + d = c_n c → d < n → ∃ B', fX4_askNow_15 n B kd (bth c kd) (akb c kd j) (nI (akb.akl c kd j)) (nI j) = some (akb c kd (c_n c), B') ∧ Ag S60 B B' := by
  have hn5 := hw.1
  intro d
  induction d with
  | zero =>
    intro j n B h hi hn
    obtain ⟨n, rfl, -⟩ := fuel hn
    have : j = c_n c := by omega
    rw [fX4_askNow_15, h.2.1, this, if_pos (lim_t (Nat.le_refl _))]
    exact ⟨B, rfl, Ag.rf⟩
  | succ d ih =>
    intro j n B h hi hn
    obtain ⟨n, rfl, hn2⟩ := fuel hn
    obtain ⟨B1, h1, h2, h3⟩ := think (show j < 5 by omega) h.2.2.2.2.1
    have hB1 := h.ag h2
    obtain ⟨B', q, g⟩ := ih (j + 1) n B1 hB1 (by omega) (by omega)
    refine ⟨B', ?_, h2.tr g⟩
    have e1 : akb.akl c kd (j + 1) = if wst c kd j < akb.akl c kd j then wst c kd j else akb.akl c kd j := rfl
    have e2 : akb c kd (j + 1) = if wst c kd j < akb.akl c kd j then nI j else akb c kd j := rfl
    have ha := akl_in c kd j
    have hwl : wst c kd j ≤ 268435456 := by
      by_cases y : sf (c_l c j) 10 = 0
      · exact Nat.le_of_eq (if_pos y)
      · have := wst_le (kd := kd) y; omega
    rw [e1, e2] at q
    rw [fX4_askNow_15, h.2.1, if_neg (lim_f (by omega)), if_neg z, bi_e h1]
    rw [show (0 : Int32) = nI (cnt (fun y => brn c kd (c_t c) y && may (c_w c) (c_l c j) kd (nI y)) 0) from rfl]
    rw [show nI (cnt (fun y => brn c kd (c_t c) y && may (c_w c) (c_l c j) kd (nI y)) 0) = nI (cnt (fun y => brn c kd (c_t c) y && may (c_w c) (c_l c j) kd (nI y)) 0) from rfl]
    have key := askNow_40 (B := B1) hw kd (show j < 5 by omega) (fun m x0 x1 x2 x3 x4 => fX4_askNow_15 n m x0 x1 x2 x3 x4) (akb c kd j) (nI (akb.akl c kd j)) (nI j) hB1 h3 10 0 FU (by omega) (by decide)
    refine Eq.trans key ?_
    unfold fX4_askNow_117 fX4_askNow_132 fX4_askNow_147
    rw [nI_1]
    by_cases y : wst c kd j < akb.akl c kd j
    · rw [if_neg (fun x => by have := (nI_leI (by omega) (by omega)).mp x; omega), if_neg (fun x => by have := (nI_leI (by omega) (by omega)).mp x; omega)]
      rw [if_pos y, if_pos y] at q
      exact q
    · rw [if_pos ((nI_leI (by omega) (by omega)).mpr (by omega)), if_pos ((nI_leI (by omega) (by omega)).mpr (by omega))]
      rw [if_neg y, if_neg y] at q
      exact q
theorem askNow (h : RB B c) (hw : Wf c) (kd : Int32) : ∃ B', fX4_askNow B kd = some (ask_ c kd, B') ∧ Ag S60 B B' := by
  obtain ⟨B1, h1, h2⟩ := birthsNow h hw kd
  have hB1 := h.ag h2
  unfold fX4_askNow ask_
  rw [b2_e h1]
  by_cases z : bth c kd = 0
  · rw [if_pos z]
    refine ⟨B1, ?_, h2⟩
    have hn5 := hw.1
    obtain ⟨n, hn⟩ : ∃ n, FU = n + 1 := ⟨9999, rfl⟩
    rw [hn, fX4_askNow_15, hB1.2.1]
    by_cases y : nI (c_n c) ≤ 0
    · rw [if_pos y]; rfl
    · rw [if_neg y, if_pos z]; rfl
  · rw [if_neg z]
    obtain ⟨B', q, g⟩ := askNow_15 hw kd z (c_n c) 0 FU B1 hB1 (by omega) (Nat.lt_of_le_of_lt hw.1 (by decide))
    exact ⟨B', q, h2.tr g⟩
end
