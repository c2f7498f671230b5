section
variable {p : Program} {l : Launch} {e : Env} {s : State} {m : MethodId} {args : Array Value} {below : List Frame} {meth : Method} {c : Code} {Γ : Gm}
abbrev rmX4_addLitres : Room := { frames := 0, cells := 0, slots := 0, locals := 0 }
set_option maxRecDepth 100000 in
theorem iX4_addLitres_c4 : ∀ w ∈ wsX40, w ∈ wsX4_addLitres := by decide +kernel
set_option maxRecDepth 100000 in
theorem wX4_addLitres_0 : Cond.fieldLink RX4 7 "WineByYearsModel" "litresOf" "[I" ∈ wsX4_addLitres := by decide +kernel
set_option maxRecDepth 100000 in
theorem wX4_addLitres_1 : Cond.fieldLink RX4 13 "WineByYearsModel" "thought" "[I" ∈ wsX4_addLitres := by decide +kernel
def fX4_addLitres_43 (j6 : Me → Int32 → Int32 → Int32 → Option (Me)) (B : Me)  (v1 : Int32) (v3 : Int32) (v4 : Int32) (t0 : Int32) : Option (Me) := ck (inb v4 10) <| ck (inb v4 10) <| j6 (up2 B 60 v4.toNatClampNeg ((B 60 v4.toNatClampNeg) + t0)) v1 (v3 - t0) (v4 + (-1))
set_option maxRecDepth 100000 in
theorem tX4_addLitres_43 {A B : Me}  {H : Heap} {locs : List Loc} {ls : Array Slot} {v1 : Int32} {v3 : Int32} {v4 : Int32} {t0 : Int32} {BZ : Me} {j6 : Me → Int32 → Int32 → Int32 → Option (Me)} (C : Cx Γ p s m args meth c cX4_addLitres 6 none RX4 wsX4_addLitres) (hr6 : ∀ (B : Me) (v1 : Int32) (v3 : Int32) (v4 : Int32) (H : Heap) (locs : List Loc) (ls : Array Slot), j6 B v1 v3 v4 = some BZ → Wd Γ A B s.heap H locs → lv_has ls 6 [(0, .ref (Γ.2.2 58)), (1, .int v1), (3, .int v3), (4, .int v4)] → W p l e rmX4_addLitres s m args below meth c H locs 0 0 (MQ below (QV Γ A BZ) args s 0 0 (rg Γ)) (F0 m 6 ls [])) (h : fX4_addLitres_43 j6 B v1 v3 v4 t0 = some BZ)  (hW : Wd Γ A B s.heap H locs) (hl : lv_has ls 6 [(0, .ref (Γ.2.2 58)), (1, .int v1), (3, .int v3), (4, .int v4)]) : W p l e rmX4_addLitres s m args below meth c H locs 0 0 (MQ below (QV Γ A BZ) args s 0 0 (rg Γ)) (F0 m 43 ls [.int t0]) := by
  unfold fX4_addLitres_43 at h
  refine lv_istore (lv' := [(5, .int t0), (0, .ref (Γ.2.2 58)), (1, .int v1), (3, .int v3), (4, .int v4)]) C.1 C.2.1 dX4_addLitres_43 hl (by decide) rfl (fun ls hl => ?_)
  refine lv_aload_n C.1 C.2.1 dX4_addLitres_45 rfl (lv_at hl 1 rfl) ?_
  refine gX4_4 C hW rfl iX4_addLitres_c4 wX4_addLitres_1 dX4_addLitres_46 ?_
  refine lv_iload C.1 C.2.1 dX4_addLitres_49 (lv_at hl 4 rfl) ?_
  refine lv_dup2_11 C.1 C.2.1 dX4_addLitres_51 rfl rfl ?_
  obtain ⟨hi52, h⟩ := ck_s h
  refine la9 C hW ⟨rfl, rfl⟩ hi52 dX4_addLitres_52 ?_
  refine lv_iload C.1 C.2.1 dX4_addLitres_53 (lv_at hl 0 rfl) ?_
  refine lv_iadd C.1 C.2.1 dX4_addLitres_55 ?_
  obtain ⟨hi56, h⟩ := ck_s h
  refine sa9 C hW ⟨rfl, rfl⟩ hi56 dX4_addLitres_56 (fun H locs hW => ?_)
  refine lv_iload_n C.1 C.2.1 dX4_addLitres_57 rfl (lv_at hl 3 rfl) ?_
  refine lv_iload C.1 C.2.1 dX4_addLitres_58 (lv_at hl 0 rfl) ?_
  refine lv_isub C.1 C.2.1 dX4_addLitres_60 ?_
  refine lv_istore_n (lv' := [(3, .int (v3 - t0)), (5, .int t0), (0, .ref (Γ.2.2 58)), (1, .int v1), (4, .int v4)]) C.1 C.2.1 dX4_addLitres_61 rfl hl (by decide) rfl (fun ls hl => ?_)
  refine lv_iinc (v := (v4 + (-1))) (lv' := [(4, .int (v4 + (-1))), (3, .int (v3 - t0)), (5, .int t0), (0, .ref (Γ.2.2 58)), (1, .int v1)]) C.1 C.2.1 dX4_addLitres_62 hl (k := 4) rfl rfl (by decide) rfl (fun ls hl => ?_)
  refine lv_goto (tgt := 6) C.1 C.2.1 dX4_addLitres_65 (by decide) ?_
  exact hr6 _ _ _ _ _ _ _ h  hW (lv_sub hl [3, 4, 1, 0] rfl)
def fX4_addLitres_6   : Nat → Me → Int32 → Int32 → Int32 → Option (Me)
  | 0, _, _, _, _ => none
  | n + 1, B, v1, v3, v4 => if v4 < 0 then (some B) else (ck (inb ((10 * v1) + v4) 50) <| if v3 ≤ (B 59 ((10 * v1) + v4).toNatClampNeg) then (fX4_addLitres_43 (fun m x0 x1 x2 => fX4_addLitres_6 n m x0 x1 x2) B v1 v3 v4 v3) else (ck (inb ((10 * v1) + v4) 50) <| fX4_addLitres_43 (fun m x0 x1 x2 => fX4_addLitres_6 n m x0 x1 x2) B v1 v3 v4 (B 59 ((10 * v1) + v4).toNatClampNeg)))
set_option maxRecDepth 100000 in
theorem tX4_addLitres_6 {A : Me}  {BZ : Me}  (C : Cx Γ p s m args meth c cX4_addLitres 6 none RX4 wsX4_addLitres)  (n : Nat) : ∀ (B : Me) (v1 : Int32) (v3 : Int32) (v4 : Int32) (H : Heap) (locs : List Loc) (ls : Array Slot), fX4_addLitres_6 n B v1 v3 v4 = some BZ → Wd Γ A B s.heap H locs → lv_has ls 6 [(0, .ref (Γ.2.2 58)), (1, .int v1), (3, .int v3), (4, .int v4)] → W p l e rmX4_addLitres s m args below meth c H locs 0 0 (MQ below (QV Γ A BZ) args s 0 0 (rg Γ)) (F0 m 6 ls []) := by
  induction n with
  | zero =>
    intro _ _ _ _ H locs ls h
    exact nomatch (show (none : Option (Me)) = some BZ from h)
  | succ n ih =>
    intro B v1 v3 v4 H locs ls h  hW hl
    rw [fX4_addLitres_6] at h
    refine lv_iload C.1 C.2.1 dX4_addLitres_6 (lv_at hl 3 rfl) ?_
    refine lv_if_lt (tgt := 68) C.1 C.2.1 dX4_addLitres_8 (by decide) (fun c_8 => ?_) (fun c_8 => ?_)
    · have h := if_y h c_8
      cases h
      exact z_vret C hW dX4_addLitres_68
    · have h := if_n h c_8
      refine lv_aload_n C.1 C.2.1 dX4_addLitres_11 rfl (lv_at hl 0 rfl) ?_
      refine gX4_3 C hW rfl iX4_addLitres_c4 wX4_addLitres_0 dX4_addLitres_12 ?_
      refine lv_bipush (v := 10) C.1 C.2.1 dX4_addLitres_15 (by decide) ?_
      refine lv_iload_n C.1 C.2.1 dX4_addLitres_17 rfl (lv_at hl 1 rfl) ?_
      refine lv_imul C.1 C.2.1 dX4_addLitres_18 ?_
      refine lv_iload C.1 C.2.1 dX4_addLitres_19 (lv_at hl 3 rfl) ?_
      refine lv_iadd C.1 C.2.1 dX4_addLitres_21 ?_
      obtain ⟨hi22, h⟩ := ck_s h
      refine la9 C hW ⟨rfl, rfl⟩ hi22 dX4_addLitres_22 ?_
      refine lv_iload_n C.1 C.2.1 dX4_addLitres_23 rfl (lv_at hl 2 rfl) ?_
      refine lv_icmp_ge (tgt := 42) C.1 C.2.1 dX4_addLitres_24 (by decide) (fun c_24 => ?_) (fun c_24 => ?_)
      · have h := if_y h c_24
        refine lv_iload_n C.1 C.2.1 dX4_addLitres_42 rfl (lv_at hl 2 rfl) ?_
        exact tX4_addLitres_43 C ih h  hW (lv_sub hl [0, 1, 2, 3] rfl)
      · have h := if_n h c_24
        refine lv_aload_n C.1 C.2.1 dX4_addLitres_27 rfl (lv_at hl 0 rfl) ?_
        refine gX4_3 C hW rfl iX4_addLitres_c4 wX4_addLitres_0 dX4_addLitres_28 ?_
        refine lv_bipush (v := 10) C.1 C.2.1 dX4_addLitres_31 (by decide) ?_
        refine lv_iload_n C.1 C.2.1 dX4_addLitres_33 rfl (lv_at hl 1 rfl) ?_
        refine lv_imul C.1 C.2.1 dX4_addLitres_34 ?_
        refine lv_iload C.1 C.2.1 dX4_addLitres_35 (lv_at hl 3 rfl) ?_
        refine lv_iadd C.1 C.2.1 dX4_addLitres_37 ?_
        obtain ⟨hi38, h⟩ := ck_s h
        refine la9 C hW ⟨rfl, rfl⟩ hi38 dX4_addLitres_38 ?_
        refine lv_goto (tgt := 43) C.1 C.2.1 dX4_addLitres_39 (by decide) ?_
        exact tX4_addLitres_43 C ih h  hW (lv_sub hl [0, 1, 2, 3] rfl)
def fX4_addLitres  (B : Me)  (v1 : Int32) (v2 : Int32) : Option (Me) := fX4_addLitres_6 FU B v1 v2 9
set_option maxRecDepth 100000 in
theorem tX4_addLitres_0 {A B : Me}  {H : Heap} {locs : List Loc} {ls : Array Slot} {v1 : Int32} {v2 : Int32} {BZ : Me}  (C : Cx Γ p s m args meth c cX4_addLitres 6 none RX4 wsX4_addLitres)  (h : fX4_addLitres B v1 v2 = some BZ)  (hW : Wd Γ A B s.heap H locs) (hl : lv_has ls 6 [(0, .ref (Γ.2.2 58)), (1, .int v1), (2, .int v2)]) : W p l e rmX4_addLitres s m args below meth c H locs 0 0 (MQ below (QV Γ A BZ) args s 0 0 (rg Γ)) (F0 m 0 ls []) := by
  unfold fX4_addLitres at h
  refine lv_iload_n C.1 C.2.1 dX4_addLitres_0 rfl (lv_at hl 2 rfl) ?_
  refine lv_istore_n (lv' := [(3, .int v2), (0, .ref (Γ.2.2 58)), (1, .int v1), (2, .int v2)]) C.1 C.2.1 dX4_addLitres_1 rfl hl (by decide) rfl (fun ls hl => ?_)
  refine lv_bipush (v := 9) C.1 C.2.1 dX4_addLitres_2 (by decide) ?_
  refine lv_istore (lv' := [(4, .int 9), (3, .int v2), (0, .ref (Γ.2.2 58)), (1, .int v1), (2, .int v2)]) C.1 C.2.1 dX4_addLitres_4 hl (by decide) rfl (fun ls hl => ?_)
  exact tX4_addLitres_6 C  FU _ _ _ _ _ _ _ h  hW (lv_sub hl [2, 3, 1, 0] rfl)
theorem mt_X4_addLitres {l : Launch} {Γ : Gm} {A B : Me}  {v1 : Int32} {v2 : Int32} {BZ : Me}  (h : fX4_addLitres B v1 v2 = some BZ) : Met l yX4_addLitres wsX4_addLitres rmX4_addLitres (PC Γ A B [.ref (Γ.2.2 58), .int v1, .int v2]) (QV Γ A BZ) 0 0 (rg Γ) :=
  met_of (by decide) rfl (Nat.le_of_ble_eq_true rfl) (fun p e s m below meth c ls C hW hl => tX4_addLitres_0 C  h  hW (lv_sub (l := [(0, .ref (Γ.2.2 58)), (1, .int v1), (2, .int v2)]) hl [0, 1, 2] rfl))
abbrev rmX4_isTopped : Room := { frames := 4, cells := 0, slots := 0, locals := 92 }
def fX4_isTopped_28  (B : Me)  (t0 : Int32) : Option (Int32 × Me) := ck (zb t0) <| some (t0, B)
set_option maxRecDepth 100000 in
theorem tX4_isTopped_28 {A B : Me}  {H : Heap} {locs : List Loc} {ls : Array Slot} {t0 : Int32} {rZ : Int32} {BZ : Me}  (C : Cx Γ p s m args meth c cX4_isTopped 5 (some .boolean) RX4 wsX4_isTopped)  (h : fX4_isTopped_28 B t0 = some (rZ, BZ))  (hW : Wd Γ A B s.heap H locs) (hl : lv_has ls 5 []) : W p l e rmX4_isTopped s m args below meth c H locs 0 0 (MQ below (QI Γ A BZ rZ) args s 0 0 (rg Γ)) (F0 m 28 ls [.int t0]) := by
  unfold fX4_isTopped_28 at h
  obtain ⟨hz, h⟩ := ck_s h
  cases h
  exact z_zret C hW hz dX4_isTopped_28
def fX4_isTopped  (B : Me)  (v1 : Int32) (v2 : Int32) (v3 : Int32) (v4 : Int32) : Option (Int32 × Me) := bi (fX4_think B v1) fun B2 => bi (fX4_addLitres B2 v2 v3) fun B8 => bi (fX4_whoMay B8) fun r12 => if (r12 &&& v4) = v4 then (fX4_isTopped_28 B8 1) else (fX4_isTopped_28 B8 0)
set_option maxRecDepth 100000 in
theorem tX4_isTopped_0 {A B : Me}  {H : Heap} {locs : List Loc} {ls : Array Slot} {v1 : Int32} {v2 : Int32} {v3 : Int32} {v4 : Int32} {rZ : Int32} {BZ : Me}  (C : Cx Γ p s m args meth c cX4_isTopped 5 (some .boolean) RX4 wsX4_isTopped)  (h : fX4_isTopped B v1 v2 v3 v4 = some (rZ, BZ))  (hW : Wd Γ A B s.heap H locs) (hl : lv_has ls 5 [(0, .ref (Γ.2.2 58)), (1, .int v1), (2, .int v2), (3, .int v3), (4, .int v4)]) : W p l e rmX4_isTopped s m args below meth c H locs 0 0 (MQ below (QI Γ A BZ rZ) args s 0 0 (rg Γ)) (F0 m 0 ls []) := by
  unfold fX4_isTopped at h
  refine lv_aload_n C.1 C.2.1 dX4_isTopped_0 rfl (lv_at hl 0 rfl) ?_
  refine lv_iload_n C.1 C.2.1 dX4_isTopped_1 rfl (lv_at hl 1 rfl) ?_
  obtain ⟨B2, hc2, h⟩ := bi_s h
  refine cVv C hW (As := [.int v1]) (rest := []) (mt_X4_think  hc2) (cwV 1 C.2.2.2.2.2.1 gX4_isTopped_X4_think rfl rfl rfl (by decide +kernel) ⟨Nat.le_of_ble_eq_true rfl, Nat.le_of_ble_eq_true rfl⟩) (rcv4 C hW (rfl : kd 58 = 4)) rfl hl.1 rfl (Nat.le_of_ble_eq_true rfl) dX4_isTopped_2 (Nat.zero_le _) (Nat.zero_le _) (fun H locs hW => ?_)
  refine lv_aload_n C.1 C.2.1 dX4_isTopped_5 rfl (lv_at hl 0 rfl) ?_
  refine lv_iload_n C.1 C.2.1 dX4_isTopped_6 rfl (lv_at hl 2 rfl) ?_
  refine lv_iload_n C.1 C.2.1 dX4_isTopped_7 rfl (lv_at hl 3 rfl) ?_
  obtain ⟨B8, hc8, h⟩ := bi_s h
  refine cVv C hW (As := [.int v2, .int v3]) (rest := []) (mt_X4_addLitres  hc8) (cwV 2 C.2.2.2.2.2.1 gX4_isTopped_X4_addLitres rfl rfl rfl (by decide +kernel) ⟨Nat.le_of_ble_eq_true rfl, Nat.le_of_ble_eq_true rfl⟩) (rcv4 C hW (rfl : kd 58 = 4)) rfl hl.1 rfl (Nat.le_of_ble_eq_true rfl) dX4_isTopped_8 (Nat.zero_le _) (Nat.zero_le _) (fun H locs hW => ?_)
  refine lv_aload_n C.1 C.2.1 dX4_isTopped_11 rfl (lv_at hl 0 rfl) ?_
  obtain ⟨r12, hc12, h⟩ := bi_s h
  refine cVi C hW (As := []) (rest := []) (mt_X4_whoMay  hc12) (cwV 0 C.2.2.2.2.2.1 gX4_isTopped_X4_whoMay rfl rfl rfl (by decide +kernel) ⟨Nat.le_of_ble_eq_true rfl, Nat.le_of_ble_eq_true rfl⟩) (rcv4 C hW (rfl : kd 58 = 4)) rfl hl.1 rfl (Nat.le_of_ble_eq_true rfl) dX4_isTopped_12 (Nat.zero_le _) (Nat.zero_le _) (fun H locs hW => ?_)
  refine lv_iload C.1 C.2.1 dX4_isTopped_15 (lv_at hl 4 rfl) ?_
  refine lv_iand C.1 C.2.1 dX4_isTopped_17 ?_
  refine lv_iload C.1 C.2.1 dX4_isTopped_18 (lv_at hl 4 rfl) ?_
  refine lv_icmp_ne (tgt := 27) C.1 C.2.1 dX4_isTopped_20 (by decide) (fun c_20 => ?_) (fun c_20 => ?_)
  · have h := if_n h c_20
    refine lv_iconst (v := 0) C.1 C.2.1 dX4_isTopped_27 (by decide) ?_
    exact tX4_isTopped_28 C  h  hW (lv_sub hl [] rfl)
  · have h := if_y h c_20
    refine lv_iconst (v := 1) C.1 C.2.1 dX4_isTopped_23 (by decide) ?_
    refine lv_goto (tgt := 28) C.1 C.2.1 dX4_isTopped_24 (by decide) ?_
    exact tX4_isTopped_28 C  h  hW (lv_sub hl [] rfl)
theorem mt_X4_isTopped {l : Launch} {Γ : Gm} {A B : Me}  {v1 : Int32} {v2 : Int32} {v3 : Int32} {v4 : Int32} {rZ : Int32} {BZ : Me}  (h : fX4_isTopped B v1 v2 v3 v4 = some (rZ, BZ)) : Met l yX4_isTopped wsX4_isTopped rmX4_isTopped (PC Γ A B [.ref (Γ.2.2 58), .int v1, .int v2, .int v3, .int v4]) (QI Γ A BZ rZ) 0 0 (rg Γ) :=
  met_of (by decide) rfl (Nat.le_of_ble_eq_true rfl) (fun p e s m below meth c ls C hW hl => tX4_isTopped_0 C  h  hW (lv_sub (l := [(0, .ref (Γ.2.2 58)), (1, .int v1), (2, .int v2), (3, .int v3), (4, .int v4)]) hl [0, 1, 2, 3, 4] rfl))
abbrev rmX4_topNow : Room := { frames := 5, cells := 0, slots := 0, locals := 116 }
set_option maxRecDepth 100000 in
theorem iX4_topNow_c4 : ∀ w ∈ wsX40, w ∈ wsX4_topNow := by decide +kernel
set_option maxRecDepth 100000 in
theorem wX4_topNow_0 : Cond.fieldLink RX4 82 "WineByYearsModel" "casks" "I" ∈ wsX4_topNow := by decide +kernel
def fX4_topNow_24  (B : Me)  (t0 : Int32) : Option (Int32 × Me) := some (t0, B)
set_option maxRecDepth 100000 in
theorem tX4_topNow_24 {A B : Me}  {H : Heap} {locs : List Loc} {ls : Array Slot} {t0 : Int32} {rZ : Int32} {BZ : Me}  (C : Cx Γ p s m args meth c cX4_topNow 7 (some .int) RX4 wsX4_topNow)  (h : fX4_topNow_24 B t0 = some (rZ, BZ))  (hW : Wd Γ A B s.heap H locs) (hl : lv_has ls 7 []) : W p l e rmX4_topNow s m args below meth c H locs 0 0 (MQ below (QI Γ A BZ rZ) args s 0 0 (rg Γ)) (F0 m 24 ls [.int t0]) := by
  unfold fX4_topNow_24 at h
  cases h
  exact z_iret C hW dX4_topNow_24
def fX4_topNow_113 (j28 : Me → Int32 → Int32 → Int32 → Int32 → Option (Int32 × Me)) (j38 : Me → Int32 → Int32 → Int32 → Int32 → Int32 → Option (Int32 × Me)) (B : Me)  (t0 : Int32) : Option (Int32 × Me) := some (t0, B)
set_option maxRecDepth 100000 in
theorem tX4_topNow_113 {A B : Me}  {H : Heap} {locs : List Loc} {ls : Array Slot} {t0 : Int32} {rZ : Int32} {BZ : Me} {j28 : Me → Int32 → Int32 → Int32 → Int32 → Option (Int32 × Me)} {j38 : Me → Int32 → Int32 → Int32 → Int32 → Int32 → Option (Int32 × Me)} (C : Cx Γ p s m args meth c cX4_topNow 7 (some .int) RX4 wsX4_topNow) (hr28 : ∀ (B : Me) (v1 : Int32) (v2 : Int32) (v3 : Int32) (v4 : Int32) (H : Heap) (locs : List Loc) (ls : Array Slot), j28 B v1 v2 v3 v4 = some (rZ, BZ) → Wd Γ A B s.heap H locs → lv_has ls 7 [(0, .ref (Γ.2.2 58)), (1, .int v1), (2, .int v2), (3, .int v3), (4, .int v4)] → W p l e rmX4_topNow s m args below meth c H locs 0 0 (MQ below (QI Γ A BZ rZ) args s 0 0 (rg Γ)) (F0 m 28 ls [])) (hr38 : ∀ (B : Me) (v1 : Int32) (v2 : Int32) (v3 : Int32) (v4 : Int32) (v5 : Int32) (H : Heap) (locs : List Loc) (ls : Array Slot), j38 B v1 v2 v3 v4 v5 = some (rZ, BZ) → Wd Γ A B s.heap H locs → lv_has ls 7 [(0, .ref (Γ.2.2 58)), (1, .int v1), (2, .int v2), (3, .int v3), (4, .int v4), (5, .int v5)] → W p l e rmX4_topNow s m args below meth c H locs 0 0 (MQ below (QI Γ A BZ rZ) args s 0 0 (rg Γ)) (F0 m 38 ls [])) (h : fX4_topNow_113 j28 j38 B t0 = some (rZ, BZ))  (hW : Wd Γ A B s.heap H locs) (hl : lv_has ls 7 []) : W p l e rmX4_topNow s m args below meth c H locs 0 0 (MQ below (QI Γ A BZ rZ) args s 0 0 (rg Γ)) (F0 m 113 ls [.int t0]) := by
  unfold fX4_topNow_113 at h
  cases h
  exact z_iret C hW dX4_topNow_113
def fX4_topNow_114 (j28 : Me → Int32 → Int32 → Int32 → Int32 → Option (Int32 × Me)) (j38 : Me → Int32 → Int32 → Int32 → Int32 → Int32 → Option (Int32 × Me)) (B : Me)  (v1 : Int32) (v2 : Int32) (v3 : Int32) (v4 : Int32) (v5 : Int32) : Option (Int32 × Me) := j38 B v1 v2 v3 v4 (v5 + 1)
set_option maxRecDepth 100000 in
theorem tX4_topNow_114 {A B : Me}  {H : Heap} {locs : List Loc} {ls : Array Slot} {v1 : Int32} {v2 : Int32} {v3 : Int32} {v4 : Int32} {v5 : Int32} {rZ : Int32} {BZ : Me} {j28 : Me → Int32 → Int32 → Int32 → Int32 → Option (Int32 × Me)} {j38 : Me → Int32 → Int32 → Int32 → Int32 → Int32 → Option (Int32 × Me)} (C : Cx Γ p s m args meth c cX4_topNow 7 (some .int) RX4 wsX4_topNow) (hr28 : ∀ (B : Me) (v1 : Int32) (v2 : Int32) (v3 : Int32) (v4 : Int32) (H : Heap) (locs : List Loc) (ls : Array Slot), j28 B v1 v2 v3 v4 = some (rZ, BZ) → Wd Γ A B s.heap H locs → lv_has ls 7 [(0, .ref (Γ.2.2 58)), (1, .int v1), (2, .int v2), (3, .int v3), (4, .int v4)] → W p l e rmX4_topNow s m args below meth c H locs 0 0 (MQ below (QI Γ A BZ rZ) args s 0 0 (rg Γ)) (F0 m 28 ls [])) (hr38 : ∀ (B : Me) (v1 : Int32) (v2 : Int32) (v3 : Int32) (v4 : Int32) (v5 : Int32) (H : Heap) (locs : List Loc) (ls : Array Slot), j38 B v1 v2 v3 v4 v5 = some (rZ, BZ) → Wd Γ A B s.heap H locs → lv_has ls 7 [(0, .ref (Γ.2.2 58)), (1, .int v1), (2, .int v2), (3, .int v3), (4, .int v4), (5, .int v5)] → W p l e rmX4_topNow s m args below meth c H locs 0 0 (MQ below (QI Γ A BZ rZ) args s 0 0 (rg Γ)) (F0 m 38 ls [])) (h : fX4_topNow_114 j28 j38 B v1 v2 v3 v4 v5 = some (rZ, BZ))  (hW : Wd Γ A B s.heap H locs) (hl : lv_has ls 7 [(0, .ref (Γ.2.2 58)), (1, .int v1), (2, .int v2), (3, .int v3), (4, .int v4), (5, .int v5)]) : W p l e rmX4_topNow s m args below meth c H locs 0 0 (MQ below (QI Γ A BZ rZ) args s 0 0 (rg Γ)) (F0 m 114 ls []) := by
  unfold fX4_topNow_114 at h
  refine lv_iinc (v := (v5 + 1)) (lv' := [(5, .int (v5 + 1)), (0, .ref (Γ.2.2 58)), (1, .int v1), (2, .int v2), (3, .int v3), (4, .int v4)]) C.1 C.2.1 dX4_topNow_114 hl (k := 5) rfl rfl (by decide) rfl (fun ls hl => ?_)
  refine lv_goto (tgt := 38) C.1 C.2.1 dX4_topNow_117 (by decide) ?_
  exact hr38 _ _ _ _ _ _ _ _ _ h  hW (lv_sub hl [1, 2, 3, 4, 5, 0] rfl)
def fX4_topNow_82 (j28 : Me → Int32 → Int32 → Int32 → Int32 → Option (Int32 × Me)) (j38 : Me → Int32 → Int32 → Int32 → Int32 → Int32 → Option (Int32 × Me)) (B : Me)  (v1 : Int32) (v2 : Int32) (v3 : Int32) (v4 : Int32) (v5 : Int32) (t0 : Int32) : Option (Int32 × Me) := if t0 = 0 then (fX4_topNow_114 j28 j38 B v1 v2 v3 v4 v5) else (b2 (fX4_isTopped B v2 v5 v4 v1) fun r96 B96 => if r96 = 0 then (fX4_topNow_114 j28 j38 B96 v1 v2 v3 v4 v5) else (if v3 = 0 then (fX4_topNow_113 j28 j38 B96 v4) else (fX4_topNow_113 j28 j38 B96 v5)))
set_option maxRecDepth 100000 in
theorem tX4_topNow_82 {A B : Me}  {H : Heap} {locs : List Loc} {ls : Array Slot} {v1 : Int32} {v2 : Int32} {v3 : Int32} {v4 : Int32} {v5 : Int32} {t0 : Int32} {rZ : Int32} {BZ : Me} {j28 : Me → Int32 → Int32 → Int32 → Int32 → Option (Int32 × Me)} {j38 : Me → Int32 → Int32 → Int32 → Int32 → Int32 → Option (Int32 × Me)} (C : Cx Γ p s m args meth c cX4_topNow 7 (some .int) RX4 wsX4_topNow) (hr28 : ∀ (B : Me) (v1 : Int32) (v2 : Int32) (v3 : Int32) (v4 : Int32) (H : Heap) (locs : List Loc) (ls : Array Slot), j28 B v1 v2 v3 v4 = some (rZ, BZ) → Wd Γ A B s.heap H locs → lv_has ls 7 [(0, .ref (Γ.2.2 58)), (1, .int v1), (2, .int v2), (3, .int v3), (4, .int v4)] → W p l e rmX4_topNow s m args below meth c H locs 0 0 (MQ below (QI Γ A BZ rZ) args s 0 0 (rg Γ)) (F0 m 28 ls [])) (hr38 : ∀ (B : Me) (v1 : Int32) (v2 : Int32) (v3 : Int32) (v4 : Int32) (v5 : Int32) (H : Heap) (locs : List Loc) (ls : Array Slot), j38 B v1 v2 v3 v4 v5 = some (rZ, BZ) → Wd Γ A B s.heap H locs → lv_has ls 7 [(0, .ref (Γ.2.2 58)), (1, .int v1), (2, .int v2), (3, .int v3), (4, .int v4), (5, .int v5)] → W p l e rmX4_topNow s m args below meth c H locs 0 0 (MQ below (QI Γ A BZ rZ) args s 0 0 (rg Γ)) (F0 m 38 ls [])) (h : fX4_topNow_82 j28 j38 B v1 v2 v3 v4 v5 t0 = some (rZ, BZ))  (hW : Wd Γ A B s.heap H locs) (hl : lv_has ls 7 [(0, .ref (Γ.2.2 58)), (1, .int v1), (2, .int v2), (3, .int v3), (4, .int v4), (5, .int v5)]) : W p l e rmX4_topNow s m args below meth c H locs 0 0 (MQ below (QI Γ A BZ rZ) args s 0 0 (rg Γ)) (F0 m 82 ls [.int t0]) := by
  unfold fX4_topNow_82 at h
  refine lv_istore (lv' := [(6, .int t0), (0, .ref (Γ.2.2 58)), (1, .int v1), (2, .int v2), (3, .int v3), (4, .int v4), (5, .int v5)]) C.1 C.2.1 dX4_topNow_82 hl (by decide) rfl (fun ls hl => ?_)
  refine lv_iload C.1 C.2.1 dX4_topNow_84 (lv_at hl 0 rfl) ?_
  refine lv_if_eq (tgt := 114) C.1 C.2.1 dX4_topNow_86 (by decide) (fun c_86 => ?_) (fun c_86 => ?_)
  · have h := if_y h c_86
    exact tX4_topNow_114 C hr28 hr38 h  hW (lv_sub hl [1, 2, 3, 4, 5, 6] rfl)
  · have h := if_n h c_86
    refine lv_aload_n C.1 C.2.1 dX4_topNow_89 rfl (lv_at hl 1 rfl) ?_
    refine lv_iload_n C.1 C.2.1 dX4_topNow_90 rfl (lv_at hl 3 rfl) ?_
    refine lv_iload C.1 C.2.1 dX4_topNow_91 (lv_at hl 6 rfl) ?_
    refine lv_iload C.1 C.2.1 dX4_topNow_93 (lv_at hl 5 rfl) ?_
    refine lv_iload_n C.1 C.2.1 dX4_topNow_95 rfl (lv_at hl 2 rfl) ?_
    obtain ⟨r96, B96, hc96, h⟩ := b2_s h
    refine cVi C hW (As := [.int v2, .int v5, .int v4, .int v1]) (rest := []) (mt_X4_isTopped  hc96) (cwV 4 C.2.2.2.2.2.1 gX4_topNow_X4_isTopped rfl rfl rfl (by decide +kernel) ⟨Nat.le_of_ble_eq_true rfl, Nat.le_of_ble_eq_true rfl⟩) (rcv4 C hW (rfl : kd 58 = 4)) rfl hl.1 rfl (Nat.le_of_ble_eq_true rfl) dX4_topNow_96 (Nat.zero_le _) (Nat.zero_le _) (fun H locs hW => ?_)
    refine lv_if_eq (tgt := 114) C.1 C.2.1 dX4_topNow_99 (by decide) (fun c_99 => ?_) (fun c_99 => ?_)
    · have h := if_y h c_99
      exact tX4_topNow_114 C hr28 hr38 h  hW (lv_sub hl [1, 2, 3, 4, 5, 6] rfl)
    · have h := if_n h c_99
      refine lv_iload_n C.1 C.2.1 dX4_topNow_102 rfl (lv_at hl 4 rfl) ?_
      refine lv_if_ne (tgt := 111) C.1 C.2.1 dX4_topNow_103 (by decide) (fun c_103 => ?_) (fun c_103 => ?_)
      · have h := if_n h c_103
        refine lv_iload C.1 C.2.1 dX4_topNow_111 (lv_at hl 6 rfl) ?_
        exact tX4_topNow_113 C hr28 hr38 h  hW (lv_sub hl [] rfl)
      · have h := if_y h c_103
        refine lv_iload C.1 C.2.1 dX4_topNow_106 (lv_at hl 5 rfl) ?_
        refine lv_goto (tgt := 113) C.1 C.2.1 dX4_topNow_108 (by decide) ?_
        exact tX4_topNow_113 C hr28 hr38 h  hW (lv_sub hl [] rfl)
def fX4_topNow_81 (j28 : Me → Int32 → Int32 → Int32 → Int32 → Option (Int32 × Me)) (j38 : Me → Int32 → Int32 → Int32 → Int32 → Int32 → Option (Int32 × Me)) (B : Me)  (v1 : Int32) (v2 : Int32) (v3 : Int32) (v4 : Int32) (v5 : Int32) : Option (Int32 × Me) := fX4_topNow_82 j28 j38 B v1 v2 v3 v4 v5 0
set_option maxRecDepth 100000 in
theorem tX4_topNow_81 {A B : Me}  {H : Heap} {locs : List Loc} {ls : Array Slot} {v1 : Int32} {v2 : Int32} {v3 : Int32} {v4 : Int32} {v5 : Int32} {rZ : Int32} {BZ : Me} {j28 : Me → Int32 → Int32 → Int32 → Int32 → Option (Int32 × Me)} {j38 : Me → Int32 → Int32 → Int32 → Int32 → Int32 → Option (Int32 × Me)} (C : Cx Γ p s m args meth c cX4_topNow 7 (some .int) RX4 wsX4_topNow) (hr28 : ∀ (B : Me) (v1 : Int32) (v2 : Int32) (v3 : Int32) (v4 : Int32) (H : Heap) (locs : List Loc) (ls : Array Slot), j28 B v1 v2 v3 v4 = some (rZ, BZ) → Wd Γ A B s.heap H locs → lv_has ls 7 [(0, .ref (Γ.2.2 58)), (1, .int v1), (2, .int v2), (3, .int v3), (4, .int v4)] → W p l e rmX4_topNow s m args below meth c H locs 0 0 (MQ below (QI Γ A BZ rZ) args s 0 0 (rg Γ)) (F0 m 28 ls [])) (hr38 : ∀ (B : Me) (v1 : Int32) (v2 : Int32) (v3 : Int32) (v4 : Int32) (v5 : Int32) (H : Heap) (locs : List Loc) (ls : Array Slot), j38 B v1 v2 v3 v4 v5 = some (rZ, BZ) → Wd Γ A B s.heap H locs → lv_has ls 7 [(0, .ref (Γ.2.2 58)), (1, .int v1), (2, .int v2), (3, .int v3), (4, .int v4), (5, .int v5)] → W p l e rmX4_topNow s m args below meth c H locs 0 0 (MQ below (QI Γ A BZ rZ) args s 0 0 (rg Γ)) (F0 m 38 ls [])) (h : fX4_topNow_81 j28 j38 B v1 v2 v3 v4 v5 = some (rZ, BZ))  (hW : Wd Γ A B s.heap H locs) (hl : lv_has ls 7 [(0, .ref (Γ.2.2 58)), (1, .int v1), (2, .int v2), (3, .int v3), (4, .int v4), (5, .int v5)]) : W p l e rmX4_topNow s m args below meth c H locs 0 0 (MQ below (QI Γ A BZ rZ) args s 0 0 (rg Γ)) (F0 m 81 ls []) := by
  unfold fX4_topNow_81 at h
  refine lv_iconst (v := 0) C.1 C.2.1 dX4_topNow_81 (by decide) ?_
  exact tX4_topNow_82 C hr28 hr38 h  hW (lv_sub hl [0, 1, 2, 3, 4, 5] rfl)
def fX4_topNow_38 (j28 : Me → Int32 → Int32 → Int32 → Int32 → Option (Int32 × Me))  : Nat → Me → Int32 → Int32 → Int32 → Int32 → Int32 → Option (Int32 × Me)
  | 0, _, _, _, _, _, _ => none
  | n + 1, B, v1, v2, v3, v4, v5 => if (B 58 2) ≤ v5 then (j28 B v1 v2 v3 (v4 + 1)) else (if v5 = v2 then (fX4_topNow_81 j28 (fun m x0 x1 x2 x3 x4 => fX4_topNow_38 j28 n m x0 x1 x2 x3 x4) B v1 v2 v3 v4 v5) else (b2 (fX4_litresIn B v5) fun r56 B56 => if r56 < v4 then (fX4_topNow_81 j28 (fun m x0 x1 x2 x3 x4 => fX4_topNow_38 j28 n m x0 x1 x2 x3 x4) B56 v1 v2 v3 v4 v5) else (b2 (fX4_litresIn B56 v2) fun r66 B66 => if 20 < (r66 + v4) then (fX4_topNow_81 j28 (fun m x0 x1 x2 x3 x4 => fX4_topNow_38 j28 n m x0 x1 x2 x3 x4) B66 v1 v2 v3 v4 v5) else (fX4_topNow_82 j28 (fun m x0 x1 x2 x3 x4 => fX4_topNow_38 j28 n m x0 x1 x2 x3 x4) B66 v1 v2 v3 v4 v5 1))))
set_option maxRecDepth 100000 in
theorem tX4_topNow_38 {A : Me}  {rZ : Int32} {BZ : Me} {j28 : Me → Int32 → Int32 → Int32 → Int32 → Option (Int32 × Me)} (C : Cx Γ p s m args meth c cX4_topNow 7 (some .int) RX4 wsX4_topNow) (hr28 : ∀ (B : Me) (v1 : Int32) (v2 : Int32) (v3 : Int32) (v4 : Int32) (H : Heap) (locs : List Loc) (ls : Array Slot), j28 B v1 v2 v3 v4 = some (rZ, BZ) → Wd Γ A B s.heap H locs → lv_has ls 7 [(0, .ref (Γ.2.2 58)), (1, .int v1), (2, .int v2), (3, .int v3), (4, .int v4)] → W p l e rmX4_topNow s m args below meth c H locs 0 0 (MQ below (QI Γ A BZ rZ) args s 0 0 (rg Γ)) (F0 m 28 ls [])) (n : Nat) : ∀ (B : Me) (v1 : Int32) (v2 : Int32) (v3 : Int32) (v4 : Int32) (v5 : Int32) (H : Heap) (locs : List Loc) (ls : Array Slot), fX4_topNow_38 j28 n B v1 v2 v3 v4 v5 = some (rZ, BZ) → Wd Γ A B s.heap H locs → lv_has ls 7 [(0, .ref (Γ.2.2 58)), (1, .int v1), (2, .int v2), (3, .int v3), (4, .int v4), (5, .int v5)] → W p l e rmX4_topNow s m args below meth c H locs 0 0 (MQ below (QI Γ A BZ rZ) args s 0 0 (rg Γ)) (F0 m 38 ls []) := by
  induction n with
  | zero =>
    intro _ _ _ _ _ _ H locs ls h
    exact nomatch (show (none : Option (Int32 × Me)) = some (rZ, BZ) from h)
  | succ n ih =>
    intro B v1 v2 v3 v4 v5 H locs ls h  hW hl
    rw [fX4_topNow_38] at h
    refine lv_iload C.1 C.2.1 dX4_topNow_38 (lv_at hl 5 rfl) ?_
    refine lv_aload_n C.1 C.2.1 dX4_topNow_40 rfl (lv_at hl 0 rfl) ?_
    refine gX4_2 C hW rfl iX4_topNow_c4 wX4_topNow_0 dX4_topNow_41 ?_
    refine lv_icmp_ge (tgt := 120) C.1 C.2.1 dX4_topNow_44 (by decide) (fun c_44 => ?_) (fun c_44 => ?_)
    · have h := if_y h c_44
      refine lv_iinc (v := (v4 + 1)) (lv' := [(4, .int (v4 + 1)), (0, .ref (Γ.2.2 58)), (1, .int v1), (2, .int v2), (3, .int v3), (5, .int v5)]) C.1 C.2.1 dX4_topNow_120 hl (k := 4) rfl rfl (by decide) rfl (fun ls hl => ?_)
      refine lv_goto (tgt := 28) C.1 C.2.1 dX4_topNow_123 (by decide) ?_
      exact hr28 _ _ _ _ _ _ _ _ h  hW (lv_sub hl [1, 2, 3, 4, 0] rfl)
    · have h := if_n h c_44
      refine lv_iload C.1 C.2.1 dX4_topNow_47 (lv_at hl 5 rfl) ?_
      refine lv_iload_n C.1 C.2.1 dX4_topNow_49 rfl (lv_at hl 2 rfl) ?_
      refine lv_icmp_eq (tgt := 81) C.1 C.2.1 dX4_topNow_50 (by decide) (fun c_50 => ?_) (fun c_50 => ?_)
      · have h := if_y h c_50
        exact tX4_topNow_81 C hr28 ih h  hW (lv_sub hl [0, 1, 2, 3, 4, 5] rfl)
      · have h := if_n h c_50
        refine lv_aload_n C.1 C.2.1 dX4_topNow_53 rfl (lv_at hl 0 rfl) ?_
        refine lv_iload C.1 C.2.1 dX4_topNow_54 (lv_at hl 5 rfl) ?_
        obtain ⟨r56, B56, hc56, h⟩ := b2_s h
        refine cVi C hW (As := [.int v5]) (rest := []) (mt_X4_litresIn  hc56) (cwV 1 C.2.2.2.2.2.1 gX4_topNow_X4_litresIn rfl rfl rfl (by decide +kernel) ⟨Nat.le_of_ble_eq_true rfl, Nat.le_of_ble_eq_true rfl⟩) (rcv4 C hW (rfl : kd 58 = 4)) rfl hl.1 rfl (Nat.le_of_ble_eq_true rfl) dX4_topNow_56 (Nat.zero_le _) (Nat.zero_le _) (fun H locs hW => ?_)
        refine lv_iload C.1 C.2.1 dX4_topNow_59 (lv_at hl 4 rfl) ?_
        refine lv_icmp_lt (tgt := 81) C.1 C.2.1 dX4_topNow_61 (by decide) (fun c_61 => ?_) (fun c_61 => ?_)
        · have h := if_y h c_61
          exact tX4_topNow_81 C hr28 ih h  hW (lv_sub hl [0, 1, 2, 3, 4, 5] rfl)
        · have h := if_n h c_61
          refine lv_aload_n C.1 C.2.1 dX4_topNow_64 rfl (lv_at hl 0 rfl) ?_
          refine lv_iload_n C.1 C.2.1 dX4_topNow_65 rfl (lv_at hl 2 rfl) ?_
          obtain ⟨r66, B66, hc66, h⟩ := b2_s h
          refine cVi C hW (As := [.int v2]) (rest := []) (mt_X4_litresIn  hc66) (cwV 1 C.2.2.2.2.2.1 gX4_topNow_X4_litresIn rfl rfl rfl (by decide +kernel) ⟨Nat.le_of_ble_eq_true rfl, Nat.le_of_ble_eq_true rfl⟩) (rcv4 C hW (rfl : kd 58 = 4)) rfl hl.1 rfl (Nat.le_of_ble_eq_true rfl) dX4_topNow_66 (Nat.zero_le _) (Nat.zero_le _) (fun H locs hW => ?_)
          refine lv_iload C.1 C.2.1 dX4_topNow_69 (lv_at hl 4 rfl) ?_
          refine lv_iadd C.1 C.2.1 dX4_topNow_71 ?_
          refine lv_bipush (v := 20) C.1 C.2.1 dX4_topNow_72 (by decide) ?_
          refine lv_icmp_gt (tgt := 81) C.1 C.2.1 dX4_topNow_74 (by decide) (fun c_74 => ?_) (fun c_74 => ?_)
          · have h := if_y h c_74
            exact tX4_topNow_81 C hr28 ih h  hW (lv_sub hl [0, 1, 2, 3, 4, 5] rfl)
          · have h := if_n h c_74
            refine lv_iconst (v := 1) C.1 C.2.1 dX4_topNow_77 (by decide) ?_
            refine lv_goto (tgt := 82) C.1 C.2.1 dX4_topNow_78 (by decide) ?_
            exact tX4_topNow_82 C hr28 ih h  hW (lv_sub hl [0, 1, 2, 3, 4, 5] rfl)
def fX4_topNow_28   : Nat → Me → Int32 → Int32 → Int32 → Int32 → Option (Int32 × Me)
  | 0, _, _, _, _, _ => none
  | n + 1, B, v1, v2, v3, v4 => if 20 < v4 then (some ((-1), B)) else (fX4_topNow_38 (fun m x0 x1 x2 x3 => fX4_topNow_28 n m x0 x1 x2 x3) FU B v1 v2 v3 v4 0)
set_option maxRecDepth 100000 in
theorem tX4_topNow_28 {A : Me}  {rZ : Int32} {BZ : Me}  (C : Cx Γ p s m args meth c cX4_topNow 7 (some .int) RX4 wsX4_topNow)  (n : Nat) : ∀ (B : Me) (v1 : Int32) (v2 : Int32) (v3 : Int32) (v4 : Int32) (H : Heap) (locs : List Loc) (ls : Array Slot), fX4_topNow_28 n B v1 v2 v3 v4 = some (rZ, BZ) → Wd Γ A B s.heap H locs → lv_has ls 7 [(0, .ref (Γ.2.2 58)), (1, .int v1), (2, .int v2), (3, .int v3), (4, .int v4)] → W p l e rmX4_topNow s m args below meth c H locs 0 0 (MQ below (QI Γ A BZ rZ) args s 0 0 (rg Γ)) (F0 m 28 ls []) := by
  induction n with
  | zero =>
    intro _ _ _ _ _ H locs ls h
    exact nomatch (show (none : Option (Int32 × Me)) = some (rZ, BZ) from h)
  | succ n ih =>
    intro B v1 v2 v3 v4 H locs ls h  hW hl
    rw [fX4_topNow_28] at h
    refine lv_iload C.1 C.2.1 dX4_topNow_28 (lv_at hl 4 rfl) ?_
    refine lv_bipush (v := 20) C.1 C.2.1 dX4_topNow_30 (by decide) ?_
    refine lv_icmp_gt (tgt := 126) C.1 C.2.1 dX4_topNow_32 (by decide) (fun c_32 => ?_) (fun c_32 => ?_)
    · have h := if_y h c_32
      refine lv_iconst (v := (-1)) C.1 C.2.1 dX4_topNow_126 (by decide) ?_
      cases h
      exact z_iret C hW dX4_topNow_127
    · have h := if_n h c_32
      refine lv_iconst (v := 0) C.1 C.2.1 dX4_topNow_35 (by decide) ?_
      refine lv_istore (lv' := [(5, .int 0), (0, .ref (Γ.2.2 58)), (1, .int v1), (2, .int v2), (3, .int v3), (4, .int v4)]) C.1 C.2.1 dX4_topNow_36 hl (by decide) rfl (fun ls hl => ?_)
      exact tX4_topNow_38 C ih FU _ _ _ _ _ _ _ _ _ h  hW (lv_sub hl [1, 2, 3, 4, 5, 0] rfl)
def fX4_topNow  (B : Me)  (v1 : Int32) (v2 : Int32) (v3 : Int32) : Option (Int32 × Me) := bi (fX4_think B v2) fun B2 => bi (fX4_whoMay B2) fun r6 => if (r6 &&& v1) = v1 then (if v3 = 0 then (fX4_topNow_24 B2 0) else (fX4_topNow_24 B2 (-1))) else (fX4_topNow_28 FU B2 v1 v2 v3 1)
set_option maxRecDepth 100000 in
theorem tX4_topNow_0 {A B : Me}  {H : Heap} {locs : List Loc} {ls : Array Slot} {v1 : Int32} {v2 : Int32} {v3 : Int32} {rZ : Int32} {BZ : Me}  (C : Cx Γ p s m args meth c cX4_topNow 7 (some .int) RX4 wsX4_topNow)  (h : fX4_topNow B v1 v2 v3 = some (rZ, BZ))  (hW : Wd Γ A B s.heap H locs) (hl : lv_has ls 7 [(0, .ref (Γ.2.2 58)), (1, .int v1), (2, .int v2), (3, .int v3)]) : W p l e rmX4_topNow s m args below meth c H locs 0 0 (MQ below (QI Γ A BZ rZ) args s 0 0 (rg Γ)) (F0 m 0 ls []) := by
  unfold fX4_topNow at h
  refine lv_aload_n C.1 C.2.1 dX4_topNow_0 rfl (lv_at hl 0 rfl) ?_
  refine lv_iload_n C.1 C.2.1 dX4_topNow_1 rfl (lv_at hl 2 rfl) ?_
  obtain ⟨B2, hc2, h⟩ := bi_s h
  refine cVv C hW (As := [.int v2]) (rest := []) (mt_X4_think  hc2) (cwV 1 C.2.2.2.2.2.1 gX4_topNow_X4_think rfl rfl rfl (by decide +kernel) ⟨Nat.le_of_ble_eq_true rfl, Nat.le_of_ble_eq_true rfl⟩) (rcv4 C hW (rfl : kd 58 = 4)) rfl hl.1 rfl (Nat.le_of_ble_eq_true rfl) dX4_topNow_2 (Nat.zero_le _) (Nat.zero_le _) (fun H locs hW => ?_)
  refine lv_aload_n C.1 C.2.1 dX4_topNow_5 rfl (lv_at hl 0 rfl) ?_
  obtain ⟨r6, hc6, h⟩ := bi_s h
  refine cVi C hW (As := []) (rest := []) (mt_X4_whoMay  hc6) (cwV 0 C.2.2.2.2.2.1 gX4_topNow_X4_whoMay rfl rfl rfl (by decide +kernel) ⟨Nat.le_of_ble_eq_true rfl, Nat.le_of_ble_eq_true rfl⟩) (rcv4 C hW (rfl : kd 58 = 4)) rfl hl.1 rfl (Nat.le_of_ble_eq_true rfl) dX4_topNow_6 (Nat.zero_le _) (Nat.zero_le _) (fun H locs hW => ?_)
  refine lv_iload_n C.1 C.2.1 dX4_topNow_9 rfl (lv_at hl 1 rfl) ?_
  refine lv_iand C.1 C.2.1 dX4_topNow_10 ?_
  refine lv_iload_n C.1 C.2.1 dX4_topNow_11 rfl (lv_at hl 1 rfl) ?_
  refine lv_icmp_ne (tgt := 25) C.1 C.2.1 dX4_topNow_12 (by decide) (fun c_12 => ?_) (fun c_12 => ?_)
  · have h := if_n h c_12
    refine lv_iconst (v := 1) C.1 C.2.1 dX4_topNow_25 (by decide) ?_
    refine lv_istore (lv' := [(4, .int 1), (0, .ref (Γ.2.2 58)), (1, .int v1), (2, .int v2), (3, .int v3)]) C.1 C.2.1 dX4_topNow_26 hl (by decide) rfl (fun ls hl => ?_)
    exact tX4_topNow_28 C  FU _ _ _ _ _ _ _ _ h  hW (lv_sub hl [1, 2, 3, 4, 0] rfl)
  · have h := if_y h c_12
    refine lv_iload_n C.1 C.2.1 dX4_topNow_15 rfl (lv_at hl 3 rfl) ?_
    refine lv_if_ne (tgt := 23) C.1 C.2.1 dX4_topNow_16 (by decide) (fun c_16 => ?_) (fun c_16 => ?_)
    · have h := if_n h c_16
      refine lv_iconst (v := (-1)) C.1 C.2.1 dX4_topNow_23 (by decide) ?_
      exact tX4_topNow_24 C  h  hW (lv_sub hl [] rfl)
    · have h := if_y h c_16
      refine lv_iconst (v := 0) C.1 C.2.1 dX4_topNow_19 (by decide) ?_
      refine lv_goto (tgt := 24) C.1 C.2.1 dX4_topNow_20 (by decide) ?_
      exact tX4_topNow_24 C  h  hW (lv_sub hl [] rfl)
theorem mt_X4_topNow {l : Launch} {Γ : Gm} {A B : Me}  {v1 : Int32} {v2 : Int32} {v3 : Int32} {rZ : Int32} {BZ : Me}  (h : fX4_topNow B v1 v2 v3 = some (rZ, BZ)) : Met l yX4_topNow wsX4_topNow rmX4_topNow (PC Γ A B [.ref (Γ.2.2 58), .int v1, .int v2, .int v3]) (QI Γ A BZ rZ) 0 0 (rg Γ) :=
  met_of (by decide) rfl (Nat.le_of_ble_eq_true rfl) (fun p e s m below meth c ls C hW hl => tX4_topNow_0 C  h  hW (lv_sub (l := [(0, .ref (Γ.2.2 58)), (1, .int v1), (2, .int v2), (3, .int v3)]) hl [0, 1, 2, 3] rfl))
abbrev rmX4_top : Room := { frames := 6, cells := 0, slots := 0, locals := 142 }
def fX4_top_40  (B : Me)  (t0 : Int32) : Option (Int32 × Me) := some (t0, B)
set_option maxRecDepth 100000 in
theorem tX4_top_40 {A B : Me}  {H : Heap} {locs : List Loc} {ls : Array Slot} {t0 : Int32} {rZ : Int32} {BZ : Me}  (C : Cx Γ p s m args meth c cX4_top 4 (some .int) RX4 wsX4_top)  (h : fX4_top_40 B t0 = some (rZ, BZ))  (hW : Wd Γ A B s.heap H locs) (hl : lv_has ls 4 []) : W p l e rmX4_top s m args below meth c H locs 0 0 (MQ below (QI Γ A BZ rZ) args s 0 0 (rg Γ)) (F0 m 40 ls [.int t0]) := by
  unfold fX4_top_40 at h
  cases h
  exact z_iret C hW dX4_top_40
def fX4_top_38  (B : Me)   : Option (Int32 × Me) := fX4_top_40 B (-102)
set_option maxRecDepth 100000 in
theorem tX4_top_38 {A B : Me}  {H : Heap} {locs : List Loc} {ls : Array Slot}  {rZ : Int32} {BZ : Me}  (C : Cx Γ p s m args meth c cX4_top 4 (some .int) RX4 wsX4_top)  (h : fX4_top_38 B = some (rZ, BZ))  (hW : Wd Γ A B s.heap H locs) (hl : lv_has ls 4 []) : W p l e rmX4_top s m args below meth c H locs 0 0 (MQ below (QI Γ A BZ rZ) args s 0 0 (rg Γ)) (F0 m 38 ls []) := by
  unfold fX4_top_38 at h
  refine lv_bipush (v := (-102)) C.1 C.2.1 dX4_top_38 (by decide) ?_
  exact tX4_top_40 C  h  hW (lv_sub hl [] rfl)
def fX4_top  (B : Me)  (v1 : Int32) (v2 : Int32) (v3 : Int32) : Option (Int32 × Me) := bi (fX4_isCask B v2) fun r2 => if r2 = 0 then (some ((-101), B)) else (bi (fX4_arePeople B v1) fun r13 => if r13 = 0 then (fX4_top_38 B) else (bi (fX4_within v3 0 1) fun r22 => if r22 = 0 then (fX4_top_38 B) else (b2 (fX4_topNow B v1 v2 v3) fun r32 B32 => fX4_top_40 B32 r32)))
set_option maxRecDepth 100000 in
theorem tX4_top_0 {A B : Me}  {H : Heap} {locs : List Loc} {ls : Array Slot} {v1 : Int32} {v2 : Int32} {v3 : Int32} {rZ : Int32} {BZ : Me}  (C : Cx Γ p s m args meth c cX4_top 4 (some .int) RX4 wsX4_top)  (h : fX4_top B v1 v2 v3 = some (rZ, BZ))  (hW : Wd Γ A B s.heap H locs) (hl : lv_has ls 4 [(0, .ref (Γ.2.2 58)), (1, .int v1), (2, .int v2), (3, .int v3)]) : W p l e rmX4_top s m args below meth c H locs 0 0 (MQ below (QI Γ A BZ rZ) args s 0 0 (rg Γ)) (F0 m 0 ls []) := by
  unfold fX4_top at h
  refine lv_aload_n C.1 C.2.1 dX4_top_0 rfl (lv_at hl 0 rfl) ?_
  refine lv_iload_n C.1 C.2.1 dX4_top_1 rfl (lv_at hl 2 rfl) ?_
  obtain ⟨r2, hc2, h⟩ := bi_s h
  refine cVi C hW (As := [.int v2]) (rest := []) (mt_X4_isCask  hc2) (cwV 1 C.2.2.2.2.2.1 gX4_top_X4_isCask rfl rfl rfl (by decide +kernel) ⟨Nat.le_of_ble_eq_true rfl, Nat.le_of_ble_eq_true rfl⟩) (rcv4 C hW (rfl : kd 58 = 4)) rfl hl.1 rfl (Nat.le_of_ble_eq_true rfl) dX4_top_2 (Nat.zero_le _) (Nat.zero_le _) (fun H locs hW => ?_)
  refine lv_if_ne (tgt := 11) C.1 C.2.1 dX4_top_5 (by decide) (fun c_5 => ?_) (fun c_5 => ?_)
  · have h := if_n h c_5
    refine lv_aload_n C.1 C.2.1 dX4_top_11 rfl (lv_at hl 0 rfl) ?_
    refine lv_iload_n C.1 C.2.1 dX4_top_12 rfl (lv_at hl 1 rfl) ?_
    obtain ⟨r13, hc13, h⟩ := bi_s h
    refine cVi C hW (As := [.int v1]) (rest := []) (mt_X4_arePeople  hc13) (cwV 1 C.2.2.2.2.2.1 gX4_top_X4_arePeople rfl rfl rfl (by decide +kernel) ⟨Nat.le_of_ble_eq_true rfl, Nat.le_of_ble_eq_true rfl⟩) (rcv4 C hW (rfl : kd 58 = 4)) rfl hl.1 rfl (Nat.le_of_ble_eq_true rfl) dX4_top_13 (Nat.zero_le _) (Nat.zero_le _) (fun H locs hW => ?_)
    refine lv_if_eq (tgt := 38) C.1 C.2.1 dX4_top_16 (by decide) (fun c_16 => ?_) (fun c_16 => ?_)
    · have h := if_y h c_16
      exact tX4_top_38 C  h  hW (lv_sub hl [] rfl)
    · have h := if_n h c_16
      refine lv_iload_n C.1 C.2.1 dX4_top_19 rfl (lv_at hl 3 rfl) ?_
      refine lv_iconst (v := 0) C.1 C.2.1 dX4_top_20 (by decide) ?_
      refine lv_iconst (v := 1) C.1 C.2.1 dX4_top_21 (by decide) ?_
      obtain ⟨r22, hc22, h⟩ := bi_s h
      refine cSi C hW (As := [.int v3, .int 0, .int 1]) (rest := []) (mt_X4_within  hc22) (va_cwS 3 C.2.2.2.2.2.1 gX4_top_X4_within rfl rfl rfl (by decide +kernel) ⟨Nat.le_of_ble_eq_true rfl, Nat.le_of_ble_eq_true rfl⟩) rfl hl.1 rfl (Nat.le_of_ble_eq_true rfl) dX4_top_22 (Nat.zero_le _) (Nat.zero_le _) (fun H locs hW => ?_)
      refine lv_if_eq (tgt := 38) C.1 C.2.1 dX4_top_25 (by decide) (fun c_25 => ?_) (fun c_25 => ?_)
      · have h := if_y h c_25
        exact tX4_top_38 C  h  hW (lv_sub hl [] rfl)
      · have h := if_n h c_25
        refine lv_aload_n C.1 C.2.1 dX4_top_28 rfl (lv_at hl 0 rfl) ?_
        refine lv_iload_n C.1 C.2.1 dX4_top_29 rfl (lv_at hl 1 rfl) ?_
        refine lv_iload_n C.1 C.2.1 dX4_top_30 rfl (lv_at hl 2 rfl) ?_
        refine lv_iload_n C.1 C.2.1 dX4_top_31 rfl (lv_at hl 3 rfl) ?_
        obtain ⟨r32, B32, hc32, h⟩ := b2_s h
        refine cVi C hW (As := [.int v1, .int v2, .int v3]) (rest := []) (mt_X4_topNow  hc32) (cwV 3 C.2.2.2.2.2.1 gX4_top_X4_topNow rfl rfl rfl (by decide +kernel) ⟨Nat.le_of_ble_eq_true rfl, Nat.le_of_ble_eq_true rfl⟩) (rcv4 C hW (rfl : kd 58 = 4)) rfl hl.1 rfl (Nat.le_of_ble_eq_true rfl) dX4_top_32 (Nat.zero_le _) (Nat.zero_le _) (fun H locs hW => ?_)
        refine lv_goto (tgt := 40) C.1 C.2.1 dX4_top_35 (by decide) ?_
        exact tX4_top_40 C  h  hW (lv_sub hl [] rfl)
  · have h := if_y h c_5
    refine lv_bipush (v := (-101)) C.1 C.2.1 dX4_top_8 (by decide) ?_
    cases h
    exact z_iret C hW dX4_top_10
theorem mt_X4_top {l : Launch} {Γ : Gm} {A B : Me}  {v1 : Int32} {v2 : Int32} {v3 : Int32} {rZ : Int32} {BZ : Me}  (h : fX4_top B v1 v2 v3 = some (rZ, BZ)) : Met l yX4_top wsX4_top rmX4_top (PC Γ A B [.ref (Γ.2.2 58), .int v1, .int v2, .int v3]) (QI Γ A BZ rZ) 0 0 (rg Γ) :=
  met_of (by decide) rfl (Nat.le_of_ble_eq_true rfl) (fun p e s m below meth c ls C hW hl => tX4_top_0 C  h  hW (lv_sub (l := [(0, .ref (Γ.2.2 58)), (1, .int v1), (2, .int v2), (3, .int v3)]) hl [0, 1, 2, 3] rfl))
abbrev rmX4_trial : Room := { frames := 2, cells := 0, slots := 0, locals := 43 }
set_option maxRecDepth 100000 in
theorem iX4_trial_c4 : ∀ w ∈ wsX40, w ∈ wsX4_trial := by decide +kernel
set_option maxRecDepth 100000 in
theorem wX4_trial_0 : Cond.fieldLink RX4 91 "WineByYearsModel" "trials" "I" ∈ wsX4_trial := by decide +kernel
set_option maxRecDepth 100000 in
theorem wX4_trial_1 : Cond.fieldLink RX4 25 "WineByYearsModel" "trialCask" "[I" ∈ wsX4_trial := by decide +kernel
set_option maxRecDepth 100000 in
theorem wX4_trial_2 : Cond.fieldLink RX4 28 "WineByYearsModel" "trialIll" "[I" ∈ wsX4_trial := by decide +kernel
def fX4_trial_50  (B : Me)  (t1 : Int32) (t2 : Int32) : Option (Int32 × Me) := ck (inb t1 8) <| some (((up2 (up2 B 65 t1.toNatClampNeg t2) 58 9 (((up2 B 65 t1.toNatClampNeg t2) 58 9) + 1)) 58 9), (up2 (up2 B 65 t1.toNatClampNeg t2) 58 9 (((up2 B 65 t1.toNatClampNeg t2) 58 9) + 1)))
set_option maxRecDepth 100000 in
theorem tX4_trial_50 {A B : Me}  {H : Heap} {locs : List Loc} {ls : Array Slot} {t1 : Int32} {t2 : Int32} {rZ : Int32} {BZ : Me}  (C : Cx Γ p s m args meth c cX4_trial 3 (some .int) RX4 wsX4_trial)  (h : fX4_trial_50 B t1 t2 = some (rZ, BZ))  (hW : Wd Γ A B s.heap H locs) (hl : lv_has ls 3 [(0, .ref (Γ.2.2 58))]) : W p l e rmX4_trial s m args below meth c H locs 0 0 (MQ below (QI Γ A BZ rZ) args s 0 0 (rg Γ)) (F0 m 50 ls [.int t2, .int t1, .ref (Γ.2.2 65)]) := by
  unfold fX4_trial_50 at h
  obtain ⟨hi50, h⟩ := ck_s h
  refine sa9 C hW ⟨rfl, rfl⟩ hi50 dX4_trial_50 (fun H locs hW => ?_)
  refine lv_aload_n C.1 C.2.1 dX4_trial_51 rfl (lv_at hl 0 rfl) ?_
  refine lv_dup C.1 C.2.1 dX4_trial_52 rfl ?_
  refine gX4_9 C hW rfl iX4_trial_c4 wX4_trial_0 dX4_trial_53 ?_
  refine lv_iconst (v := 1) C.1 C.2.1 dX4_trial_56 (by decide) ?_
  refine lv_iadd C.1 C.2.1 dX4_trial_57 ?_
  refine pX4_9 C hW rfl iX4_trial_c4 wX4_trial_0 dX4_trial_58 (fun H locs hW => ?_)
  refine lv_aload_n C.1 C.2.1 dX4_trial_61 rfl (lv_at hl 0 rfl) ?_
  refine gX4_9 C hW rfl iX4_trial_c4 wX4_trial_0 dX4_trial_62 ?_
  cases h
  exact z_iret C hW dX4_trial_65
def fX4_trial  (B : Me)  (v1 : Int32) (v2 : Int32) : Option (Int32 × Me) := bi (fX4_isCask B v1) fun r2 => if r2 = 0 then (some ((-101), B)) else (if (B 58 9) = 8 then (some ((-104), B)) else (ck (inb (B 58 9) 8) <| if v2 = 0 then (fX4_trial_50 (up2 B 64 (B 58 9).toNatClampNeg v1) ((up2 B 64 (B 58 9).toNatClampNeg v1) 58 9) 0) else (fX4_trial_50 (up2 B 64 (B 58 9).toNatClampNeg v1) ((up2 B 64 (B 58 9).toNatClampNeg v1) 58 9) 1)))
set_option maxRecDepth 100000 in
theorem tX4_trial_0 {A B : Me}  {H : Heap} {locs : List Loc} {ls : Array Slot} {v1 : Int32} {v2 : Int32} {rZ : Int32} {BZ : Me}  (C : Cx Γ p s m args meth c cX4_trial 3 (some .int) RX4 wsX4_trial)  (h : fX4_trial B v1 v2 = some (rZ, BZ))  (hW : Wd Γ A B s.heap H locs) (hl : lv_has ls 3 [(0, .ref (Γ.2.2 58)), (1, .int v1), (2, .int v2)]) : W p l e rmX4_trial s m args below meth c H locs 0 0 (MQ below (QI Γ A BZ rZ) args s 0 0 (rg Γ)) (F0 m 0 ls []) := by
  unfold fX4_trial at h
  refine lv_aload_n C.1 C.2.1 dX4_trial_0 rfl (lv_at hl 0 rfl) ?_
  refine lv_iload_n C.1 C.2.1 dX4_trial_1 rfl (lv_at hl 1 rfl) ?_
  obtain ⟨r2, hc2, h⟩ := bi_s h
  refine cVi C hW (As := [.int v1]) (rest := []) (mt_X4_isCask  hc2) (cwV 1 C.2.2.2.2.2.1 gX4_trial_X4_isCask rfl rfl rfl (by decide +kernel) ⟨Nat.le_of_ble_eq_true rfl, Nat.le_of_ble_eq_true rfl⟩) (rcv4 C hW (rfl : kd 58 = 4)) rfl hl.1 rfl (Nat.le_of_ble_eq_true rfl) dX4_trial_2 (Nat.zero_le _) (Nat.zero_le _) (fun H locs hW => ?_)
  refine lv_if_ne (tgt := 11) C.1 C.2.1 dX4_trial_5 (by decide) (fun c_5 => ?_) (fun c_5 => ?_)
  · have h := if_n h c_5
    refine lv_aload_n C.1 C.2.1 dX4_trial_11 rfl (lv_at hl 0 rfl) ?_
    refine gX4_9 C hW rfl iX4_trial_c4 wX4_trial_0 dX4_trial_12 ?_
    refine lv_bipush (v := 8) C.1 C.2.1 dX4_trial_15 (by decide) ?_
    refine lv_icmp_ne (tgt := 23) C.1 C.2.1 dX4_trial_17 (by decide) (fun c_17 => ?_) (fun c_17 => ?_)
    · have h := if_n h c_17
      refine lv_aload_n C.1 C.2.1 dX4_trial_23 rfl (lv_at hl 0 rfl) ?_
      refine gX4_10 C hW rfl iX4_trial_c4 wX4_trial_1 dX4_trial_24 ?_
      refine lv_aload_n C.1 C.2.1 dX4_trial_27 rfl (lv_at hl 0 rfl) ?_
      refine gX4_9 C hW rfl iX4_trial_c4 wX4_trial_0 dX4_trial_28 ?_
      refine lv_iload_n C.1 C.2.1 dX4_trial_31 rfl (lv_at hl 1 rfl) ?_
      obtain ⟨hi32, h⟩ := ck_s h
      refine sa9 C hW ⟨rfl, rfl⟩ hi32 dX4_trial_32 (fun H locs hW => ?_)
      refine lv_aload_n C.1 C.2.1 dX4_trial_33 rfl (lv_at hl 0 rfl) ?_
      refine gX4_11 C hW rfl iX4_trial_c4 wX4_trial_2 dX4_trial_34 ?_
      refine lv_aload_n C.1 C.2.1 dX4_trial_37 rfl (lv_at hl 0 rfl) ?_
      refine gX4_9 C hW rfl iX4_trial_c4 wX4_trial_0 dX4_trial_38 ?_
      refine lv_iload_n C.1 C.2.1 dX4_trial_41 rfl (lv_at hl 2 rfl) ?_
      refine lv_if_eq (tgt := 49) C.1 C.2.1 dX4_trial_42 (by decide) (fun c_42 => ?_) (fun c_42 => ?_)
      · have h := if_y h c_42
        refine lv_iconst (v := 0) C.1 C.2.1 dX4_trial_49 (by decide) ?_
        exact tX4_trial_50 C  h  hW (lv_sub hl [0] rfl)
      · have h := if_n h c_42
        refine lv_iconst (v := 1) C.1 C.2.1 dX4_trial_45 (by decide) ?_
        refine lv_goto (tgt := 50) C.1 C.2.1 dX4_trial_46 (by decide) ?_
        exact tX4_trial_50 C  h  hW (lv_sub hl [0] rfl)
    · have h := if_y h c_17
      refine lv_bipush (v := (-104)) C.1 C.2.1 dX4_trial_20 (by decide) ?_
      cases h
      exact z_iret C hW dX4_trial_22
  · have h := if_y h c_5
    refine lv_bipush (v := (-101)) C.1 C.2.1 dX4_trial_8 (by decide) ?_
    cases h
    exact z_iret C hW dX4_trial_10
theorem mt_X4_trial {l : Launch} {Γ : Gm} {A B : Me}  {v1 : Int32} {v2 : Int32} {rZ : Int32} {BZ : Me}  (h : fX4_trial B v1 v2 = some (rZ, BZ)) : Met l yX4_trial wsX4_trial rmX4_trial (PC Γ A B [.ref (Γ.2.2 58), .int v1, .int v2]) (QI Γ A BZ rZ) 0 0 (rg Γ) :=
  met_of (by decide) rfl (Nat.le_of_ble_eq_true rfl) (fun p e s m below meth c ls C hW hl => tX4_trial_0 C  h  hW (lv_sub (l := [(0, .ref (Γ.2.2 58)), (1, .int v1), (2, .int v2)]) hl [0, 1, 2] rfl))
abbrev rmX4_forget : Room := { frames := 0, cells := 0, slots := 0, locals := 0 }
set_option maxRecDepth 100000 in
theorem iX4_forget_c4 : ∀ w ∈ wsX40, w ∈ wsX4_forget := by decide +kernel
set_option maxRecDepth 100000 in
theorem wX4_forget_0 : Cond.fieldLink RX4 91 "WineByYearsModel" "trials" "I" ∈ wsX4_forget := by decide +kernel
def fX4_forget  (B : Me)   : Option (Int32 × Me) := some ((B 58 9), (up2 B 58 9 0))
set_option maxRecDepth 100000 in
theorem tX4_forget_0 {A B : Me}  {H : Heap} {locs : List Loc} {ls : Array Slot}  {rZ : Int32} {BZ : Me}  (C : Cx Γ p s m args meth c cX4_forget 2 (some .int) RX4 wsX4_forget)  (h : fX4_forget B = some (rZ, BZ))  (hW : Wd Γ A B s.heap H locs) (hl : lv_has ls 2 [(0, .ref (Γ.2.2 58))]) : W p l e rmX4_forget s m args below meth c H locs 0 0 (MQ below (QI Γ A BZ rZ) args s 0 0 (rg Γ)) (F0 m 0 ls []) := by
  unfold fX4_forget at h
  refine lv_aload_n C.1 C.2.1 dX4_forget_0 rfl (lv_at hl 0 rfl) ?_
  refine gX4_9 C hW rfl iX4_forget_c4 wX4_forget_0 dX4_forget_1 ?_
  refine lv_istore_n (lv' := [(1, .int (B 58 9)), (0, .ref (Γ.2.2 58))]) C.1 C.2.1 dX4_forget_4 rfl hl (by decide) rfl (fun ls hl => ?_)
  refine lv_aload_n C.1 C.2.1 dX4_forget_5 rfl (lv_at hl 1 rfl) ?_
  refine lv_iconst (v := 0) C.1 C.2.1 dX4_forget_6 (by decide) ?_
  refine pX4_9 C hW rfl iX4_forget_c4 wX4_forget_0 dX4_forget_7 (fun H locs hW => ?_)
  refine lv_iload_n C.1 C.2.1 dX4_forget_10 rfl (lv_at hl 0 rfl) ?_
  cases h
  exact z_iret C hW dX4_forget_11
theorem mt_X4_forget {l : Launch} {Γ : Gm} {A B : Me}   {rZ : Int32} {BZ : Me}  (h : fX4_forget B = some (rZ, BZ)) : Met l yX4_forget wsX4_forget rmX4_forget (PC Γ A B [.ref (Γ.2.2 58)]) (QI Γ A BZ rZ) 0 0 (rg Γ) :=
  met_of (by decide) rfl (Nat.le_of_ble_eq_true rfl) (fun p e s m below meth c ls C hW hl => tX4_forget_0 C  h  hW (lv_sub (l := [(0, .ref (Γ.2.2 58))]) hl [0] rfl))
abbrev rmX4_isBorn : Room := { frames := 3, cells := 0, slots := 0, locals := 70 }
set_option maxRecDepth 100000 in
theorem iX4_isBorn_c4 : ∀ w ∈ wsX40, w ∈ wsX4_isBorn := by decide +kernel
set_option maxRecDepth 100000 in
theorem wX4_isBorn_0 : Cond.fieldLink RX4 91 "WineByYearsModel" "trials" "I" ∈ wsX4_isBorn := by decide +kernel
set_option maxRecDepth 100000 in
theorem wX4_isBorn_1 : Cond.fieldLink RX4 25 "WineByYearsModel" "trialCask" "[I" ∈ wsX4_isBorn := by decide +kernel
set_option maxRecDepth 100000 in
theorem wX4_isBorn_2 : Cond.fieldLink RX4 28 "WineByYearsModel" "trialIll" "[I" ∈ wsX4_isBorn := by decide +kernel
def fX4_isBorn_58 (j5 : Me → Int32 → Int32 → Int32 → Int32 → Option (Int32 × Me)) (B : Me)  (v1 : Int32) (v2 : Int32) (v4 : Int32) (t0 : Int32) : Option (Int32 × Me) := j5 B v1 v2 t0 (v4 + 1)
set_option maxRecDepth 100000 in
theorem tX4_isBorn_58 {A B : Me}  {H : Heap} {locs : List Loc} {ls : Array Slot} {v1 : Int32} {v2 : Int32} {v4 : Int32} {t0 : Int32} {rZ : Int32} {BZ : Me} {j5 : Me → Int32 → Int32 → Int32 → Int32 → Option (Int32 × Me)} (C : Cx Γ p s m args meth c cX4_isBorn 5 (some .boolean) RX4 wsX4_isBorn) (hr5 : ∀ (B : Me) (v1 : Int32) (v2 : Int32) (v3 : Int32) (v4 : Int32) (H : Heap) (locs : List Loc) (ls : Array Slot), j5 B v1 v2 v3 v4 = some (rZ, BZ) → Wd Γ A B s.heap H locs → lv_has ls 5 [(0, .ref (Γ.2.2 58)), (1, .int v1), (2, .int v2), (3, .int v3), (4, .int v4)] → W p l e rmX4_isBorn s m args below meth c H locs 0 0 (MQ below (QI Γ A BZ rZ) args s 0 0 (rg Γ)) (F0 m 5 ls [])) (h : fX4_isBorn_58 j5 B v1 v2 v4 t0 = some (rZ, BZ))  (hW : Wd Γ A B s.heap H locs) (hl : lv_has ls 5 [(0, .ref (Γ.2.2 58)), (1, .int v1), (2, .int v2), (4, .int v4)]) : W p l e rmX4_isBorn s m args below meth c H locs 0 0 (MQ below (QI Γ A BZ rZ) args s 0 0 (rg Γ)) (F0 m 58 ls [.int t0]) := by
  unfold fX4_isBorn_58 at h
  refine lv_istore_n (lv' := [(3, .int t0), (0, .ref (Γ.2.2 58)), (1, .int v1), (2, .int v2), (4, .int v4)]) C.1 C.2.1 dX4_isBorn_58 rfl hl (by decide) rfl (fun ls hl => ?_)
  refine lv_iinc (v := (v4 + 1)) (lv' := [(4, .int (v4 + 1)), (3, .int t0), (0, .ref (Γ.2.2 58)), (1, .int v1), (2, .int v2)]) C.1 C.2.1 dX4_isBorn_59 hl (k := 4) rfl rfl (by decide) rfl (fun ls hl => ?_)
  refine lv_goto (tgt := 5) C.1 C.2.1 dX4_isBorn_62 (by decide) ?_
  exact hr5 _ _ _ _ _ _ _ _ h  hW (lv_sub hl [2, 3, 4, 1, 0] rfl)
def fX4_isBorn_57 (j5 : Me → Int32 → Int32 → Int32 → Int32 → Option (Int32 × Me)) (B : Me)  (v1 : Int32) (v2 : Int32) (v4 : Int32) : Option (Int32 × Me) := fX4_isBorn_58 j5 B v1 v2 v4 0
set_option maxRecDepth 100000 in
theorem tX4_isBorn_57 {A B : Me}  {H : Heap} {locs : List Loc} {ls : Array Slot} {v1 : Int32} {v2 : Int32} {v4 : Int32} {rZ : Int32} {BZ : Me} {j5 : Me → Int32 → Int32 → Int32 → Int32 → Option (Int32 × Me)} (C : Cx Γ p s m args meth c cX4_isBorn 5 (some .boolean) RX4 wsX4_isBorn) (hr5 : ∀ (B : Me) (v1 : Int32) (v2 : Int32) (v3 : Int32) (v4 : Int32) (H : Heap) (locs : List Loc) (ls : Array Slot), j5 B v1 v2 v3 v4 = some (rZ, BZ) → Wd Γ A B s.heap H locs → lv_has ls 5 [(0, .ref (Γ.2.2 58)), (1, .int v1), (2, .int v2), (3, .int v3), (4, .int v4)] → W p l e rmX4_isBorn s m args below meth c H locs 0 0 (MQ below (QI Γ A BZ rZ) args s 0 0 (rg Γ)) (F0 m 5 ls [])) (h : fX4_isBorn_57 j5 B v1 v2 v4 = some (rZ, BZ))  (hW : Wd Γ A B s.heap H locs) (hl : lv_has ls 5 [(0, .ref (Γ.2.2 58)), (1, .int v1), (2, .int v2), (4, .int v4)]) : W p l e rmX4_isBorn s m args below meth c H locs 0 0 (MQ below (QI Γ A BZ rZ) args s 0 0 (rg Γ)) (F0 m 57 ls []) := by
  unfold fX4_isBorn_57 at h
  refine lv_iconst (v := 0) C.1 C.2.1 dX4_isBorn_57 (by decide) ?_
  exact tX4_isBorn_58 C hr5 h  hW (lv_sub hl [0, 1, 2, 3] rfl)
def fX4_isBorn_50 (j5 : Me → Int32 → Int32 → Int32 → Int32 → Option (Int32 × Me)) (B : Me)  (v1 : Int32) (v2 : Int32) (v4 : Int32) (t0 : Int32) (t1 : Int32) : Option (Int32 × Me) := if t0 = t1 then (fX4_isBorn_58 j5 B v1 v2 v4 1) else (fX4_isBorn_57 j5 B v1 v2 v4)
set_option maxRecDepth 100000 in
theorem tX4_isBorn_50 {A B : Me}  {H : Heap} {locs : List Loc} {ls : Array Slot} {v1 : Int32} {v2 : Int32} {v4 : Int32} {t0 : Int32} {t1 : Int32} {rZ : Int32} {BZ : Me} {j5 : Me → Int32 → Int32 → Int32 → Int32 → Option (Int32 × Me)} (C : Cx Γ p s m args meth c cX4_isBorn 5 (some .boolean) RX4 wsX4_isBorn) (hr5 : ∀ (B : Me) (v1 : Int32) (v2 : Int32) (v3 : Int32) (v4 : Int32) (H : Heap) (locs : List Loc) (ls : Array Slot), j5 B v1 v2 v3 v4 = some (rZ, BZ) → Wd Γ A B s.heap H locs → lv_has ls 5 [(0, .ref (Γ.2.2 58)), (1, .int v1), (2, .int v2), (3, .int v3), (4, .int v4)] → W p l e rmX4_isBorn s m args below meth c H locs 0 0 (MQ below (QI Γ A BZ rZ) args s 0 0 (rg Γ)) (F0 m 5 ls [])) (h : fX4_isBorn_50 j5 B v1 v2 v4 t0 t1 = some (rZ, BZ))  (hW : Wd Γ A B s.heap H locs) (hl : lv_has ls 5 [(0, .ref (Γ.2.2 58)), (1, .int v1), (2, .int v2), (4, .int v4)]) : W p l e rmX4_isBorn s m args below meth c H locs 0 0 (MQ below (QI Γ A BZ rZ) args s 0 0 (rg Γ)) (F0 m 50 ls [.int t1, .int t0]) := by
  unfold fX4_isBorn_50 at h
  refine lv_icmp_ne (tgt := 57) C.1 C.2.1 dX4_isBorn_50 (by decide) (fun c_50 => ?_) (fun c_50 => ?_)
  · have h := if_n h c_50
    exact tX4_isBorn_57 C hr5 h  hW (lv_sub hl [0, 1, 2, 3] rfl)
  · have h := if_y h c_50
    refine lv_iconst (v := 1) C.1 C.2.1 dX4_isBorn_53 (by decide) ?_
    refine lv_goto (tgt := 58) C.1 C.2.1 dX4_isBorn_54 (by decide) ?_
    exact tX4_isBorn_58 C hr5 h  hW (lv_sub hl [0, 1, 2, 3] rfl)
def fX4_isBorn_5   : Nat → Me → Int32 → Int32 → Int32 → Int32 → Option (Int32 × Me)
  | 0, _, _, _, _, _ => none
  | n + 1, B, v1, v2, v3, v4 => if (B 58 9) ≤ v4 then (ck (zb v3) <| some (v3, B)) else (ck (inb v4 8) <| bi (fX4_think B (B 64 v4.toNatClampNeg)) fun B22 => if v3 = 0 then (fX4_isBorn_57 (fun m x0 x1 x2 x3 => fX4_isBorn_5 n m x0 x1 x2 x3) B22 v1 v2 v4) else (bi (fX4_mayThought B22 v1 v2) fun r32 => ck (inb v4 8) <| if (B22 65 v4.toNatClampNeg) = 0 then (fX4_isBorn_50 (fun m x0 x1 x2 x3 => fX4_isBorn_5 n m x0 x1 x2 x3) B22 v1 v2 v4 r32 1) else (fX4_isBorn_50 (fun m x0 x1 x2 x3 => fX4_isBorn_5 n m x0 x1 x2 x3) B22 v1 v2 v4 r32 0)))
set_option maxRecDepth 100000 in
theorem tX4_isBorn_5 {A : Me}  {rZ : Int32} {BZ : Me}  (C : Cx Γ p s m args meth c cX4_isBorn 5 (some .boolean) RX4 wsX4_isBorn)  (n : Nat) : ∀ (B : Me) (v1 : Int32) (v2 : Int32) (v3 : Int32) (v4 : Int32) (H : Heap) (locs : List Loc) (ls : Array Slot), fX4_isBorn_5 n B v1 v2 v3 v4 = some (rZ, BZ) → Wd Γ A B s.heap H locs → lv_has ls 5 [(0, .ref (Γ.2.2 58)), (1, .int v1), (2, .int v2), (3, .int v3), (4, .int v4)] → W p l e rmX4_isBorn s m args below meth c H locs 0 0 (MQ below (QI Γ A BZ rZ) args s 0 0 (rg Γ)) (F0 m 5 ls []) := by
  induction n with
  | zero =>
    intro _ _ _ _ _ H locs ls h
    exact nomatch (show (none : Option (Int32 × Me)) = some (rZ, BZ) from h)
  | succ n ih =>
    intro B v1 v2 v3 v4 H locs ls h  hW hl
    rw [fX4_isBorn_5] at h
    refine lv_iload C.1 C.2.1 dX4_isBorn_5 (lv_at hl 4 rfl) ?_
    refine lv_aload_n C.1 C.2.1 dX4_isBorn_7 rfl (lv_at hl 0 rfl) ?_
    refine gX4_9 C hW rfl iX4_isBorn_c4 wX4_isBorn_0 dX4_isBorn_8 ?_
    refine lv_icmp_ge (tgt := 65) C.1 C.2.1 dX4_isBorn_11 (by decide) (fun c_11 => ?_) (fun c_11 => ?_)
    · have h := if_y h c_11
      refine lv_iload_n C.1 C.2.1 dX4_isBorn_65 rfl (lv_at hl 3 rfl) ?_
      obtain ⟨hz, h⟩ := ck_s h
      cases h
      exact z_zret C hW hz dX4_isBorn_66
    · have h := if_n h c_11
      refine lv_aload_n C.1 C.2.1 dX4_isBorn_14 rfl (lv_at hl 0 rfl) ?_
      refine lv_aload_n C.1 C.2.1 dX4_isBorn_15 rfl (lv_at hl 0 rfl) ?_
      refine gX4_10 C hW rfl iX4_isBorn_c4 wX4_isBorn_1 dX4_isBorn_16 ?_
      refine lv_iload C.1 C.2.1 dX4_isBorn_19 (lv_at hl 4 rfl) ?_
      obtain ⟨hi21, h⟩ := ck_s h
      refine la9 C hW ⟨rfl, rfl⟩ hi21 dX4_isBorn_21 ?_
      obtain ⟨B22, hc22, h⟩ := bi_s h
      refine cVv C hW (As := [.int (B 64 v4.toNatClampNeg)]) (rest := []) (mt_X4_think  hc22) (cwV 1 C.2.2.2.2.2.1 gX4_isBorn_X4_think rfl rfl rfl (by decide +kernel) ⟨Nat.le_of_ble_eq_true rfl, Nat.le_of_ble_eq_true rfl⟩) (rcv4 C hW (rfl : kd 58 = 4)) rfl hl.1 rfl (Nat.le_of_ble_eq_true rfl) dX4_isBorn_22 (Nat.zero_le _) (Nat.zero_le _) (fun H locs hW => ?_)
      refine lv_iload_n C.1 C.2.1 dX4_isBorn_25 rfl (lv_at hl 3 rfl) ?_
      refine lv_if_eq (tgt := 57) C.1 C.2.1 dX4_isBorn_26 (by decide) (fun c_26 => ?_) (fun c_26 => ?_)
      · have h := if_y h c_26
        exact tX4_isBorn_57 C ih h  hW (lv_sub hl [0, 1, 2, 4] rfl)
      · have h := if_n h c_26
        refine lv_aload_n C.1 C.2.1 dX4_isBorn_29 rfl (lv_at hl 0 rfl) ?_
        refine lv_iload_n C.1 C.2.1 dX4_isBorn_30 rfl (lv_at hl 1 rfl) ?_
        refine lv_iload_n C.1 C.2.1 dX4_isBorn_31 rfl (lv_at hl 2 rfl) ?_
        obtain ⟨r32, hc32, h⟩ := bi_s h
        refine cVi C hW (As := [.int v1, .int v2]) (rest := []) (mt_X4_mayThought  hc32) (cwV 2 C.2.2.2.2.2.1 gX4_isBorn_X4_mayThought rfl rfl rfl (by decide +kernel) ⟨Nat.le_of_ble_eq_true rfl, Nat.le_of_ble_eq_true rfl⟩) (rcv4 C hW (rfl : kd 58 = 4)) rfl hl.1 rfl (Nat.le_of_ble_eq_true rfl) dX4_isBorn_32 (Nat.zero_le _) (Nat.zero_le _) (fun H locs hW => ?_)
        refine lv_aload_n C.1 C.2.1 dX4_isBorn_35 rfl (lv_at hl 0 rfl) ?_
        refine gX4_11 C hW rfl iX4_isBorn_c4 wX4_isBorn_2 dX4_isBorn_36 ?_
        refine lv_iload C.1 C.2.1 dX4_isBorn_39 (lv_at hl 4 rfl) ?_
        obtain ⟨hi41, h⟩ := ck_s h
        refine la9 C hW ⟨rfl, rfl⟩ hi41 dX4_isBorn_41 ?_
        refine lv_if_ne (tgt := 49) C.1 C.2.1 dX4_isBorn_42 (by decide) (fun c_42 => ?_) (fun c_42 => ?_)
        · have h := if_n h c_42
          refine lv_iconst (v := 0) C.1 C.2.1 dX4_isBorn_49 (by decide) ?_
          exact tX4_isBorn_50 C ih h  hW (lv_sub hl [0, 1, 2, 4] rfl)
        · have h := if_y h c_42
          refine lv_iconst (v := 1) C.1 C.2.1 dX4_isBorn_45 (by decide) ?_
          refine lv_goto (tgt := 50) C.1 C.2.1 dX4_isBorn_46 (by decide) ?_
          exact tX4_isBorn_50 C ih h  hW (lv_sub hl [0, 1, 2, 4] rfl)
def fX4_isBorn  (B : Me)  (v1 : Int32) (v2 : Int32) : Option (Int32 × Me) := fX4_isBorn_5 FU B v1 v2 1 0
set_option maxRecDepth 100000 in
theorem tX4_isBorn_0 {A B : Me}  {H : Heap} {locs : List Loc} {ls : Array Slot} {v1 : Int32} {v2 : Int32} {rZ : Int32} {BZ : Me}  (C : Cx Γ p s m args meth c cX4_isBorn 5 (some .boolean) RX4 wsX4_isBorn)  (h : fX4_isBorn B v1 v2 = some (rZ, BZ))  (hW : Wd Γ A B s.heap H locs) (hl : lv_has ls 5 [(0, .ref (Γ.2.2 58)), (1, .int v1), (2, .int v2)]) : W p l e rmX4_isBorn s m args below meth c H locs 0 0 (MQ below (QI Γ A BZ rZ) args s 0 0 (rg Γ)) (F0 m 0 ls []) := by
  unfold fX4_isBorn at h
  refine lv_iconst (v := 1) C.1 C.2.1 dX4_isBorn_0 (by decide) ?_
  refine lv_istore_n (lv' := [(3, .int 1), (0, .ref (Γ.2.2 58)), (1, .int v1), (2, .int v2)]) C.1 C.2.1 dX4_isBorn_1 rfl hl (by decide) rfl (fun ls hl => ?_)
  refine lv_iconst (v := 0) C.1 C.2.1 dX4_isBorn_2 (by decide) ?_
  refine lv_istore (lv' := [(4, .int 0), (3, .int 1), (0, .ref (Γ.2.2 58)), (1, .int v1), (2, .int v2)]) C.1 C.2.1 dX4_isBorn_3 hl (by decide) rfl (fun ls hl => ?_)
  exact tX4_isBorn_5 C  FU _ _ _ _ _ _ _ _ h  hW (lv_sub hl [2, 3, 4, 1, 0] rfl)
theorem mt_X4_isBorn {l : Launch} {Γ : Gm} {A B : Me}  {v1 : Int32} {v2 : Int32} {rZ : Int32} {BZ : Me}  (h : fX4_isBorn B v1 v2 = some (rZ, BZ)) : Met l yX4_isBorn wsX4_isBorn rmX4_isBorn (PC Γ A B [.ref (Γ.2.2 58), .int v1, .int v2]) (QI Γ A BZ rZ) 0 0 (rg Γ) :=
  met_of (by decide) rfl (Nat.le_of_ble_eq_true rfl) (fun p e s m below meth c ls C hW hl => tX4_isBorn_0 C  h  hW (lv_sub (l := [(0, .ref (Γ.2.2 58)), (1, .int v1), (2, .int v2)]) hl [0, 1, 2] rfl))
abbrev rmX4_birthsNow : Room := { frames := 4, cells := 0, slots := 0, locals := 94 }
def fX4_birthsNow_27 (j4 : Me → Int32 → Int32 → Int32 → Option (Int32 × Me)) (B : Me)  (v1 : Int32) (v3 : Int32) (t0 : Int32) (t1 : Int32) : Option (Int32 × Me) := j4 B v1 (t0 ||| t1) (v3 + 1)
set_option maxRecDepth 100000 in
theorem tX4_birthsNow_27 {A B : Me}  {H : Heap} {locs : List Loc} {ls : Array Slot} {v1 : Int32} {v3 : Int32} {t0 : Int32} {t1 : Int32} {rZ : Int32} {BZ : Me} {j4 : Me → Int32 → Int32 → Int32 → Option (Int32 × Me)} (C : Cx Γ p s m args meth c cX4_birthsNow 4 (some .int) RX4 wsX4_birthsNow) (hr4 : ∀ (B : Me) (v1 : Int32) (v2 : Int32) (v3 : Int32) (H : Heap) (locs : List Loc) (ls : Array Slot), j4 B v1 v2 v3 = some (rZ, BZ) → Wd Γ A B s.heap H locs → lv_has ls 4 [(0, .ref (Γ.2.2 58)), (1, .int v1), (2, .int v2), (3, .int v3)] → W p l e rmX4_birthsNow s m args below meth c H locs 0 0 (MQ below (QI Γ A BZ rZ) args s 0 0 (rg Γ)) (F0 m 4 ls [])) (h : fX4_birthsNow_27 j4 B v1 v3 t0 t1 = some (rZ, BZ))  (hW : Wd Γ A B s.heap H locs) (hl : lv_has ls 4 [(0, .ref (Γ.2.2 58)), (1, .int v1), (3, .int v3)]) : W p l e rmX4_birthsNow s m args below meth c H locs 0 0 (MQ below (QI Γ A BZ rZ) args s 0 0 (rg Γ)) (F0 m 27 ls [.int t1, .int t0]) := by
  unfold fX4_birthsNow_27 at h
  refine lv_ior C.1 C.2.1 dX4_birthsNow_27 ?_
  refine lv_istore_n (lv' := [(2, .int (t0 ||| t1)), (0, .ref (Γ.2.2 58)), (1, .int v1), (3, .int v3)]) C.1 C.2.1 dX4_birthsNow_28 rfl hl (by decide) rfl (fun ls hl => ?_)
  refine lv_iinc (v := (v3 + 1)) (lv' := [(3, .int (v3 + 1)), (2, .int (t0 ||| t1)), (0, .ref (Γ.2.2 58)), (1, .int v1)]) C.1 C.2.1 dX4_birthsNow_29 hl (k := 3) rfl rfl (by decide) rfl (fun ls hl => ?_)
  refine lv_goto (tgt := 4) C.1 C.2.1 dX4_birthsNow_32 (by decide) ?_
  exact hr4 _ _ _ _ _ _ _ h  hW (lv_sub hl [2, 3, 1, 0] rfl)
def fX4_birthsNow_4   : Nat → Me → Int32 → Int32 → Int32 → Option (Int32 × Me)
  | 0, _, _, _, _ => none
  | n + 1, B, v1, v2, v3 => if 10 ≤ v3 then (some (v2, B)) else (b2 (fX4_isBorn B v1 v3) fun r14 B14 => if r14 = 0 then (fX4_birthsNow_27 (fun m x0 x1 x2 => fX4_birthsNow_4 n m x0 x1 x2) B14 v1 v3 v2 0) else (fX4_birthsNow_27 (fun m x0 x1 x2 => fX4_birthsNow_4 n m x0 x1 x2) B14 v1 v3 v2 (1 <<< (v3 &&& 31))))
set_option maxRecDepth 100000 in
theorem tX4_birthsNow_4 {A : Me}  {rZ : Int32} {BZ : Me}  (C : Cx Γ p s m args meth c cX4_birthsNow 4 (some .int) RX4 wsX4_birthsNow)  (n : Nat) : ∀ (B : Me) (v1 : Int32) (v2 : Int32) (v3 : Int32) (H : Heap) (locs : List Loc) (ls : Array Slot), fX4_birthsNow_4 n B v1 v2 v3 = some (rZ, BZ) → Wd Γ A B s.heap H locs → lv_has ls 4 [(0, .ref (Γ.2.2 58)), (1, .int v1), (2, .int v2), (3, .int v3)] → W p l e rmX4_birthsNow s m args below meth c H locs 0 0 (MQ below (QI Γ A BZ rZ) args s 0 0 (rg Γ)) (F0 m 4 ls []) := by
  induction n with
  | zero =>
    intro _ _ _ _ H locs ls h
    exact nomatch (show (none : Option (Int32 × Me)) = some (rZ, BZ) from h)
  | succ n ih =>
    intro B v1 v2 v3 H locs ls h  hW hl
    rw [fX4_birthsNow_4] at h
    refine lv_iload_n C.1 C.2.1 dX4_birthsNow_4 rfl (lv_at hl 3 rfl) ?_
    refine lv_bipush (v := 10) C.1 C.2.1 dX4_birthsNow_5 (by decide) ?_
    refine lv_icmp_ge (tgt := 35) C.1 C.2.1 dX4_birthsNow_7 (by decide) (fun c_7 => ?_) (fun c_7 => ?_)
    · have h := if_y h c_7
      refine lv_iload_n C.1 C.2.1 dX4_birthsNow_35 rfl (lv_at hl 2 rfl) ?_
      cases h
      exact z_iret C hW dX4_birthsNow_36
    · have h := if_n h c_7
      refine lv_iload_n C.1 C.2.1 dX4_birthsNow_10 rfl (lv_at hl 2 rfl) ?_
      refine lv_aload_n C.1 C.2.1 dX4_birthsNow_11 rfl (lv_at hl 0 rfl) ?_
      refine lv_iload_n C.1 C.2.1 dX4_birthsNow_12 rfl (lv_at hl 1 rfl) ?_
      refine lv_iload_n C.1 C.2.1 dX4_birthsNow_13 rfl (lv_at hl 3 rfl) ?_
      obtain ⟨r14, B14, hc14, h⟩ := b2_s h
      refine cVi C hW (As := [.int v1, .int v3]) (rest := [.int v2]) (mt_X4_isBorn  hc14) (cwV 2 C.2.2.2.2.2.1 gX4_birthsNow_X4_isBorn rfl rfl rfl (by decide +kernel) ⟨Nat.le_of_ble_eq_true rfl, Nat.le_of_ble_eq_true rfl⟩) (rcv4 C hW (rfl : kd 58 = 4)) rfl hl.1 rfl (Nat.le_of_ble_eq_true rfl) dX4_birthsNow_14 (Nat.zero_le _) (Nat.zero_le _) (fun H locs hW => ?_)
      refine lv_if_eq (tgt := 26) C.1 C.2.1 dX4_birthsNow_17 (by decide) (fun c_17 => ?_) (fun c_17 => ?_)
      · have h := if_y h c_17
        refine lv_iconst (v := 0) C.1 C.2.1 dX4_birthsNow_26 (by decide) ?_
        exact tX4_birthsNow_27 C ih h  hW (lv_sub hl [0, 1, 3] rfl)
      · have h := if_n h c_17
        refine lv_iconst (v := 1) C.1 C.2.1 dX4_birthsNow_20 (by decide) ?_
        refine lv_iload_n C.1 C.2.1 dX4_birthsNow_21 rfl (lv_at hl 3 rfl) ?_
        refine lv_ishl C.1 C.2.1 dX4_birthsNow_22 ?_
        refine lv_goto (tgt := 27) C.1 C.2.1 dX4_birthsNow_23 (by decide) ?_
        exact tX4_birthsNow_27 C ih h  hW (lv_sub hl [0, 1, 3] rfl)
def fX4_birthsNow  (B : Me)  (v1 : Int32) : Option (Int32 × Me) := fX4_birthsNow_4 FU B v1 0 0
set_option maxRecDepth 100000 in
theorem tX4_birthsNow_0 {A B : Me}  {H : Heap} {locs : List Loc} {ls : Array Slot} {v1 : Int32} {rZ : Int32} {BZ : Me}  (C : Cx Γ p s m args meth c cX4_birthsNow 4 (some .int) RX4 wsX4_birthsNow)  (h : fX4_birthsNow B v1 = some (rZ, BZ))  (hW : Wd Γ A B s.heap H locs) (hl : lv_has ls 4 [(0, .ref (Γ.2.2 58)), (1, .int v1)]) : W p l e rmX4_birthsNow s m args below meth c H locs 0 0 (MQ below (QI Γ A BZ rZ) args s 0 0 (rg Γ)) (F0 m 0 ls []) := by
  unfold fX4_birthsNow at h
  refine lv_iconst (v := 0) C.1 C.2.1 dX4_birthsNow_0 (by decide) ?_
  refine lv_istore_n (lv' := [(2, .int 0), (0, .ref (Γ.2.2 58)), (1, .int v1)]) C.1 C.2.1 dX4_birthsNow_1 rfl hl (by decide) rfl (fun ls hl => ?_)
  refine lv_iconst (v := 0) C.1 C.2.1 dX4_birthsNow_2 (by decide) ?_
  refine lv_istore_n (lv' := [(3, .int 0), (2, .int 0), (0, .ref (Γ.2.2 58)), (1, .int v1)]) C.1 C.2.1 dX4_birthsNow_3 rfl hl (by decide) rfl (fun ls hl => ?_)
  exact tX4_birthsNow_4 C  FU _ _ _ _ _ _ _ h  hW (lv_sub hl [2, 3, 1, 0] rfl)
theorem mt_X4_birthsNow {l : Launch} {Γ : Gm} {A B : Me}  {v1 : Int32} {rZ : Int32} {BZ : Me}  (h : fX4_birthsNow B v1 = some (rZ, BZ)) : Met l yX4_birthsNow wsX4_birthsNow rmX4_birthsNow (PC Γ A B [.ref (Γ.2.2 58), .int v1]) (QI Γ A BZ rZ) 0 0 (rg Γ) :=
  met_of (by decide) rfl (Nat.le_of_ble_eq_true rfl) (fun p e s m below meth c ls C hW hl => tX4_birthsNow_0 C  h  hW (lv_sub (l := [(0, .ref (Γ.2.2 58)), (1, .int v1)]) hl [0, 1] rfl))
abbrev rmX4_births : Room := { frames := 5, cells := 0, slots := 0, locals := 117 }
set_option maxRecDepth 100000 in
theorem iX4_births_c4 : ∀ w ∈ wsX40, w ∈ wsX4_births := by decide +kernel
set_option maxRecDepth 100000 in
theorem wX4_births_0 : Cond.fieldLink RX4 82 "WineByYearsModel" "casks" "I" ∈ wsX4_births := by decide +kernel
def fX4_births_29  (B : Me)  (t0 : Int32) : Option (Int32 × Me) := some (t0, B)
set_option maxRecDepth 100000 in
theorem tX4_births_29 {A B : Me}  {H : Heap} {locs : List Loc} {ls : Array Slot} {t0 : Int32} {rZ : Int32} {BZ : Me}  (C : Cx Γ p s m args meth c cX4_births 2 (some .int) RX4 wsX4_births)  (h : fX4_births_29 B t0 = some (rZ, BZ))  (hW : Wd Γ A B s.heap H locs) (hl : lv_has ls 2 []) : W p l e rmX4_births s m args below meth c H locs 0 0 (MQ below (QI Γ A BZ rZ) args s 0 0 (rg Γ)) (F0 m 29 ls [.int t0]) := by
  unfold fX4_births_29 at h
  cases h
  exact z_iret C hW dX4_births_29
def fX4_births  (B : Me)  (v1 : Int32) : Option (Int32 × Me) := bi (fX4_within v1 0 4) fun r3 => if r3 = 0 then (some ((-102), B)) else (if (B 58 2) = 0 then (fX4_births_29 B (-103)) else (b2 (fX4_birthsNow B v1) fun r26 B26 => fX4_births_29 B26 r26))
set_option maxRecDepth 100000 in
theorem tX4_births_0 {A B : Me}  {H : Heap} {locs : List Loc} {ls : Array Slot} {v1 : Int32} {rZ : Int32} {BZ : Me}  (C : Cx Γ p s m args meth c cX4_births 2 (some .int) RX4 wsX4_births)  (h : fX4_births B v1 = some (rZ, BZ))  (hW : Wd Γ A B s.heap H locs) (hl : lv_has ls 2 [(0, .ref (Γ.2.2 58)), (1, .int v1)]) : W p l e rmX4_births s m args below meth c H locs 0 0 (MQ below (QI Γ A BZ rZ) args s 0 0 (rg Γ)) (F0 m 0 ls []) := by
  unfold fX4_births at h
  refine lv_iload_n C.1 C.2.1 dX4_births_0 rfl (lv_at hl 1 rfl) ?_
  refine lv_iconst (v := 0) C.1 C.2.1 dX4_births_1 (by decide) ?_
  refine lv_iconst (v := 4) C.1 C.2.1 dX4_births_2 (by decide) ?_
  obtain ⟨r3, hc3, h⟩ := bi_s h
  refine cSi C hW (As := [.int v1, .int 0, .int 4]) (rest := []) (mt_X4_within  hc3) (va_cwS 3 C.2.2.2.2.2.1 gX4_births_X4_within rfl rfl rfl (by decide +kernel) ⟨Nat.le_of_ble_eq_true rfl, Nat.le_of_ble_eq_true rfl⟩) rfl hl.1 rfl (Nat.le_of_ble_eq_true rfl) dX4_births_3 (Nat.zero_le _) (Nat.zero_le _) (fun H locs hW => ?_)
  refine lv_if_ne (tgt := 12) C.1 C.2.1 dX4_births_6 (by decide) (fun c_6 => ?_) (fun c_6 => ?_)
  · have h := if_n h c_6
    refine lv_aload_n C.1 C.2.1 dX4_births_12 rfl (lv_at hl 0 rfl) ?_
    refine gX4_2 C hW rfl iX4_births_c4 wX4_births_0 dX4_births_13 ?_
    refine lv_if_ne (tgt := 24) C.1 C.2.1 dX4_births_16 (by decide) (fun c_16 => ?_) (fun c_16 => ?_)
    · have h := if_n h c_16
      refine lv_aload_n C.1 C.2.1 dX4_births_24 rfl (lv_at hl 0 rfl) ?_
      refine lv_iload_n C.1 C.2.1 dX4_births_25 rfl (lv_at hl 1 rfl) ?_
      obtain ⟨r26, B26, hc26, h⟩ := b2_s h
      refine cVi C hW (As := [.int v1]) (rest := []) (mt_X4_birthsNow  hc26) (cwV 1 C.2.2.2.2.2.1 gX4_births_X4_birthsNow rfl rfl rfl (by decide +kernel) ⟨Nat.le_of_ble_eq_true rfl, Nat.le_of_ble_eq_true rfl⟩) (rcv4 C hW (rfl : kd 58 = 4)) rfl hl.1 rfl (Nat.le_of_ble_eq_true rfl) dX4_births_26 (Nat.zero_le _) (Nat.zero_le _) (fun H locs hW => ?_)
      exact tX4_births_29 C  h  hW (lv_sub hl [] rfl)
    · have h := if_y h c_16
      refine lv_bipush (v := (-103)) C.1 C.2.1 dX4_births_19 (by decide) ?_
      refine lv_goto (tgt := 29) C.1 C.2.1 dX4_births_21 (by decide) ?_
      exact tX4_births_29 C  h  hW (lv_sub hl [] rfl)
  · have h := if_y h c_6
    refine lv_bipush (v := (-102)) C.1 C.2.1 dX4_births_9 (by decide) ?_
    cases h
    exact z_iret C hW dX4_births_11
theorem mt_X4_births {l : Launch} {Γ : Gm} {A B : Me}  {v1 : Int32} {rZ : Int32} {BZ : Me}  (h : fX4_births B v1 = some (rZ, BZ)) : Met l yX4_births wsX4_births rmX4_births (PC Γ A B [.ref (Γ.2.2 58), .int v1]) (QI Γ A BZ rZ) 0 0 (rg Γ) :=
  met_of (by decide) rfl (Nat.le_of_ble_eq_true rfl) (fun p e s m below meth c ls C hW hl => tX4_births_0 C  h  hW (lv_sub (l := [(0, .ref (Γ.2.2 58)), (1, .int v1)]) hl [0, 1] rfl))
abbrev rmX4_askNow : Room := { frames := 5, cells := 0, slots := 0, locals := 117 }
set_option maxRecDepth 100000 in
theorem iX4_askNow_c4 : ∀ w ∈ wsX40, w ∈ wsX4_askNow := by decide +kernel
set_option maxRecDepth 100000 in
theorem wX4_askNow_0 : Cond.constant RX4 188 (268435456) ∈ wsX4_askNow := by decide +kernel
set_option maxRecDepth 100000 in
theorem wX4_askNow_1 : Cond.fieldLink RX4 82 "WineByYearsModel" "casks" "I" ∈ wsX4_askNow := by decide +kernel
def fX4_askNow_73 (j15 : Me → Int32 → Int32 → Int32 → Int32 → Int32 → Option (Int32 × Me)) (j40 : Me → Int32 → Int32 → Int32 → Int32 → Int32 → Int32 → Int32 → Option (Int32 × Me)) (B : Me)  (v1 : Int32) (v2 : Int32) (v3 : Int32) (v4 : Int32) (v5 : Int32) (v7 : Int32) (t0 : Int32) (t1 : Int32) : Option (Int32 × Me) := j40 B v1 v2 v3 v4 v5 (t0 + t1) (v7 + 1)
set_option maxRecDepth 100000 in
theorem tX4_askNow_73 {A B : Me}  {H : Heap} {locs : List Loc} {ls : Array Slot} {v1 : Int32} {v2 : Int32} {v3 : Int32} {v4 : Int32} {v5 : Int32} {v7 : Int32} {t0 : Int32} {t1 : Int32} {rZ : Int32} {BZ : Me} {j15 : Me → Int32 → Int32 → Int32 → Int32 → Int32 → Option (Int32 × Me)} {j40 : Me → Int32 → Int32 → Int32 → Int32 → Int32 → Int32 → Int32 → Option (Int32 × Me)} (C : Cx Γ p s m args meth c cX4_askNow 9 (some .int) RX4 wsX4_askNow) (hr15 : ∀ (B : Me) (v1 : Int32) (v2 : Int32) (v3 : Int32) (v4 : Int32) (v5 : Int32) (H : Heap) (locs : List Loc) (ls : Array Slot), j15 B v1 v2 v3 v4 v5 = some (rZ, BZ) → Wd Γ A B s.heap H locs → lv_has ls 9 [(0, .ref (Γ.2.2 58)), (1, .int v1), (2, .int v2), (3, .int v3), (4, .int v4), (5, .int v5)] → W p l e rmX4_askNow s m args below meth c H locs 0 0 (MQ below (QI Γ A BZ rZ) args s 0 0 (rg Γ)) (F0 m 15 ls [])) (hr40 : ∀ (B : Me) (v1 : Int32) (v2 : Int32) (v3 : Int32) (v4 : Int32) (v5 : Int32) (v6 : Int32) (v7 : Int32) (H : Heap) (locs : List Loc) (ls : Array Slot), j40 B v1 v2 v3 v4 v5 v6 v7 = some (rZ, BZ) → Wd Γ A B s.heap H locs → lv_has ls 9 [(0, .ref (Γ.2.2 58)), (1, .int v1), (2, .int v2), (3, .int v3), (4, .int v4), (5, .int v5), (6, .int v6), (7, .int v7)] → W p l e rmX4_askNow s m args below meth c H locs 0 0 (MQ below (QI Γ A BZ rZ) args s 0 0 (rg Γ)) (F0 m 40 ls [])) (h : fX4_askNow_73 j15 j40 B v1 v2 v3 v4 v5 v7 t0 t1 = some (rZ, BZ))  (hW : Wd Γ A B s.heap H locs) (hl : lv_has ls 9 [(0, .ref (Γ.2.2 58)), (1, .int v1), (2, .int v2), (3, .int v3), (4, .int v4), (5, .int v5), (7, .int v7)]) : W p l e rmX4_askNow s m args below meth c H locs 0 0 (MQ below (QI Γ A BZ rZ) args s 0 0 (rg Γ)) (F0 m 73 ls [.int t1, .int t0]) := by
  unfold fX4_askNow_73 at h
  refine lv_iadd C.1 C.2.1 dX4_askNow_73 ?_
  refine lv_istore (lv' := [(6, .int (t0 + t1)), (0, .ref (Γ.2.2 58)), (1, .int v1), (2, .int v2), (3, .int v3), (4, .int v4), (5, .int v5), (7, .int v7)]) C.1 C.2.1 dX4_askNow_74 hl (by decide) rfl (fun ls hl => ?_)
  refine lv_iinc (v := (v7 + 1)) (lv' := [(7, .int (v7 + 1)), (6, .int (t0 + t1)), (0, .ref (Γ.2.2 58)), (1, .int v1), (2, .int v2), (3, .int v3), (4, .int v4), (5, .int v5)]) C.1 C.2.1 dX4_askNow_76 hl (k := 7) rfl rfl (by decide) rfl (fun ls hl => ?_)
  refine lv_goto (tgt := 40) C.1 C.2.1 dX4_askNow_79 (by decide) ?_
  exact hr40 _ _ _ _ _ _ _ _ _ _ _ h  hW (lv_sub hl [2, 3, 4, 5, 6, 7, 1, 0] rfl)
def fX4_askNow_72 (j15 : Me → Int32 → Int32 → Int32 → Int32 → Int32 → Option (Int32 × Me)) (j40 : Me → Int32 → Int32 → Int32 → Int32 → Int32 → Int32 → Int32 → Option (Int32 × Me)) (B : Me)  (v1 : Int32) (v2 : Int32) (v3 : Int32) (v4 : Int32) (v5 : Int32) (v7 : Int32) (t0 : Int32) : Option (Int32 × Me) := fX4_askNow_73 j15 j40 B v1 v2 v3 v4 v5 v7 t0 0
set_option maxRecDepth 100000 in
theorem tX4_askNow_72 {A B : Me}  {H : Heap} {locs : List Loc} {ls : Array Slot} {v1 : Int32} {v2 : Int32} {v3 : Int32} {v4 : Int32} {v5 : Int32} {v7 : Int32} {t0 : Int32} {rZ : Int32} {BZ : Me} {j15 : Me → Int32 → Int32 → Int32 → Int32 → Int32 → Option (Int32 × Me)} {j40 : Me → Int32 → Int32 → Int32 → Int32 → Int32 → Int32 → Int32 → Option (Int32 × Me)} (C : Cx Γ p s m args meth c cX4_askNow 9 (some .int) RX4 wsX4_askNow) (hr15 : ∀ (B : Me) (v1 : Int32) (v2 : Int32) (v3 : Int32) (v4 : Int32) (v5 : Int32) (H : Heap) (locs : List Loc) (ls : Array Slot), j15 B v1 v2 v3 v4 v5 = some (rZ, BZ) → Wd Γ A B s.heap H locs → lv_has ls 9 [(0, .ref (Γ.2.2 58)), (1, .int v1), (2, .int v2), (3, .int v3), (4, .int v4), (5, .int v5)] → W p l e rmX4_askNow s m args below meth c H locs 0 0 (MQ below (QI Γ A BZ rZ) args s 0 0 (rg Γ)) (F0 m 15 ls [])) (hr40 : ∀ (B : Me) (v1 : Int32) (v2 : Int32) (v3 : Int32) (v4 : Int32) (v5 : Int32) (v6 : Int32) (v7 : Int32) (H : Heap) (locs : List Loc) (ls : Array Slot), j40 B v1 v2 v3 v4 v5 v6 v7 = some (rZ, BZ) → Wd Γ A B s.heap H locs → lv_has ls 9 [(0, .ref (Γ.2.2 58)), (1, .int v1), (2, .int v2), (3, .int v3), (4, .int v4), (5, .int v5), (6, .int v6), (7, .int v7)] → W p l e rmX4_askNow s m args below meth c H locs 0 0 (MQ below (QI Γ A BZ rZ) args s 0 0 (rg Γ)) (F0 m 40 ls [])) (h : fX4_askNow_72 j15 j40 B v1 v2 v3 v4 v5 v7 t0 = some (rZ, BZ))  (hW : Wd Γ A B s.heap H locs) (hl : lv_has ls 9 [(0, .ref (Γ.2.2 58)), (1, .int v1), (2, .int v2), (3, .int v3), (4, .int v4), (5, .int v5), (7, .int v7)]) : W p l e rmX4_askNow s m args below meth c H locs 0 0 (MQ below (QI Γ A BZ rZ) args s 0 0 (rg Γ)) (F0 m 72 ls [.int t0]) := by
  unfold fX4_askNow_72 at h
  refine lv_iconst (v := 0) C.1 C.2.1 dX4_askNow_72 (by decide) ?_
  exact tX4_askNow_73 C hr15 hr40 h  hW (lv_sub hl [0, 1, 2, 3, 4, 5, 6] rfl)
def fX4_askNow_147 (j15 : Me → Int32 → Int32 → Int32 → Int32 → Int32 → Option (Int32 × Me)) (B : Me)  (v1 : Int32) (v2 : Int32) (v3 : Int32) (v5 : Int32) (t0 : Int32) : Option (Int32 × Me) := j15 B v1 v2 v3 t0 (v5 + 1)
set_option maxRecDepth 100000 in
theorem tX4_askNow_147 {A B : Me}  {H : Heap} {locs : List Loc} {ls : Array Slot} {v1 : Int32} {v2 : Int32} {v3 : Int32} {v5 : Int32} {t0 : Int32} {rZ : Int32} {BZ : Me} {j15 : Me → Int32 → Int32 → Int32 → Int32 → Int32 → Option (Int32 × Me)} (C : Cx Γ p s m args meth c cX4_askNow 9 (some .int) RX4 wsX4_askNow) (hr15 : ∀ (B : Me) (v1 : Int32) (v2 : Int32) (v3 : Int32) (v4 : Int32) (v5 : Int32) (H : Heap) (locs : List Loc) (ls : Array Slot), j15 B v1 v2 v3 v4 v5 = some (rZ, BZ) → Wd Γ A B s.heap H locs → lv_has ls 9 [(0, .ref (Γ.2.2 58)), (1, .int v1), (2, .int v2), (3, .int v3), (4, .int v4), (5, .int v5)] → W p l e rmX4_askNow s m args below meth c H locs 0 0 (MQ below (QI Γ A BZ rZ) args s 0 0 (rg Γ)) (F0 m 15 ls [])) (h : fX4_askNow_147 j15 B v1 v2 v3 v5 t0 = some (rZ, BZ))  (hW : Wd Γ A B s.heap H locs) (hl : lv_has ls 9 [(0, .ref (Γ.2.2 58)), (1, .int v1), (2, .int v2), (3, .int v3), (5, .int v5)]) : W p l e rmX4_askNow s m args below meth c H locs 0 0 (MQ below (QI Γ A BZ rZ) args s 0 0 (rg Γ)) (F0 m 147 ls [.int t0]) := by
  unfold fX4_askNow_147 at h
  refine lv_istore (lv' := [(4, .int t0), (0, .ref (Γ.2.2 58)), (1, .int v1), (2, .int v2), (3, .int v3), (5, .int v5)]) C.1 C.2.1 dX4_askNow_147 hl (by decide) rfl (fun ls hl => ?_)
  refine lv_iinc (v := (v5 + 1)) (lv' := [(5, .int (v5 + 1)), (4, .int t0), (0, .ref (Γ.2.2 58)), (1, .int v1), (2, .int v2), (3, .int v3)]) C.1 C.2.1 dX4_askNow_149 hl (k := 5) rfl rfl (by decide) rfl (fun ls hl => ?_)
  refine lv_goto (tgt := 15) C.1 C.2.1 dX4_askNow_152 (by decide) ?_
  exact hr15 _ _ _ _ _ _ _ _ _ h  hW (lv_sub hl [2, 3, 4, 5, 1, 0] rfl)
def fX4_askNow_132 (j15 : Me → Int32 → Int32 → Int32 → Int32 → Int32 → Option (Int32 × Me)) (B : Me)  (v1 : Int32) (v2 : Int32) (v4 : Int32) (v5 : Int32) (v8 : Int32) (t0 : Int32) : Option (Int32 × Me) := if v4 ≤ v8 then (fX4_askNow_147 j15 B v1 v2 t0 v5 v4) else (fX4_askNow_147 j15 B v1 v2 t0 v5 v8)
set_option maxRecDepth 100000 in
theorem tX4_askNow_132 {A B : Me}  {H : Heap} {locs : List Loc} {ls : Array Slot} {v1 : Int32} {v2 : Int32} {v4 : Int32} {v5 : Int32} {v8 : Int32} {t0 : Int32} {rZ : Int32} {BZ : Me} {j15 : Me → Int32 → Int32 → Int32 → Int32 → Int32 → Option (Int32 × Me)} (C : Cx Γ p s m args meth c cX4_askNow 9 (some .int) RX4 wsX4_askNow) (hr15 : ∀ (B : Me) (v1 : Int32) (v2 : Int32) (v3 : Int32) (v4 : Int32) (v5 : Int32) (H : Heap) (locs : List Loc) (ls : Array Slot), j15 B v1 v2 v3 v4 v5 = some (rZ, BZ) → Wd Γ A B s.heap H locs → lv_has ls 9 [(0, .ref (Γ.2.2 58)), (1, .int v1), (2, .int v2), (3, .int v3), (4, .int v4), (5, .int v5)] → W p l e rmX4_askNow s m args below meth c H locs 0 0 (MQ below (QI Γ A BZ rZ) args s 0 0 (rg Γ)) (F0 m 15 ls [])) (h : fX4_askNow_132 j15 B v1 v2 v4 v5 v8 t0 = some (rZ, BZ))  (hW : Wd Γ A B s.heap H locs) (hl : lv_has ls 9 [(0, .ref (Γ.2.2 58)), (1, .int v1), (2, .int v2), (4, .int v4), (5, .int v5), (8, .int v8)]) : W p l e rmX4_askNow s m args below meth c H locs 0 0 (MQ below (QI Γ A BZ rZ) args s 0 0 (rg Γ)) (F0 m 132 ls [.int t0]) := by
  unfold fX4_askNow_132 at h
  refine lv_istore_n (lv' := [(3, .int t0), (0, .ref (Γ.2.2 58)), (1, .int v1), (2, .int v2), (4, .int v4), (5, .int v5), (8, .int v8)]) C.1 C.2.1 dX4_askNow_132 rfl hl (by decide) rfl (fun ls hl => ?_)
  refine lv_iload C.1 C.2.1 dX4_askNow_133 (lv_at hl 6 rfl) ?_
  refine lv_iload C.1 C.2.1 dX4_askNow_135 (lv_at hl 4 rfl) ?_
  refine lv_icmp_ge (tgt := 145) C.1 C.2.1 dX4_askNow_137 (by decide) (fun c_137 => ?_) (fun c_137 => ?_)
  · have h := if_y h c_137
    refine lv_iload C.1 C.2.1 dX4_askNow_145 (lv_at hl 4 rfl) ?_
    exact tX4_askNow_147 C hr15 h  hW (lv_sub hl [1, 2, 3, 0, 5] rfl)
  · have h := if_n h c_137
    refine lv_iload C.1 C.2.1 dX4_askNow_140 (lv_at hl 6 rfl) ?_
    refine lv_goto (tgt := 147) C.1 C.2.1 dX4_askNow_142 (by decide) ?_
    exact tX4_askNow_147 C hr15 h  hW (lv_sub hl [1, 2, 3, 0, 5] rfl)
def fX4_askNow_117 (j15 : Me → Int32 → Int32 → Int32 → Int32 → Int32 → Option (Int32 × Me)) (B : Me)  (v1 : Int32) (v2 : Int32) (v3 : Int32) (v4 : Int32) (v5 : Int32) (t0 : Int32) : Option (Int32 × Me) := if v4 ≤ t0 then (fX4_askNow_132 j15 B v1 v2 v4 v5 t0 v3) else (fX4_askNow_132 j15 B v1 v2 v4 v5 t0 v5)
set_option maxRecDepth 100000 in
theorem tX4_askNow_117 {A B : Me}  {H : Heap} {locs : List Loc} {ls : Array Slot} {v1 : Int32} {v2 : Int32} {v3 : Int32} {v4 : Int32} {v5 : Int32} {t0 : Int32} {rZ : Int32} {BZ : Me} {j15 : Me → Int32 → Int32 → Int32 → Int32 → Int32 → Option (Int32 × Me)} (C : Cx Γ p s m args meth c cX4_askNow 9 (some .int) RX4 wsX4_askNow) (hr15 : ∀ (B : Me) (v1 : Int32) (v2 : Int32) (v3 : Int32) (v4 : Int32) (v5 : Int32) (H : Heap) (locs : List Loc) (ls : Array Slot), j15 B v1 v2 v3 v4 v5 = some (rZ, BZ) → Wd Γ A B s.heap H locs → lv_has ls 9 [(0, .ref (Γ.2.2 58)), (1, .int v1), (2, .int v2), (3, .int v3), (4, .int v4), (5, .int v5)] → W p l e rmX4_askNow s m args below meth c H locs 0 0 (MQ below (QI Γ A BZ rZ) args s 0 0 (rg Γ)) (F0 m 15 ls [])) (h : fX4_askNow_117 j15 B v1 v2 v3 v4 v5 t0 = some (rZ, BZ))  (hW : Wd Γ A B s.heap H locs) (hl : lv_has ls 9 [(0, .ref (Γ.2.2 58)), (1, .int v1), (2, .int v2), (3, .int v3), (4, .int v4), (5, .int v5)]) : W p l e rmX4_askNow s m args below meth c H locs 0 0 (MQ below (QI Γ A BZ rZ) args s 0 0 (rg Γ)) (F0 m 117 ls [.int t0]) := by
  unfold fX4_askNow_117 at h
  refine lv_istore (lv' := [(8, .int t0), (0, .ref (Γ.2.2 58)), (1, .int v1), (2, .int v2), (3, .int v3), (4, .int v4), (5, .int v5)]) C.1 C.2.1 dX4_askNow_117 hl (by decide) rfl (fun ls hl => ?_)
  refine lv_iload C.1 C.2.1 dX4_askNow_119 (lv_at hl 0 rfl) ?_
  refine lv_iload C.1 C.2.1 dX4_askNow_121 (lv_at hl 5 rfl) ?_
  refine lv_icmp_ge (tgt := 131) C.1 C.2.1 dX4_askNow_123 (by decide) (fun c_123 => ?_) (fun c_123 => ?_)
  · have h := if_y h c_123
    refine lv_iload_n C.1 C.2.1 dX4_askNow_131 rfl (lv_at hl 4 rfl) ?_
    exact tX4_askNow_132 C hr15 h  hW (lv_sub hl [1, 2, 3, 5, 6, 0] rfl)
  · have h := if_n h c_123
    refine lv_iload C.1 C.2.1 dX4_askNow_126 (lv_at hl 6 rfl) ?_
    refine lv_goto (tgt := 132) C.1 C.2.1 dX4_askNow_128 (by decide) ?_
    exact tX4_askNow_132 C hr15 h  hW (lv_sub hl [1, 2, 3, 5, 6, 0] rfl)
def fX4_askNow_40 (j15 : Me → Int32 → Int32 → Int32 → Int32 → Int32 → Option (Int32 × Me))  : Nat → Me → Int32 → Int32 → Int32 → Int32 → Int32 → Int32 → Int32 → Option (Int32 × Me)
  | 0, _, _, _, _, _, _, _, _ => none
  | n + 1, B, v1, v2, v3, v4, v5, v6, v7 => if 10 ≤ v7 then (bi (fX4_size v2) fun r83 => bi (fX4_litresThought B) fun r92 => if r92 = 0 then (fX4_askNow_117 j15 B v1 v2 v3 v4 v5 268435456) else (if v6 ≤ (r83 - v6) then (fX4_askNow_117 j15 B v1 v2 v3 v4 v5 (r83 - v6)) else (fX4_askNow_117 j15 B v1 v2 v3 v4 v5 v6))) else (bi (fX4_has v2 v7) fun r52 => if r52 = 0 then (fX4_askNow_72 j15 (fun m x0 x1 x2 x3 x4 x5 x6 => fX4_askNow_40 j15 n m x0 x1 x2 x3 x4 x5 x6) B v1 v2 v3 v4 v5 v7 v6) else (bi (fX4_mayThought B v1 v7) fun r62 => if r62 = 0 then (fX4_askNow_72 j15 (fun m x0 x1 x2 x3 x4 x5 x6 => fX4_askNow_40 j15 n m x0 x1 x2 x3 x4 x5 x6) B v1 v2 v3 v4 v5 v7 v6) else (fX4_askNow_73 j15 (fun m x0 x1 x2 x3 x4 x5 x6 => fX4_askNow_40 j15 n m x0 x1 x2 x3 x4 x5 x6) B v1 v2 v3 v4 v5 v7 v6 1)))
set_option maxRecDepth 100000 in
theorem tX4_askNow_40 {A : Me}  {rZ : Int32} {BZ : Me} {j15 : Me → Int32 → Int32 → Int32 → Int32 → Int32 → Option (Int32 × Me)} (C : Cx Γ p s m args meth c cX4_askNow 9 (some .int) RX4 wsX4_askNow) (hr15 : ∀ (B : Me) (v1 : Int32) (v2 : Int32) (v3 : Int32) (v4 : Int32) (v5 : Int32) (H : Heap) (locs : List Loc) (ls : Array Slot), j15 B v1 v2 v3 v4 v5 = some (rZ, BZ) → Wd Γ A B s.heap H locs → lv_has ls 9 [(0, .ref (Γ.2.2 58)), (1, .int v1), (2, .int v2), (3, .int v3), (4, .int v4), (5, .int v5)] → W p l e rmX4_askNow s m args below meth c H locs 0 0 (MQ below (QI Γ A BZ rZ) args s 0 0 (rg Γ)) (F0 m 15 ls [])) (n : Nat) : ∀ (B : Me) (v1 : Int32) (v2 : Int32) (v3 : Int32) (v4 : Int32) (v5 : Int32) (v6 : Int32) (v7 : Int32) (H : Heap) (locs : List Loc) (ls : Array Slot), fX4_askNow_40 j15 n B v1 v2 v3 v4 v5 v6 v7 = some (rZ, BZ) → Wd Γ A B s.heap H locs → lv_has ls 9 [(0, .ref (Γ.2.2 58)), (1, .int v1), (2, .int v2), (3, .int v3), (4, .int v4), (5, .int v5), (6, .int v6), (7, .int v7)] → W p l e rmX4_askNow s m args below meth c H locs 0 0 (MQ below (QI Γ A BZ rZ) args s 0 0 (rg Γ)) (F0 m 40 ls []) := by
  induction n with
  | zero =>
    intro _ _ _ _ _ _ _ _ H locs ls h
    exact nomatch (show (none : Option (Int32 × Me)) = some (rZ, BZ) from h)
  | succ n ih =>
    intro B v1 v2 v3 v4 v5 v6 v7 H locs ls h  hW hl
    rw [fX4_askNow_40] at h
    refine lv_iload C.1 C.2.1 dX4_askNow_40 (lv_at hl 7 rfl) ?_
    refine lv_bipush (v := 10) C.1 C.2.1 dX4_askNow_42 (by decide) ?_
    refine lv_icmp_ge (tgt := 82) C.1 C.2.1 dX4_askNow_44 (by decide) (fun c_44 => ?_) (fun c_44 => ?_)
    · have h := if_y h c_44
      refine lv_iload_n C.1 C.2.1 dX4_askNow_82 rfl (lv_at hl 2 rfl) ?_
      obtain ⟨r83, hc83, h⟩ := bi_s h
      refine cSi C hW (As := [.int v2]) (rest := []) (mt_X4_size  hc83) (va_cwS 1 C.2.2.2.2.2.1 gX4_askNow_X4_size rfl rfl rfl (by decide +kernel) ⟨Nat.le_of_ble_eq_true rfl, Nat.le_of_ble_eq_true rfl⟩) rfl hl.1 rfl (Nat.le_of_ble_eq_true rfl) dX4_askNow_83 (Nat.zero_le _) (Nat.zero_le _) (fun H locs hW => ?_)
      refine lv_iload C.1 C.2.1 dX4_askNow_86 (lv_at hl 6 rfl) ?_
      refine lv_isub C.1 C.2.1 dX4_askNow_88 ?_
      refine lv_istore (lv' := [(7, .int (r83 - v6)), (0, .ref (Γ.2.2 58)), (1, .int v1), (2, .int v2), (3, .int v3), (4, .int v4), (5, .int v5), (6, .int v6)]) C.1 C.2.1 dX4_askNow_89 hl (by decide) rfl (fun ls hl => ?_)
      refine lv_aload_n C.1 C.2.1 dX4_askNow_91 rfl (lv_at hl 1 rfl) ?_
      obtain ⟨r92, hc92, h⟩ := bi_s h
      refine cVi C hW (As := []) (rest := []) (mt_X4_litresThought  hc92) (cwV 0 C.2.2.2.2.2.1 gX4_askNow_X4_litresThought rfl rfl rfl (by decide +kernel) ⟨Nat.le_of_ble_eq_true rfl, Nat.le_of_ble_eq_true rfl⟩) (rcv4 C hW (rfl : kd 58 = 4)) rfl hl.1 rfl (Nat.le_of_ble_eq_true rfl) dX4_askNow_92 (Nat.zero_le _) (Nat.zero_le _) (fun H locs hW => ?_)
      refine lv_if_ne (tgt := 103) C.1 C.2.1 dX4_askNow_95 (by decide) (fun c_95 => ?_) (fun c_95 => ?_)
      · have h := if_n h c_95
        refine lv_iload C.1 C.2.1 dX4_askNow_103 (lv_at hl 7 rfl) ?_
        refine lv_iload C.1 C.2.1 dX4_askNow_105 (lv_at hl 0 rfl) ?_
        refine lv_icmp_le (tgt := 115) C.1 C.2.1 dX4_askNow_107 (by decide) (fun c_107 => ?_) (fun c_107 => ?_)
        · have h := if_y h c_107
          refine lv_iload C.1 C.2.1 dX4_askNow_115 (lv_at hl 0 rfl) ?_
          exact tX4_askNow_117 C hr15 h  hW (lv_sub hl [1, 2, 3, 4, 5, 6] rfl)
        · have h := if_n h c_107
          refine lv_iload C.1 C.2.1 dX4_askNow_110 (lv_at hl 7 rfl) ?_
          refine lv_goto (tgt := 117) C.1 C.2.1 dX4_askNow_112 (by decide) ?_
          exact tX4_askNow_117 C hr15 h  hW (lv_sub hl [1, 2, 3, 4, 5, 6] rfl)
      · have h := if_y h c_95
        refine lv_ldc (v := 268435456) C.1 C.2.1 C.2.2.2.2.1 (C.2.2.2.2.2.1 _ wX4_askNow_0) dX4_askNow_98 ?_
        refine lv_goto (tgt := 117) C.1 C.2.1 dX4_askNow_100 (by decide) ?_
        exact tX4_askNow_117 C hr15 h  hW (lv_sub hl [1, 2, 3, 4, 5, 6] rfl)
    · have h := if_n h c_44
      refine lv_iload C.1 C.2.1 dX4_askNow_47 (lv_at hl 6 rfl) ?_
      refine lv_iload_n C.1 C.2.1 dX4_askNow_49 rfl (lv_at hl 2 rfl) ?_
      refine lv_iload C.1 C.2.1 dX4_askNow_50 (lv_at hl 7 rfl) ?_
      obtain ⟨r52, hc52, h⟩ := bi_s h
      refine cSi C hW (As := [.int v2, .int v7]) (rest := [.int v6]) (mt_X4_has  hc52) (va_cwS 2 C.2.2.2.2.2.1 gX4_askNow_X4_has rfl rfl rfl (by decide +kernel) ⟨Nat.le_of_ble_eq_true rfl, Nat.le_of_ble_eq_true rfl⟩) rfl hl.1 rfl (Nat.le_of_ble_eq_true rfl) dX4_askNow_52 (Nat.zero_le _) (Nat.zero_le _) (fun H locs hW => ?_)
      refine lv_if_eq (tgt := 72) C.1 C.2.1 dX4_askNow_55 (by decide) (fun c_55 => ?_) (fun c_55 => ?_)
      · have h := if_y h c_55
        exact tX4_askNow_72 C hr15 ih h  hW (lv_sub hl [0, 1, 2, 3, 4, 5, 7] rfl)
      · have h := if_n h c_55
        refine lv_aload_n C.1 C.2.1 dX4_askNow_58 rfl (lv_at hl 0 rfl) ?_
        refine lv_iload_n C.1 C.2.1 dX4_askNow_59 rfl (lv_at hl 1 rfl) ?_
        refine lv_iload C.1 C.2.1 dX4_askNow_60 (lv_at hl 7 rfl) ?_
        obtain ⟨r62, hc62, h⟩ := bi_s h
        refine cVi C hW (As := [.int v1, .int v7]) (rest := [.int v6]) (mt_X4_mayThought  hc62) (cwV 2 C.2.2.2.2.2.1 gX4_askNow_X4_mayThought rfl rfl rfl (by decide +kernel) ⟨Nat.le_of_ble_eq_true rfl, Nat.le_of_ble_eq_true rfl⟩) (rcv4 C hW (rfl : kd 58 = 4)) rfl hl.1 rfl (Nat.le_of_ble_eq_true rfl) dX4_askNow_62 (Nat.zero_le _) (Nat.zero_le _) (fun H locs hW => ?_)
        refine lv_if_eq (tgt := 72) C.1 C.2.1 dX4_askNow_65 (by decide) (fun c_65 => ?_) (fun c_65 => ?_)
        · have h := if_y h c_65
          exact tX4_askNow_72 C hr15 ih h  hW (lv_sub hl [0, 1, 2, 3, 4, 5, 7] rfl)
        · have h := if_n h c_65
          refine lv_iconst (v := 1) C.1 C.2.1 dX4_askNow_68 (by decide) ?_
          refine lv_goto (tgt := 73) C.1 C.2.1 dX4_askNow_69 (by decide) ?_
          exact tX4_askNow_73 C hr15 ih h  hW (lv_sub hl [0, 1, 2, 3, 4, 5, 7] rfl)
def fX4_askNow_155  (B : Me)  (v3 : Int32) : Option (Int32 × Me) := some (v3, B)
set_option maxRecDepth 100000 in
theorem tX4_askNow_155 {A B : Me}  {H : Heap} {locs : List Loc} {ls : Array Slot} {v3 : Int32} {rZ : Int32} {BZ : Me}  (C : Cx Γ p s m args meth c cX4_askNow 9 (some .int) RX4 wsX4_askNow)  (h : fX4_askNow_155 B v3 = some (rZ, BZ))  (hW : Wd Γ A B s.heap H locs) (hl : lv_has ls 9 [(3, .int v3)]) : W p l e rmX4_askNow s m args below meth c H locs 0 0 (MQ below (QI Γ A BZ rZ) args s 0 0 (rg Γ)) (F0 m 155 ls []) := by
  unfold fX4_askNow_155 at h
  refine lv_iload_n C.1 C.2.1 dX4_askNow_155 rfl (lv_at hl 0 rfl) ?_
  cases h
  exact z_iret C hW dX4_askNow_156
def fX4_askNow_15   : Nat → Me → Int32 → Int32 → Int32 → Int32 → Int32 → Option (Int32 × Me)
  | 0, _, _, _, _, _, _ => none
  | n + 1, B, v1, v2, v3, v4, v5 => if (B 58 2) ≤ v5 then (fX4_askNow_155 B v3) else (if v2 = 0 then (fX4_askNow_155 B v3) else (bi (fX4_think B v5) fun B31 => fX4_askNow_40 (fun m x0 x1 x2 x3 x4 => fX4_askNow_15 n m x0 x1 x2 x3 x4) FU B31 v1 v2 v3 v4 v5 0 0))
set_option maxRecDepth 100000 in
theorem tX4_askNow_15 {A : Me}  {rZ : Int32} {BZ : Me}  (C : Cx Γ p s m args meth c cX4_askNow 9 (some .int) RX4 wsX4_askNow)  (n : Nat) : ∀ (B : Me) (v1 : Int32) (v2 : Int32) (v3 : Int32) (v4 : Int32) (v5 : Int32) (H : Heap) (locs : List Loc) (ls : Array Slot), fX4_askNow_15 n B v1 v2 v3 v4 v5 = some (rZ, BZ) → Wd Γ A B s.heap H locs → lv_has ls 9 [(0, .ref (Γ.2.2 58)), (1, .int v1), (2, .int v2), (3, .int v3), (4, .int v4), (5, .int v5)] → W p l e rmX4_askNow s m args below meth c H locs 0 0 (MQ below (QI Γ A BZ rZ) args s 0 0 (rg Γ)) (F0 m 15 ls []) := by
  induction n with
  | zero =>
    intro _ _ _ _ _ _ H locs ls h
    exact nomatch (show (none : Option (Int32 × Me)) = some (rZ, BZ) from h)
  | succ n ih =>
    intro B v1 v2 v3 v4 v5 H locs ls h  hW hl
    rw [fX4_askNow_15] at h
    refine lv_iload C.1 C.2.1 dX4_askNow_15 (lv_at hl 5 rfl) ?_
    refine lv_aload_n C.1 C.2.1 dX4_askNow_17 rfl (lv_at hl 0 rfl) ?_
    refine gX4_2 C hW rfl iX4_askNow_c4 wX4_askNow_1 dX4_askNow_18 ?_
    refine lv_icmp_ge (tgt := 155) C.1 C.2.1 dX4_askNow_21 (by decide) (fun c_21 => ?_) (fun c_21 => ?_)
    · have h := if_y h c_21
      exact tX4_askNow_155 C  h  hW (lv_sub hl [3] rfl)
    · have h := if_n h c_21
      refine lv_iload_n C.1 C.2.1 dX4_askNow_24 rfl (lv_at hl 2 rfl) ?_
      refine lv_if_eq (tgt := 155) C.1 C.2.1 dX4_askNow_25 (by decide) (fun c_25 => ?_) (fun c_25 => ?_)
      · have h := if_y h c_25
        exact tX4_askNow_155 C  h  hW (lv_sub hl [3] rfl)
      · have h := if_n h c_25
        refine lv_aload_n C.1 C.2.1 dX4_askNow_28 rfl (lv_at hl 0 rfl) ?_
        refine lv_iload C.1 C.2.1 dX4_askNow_29 (lv_at hl 5 rfl) ?_
        obtain ⟨B31, hc31, h⟩ := bi_s h
        refine cVv C hW (As := [.int v5]) (rest := []) (mt_X4_think  hc31) (cwV 1 C.2.2.2.2.2.1 gX4_askNow_X4_think rfl rfl rfl (by decide +kernel) ⟨Nat.le_of_ble_eq_true rfl, Nat.le_of_ble_eq_true rfl⟩) (rcv4 C hW (rfl : kd 58 = 4)) rfl hl.1 rfl (Nat.le_of_ble_eq_true rfl) dX4_askNow_31 (Nat.zero_le _) (Nat.zero_le _) (fun H locs hW => ?_)
        refine lv_iconst (v := 0) C.1 C.2.1 dX4_askNow_34 (by decide) ?_
        refine lv_istore (lv' := [(6, .int 0), (0, .ref (Γ.2.2 58)), (1, .int v1), (2, .int v2), (3, .int v3), (4, .int v4), (5, .int v5)]) C.1 C.2.1 dX4_askNow_35 hl (by decide) rfl (fun ls hl => ?_)
        refine lv_iconst (v := 0) C.1 C.2.1 dX4_askNow_37 (by decide) ?_
        refine lv_istore (lv' := [(7, .int 0), (6, .int 0), (0, .ref (Γ.2.2 58)), (1, .int v1), (2, .int v2), (3, .int v3), (4, .int v4), (5, .int v5)]) C.1 C.2.1 dX4_askNow_38 hl (by decide) rfl (fun ls hl => ?_)
        exact tX4_askNow_40 C ih FU _ _ _ _ _ _ _ _ _ _ _ h  hW (lv_sub hl [2, 3, 4, 5, 6, 7, 1, 0] rfl)
def fX4_askNow  (B : Me)  (v1 : Int32) : Option (Int32 × Me) := b2 (fX4_birthsNow B v1) fun r2 B2 => fX4_askNow_15 FU B2 v1 r2 (-1) 268435456 0
set_option maxRecDepth 100000 in
theorem tX4_askNow_0 {A B : Me}  {H : Heap} {locs : List Loc} {ls : Array Slot} {v1 : Int32} {rZ : Int32} {BZ : Me}  (C : Cx Γ p s m args meth c cX4_askNow 9 (some .int) RX4 wsX4_askNow)  (h : fX4_askNow B v1 = some (rZ, BZ))  (hW : Wd Γ A B s.heap H locs) (hl : lv_has ls 9 [(0, .ref (Γ.2.2 58)), (1, .int v1)]) : W p l e rmX4_askNow s m args below meth c H locs 0 0 (MQ below (QI Γ A BZ rZ) args s 0 0 (rg Γ)) (F0 m 0 ls []) := by
  unfold fX4_askNow at h
  refine lv_aload_n C.1 C.2.1 dX4_askNow_0 rfl (lv_at hl 0 rfl) ?_
  refine lv_iload_n C.1 C.2.1 dX4_askNow_1 rfl (lv_at hl 1 rfl) ?_
  obtain ⟨r2, B2, hc2, h⟩ := b2_s h
  refine cVi C hW (As := [.int v1]) (rest := []) (mt_X4_birthsNow  hc2) (cwV 1 C.2.2.2.2.2.1 gX4_askNow_X4_birthsNow rfl rfl rfl (by decide +kernel) ⟨Nat.le_of_ble_eq_true rfl, Nat.le_of_ble_eq_true rfl⟩) (rcv4 C hW (rfl : kd 58 = 4)) rfl hl.1 rfl (Nat.le_of_ble_eq_true rfl) dX4_askNow_2 (Nat.zero_le _) (Nat.zero_le _) (fun H locs hW => ?_)
  refine lv_istore_n (lv' := [(2, .int r2), (0, .ref (Γ.2.2 58)), (1, .int v1)]) C.1 C.2.1 dX4_askNow_5 rfl hl (by decide) rfl (fun ls hl => ?_)
  refine lv_iconst (v := (-1)) C.1 C.2.1 dX4_askNow_6 (by decide) ?_
  refine lv_istore_n (lv' := [(3, .int (-1)), (2, .int r2), (0, .ref (Γ.2.2 58)), (1, .int v1)]) C.1 C.2.1 dX4_askNow_7 rfl hl (by decide) rfl (fun ls hl => ?_)
  refine lv_ldc (v := 268435456) C.1 C.2.1 C.2.2.2.2.1 (C.2.2.2.2.2.1 _ wX4_askNow_0) dX4_askNow_8 ?_
  refine lv_istore (lv' := [(4, .int 268435456), (3, .int (-1)), (2, .int r2), (0, .ref (Γ.2.2 58)), (1, .int v1)]) C.1 C.2.1 dX4_askNow_10 hl (by decide) rfl (fun ls hl => ?_)
  refine lv_iconst (v := 0) C.1 C.2.1 dX4_askNow_12 (by decide) ?_
  refine lv_istore (lv' := [(5, .int 0), (4, .int 268435456), (3, .int (-1)), (2, .int r2), (0, .ref (Γ.2.2 58)), (1, .int v1)]) C.1 C.2.1 dX4_askNow_13 hl (by decide) rfl (fun ls hl => ?_)
  exact tX4_askNow_15 C  FU _ _ _ _ _ _ _ _ _ h  hW (lv_sub hl [4, 5, 3, 2, 1, 0] rfl)
theorem mt_X4_askNow {l : Launch} {Γ : Gm} {A B : Me}  {v1 : Int32} {rZ : Int32} {BZ : Me}  (h : fX4_askNow B v1 = some (rZ, BZ)) : Met l yX4_askNow wsX4_askNow rmX4_askNow (PC Γ A B [.ref (Γ.2.2 58), .int v1]) (QI Γ A BZ rZ) 0 0 (rg Γ) :=
  met_of (by decide) rfl (Nat.le_of_ble_eq_true rfl) (fun p e s m below meth c ls C hW hl => tX4_askNow_0 C  h  hW (lv_sub (l := [(0, .ref (Γ.2.2 58)), (1, .int v1)]) hl [0, 1] rfl))
abbrev rmX4_ask : Room := { frames := 6, cells := 0, slots := 0, locals := 145 }
set_option maxRecDepth 100000 in
theorem iX4_ask_c4 : ∀ w ∈ wsX40, w ∈ wsX4_ask := by decide +kernel
set_option maxRecDepth 100000 in
theorem wX4_ask_0 : Cond.fieldLink RX4 82 "WineByYearsModel" "casks" "I" ∈ wsX4_ask := by decide +kernel
def fX4_ask_29  (B : Me)  (t0 : Int32) : Option (Int32 × Me) := some (t0, B)
set_option maxRecDepth 100000 in
theorem tX4_ask_29 {A B : Me}  {H : Heap} {locs : List Loc} {ls : Array Slot} {t0 : Int32} {rZ : Int32} {BZ : Me}  (C : Cx Γ p s m args meth c cX4_ask 2 (some .int) RX4 wsX4_ask)  (h : fX4_ask_29 B t0 = some (rZ, BZ))  (hW : Wd Γ A B s.heap H locs) (hl : lv_has ls 2 []) : W p l e rmX4_ask s m args below meth c H locs 0 0 (MQ below (QI Γ A BZ rZ) args s 0 0 (rg Γ)) (F0 m 29 ls [.int t0]) := by
  unfold fX4_ask_29 at h
  cases h
  exact z_iret C hW dX4_ask_29
def fX4_ask  (B : Me)  (v1 : Int32) : Option (Int32 × Me) := bi (fX4_within v1 0 4) fun r3 => if r3 = 0 then (some ((-102), B)) else (if (B 58 2) = 0 then (fX4_ask_29 B (-103)) else (b2 (fX4_askNow B v1) fun r26 B26 => fX4_ask_29 B26 r26))
set_option maxRecDepth 100000 in
theorem tX4_ask_0 {A B : Me}  {H : Heap} {locs : List Loc} {ls : Array Slot} {v1 : Int32} {rZ : Int32} {BZ : Me}  (C : Cx Γ p s m args meth c cX4_ask 2 (some .int) RX4 wsX4_ask)  (h : fX4_ask B v1 = some (rZ, BZ))  (hW : Wd Γ A B s.heap H locs) (hl : lv_has ls 2 [(0, .ref (Γ.2.2 58)), (1, .int v1)]) : W p l e rmX4_ask s m args below meth c H locs 0 0 (MQ below (QI Γ A BZ rZ) args s 0 0 (rg Γ)) (F0 m 0 ls []) := by
  unfold fX4_ask at h
  refine lv_iload_n C.1 C.2.1 dX4_ask_0 rfl (lv_at hl 1 rfl) ?_
  refine lv_iconst (v := 0) C.1 C.2.1 dX4_ask_1 (by decide) ?_
  refine lv_iconst (v := 4) C.1 C.2.1 dX4_ask_2 (by decide) ?_
  obtain ⟨r3, hc3, h⟩ := bi_s h
  refine cSi C hW (As := [.int v1, .int 0, .int 4]) (rest := []) (mt_X4_within  hc3) (va_cwS 3 C.2.2.2.2.2.1 gX4_ask_X4_within rfl rfl rfl (by decide +kernel) ⟨Nat.le_of_ble_eq_true rfl, Nat.le_of_ble_eq_true rfl⟩) rfl hl.1 rfl (Nat.le_of_ble_eq_true rfl) dX4_ask_3 (Nat.zero_le _) (Nat.zero_le _) (fun H locs hW => ?_)
  refine lv_if_ne (tgt := 12) C.1 C.2.1 dX4_ask_6 (by decide) (fun c_6 => ?_) (fun c_6 => ?_)
  · have h := if_n h c_6
    refine lv_aload_n C.1 C.2.1 dX4_ask_12 rfl (lv_at hl 0 rfl) ?_
    refine gX4_2 C hW rfl iX4_ask_c4 wX4_ask_0 dX4_ask_13 ?_
    refine lv_if_ne (tgt := 24) C.1 C.2.1 dX4_ask_16 (by decide) (fun c_16 => ?_) (fun c_16 => ?_)
    · have h := if_n h c_16
      refine lv_aload_n C.1 C.2.1 dX4_ask_24 rfl (lv_at hl 0 rfl) ?_
      refine lv_iload_n C.1 C.2.1 dX4_ask_25 rfl (lv_at hl 1 rfl) ?_
      obtain ⟨r26, B26, hc26, h⟩ := b2_s h
      refine cVi C hW (As := [.int v1]) (rest := []) (mt_X4_askNow  hc26) (cwV 1 C.2.2.2.2.2.1 gX4_ask_X4_askNow rfl rfl rfl (by decide +kernel) ⟨Nat.le_of_ble_eq_true rfl, Nat.le_of_ble_eq_true rfl⟩) (rcv4 C hW (rfl : kd 58 = 4)) rfl hl.1 rfl (Nat.le_of_ble_eq_true rfl) dX4_ask_26 (Nat.zero_le _) (Nat.zero_le _) (fun H locs hW => ?_)
      exact tX4_ask_29 C  h  hW (lv_sub hl [] rfl)
    · have h := if_y h c_16
      refine lv_bipush (v := (-103)) C.1 C.2.1 dX4_ask_19 (by decide) ?_
      refine lv_goto (tgt := 29) C.1 C.2.1 dX4_ask_21 (by decide) ?_
      exact tX4_ask_29 C  h  hW (lv_sub hl [] rfl)
  · have h := if_y h c_6
    refine lv_bipush (v := (-102)) C.1 C.2.1 dX4_ask_9 (by decide) ?_
    cases h
    exact z_iret C hW dX4_ask_11
theorem mt_X4_ask {l : Launch} {Γ : Gm} {A B : Me}  {v1 : Int32} {rZ : Int32} {BZ : Me}  (h : fX4_ask B v1 = some (rZ, BZ)) : Met l yX4_ask wsX4_ask rmX4_ask (PC Γ A B [.ref (Γ.2.2 58), .int v1]) (QI Γ A BZ rZ) 0 0 (rg Γ) :=
  met_of (by decide) rfl (Nat.le_of_ble_eq_true rfl) (fun p e s m below meth c ls C hW hl => tX4_ask_0 C  h  hW (lv_sub (l := [(0, .ref (Γ.2.2 58)), (1, .int v1)]) hl [0, 1] rfl))
abbrev rmX4_whoBehind : Room := { frames := 4, cells := 0, slots := 0, locals := 92 }
set_option maxRecDepth 100000 in
theorem iX4_whoBehind_c4 : ∀ w ∈ wsX40, w ∈ wsX4_whoBehind := by decide +kernel
set_option maxRecDepth 100000 in
theorem wX4_whoBehind_0 : Cond.fieldLink RX4 192 "WineByYearsModel" "pouredYear" "I" ∈ wsX4_whoBehind := by decide +kernel
set_option maxRecDepth 100000 in
theorem wX4_whoBehind_1 : Cond.fieldLink RX4 7 "WineByYearsModel" "litresOf" "[I" ∈ wsX4_whoBehind := by decide +kernel
def fX4_whoBehind  (B : Me)  (v1 : Int32) (v2 : Int32) (v3 : Int32) : Option (Int32 × Me) := bi (fX4_pourOne B v2 v3) fun B3 => bi (fX4_think B3 v1) fun B8 => bi (fX4_whoMay B8) fun r12 => ck (inb ((10 * v3) + (B8 58 18)) 50) <| ck (inb ((10 * v3) + (B8 58 18)) 50) <| ck (inb ((10 * v2) + (B8 58 18)) 50) <| ck (inb ((10 * v2) + (B8 58 18)) 50) <| some (r12, (up2 (up2 B8 59 ((10 * v3) + (B8 58 18)).toNatClampNeg ((B8 59 ((10 * v3) + (B8 58 18)).toNatClampNeg) - 1)) 59 ((10 * v2) + (B8 58 18)).toNatClampNeg (((up2 B8 59 ((10 * v3) + (B8 58 18)).toNatClampNeg ((B8 59 ((10 * v3) + (B8 58 18)).toNatClampNeg) - 1)) 59 ((10 * v2) + (B8 58 18)).toNatClampNeg) + 1)))
set_option maxRecDepth 100000 in
theorem tX4_whoBehind_0 {A B : Me}  {H : Heap} {locs : List Loc} {ls : Array Slot} {v1 : Int32} {v2 : Int32} {v3 : Int32} {rZ : Int32} {BZ : Me}  (C : Cx Γ p s m args meth c cX4_whoBehind 6 (some .int) RX4 wsX4_whoBehind)  (h : fX4_whoBehind B v1 v2 v3 = some (rZ, BZ))  (hW : Wd Γ A B s.heap H locs) (hl : lv_has ls 6 [(0, .ref (Γ.2.2 58)), (1, .int v1), (2, .int v2), (3, .int v3)]) : W p l e rmX4_whoBehind s m args below meth c H locs 0 0 (MQ below (QI Γ A BZ rZ) args s 0 0 (rg Γ)) (F0 m 0 ls []) := by
  unfold fX4_whoBehind at h
  refine lv_aload_n C.1 C.2.1 dX4_whoBehind_0 rfl (lv_at hl 0 rfl) ?_
  refine lv_iload_n C.1 C.2.1 dX4_whoBehind_1 rfl (lv_at hl 2 rfl) ?_
  refine lv_iload_n C.1 C.2.1 dX4_whoBehind_2 rfl (lv_at hl 3 rfl) ?_
  obtain ⟨B3, hc3, h⟩ := bi_s h
  refine cVv C hW (As := [.int v2, .int v3]) (rest := []) (mt_X4_pourOne  hc3) (cwV 2 C.2.2.2.2.2.1 gX4_whoBehind_X4_pourOne rfl rfl rfl (by decide +kernel) ⟨Nat.le_of_ble_eq_true rfl, Nat.le_of_ble_eq_true rfl⟩) (rcv4 C hW (rfl : kd 58 = 4)) rfl hl.1 rfl (Nat.le_of_ble_eq_true rfl) dX4_whoBehind_3 (Nat.zero_le _) (Nat.zero_le _) (fun H locs hW => ?_)
  refine lv_aload_n C.1 C.2.1 dX4_whoBehind_6 rfl (lv_at hl 0 rfl) ?_
  refine lv_iload_n C.1 C.2.1 dX4_whoBehind_7 rfl (lv_at hl 1 rfl) ?_
  obtain ⟨B8, hc8, h⟩ := bi_s h
  refine cVv C hW (As := [.int v1]) (rest := []) (mt_X4_think  hc8) (cwV 1 C.2.2.2.2.2.1 gX4_whoBehind_X4_think rfl rfl rfl (by decide +kernel) ⟨Nat.le_of_ble_eq_true rfl, Nat.le_of_ble_eq_true rfl⟩) (rcv4 C hW (rfl : kd 58 = 4)) rfl hl.1 rfl (Nat.le_of_ble_eq_true rfl) dX4_whoBehind_8 (Nat.zero_le _) (Nat.zero_le _) (fun H locs hW => ?_)
  refine lv_aload_n C.1 C.2.1 dX4_whoBehind_11 rfl (lv_at hl 0 rfl) ?_
  obtain ⟨r12, hc12, h⟩ := bi_s h
  refine cVi C hW (As := []) (rest := []) (mt_X4_whoMay  hc12) (cwV 0 C.2.2.2.2.2.1 gX4_whoBehind_X4_whoMay rfl rfl rfl (by decide +kernel) ⟨Nat.le_of_ble_eq_true rfl, Nat.le_of_ble_eq_true rfl⟩) (rcv4 C hW (rfl : kd 58 = 4)) rfl hl.1 rfl (Nat.le_of_ble_eq_true rfl) dX4_whoBehind_12 (Nat.zero_le _) (Nat.zero_le _) (fun H locs hW => ?_)
  refine lv_istore (lv' := [(4, .int r12), (0, .ref (Γ.2.2 58)), (1, .int v1), (2, .int v2), (3, .int v3)]) C.1 C.2.1 dX4_whoBehind_15 hl (by decide) rfl (fun ls hl => ?_)
  refine lv_aload_n C.1 C.2.1 dX4_whoBehind_17 rfl (lv_at hl 1 rfl) ?_
  refine gX4_18 C hW rfl iX4_whoBehind_c4 wX4_whoBehind_0 dX4_whoBehind_18 ?_
  refine lv_istore (lv' := [(5, .int (B8 58 18)), (4, .int r12), (0, .ref (Γ.2.2 58)), (1, .int v1), (2, .int v2), (3, .int v3)]) C.1 C.2.1 dX4_whoBehind_21 hl (by decide) rfl (fun ls hl => ?_)
  refine lv_aload_n C.1 C.2.1 dX4_whoBehind_23 rfl (lv_at hl 2 rfl) ?_
  refine gX4_3 C hW rfl iX4_whoBehind_c4 wX4_whoBehind_1 dX4_whoBehind_24 ?_
  refine lv_bipush (v := 10) C.1 C.2.1 dX4_whoBehind_27 (by decide) ?_
  refine lv_iload_n C.1 C.2.1 dX4_whoBehind_29 rfl (lv_at hl 5 rfl) ?_
  refine lv_imul C.1 C.2.1 dX4_whoBehind_30 ?_
  refine lv_iload C.1 C.2.1 dX4_whoBehind_31 (lv_at hl 0 rfl) ?_
  refine lv_iadd C.1 C.2.1 dX4_whoBehind_33 ?_
  refine lv_dup2_11 C.1 C.2.1 dX4_whoBehind_34 rfl rfl ?_
  obtain ⟨hi35, h⟩ := ck_s h
  refine la9 C hW ⟨rfl, rfl⟩ hi35 dX4_whoBehind_35 ?_
  refine lv_iconst (v := 1) C.1 C.2.1 dX4_whoBehind_36 (by decide) ?_
  refine lv_isub C.1 C.2.1 dX4_whoBehind_37 ?_
  obtain ⟨hi38, h⟩ := ck_s h
  refine sa9 C hW ⟨rfl, rfl⟩ hi38 dX4_whoBehind_38 (fun H locs hW => ?_)
  refine lv_aload_n C.1 C.2.1 dX4_whoBehind_39 rfl (lv_at hl 2 rfl) ?_
  refine gX4_3 C hW rfl iX4_whoBehind_c4 wX4_whoBehind_1 dX4_whoBehind_40 ?_
  refine lv_bipush (v := 10) C.1 C.2.1 dX4_whoBehind_43 (by decide) ?_
  refine lv_iload_n C.1 C.2.1 dX4_whoBehind_45 rfl (lv_at hl 4 rfl) ?_
  refine lv_imul C.1 C.2.1 dX4_whoBehind_46 ?_
  refine lv_iload C.1 C.2.1 dX4_whoBehind_47 (lv_at hl 0 rfl) ?_
  refine lv_iadd C.1 C.2.1 dX4_whoBehind_49 ?_
  refine lv_dup2_11 C.1 C.2.1 dX4_whoBehind_50 rfl rfl ?_
  obtain ⟨hi51, h⟩ := ck_s h
  refine la9 C hW ⟨rfl, rfl⟩ hi51 dX4_whoBehind_51 ?_
  refine lv_iconst (v := 1) C.1 C.2.1 dX4_whoBehind_52 (by decide) ?_
  refine lv_iadd C.1 C.2.1 dX4_whoBehind_53 ?_
  obtain ⟨hi54, h⟩ := ck_s h
  refine sa9 C hW ⟨rfl, rfl⟩ hi54 dX4_whoBehind_54 (fun H locs hW => ?_)
  refine lv_iload C.1 C.2.1 dX4_whoBehind_55 (lv_at hl 1 rfl) ?_
  cases h
  exact z_iret C hW dX4_whoBehind_57
theorem mt_X4_whoBehind {l : Launch} {Γ : Gm} {A B : Me}  {v1 : Int32} {v2 : Int32} {v3 : Int32} {rZ : Int32} {BZ : Me}  (h : fX4_whoBehind B v1 v2 v3 = some (rZ, BZ)) : Met l yX4_whoBehind wsX4_whoBehind rmX4_whoBehind (PC Γ A B [.ref (Γ.2.2 58), .int v1, .int v2, .int v3]) (QI Γ A BZ rZ) 0 0 (rg Γ) :=
  met_of (by decide) rfl (Nat.le_of_ble_eq_true rfl) (fun p e s m below meth c ls C hW hl => tX4_whoBehind_0 C  h  hW (lv_sub (l := [(0, .ref (Γ.2.2 58)), (1, .int v1), (2, .int v2), (3, .int v3)]) hl [0, 1, 2, 3] rfl))
abbrev rmX4_toppedNow : Room := { frames := 5, cells := 0, slots := 0, locals := 117 }
set_option maxRecDepth 100000 in
theorem iX4_toppedNow_c4 : ∀ w ∈ wsX40, w ∈ wsX4_toppedNow := by decide +kernel
set_option maxRecDepth 100000 in
theorem wX4_toppedNow_0 : Cond.fieldLink RX4 192 "WineByYearsModel" "pouredYear" "I" ∈ wsX4_toppedNow := by decide +kernel
def fX4_toppedNow_150 (j10 : Me → Int32 → Int32 → Int32 → Int32 → Int32 → Int32 → Option (Int32 × Me)) (B : Me)  (v1 : Int32) (v2 : Int32) (v3 : Int32) (v4 : Int32) (v6 : Int32) (t0 : Int32) : Option (Int32 × Me) := j10 B v1 v2 v3 v4 t0 (v6 + (-1))
set_option maxRecDepth 100000 in
theorem tX4_toppedNow_150 {A B : Me}  {H : Heap} {locs : List Loc} {ls : Array Slot} {v1 : Int32} {v2 : Int32} {v3 : Int32} {v4 : Int32} {v6 : Int32} {t0 : Int32} {rZ : Int32} {BZ : Me} {j10 : Me → Int32 → Int32 → Int32 → Int32 → Int32 → Int32 → Option (Int32 × Me)} (C : Cx Γ p s m args meth c cX4_toppedNow 11 (some .int) RX4 wsX4_toppedNow) (hr10 : ∀ (B : Me) (v1 : Int32) (v2 : Int32) (v3 : Int32) (v4 : Int32) (v5 : Int32) (v6 : Int32) (H : Heap) (locs : List Loc) (ls : Array Slot), j10 B v1 v2 v3 v4 v5 v6 = some (rZ, BZ) → Wd Γ A B s.heap H locs → lv_has ls 11 [(0, .ref (Γ.2.2 58)), (1, .int v1), (2, .int v2), (3, .int v3), (4, .int v4), (5, .int v5), (6, .int v6)] → W p l e rmX4_toppedNow s m args below meth c H locs 0 0 (MQ below (QI Γ A BZ rZ) args s 0 0 (rg Γ)) (F0 m 10 ls [])) (h : fX4_toppedNow_150 j10 B v1 v2 v3 v4 v6 t0 = some (rZ, BZ))  (hW : Wd Γ A B s.heap H locs) (hl : lv_has ls 11 [(0, .ref (Γ.2.2 58)), (1, .int v1), (2, .int v2), (3, .int v3), (4, .int v4), (6, .int v6)]) : W p l e rmX4_toppedNow s m args below meth c H locs 0 0 (MQ below (QI Γ A BZ rZ) args s 0 0 (rg Γ)) (F0 m 150 ls [.int t0]) := by
  unfold fX4_toppedNow_150 at h
  refine lv_istore (lv' := [(5, .int t0), (0, .ref (Γ.2.2 58)), (1, .int v1), (2, .int v2), (3, .int v3), (4, .int v4), (6, .int v6)]) C.1 C.2.1 dX4_toppedNow_150 hl (by decide) rfl (fun ls hl => ?_)
  refine lv_iinc (v := (v6 + (-1))) (lv' := [(6, .int (v6 + (-1))), (5, .int t0), (0, .ref (Γ.2.2 58)), (1, .int v1), (2, .int v2), (3, .int v3), (4, .int v4)]) C.1 C.2.1 dX4_toppedNow_152 hl (k := 6) rfl rfl (by decide) rfl (fun ls hl => ?_)
  refine lv_goto (tgt := 10) C.1 C.2.1 dX4_toppedNow_155 (by decide) ?_
  exact hr10 _ _ _ _ _ _ _ _ _ _ h  hW (lv_sub hl [2, 3, 4, 5, 6, 1, 0] rfl)
def fX4_toppedNow_135 (j10 : Me → Int32 → Int32 → Int32 → Int32 → Int32 → Int32 → Option (Int32 × Me)) (B : Me)  (v1 : Int32) (v2 : Int32) (v3 : Int32) (v5 : Int32) (v6 : Int32) (v10 : Int32) (t0 : Int32) (t1 : Int32) : Option (Int32 × Me) := if v10 = 0 then (fX4_toppedNow_150 j10 B v1 v2 v3 (t0 + t1) v6 v5) else (fX4_toppedNow_150 j10 B v1 v2 v3 (t0 + t1) v6 v6)
set_option maxRecDepth 100000 in
theorem tX4_toppedNow_135 {A B : Me}  {H : Heap} {locs : List Loc} {ls : Array Slot} {v1 : Int32} {v2 : Int32} {v3 : Int32} {v5 : Int32} {v6 : Int32} {v10 : Int32} {t0 : Int32} {t1 : Int32} {rZ : Int32} {BZ : Me} {j10 : Me → Int32 → Int32 → Int32 → Int32 → Int32 → Int32 → Option (Int32 × Me)} (C : Cx Γ p s m args meth c cX4_toppedNow 11 (some .int) RX4 wsX4_toppedNow) (hr10 : ∀ (B : Me) (v1 : Int32) (v2 : Int32) (v3 : Int32) (v4 : Int32) (v5 : Int32) (v6 : Int32) (H : Heap) (locs : List Loc) (ls : Array Slot), j10 B v1 v2 v3 v4 v5 v6 = some (rZ, BZ) → Wd Γ A B s.heap H locs → lv_has ls 11 [(0, .ref (Γ.2.2 58)), (1, .int v1), (2, .int v2), (3, .int v3), (4, .int v4), (5, .int v5), (6, .int v6)] → W p l e rmX4_toppedNow s m args below meth c H locs 0 0 (MQ below (QI Γ A BZ rZ) args s 0 0 (rg Γ)) (F0 m 10 ls [])) (h : fX4_toppedNow_135 j10 B v1 v2 v3 v5 v6 v10 t0 t1 = some (rZ, BZ))  (hW : Wd Γ A B s.heap H locs) (hl : lv_has ls 11 [(0, .ref (Γ.2.2 58)), (1, .int v1), (2, .int v2), (3, .int v3), (5, .int v5), (6, .int v6), (10, .int v10)]) : W p l e rmX4_toppedNow s m args below meth c H locs 0 0 (MQ below (QI Γ A BZ rZ) args s 0 0 (rg Γ)) (F0 m 135 ls [.int t1, .int t0]) := by
  unfold fX4_toppedNow_135 at h
  refine lv_iadd C.1 C.2.1 dX4_toppedNow_135 ?_
  refine lv_istore (lv' := [(4, .int (t0 + t1)), (0, .ref (Γ.2.2 58)), (1, .int v1), (2, .int v2), (3, .int v3), (5, .int v5), (6, .int v6), (10, .int v10)]) C.1 C.2.1 dX4_toppedNow_136 hl (by decide) rfl (fun ls hl => ?_)
  refine lv_iload C.1 C.2.1 dX4_toppedNow_138 (lv_at hl 7 rfl) ?_
  refine lv_if_eq (tgt := 148) C.1 C.2.1 dX4_toppedNow_140 (by decide) (fun c_140 => ?_) (fun c_140 => ?_)
  · have h := if_y h c_140
    refine lv_iload C.1 C.2.1 dX4_toppedNow_148 (lv_at hl 5 rfl) ?_
    exact tX4_toppedNow_150 C hr10 h  hW (lv_sub hl [1, 2, 3, 4, 0, 6] rfl)
  · have h := if_n h c_140
    refine lv_iload C.1 C.2.1 dX4_toppedNow_143 (lv_at hl 6 rfl) ?_
    refine lv_goto (tgt := 150) C.1 C.2.1 dX4_toppedNow_145 (by decide) ?_
    exact tX4_toppedNow_150 C hr10 h  hW (lv_sub hl [1, 2, 3, 4, 0, 6] rfl)
def fX4_toppedNow_121 (j10 : Me → Int32 → Int32 → Int32 → Int32 → Int32 → Int32 → Option (Int32 × Me)) (B : Me)  (v1 : Int32) (v2 : Int32) (v3 : Int32) (v4 : Int32) (v5 : Int32) (v6 : Int32) (t0 : Int32) : Option (Int32 × Me) := if t0 = 0 then (fX4_toppedNow_135 j10 B v1 v2 v3 v5 v6 t0 v4 0) else (fX4_toppedNow_135 j10 B v1 v2 v3 v5 v6 t0 v4 1)
set_option maxRecDepth 100000 in
theorem tX4_toppedNow_121 {A B : Me}  {H : Heap} {locs : List Loc} {ls : Array Slot} {v1 : Int32} {v2 : Int32} {v3 : Int32} {v4 : Int32} {v5 : Int32} {v6 : Int32} {t0 : Int32} {rZ : Int32} {BZ : Me} {j10 : Me → Int32 → Int32 → Int32 → Int32 → Int32 → Int32 → Option (Int32 × Me)} (C : Cx Γ p s m args meth c cX4_toppedNow 11 (some .int) RX4 wsX4_toppedNow) (hr10 : ∀ (B : Me) (v1 : Int32) (v2 : Int32) (v3 : Int32) (v4 : Int32) (v5 : Int32) (v6 : Int32) (H : Heap) (locs : List Loc) (ls : Array Slot), j10 B v1 v2 v3 v4 v5 v6 = some (rZ, BZ) → Wd Γ A B s.heap H locs → lv_has ls 11 [(0, .ref (Γ.2.2 58)), (1, .int v1), (2, .int v2), (3, .int v3), (4, .int v4), (5, .int v5), (6, .int v6)] → W p l e rmX4_toppedNow s m args below meth c H locs 0 0 (MQ below (QI Γ A BZ rZ) args s 0 0 (rg Γ)) (F0 m 10 ls [])) (h : fX4_toppedNow_121 j10 B v1 v2 v3 v4 v5 v6 t0 = some (rZ, BZ))  (hW : Wd Γ A B s.heap H locs) (hl : lv_has ls 11 [(0, .ref (Γ.2.2 58)), (1, .int v1), (2, .int v2), (3, .int v3), (4, .int v4), (5, .int v5), (6, .int v6)]) : W p l e rmX4_toppedNow s m args below meth c H locs 0 0 (MQ below (QI Γ A BZ rZ) args s 0 0 (rg Γ)) (F0 m 121 ls [.int t0]) := by
  unfold fX4_toppedNow_121 at h
  refine lv_istore (lv' := [(10, .int t0), (0, .ref (Γ.2.2 58)), (1, .int v1), (2, .int v2), (3, .int v3), (4, .int v4), (5, .int v5), (6, .int v6)]) C.1 C.2.1 dX4_toppedNow_121 hl (by decide) rfl (fun ls hl => ?_)
  refine lv_iload C.1 C.2.1 dX4_toppedNow_123 (lv_at hl 5 rfl) ?_
  refine lv_iload C.1 C.2.1 dX4_toppedNow_125 (lv_at hl 0 rfl) ?_
  refine lv_if_eq (tgt := 134) C.1 C.2.1 dX4_toppedNow_127 (by decide) (fun c_127 => ?_) (fun c_127 => ?_)
  · have h := if_y h c_127
    refine lv_iconst (v := 0) C.1 C.2.1 dX4_toppedNow_134 (by decide) ?_
    exact tX4_toppedNow_135 C hr10 h  hW (lv_sub hl [1, 2, 3, 4, 6, 7, 0] rfl)
  · have h := if_n h c_127
    refine lv_iconst (v := 1) C.1 C.2.1 dX4_toppedNow_130 (by decide) ?_
    refine lv_goto (tgt := 135) C.1 C.2.1 dX4_toppedNow_131 (by decide) ?_
    exact tX4_toppedNow_135 C hr10 h  hW (lv_sub hl [1, 2, 3, 4, 6, 7, 0] rfl)
def fX4_toppedNow_120 (j10 : Me → Int32 → Int32 → Int32 → Int32 → Int32 → Int32 → Option (Int32 × Me)) (B : Me)  (v1 : Int32) (v2 : Int32) (v3 : Int32) (v4 : Int32) (v5 : Int32) (v6 : Int32) : Option (Int32 × Me) := fX4_toppedNow_121 j10 B v1 v2 v3 v4 v5 v6 0
set_option maxRecDepth 100000 in
theorem tX4_toppedNow_120 {A B : Me}  {H : Heap} {locs : List Loc} {ls : Array Slot} {v1 : Int32} {v2 : Int32} {v3 : Int32} {v4 : Int32} {v5 : Int32} {v6 : Int32} {rZ : Int32} {BZ : Me} {j10 : Me → Int32 → Int32 → Int32 → Int32 → Int32 → Int32 → Option (Int32 × Me)} (C : Cx Γ p s m args meth c cX4_toppedNow 11 (some .int) RX4 wsX4_toppedNow) (hr10 : ∀ (B : Me) (v1 : Int32) (v2 : Int32) (v3 : Int32) (v4 : Int32) (v5 : Int32) (v6 : Int32) (H : Heap) (locs : List Loc) (ls : Array Slot), j10 B v1 v2 v3 v4 v5 v6 = some (rZ, BZ) → Wd Γ A B s.heap H locs → lv_has ls 11 [(0, .ref (Γ.2.2 58)), (1, .int v1), (2, .int v2), (3, .int v3), (4, .int v4), (5, .int v5), (6, .int v6)] → W p l e rmX4_toppedNow s m args below meth c H locs 0 0 (MQ below (QI Γ A BZ rZ) args s 0 0 (rg Γ)) (F0 m 10 ls [])) (h : fX4_toppedNow_120 j10 B v1 v2 v3 v4 v5 v6 = some (rZ, BZ))  (hW : Wd Γ A B s.heap H locs) (hl : lv_has ls 11 [(0, .ref (Γ.2.2 58)), (1, .int v1), (2, .int v2), (3, .int v3), (4, .int v4), (5, .int v5), (6, .int v6)]) : W p l e rmX4_toppedNow s m args below meth c H locs 0 0 (MQ below (QI Γ A BZ rZ) args s 0 0 (rg Γ)) (F0 m 120 ls []) := by
  unfold fX4_toppedNow_120 at h
  refine lv_iconst (v := 0) C.1 C.2.1 dX4_toppedNow_120 (by decide) ?_
  exact tX4_toppedNow_121 C hr10 h  hW (lv_sub hl [0, 1, 2, 3, 4, 5, 6] rfl)
def fX4_toppedNow_95 (j10 : Me → Int32 → Int32 → Int32 → Int32 → Int32 → Int32 → Option (Int32 × Me)) (B : Me)  (v1 : Int32) (v2 : Int32) (v3 : Int32) (v4 : Int32) (v5 : Int32) (v6 : Int32) (v7 : Int32) (v8 : Int32) (v9 : Int32) (t1 : Int32) : Option (Int32 × Me) := if v9 = 0 then (fX4_toppedNow_120 j10 (up2 B 58 18 t1) v1 v2 v3 v4 v5 v6) else (b2 (fX4_whoBehind (up2 B 58 18 t1) v1 v7 v8) fun r109 B109 => if r109 = v2 then (fX4_toppedNow_121 j10 B109 v1 v2 v3 v4 v5 v6 1) else (fX4_toppedNow_120 j10 B109 v1 v2 v3 v4 v5 v6))
set_option maxRecDepth 100000 in
theorem tX4_toppedNow_95 {A B : Me}  {H : Heap} {locs : List Loc} {ls : Array Slot} {v1 : Int32} {v2 : Int32} {v3 : Int32} {v4 : Int32} {v5 : Int32} {v6 : Int32} {v7 : Int32} {v8 : Int32} {v9 : Int32} {t1 : Int32} {rZ : Int32} {BZ : Me} {j10 : Me → Int32 → Int32 → Int32 → Int32 → Int32 → Int32 → Option (Int32 × Me)} (C : Cx Γ p s m args meth c cX4_toppedNow 11 (some .int) RX4 wsX4_toppedNow) (hr10 : ∀ (B : Me) (v1 : Int32) (v2 : Int32) (v3 : Int32) (v4 : Int32) (v5 : Int32) (v6 : Int32) (H : Heap) (locs : List Loc) (ls : Array Slot), j10 B v1 v2 v3 v4 v5 v6 = some (rZ, BZ) → Wd Γ A B s.heap H locs → lv_has ls 11 [(0, .ref (Γ.2.2 58)), (1, .int v1), (2, .int v2), (3, .int v3), (4, .int v4), (5, .int v5), (6, .int v6)] → W p l e rmX4_toppedNow s m args below meth c H locs 0 0 (MQ below (QI Γ A BZ rZ) args s 0 0 (rg Γ)) (F0 m 10 ls [])) (h : fX4_toppedNow_95 j10 B v1 v2 v3 v4 v5 v6 v7 v8 v9 t1 = some (rZ, BZ))  (hW : Wd Γ A B s.heap H locs) (hl : lv_has ls 11 [(0, .ref (Γ.2.2 58)), (1, .int v1), (2, .int v2), (3, .int v3), (4, .int v4), (5, .int v5), (6, .int v6), (7, .int v7), (8, .int v8), (9, .int v9)]) : W p l e rmX4_toppedNow s m args below meth c H locs 0 0 (MQ below (QI Γ A BZ rZ) args s 0 0 (rg Γ)) (F0 m 95 ls [.int t1, .ref (Γ.2.2 58)]) := by
  unfold fX4_toppedNow_95 at h
  refine pX4_18 C hW rfl iX4_toppedNow_c4 wX4_toppedNow_0 dX4_toppedNow_95 (fun H locs hW => ?_)
  refine lv_iload C.1 C.2.1 dX4_toppedNow_98 (lv_at hl 9 rfl) ?_
  refine lv_if_eq (tgt := 120) C.1 C.2.1 dX4_toppedNow_100 (by decide) (fun c_100 => ?_) (fun c_100 => ?_)
  · have h := if_y h c_100
    exact tX4_toppedNow_120 C hr10 h  hW (lv_sub hl [0, 1, 2, 3, 4, 5, 6] rfl)
  · have h := if_n h c_100
    refine lv_aload_n C.1 C.2.1 dX4_toppedNow_103 rfl (lv_at hl 0 rfl) ?_
    refine lv_iload_n C.1 C.2.1 dX4_toppedNow_104 rfl (lv_at hl 1 rfl) ?_
    refine lv_iload C.1 C.2.1 dX4_toppedNow_105 (lv_at hl 7 rfl) ?_
    refine lv_iload C.1 C.2.1 dX4_toppedNow_107 (lv_at hl 8 rfl) ?_
    obtain ⟨r109, B109, hc109, h⟩ := b2_s h
    refine cVi C hW (As := [.int v1, .int v7, .int v8]) (rest := []) (mt_X4_whoBehind  hc109) (cwV 3 C.2.2.2.2.2.1 gX4_toppedNow_X4_whoBehind rfl rfl rfl (by decide +kernel) ⟨Nat.le_of_ble_eq_true rfl, Nat.le_of_ble_eq_true rfl⟩) (rcv4 C hW (rfl : kd 58 = 4)) rfl hl.1 rfl (Nat.le_of_ble_eq_true rfl) dX4_toppedNow_109 (Nat.zero_le _) (Nat.zero_le _) (fun H locs hW => ?_)
    refine lv_iload_n C.1 C.2.1 dX4_toppedNow_112 rfl (lv_at hl 2 rfl) ?_
    refine lv_icmp_ne (tgt := 120) C.1 C.2.1 dX4_toppedNow_113 (by decide) (fun c_113 => ?_) (fun c_113 => ?_)
    · have h := if_n h c_113
      exact tX4_toppedNow_120 C hr10 h  hW (lv_sub hl [0, 1, 2, 3, 4, 5, 6] rfl)
    · have h := if_y h c_113
      refine lv_iconst (v := 1) C.1 C.2.1 dX4_toppedNow_116 (by decide) ?_
      refine lv_goto (tgt := 121) C.1 C.2.1 dX4_toppedNow_117 (by decide) ?_
      exact tX4_toppedNow_121 C hr10 h  hW (lv_sub hl [0, 1, 2, 3, 4, 5, 6] rfl)
def fX4_toppedNow_77 (j10 : Me → Int32 → Int32 → Int32 → Int32 → Int32 → Int32 → Option (Int32 × Me)) (B : Me)  (v1 : Int32) (v2 : Int32) (v3 : Int32) (v4 : Int32) (v5 : Int32) (v6 : Int32) (v7 : Int32) (v8 : Int32) (t0 : Int32) : Option (Int32 × Me) := if t0 = 0 then (fX4_toppedNow_95 j10 B v1 v2 v3 v4 v5 v6 v7 v8 t0 (-1)) else (b2 (fX4_latestIn B v7) fun r88 B88 => fX4_toppedNow_95 j10 B88 v1 v2 v3 v4 v5 v6 v7 v8 t0 r88)
set_option maxRecDepth 100000 in
theorem tX4_toppedNow_77 {A B : Me}  {H : Heap} {locs : List Loc} {ls : Array Slot} {v1 : Int32} {v2 : Int32} {v3 : Int32} {v4 : Int32} {v5 : Int32} {v6 : Int32} {v7 : Int32} {v8 : Int32} {t0 : Int32} {rZ : Int32} {BZ : Me} {j10 : Me → Int32 → Int32 → Int32 → Int32 → Int32 → Int32 → Option (Int32 × Me)} (C : Cx Γ p s m args meth c cX4_toppedNow 11 (some .int) RX4 wsX4_toppedNow) (hr10 : ∀ (B : Me) (v1 : Int32) (v2 : Int32) (v3 : Int32) (v4 : Int32) (v5 : Int32) (v6 : Int32) (H : Heap) (locs : List Loc) (ls : Array Slot), j10 B v1 v2 v3 v4 v5 v6 = some (rZ, BZ) → Wd Γ A B s.heap H locs → lv_has ls 11 [(0, .ref (Γ.2.2 58)), (1, .int v1), (2, .int v2), (3, .int v3), (4, .int v4), (5, .int v5), (6, .int v6)] → W p l e rmX4_toppedNow s m args below meth c H locs 0 0 (MQ below (QI Γ A BZ rZ) args s 0 0 (rg Γ)) (F0 m 10 ls [])) (h : fX4_toppedNow_77 j10 B v1 v2 v3 v4 v5 v6 v7 v8 t0 = some (rZ, BZ))  (hW : Wd Γ A B s.heap H locs) (hl : lv_has ls 11 [(0, .ref (Γ.2.2 58)), (1, .int v1), (2, .int v2), (3, .int v3), (4, .int v4), (5, .int v5), (6, .int v6), (7, .int v7), (8, .int v8)]) : W p l e rmX4_toppedNow s m args below meth c H locs 0 0 (MQ below (QI Γ A BZ rZ) args s 0 0 (rg Γ)) (F0 m 77 ls [.int t0]) := by
  unfold fX4_toppedNow_77 at h
  refine lv_istore (lv' := [(9, .int t0), (0, .ref (Γ.2.2 58)), (1, .int v1), (2, .int v2), (3, .int v3), (4, .int v4), (5, .int v5), (6, .int v6), (7, .int v7), (8, .int v8)]) C.1 C.2.1 dX4_toppedNow_77 hl (by decide) rfl (fun ls hl => ?_)
  refine lv_aload_n C.1 C.2.1 dX4_toppedNow_79 rfl (lv_at hl 1 rfl) ?_
  refine lv_iload C.1 C.2.1 dX4_toppedNow_80 (lv_at hl 0 rfl) ?_
  refine lv_if_eq (tgt := 94) C.1 C.2.1 dX4_toppedNow_82 (by decide) (fun c_82 => ?_) (fun c_82 => ?_)
  · have h := if_y h c_82
    refine lv_iconst (v := (-1)) C.1 C.2.1 dX4_toppedNow_94 (by decide) ?_
    exact tX4_toppedNow_95 C hr10 h  hW (lv_sub hl [1, 2, 3, 4, 5, 6, 7, 8, 9, 0] rfl)
  · have h := if_n h c_82
    refine lv_aload_n C.1 C.2.1 dX4_toppedNow_85 rfl (lv_at hl 1 rfl) ?_
    refine lv_iload C.1 C.2.1 dX4_toppedNow_86 (lv_at hl 8 rfl) ?_
    obtain ⟨r88, B88, hc88, h⟩ := b2_s h
    refine cVi C hW (As := [.int v7]) (rest := [.ref (Γ.2.2 58)]) (mt_X4_latestIn  hc88) (cwV 1 C.2.2.2.2.2.1 gX4_toppedNow_X4_latestIn rfl rfl rfl (by decide +kernel) ⟨Nat.le_of_ble_eq_true rfl, Nat.le_of_ble_eq_true rfl⟩) (rcv4 C hW (rfl : kd 58 = 4)) rfl hl.1 rfl (Nat.le_of_ble_eq_true rfl) dX4_toppedNow_88 (Nat.zero_le _) (Nat.zero_le _) (fun H locs hW => ?_)
    refine lv_goto (tgt := 95) C.1 C.2.1 dX4_toppedNow_91 (by decide) ?_
    exact tX4_toppedNow_95 C hr10 h  hW (lv_sub hl [1, 2, 3, 4, 5, 6, 7, 8, 9, 0] rfl)
def fX4_toppedNow_76 (j10 : Me → Int32 → Int32 → Int32 → Int32 → Int32 → Int32 → Option (Int32 × Me)) (B : Me)  (v1 : Int32) (v2 : Int32) (v3 : Int32) (v4 : Int32) (v5 : Int32) (v6 : Int32) (v7 : Int32) (v8 : Int32) : Option (Int32 × Me) := fX4_toppedNow_77 j10 B v1 v2 v3 v4 v5 v6 v7 v8 0
set_option maxRecDepth 100000 in
theorem tX4_toppedNow_76 {A B : Me}  {H : Heap} {locs : List Loc} {ls : Array Slot} {v1 : Int32} {v2 : Int32} {v3 : Int32} {v4 : Int32} {v5 : Int32} {v6 : Int32} {v7 : Int32} {v8 : Int32} {rZ : Int32} {BZ : Me} {j10 : Me → Int32 → Int32 → Int32 → Int32 → Int32 → Int32 → Option (Int32 × Me)} (C : Cx Γ p s m args meth c cX4_toppedNow 11 (some .int) RX4 wsX4_toppedNow) (hr10 : ∀ (B : Me) (v1 : Int32) (v2 : Int32) (v3 : Int32) (v4 : Int32) (v5 : Int32) (v6 : Int32) (H : Heap) (locs : List Loc) (ls : Array Slot), j10 B v1 v2 v3 v4 v5 v6 = some (rZ, BZ) → Wd Γ A B s.heap H locs → lv_has ls 11 [(0, .ref (Γ.2.2 58)), (1, .int v1), (2, .int v2), (3, .int v3), (4, .int v4), (5, .int v5), (6, .int v6)] → W p l e rmX4_toppedNow s m args below meth c H locs 0 0 (MQ below (QI Γ A BZ rZ) args s 0 0 (rg Γ)) (F0 m 10 ls [])) (h : fX4_toppedNow_76 j10 B v1 v2 v3 v4 v5 v6 v7 v8 = some (rZ, BZ))  (hW : Wd Γ A B s.heap H locs) (hl : lv_has ls 11 [(0, .ref (Γ.2.2 58)), (1, .int v1), (2, .int v2), (3, .int v3), (4, .int v4), (5, .int v5), (6, .int v6), (7, .int v7), (8, .int v8)]) : W p l e rmX4_toppedNow s m args below meth c H locs 0 0 (MQ below (QI Γ A BZ rZ) args s 0 0 (rg Γ)) (F0 m 76 ls []) := by
  unfold fX4_toppedNow_76 at h
  refine lv_iconst (v := 0) C.1 C.2.1 dX4_toppedNow_76 (by decide) ?_
  exact tX4_toppedNow_77 C hr10 h  hW (lv_sub hl [0, 1, 2, 3, 4, 5, 6, 7, 8] rfl)
def fX4_toppedNow_169  (B : Me)  (t0 : Int32) : Option (Int32 × Me) := some (t0, B)
set_option maxRecDepth 100000 in
theorem tX4_toppedNow_169 {A B : Me}  {H : Heap} {locs : List Loc} {ls : Array Slot} {t0 : Int32} {rZ : Int32} {BZ : Me}  (C : Cx Γ p s m args meth c cX4_toppedNow 11 (some .int) RX4 wsX4_toppedNow)  (h : fX4_toppedNow_169 B t0 = some (rZ, BZ))  (hW : Wd Γ A B s.heap H locs) (hl : lv_has ls 11 []) : W p l e rmX4_toppedNow s m args below meth c H locs 0 0 (MQ below (QI Γ A BZ rZ) args s 0 0 (rg Γ)) (F0 m 169 ls [.int t0]) := by
  unfold fX4_toppedNow_169 at h
  cases h
  exact z_iret C hW dX4_toppedNow_169
def fX4_toppedNow_10   : Nat → Me → Int32 → Int32 → Int32 → Int32 → Int32 → Int32 → Option (Int32 × Me)
  | 0, _, _, _, _, _, _, _ => none
  | n + 1, B, v1, v2, v3, v4, v5, v6 => if v6 < 0 then (if v3 = 0 then (fX4_toppedNow_169 B v4) else (fX4_toppedNow_169 B v5)) else (if (v6 / 5) = (v6 - v6 / 5 * 5) then (fX4_toppedNow_76 (fun m x0 x1 x2 x3 x4 x5 => fX4_toppedNow_10 n m x0 x1 x2 x3 x4 x5) B v1 v2 v3 v4 v5 v6 (v6 / 5) (v6 - v6 / 5 * 5)) else (bi (fX4_isCask B (v6 / 5)) fun r37 => if r37 = 0 then (fX4_toppedNow_76 (fun m x0 x1 x2 x3 x4 x5 => fX4_toppedNow_10 n m x0 x1 x2 x3 x4 x5) B v1 v2 v3 v4 v5 v6 (v6 / 5) (v6 - v6 / 5 * 5)) else (bi (fX4_isCask B (v6 - v6 / 5 * 5)) fun r46 => if r46 = 0 then (fX4_toppedNow_76 (fun m x0 x1 x2 x3 x4 x5 => fX4_toppedNow_10 n m x0 x1 x2 x3 x4 x5) B v1 v2 v3 v4 v5 v6 (v6 / 5) (v6 - v6 / 5 * 5)) else (b2 (fX4_litresIn B (v6 / 5)) fun r55 B55 => if r55 ≤ 0 then (fX4_toppedNow_76 (fun m x0 x1 x2 x3 x4 x5 => fX4_toppedNow_10 n m x0 x1 x2 x3 x4 x5) B55 v1 v2 v3 v4 v5 v6 (v6 / 5) (v6 - v6 / 5 * 5)) else (b2 (fX4_litresIn B55 (v6 - v6 / 5 * 5)) fun r64 B64 => if 20 ≤ r64 then (fX4_toppedNow_76 (fun m x0 x1 x2 x3 x4 x5 => fX4_toppedNow_10 n m x0 x1 x2 x3 x4 x5) B64 v1 v2 v3 v4 v5 v6 (v6 / 5) (v6 - v6 / 5 * 5)) else (fX4_toppedNow_77 (fun m x0 x1 x2 x3 x4 x5 => fX4_toppedNow_10 n m x0 x1 x2 x3 x4 x5) B64 v1 v2 v3 v4 v5 v6 (v6 / 5) (v6 - v6 / 5 * 5) 1))))))
set_option maxRecDepth 100000 in
theorem tX4_toppedNow_10 {A : Me}  {rZ : Int32} {BZ : Me}  (C : Cx Γ p s m args meth c cX4_toppedNow 11 (some .int) RX4 wsX4_toppedNow)  (n : Nat) : ∀ (B : Me) (v1 : Int32) (v2 : Int32) (v3 : Int32) (v4 : Int32) (v5 : Int32) (v6 : Int32) (H : Heap) (locs : List Loc) (ls : Array Slot), fX4_toppedNow_10 n B v1 v2 v3 v4 v5 v6 = some (rZ, BZ) → Wd Γ A B s.heap H locs → lv_has ls 11 [(0, .ref (Γ.2.2 58)), (1, .int v1), (2, .int v2), (3, .int v3), (4, .int v4), (5, .int v5), (6, .int v6)] → W p l e rmX4_toppedNow s m args below meth c H locs 0 0 (MQ below (QI Γ A BZ rZ) args s 0 0 (rg Γ)) (F0 m 10 ls []) := by
  induction n with
  | zero =>
    intro _ _ _ _ _ _ _ H locs ls h
    exact nomatch (show (none : Option (Int32 × Me)) = some (rZ, BZ) from h)
  | succ n ih =>
    intro B v1 v2 v3 v4 v5 v6 H locs ls h  hW hl
    rw [fX4_toppedNow_10] at h
    refine lv_iload C.1 C.2.1 dX4_toppedNow_10 (lv_at hl 6 rfl) ?_
    refine lv_if_lt (tgt := 158) C.1 C.2.1 dX4_toppedNow_12 (by decide) (fun c_12 => ?_) (fun c_12 => ?_)
    · have h := if_y h c_12
      refine lv_iload_n C.1 C.2.1 dX4_toppedNow_158 rfl (lv_at hl 3 rfl) ?_
      refine lv_if_ne (tgt := 167) C.1 C.2.1 dX4_toppedNow_159 (by decide) (fun c_159 => ?_) (fun c_159 => ?_)
      · have h := if_n h c_159
        refine lv_iload C.1 C.2.1 dX4_toppedNow_167 (lv_at hl 5 rfl) ?_
        exact tX4_toppedNow_169 C  h  hW (lv_sub hl [] rfl)
      · have h := if_y h c_159
        refine lv_iload C.1 C.2.1 dX4_toppedNow_162 (lv_at hl 4 rfl) ?_
        refine lv_goto (tgt := 169) C.1 C.2.1 dX4_toppedNow_164 (by decide) ?_
        exact tX4_toppedNow_169 C  h  hW (lv_sub hl [] rfl)
    · have h := if_n h c_12
      refine lv_iload C.1 C.2.1 dX4_toppedNow_15 (lv_at hl 6 rfl) ?_
      refine lv_iconst (v := 5) C.1 C.2.1 dX4_toppedNow_17 (by decide) ?_
      refine lv_idiv C.1 C.2.1 dX4_toppedNow_18 (by decide) ?_
      refine lv_istore (lv' := [(7, .int (v6 / 5)), (0, .ref (Γ.2.2 58)), (1, .int v1), (2, .int v2), (3, .int v3), (4, .int v4), (5, .int v5), (6, .int v6)]) C.1 C.2.1 dX4_toppedNow_19 hl (by decide) rfl (fun ls hl => ?_)
      refine lv_iload C.1 C.2.1 dX4_toppedNow_21 (lv_at hl 7 rfl) ?_
      refine lv_iconst (v := 5) C.1 C.2.1 dX4_toppedNow_23 (by decide) ?_
      refine lv_irem C.1 C.2.1 dX4_toppedNow_24 (by decide) ?_
      refine lv_istore (lv' := [(8, .int (v6 - v6 / 5 * 5)), (7, .int (v6 / 5)), (0, .ref (Γ.2.2 58)), (1, .int v1), (2, .int v2), (3, .int v3), (4, .int v4), (5, .int v5), (6, .int v6)]) C.1 C.2.1 dX4_toppedNow_25 hl (by decide) rfl (fun ls hl => ?_)
      refine lv_iload C.1 C.2.1 dX4_toppedNow_27 (lv_at hl 1 rfl) ?_
      refine lv_iload C.1 C.2.1 dX4_toppedNow_29 (lv_at hl 0 rfl) ?_
      refine lv_icmp_eq (tgt := 76) C.1 C.2.1 dX4_toppedNow_31 (by decide) (fun c_31 => ?_) (fun c_31 => ?_)
      · have h := if_y h c_31
        exact tX4_toppedNow_76 C ih h  hW (lv_sub hl [2, 3, 4, 5, 6, 7, 8, 1, 0] rfl)
      · have h := if_n h c_31
        refine lv_aload_n C.1 C.2.1 dX4_toppedNow_34 rfl (lv_at hl 2 rfl) ?_
        refine lv_iload C.1 C.2.1 dX4_toppedNow_35 (lv_at hl 1 rfl) ?_
        obtain ⟨r37, hc37, h⟩ := bi_s h
        refine cVi C hW (As := [.int (v6 / 5)]) (rest := []) (mt_X4_isCask  hc37) (cwV 1 C.2.2.2.2.2.1 gX4_toppedNow_X4_isCask rfl rfl rfl (by decide +kernel) ⟨Nat.le_of_ble_eq_true rfl, Nat.le_of_ble_eq_true rfl⟩) (rcv4 C hW (rfl : kd 58 = 4)) rfl hl.1 rfl (Nat.le_of_ble_eq_true rfl) dX4_toppedNow_37 (Nat.zero_le _) (Nat.zero_le _) (fun H locs hW => ?_)
        refine lv_if_eq (tgt := 76) C.1 C.2.1 dX4_toppedNow_40 (by decide) (fun c_40 => ?_) (fun c_40 => ?_)
        · have h := if_y h c_40
          exact tX4_toppedNow_76 C ih h  hW (lv_sub hl [2, 3, 4, 5, 6, 7, 8, 1, 0] rfl)
        · have h := if_n h c_40
          refine lv_aload_n C.1 C.2.1 dX4_toppedNow_43 rfl (lv_at hl 2 rfl) ?_
          refine lv_iload C.1 C.2.1 dX4_toppedNow_44 (lv_at hl 0 rfl) ?_
          obtain ⟨r46, hc46, h⟩ := bi_s h
          refine cVi C hW (As := [.int (v6 - v6 / 5 * 5)]) (rest := []) (mt_X4_isCask  hc46) (cwV 1 C.2.2.2.2.2.1 gX4_toppedNow_X4_isCask rfl rfl rfl (by decide +kernel) ⟨Nat.le_of_ble_eq_true rfl, Nat.le_of_ble_eq_true rfl⟩) (rcv4 C hW (rfl : kd 58 = 4)) rfl hl.1 rfl (Nat.le_of_ble_eq_true rfl) dX4_toppedNow_46 (Nat.zero_le _) (Nat.zero_le _) (fun H locs hW => ?_)
          refine lv_if_eq (tgt := 76) C.1 C.2.1 dX4_toppedNow_49 (by decide) (fun c_49 => ?_) (fun c_49 => ?_)
          · have h := if_y h c_49
            exact tX4_toppedNow_76 C ih h  hW (lv_sub hl [2, 3, 4, 5, 6, 7, 8, 1, 0] rfl)
          · have h := if_n h c_49
            refine lv_aload_n C.1 C.2.1 dX4_toppedNow_52 rfl (lv_at hl 2 rfl) ?_
            refine lv_iload C.1 C.2.1 dX4_toppedNow_53 (lv_at hl 1 rfl) ?_
            obtain ⟨r55, B55, hc55, h⟩ := b2_s h
            refine cVi C hW (As := [.int (v6 / 5)]) (rest := []) (mt_X4_litresIn  hc55) (cwV 1 C.2.2.2.2.2.1 gX4_toppedNow_X4_litresIn rfl rfl rfl (by decide +kernel) ⟨Nat.le_of_ble_eq_true rfl, Nat.le_of_ble_eq_true rfl⟩) (rcv4 C hW (rfl : kd 58 = 4)) rfl hl.1 rfl (Nat.le_of_ble_eq_true rfl) dX4_toppedNow_55 (Nat.zero_le _) (Nat.zero_le _) (fun H locs hW => ?_)
            refine lv_if_le (tgt := 76) C.1 C.2.1 dX4_toppedNow_58 (by decide) (fun c_58 => ?_) (fun c_58 => ?_)
            · have h := if_y h c_58
              exact tX4_toppedNow_76 C ih h  hW (lv_sub hl [2, 3, 4, 5, 6, 7, 8, 1, 0] rfl)
            · have h := if_n h c_58
              refine lv_aload_n C.1 C.2.1 dX4_toppedNow_61 rfl (lv_at hl 2 rfl) ?_
              refine lv_iload C.1 C.2.1 dX4_toppedNow_62 (lv_at hl 0 rfl) ?_
              obtain ⟨r64, B64, hc64, h⟩ := b2_s h
              refine cVi C hW (As := [.int (v6 - v6 / 5 * 5)]) (rest := []) (mt_X4_litresIn  hc64) (cwV 1 C.2.2.2.2.2.1 gX4_toppedNow_X4_litresIn rfl rfl rfl (by decide +kernel) ⟨Nat.le_of_ble_eq_true rfl, Nat.le_of_ble_eq_true rfl⟩) (rcv4 C hW (rfl : kd 58 = 4)) rfl hl.1 rfl (Nat.le_of_ble_eq_true rfl) dX4_toppedNow_64 (Nat.zero_le _) (Nat.zero_le _) (fun H locs hW => ?_)
              refine lv_bipush (v := 20) C.1 C.2.1 dX4_toppedNow_67 (by decide) ?_
              refine lv_icmp_ge (tgt := 76) C.1 C.2.1 dX4_toppedNow_69 (by decide) (fun c_69 => ?_) (fun c_69 => ?_)
              · have h := if_y h c_69
                exact tX4_toppedNow_76 C ih h  hW (lv_sub hl [2, 3, 4, 5, 6, 7, 8, 1, 0] rfl)
              · have h := if_n h c_69
                refine lv_iconst (v := 1) C.1 C.2.1 dX4_toppedNow_72 (by decide) ?_
                refine lv_goto (tgt := 77) C.1 C.2.1 dX4_toppedNow_73 (by decide) ?_
                exact tX4_toppedNow_77 C ih h  hW (lv_sub hl [2, 3, 4, 5, 6, 7, 8, 1, 0] rfl)
def fX4_toppedNow  (B : Me)  (v1 : Int32) (v2 : Int32) (v3 : Int32) : Option (Int32 × Me) := fX4_toppedNow_10 FU B v1 v2 v3 0 (-1) 24
set_option maxRecDepth 100000 in
theorem tX4_toppedNow_0 {A B : Me}  {H : Heap} {locs : List Loc} {ls : Array Slot} {v1 : Int32} {v2 : Int32} {v3 : Int32} {rZ : Int32} {BZ : Me}  (C : Cx Γ p s m args meth c cX4_toppedNow 11 (some .int) RX4 wsX4_toppedNow)  (h : fX4_toppedNow B v1 v2 v3 = some (rZ, BZ))  (hW : Wd Γ A B s.heap H locs) (hl : lv_has ls 11 [(0, .ref (Γ.2.2 58)), (1, .int v1), (2, .int v2), (3, .int v3)]) : W p l e rmX4_toppedNow s m args below meth c H locs 0 0 (MQ below (QI Γ A BZ rZ) args s 0 0 (rg Γ)) (F0 m 0 ls []) := by
  unfold fX4_toppedNow at h
  refine lv_iconst (v := 0) C.1 C.2.1 dX4_toppedNow_0 (by decide) ?_
  refine lv_istore (lv' := [(4, .int 0), (0, .ref (Γ.2.2 58)), (1, .int v1), (2, .int v2), (3, .int v3)]) C.1 C.2.1 dX4_toppedNow_1 hl (by decide) rfl (fun ls hl => ?_)
  refine lv_iconst (v := (-1)) C.1 C.2.1 dX4_toppedNow_3 (by decide) ?_
  refine lv_istore (lv' := [(5, .int (-1)), (4, .int 0), (0, .ref (Γ.2.2 58)), (1, .int v1), (2, .int v2), (3, .int v3)]) C.1 C.2.1 dX4_toppedNow_4 hl (by decide) rfl (fun ls hl => ?_)
  refine lv_bipush (v := 24) C.1 C.2.1 dX4_toppedNow_6 (by decide) ?_
  refine lv_istore (lv' := [(6, .int 24), (5, .int (-1)), (4, .int 0), (0, .ref (Γ.2.2 58)), (1, .int v1), (2, .int v2), (3, .int v3)]) C.1 C.2.1 dX4_toppedNow_8 hl (by decide) rfl (fun ls hl => ?_)
  exact tX4_toppedNow_10 C  FU _ _ _ _ _ _ _ _ _ _ h  hW (lv_sub hl [3, 4, 5, 6, 2, 1, 0] rfl)
theorem mt_X4_toppedNow {l : Launch} {Γ : Gm} {A B : Me}  {v1 : Int32} {v2 : Int32} {v3 : Int32} {rZ : Int32} {BZ : Me}  (h : fX4_toppedNow B v1 v2 v3 = some (rZ, BZ)) : Met l yX4_toppedNow wsX4_toppedNow rmX4_toppedNow (PC Γ A B [.ref (Γ.2.2 58), .int v1, .int v2, .int v3]) (QI Γ A BZ rZ) 0 0 (rg Γ) :=
  met_of (by decide) rfl (Nat.le_of_ble_eq_true rfl) (fun p e s m below meth c ls C hW hl => tX4_toppedNow_0 C  h  hW (lv_sub (l := [(0, .ref (Γ.2.2 58)), (1, .int v1), (2, .int v2), (3, .int v3)]) hl [0, 1, 2, 3] rfl))
abbrev rmX4_topped : Room := { frames := 6, cells := 0, slots := 0, locals := 147 }
def fX4_topped_40  (B : Me)  (t0 : Int32) : Option (Int32 × Me) := some (t0, B)
set_option maxRecDepth 100000 in
theorem tX4_topped_40 {A B : Me}  {H : Heap} {locs : List Loc} {ls : Array Slot} {t0 : Int32} {rZ : Int32} {BZ : Me}  (C : Cx Γ p s m args meth c cX4_topped 4 (some .int) RX4 wsX4_topped)  (h : fX4_topped_40 B t0 = some (rZ, BZ))  (hW : Wd Γ A B s.heap H locs) (hl : lv_has ls 4 []) : W p l e rmX4_topped s m args below meth c H locs 0 0 (MQ below (QI Γ A BZ rZ) args s 0 0 (rg Γ)) (F0 m 40 ls [.int t0]) := by
  unfold fX4_topped_40 at h
  cases h
  exact z_iret C hW dX4_topped_40
def fX4_topped_38  (B : Me)   : Option (Int32 × Me) := fX4_topped_40 B (-102)
set_option maxRecDepth 100000 in
theorem tX4_topped_38 {A B : Me}  {H : Heap} {locs : List Loc} {ls : Array Slot}  {rZ : Int32} {BZ : Me}  (C : Cx Γ p s m args meth c cX4_topped 4 (some .int) RX4 wsX4_topped)  (h : fX4_topped_38 B = some (rZ, BZ))  (hW : Wd Γ A B s.heap H locs) (hl : lv_has ls 4 []) : W p l e rmX4_topped s m args below meth c H locs 0 0 (MQ below (QI Γ A BZ rZ) args s 0 0 (rg Γ)) (F0 m 38 ls []) := by
  unfold fX4_topped_38 at h
  refine lv_bipush (v := (-102)) C.1 C.2.1 dX4_topped_38 (by decide) ?_
  exact tX4_topped_40 C  h  hW (lv_sub hl [] rfl)
def fX4_topped  (B : Me)  (v1 : Int32) (v2 : Int32) (v3 : Int32) : Option (Int32 × Me) := bi (fX4_isCask B v1) fun r2 => if r2 = 0 then (some ((-101), B)) else (bi (fX4_arePeople B v2) fun r13 => if r13 = 0 then (fX4_topped_38 B) else (bi (fX4_within v3 0 1) fun r22 => if r22 = 0 then (fX4_topped_38 B) else (b2 (fX4_toppedNow B v1 v2 v3) fun r32 B32 => fX4_topped_40 B32 r32)))
set_option maxRecDepth 100000 in
theorem tX4_topped_0 {A B : Me}  {H : Heap} {locs : List Loc} {ls : Array Slot} {v1 : Int32} {v2 : Int32} {v3 : Int32} {rZ : Int32} {BZ : Me}  (C : Cx Γ p s m args meth c cX4_topped 4 (some .int) RX4 wsX4_topped)  (h : fX4_topped B v1 v2 v3 = some (rZ, BZ))  (hW : Wd Γ A B s.heap H locs) (hl : lv_has ls 4 [(0, .ref (Γ.2.2 58)), (1, .int v1), (2, .int v2), (3, .int v3)]) : W p l e rmX4_topped s m args below meth c H locs 0 0 (MQ below (QI Γ A BZ rZ) args s 0 0 (rg Γ)) (F0 m 0 ls []) := by
  unfold fX4_topped at h
  refine lv_aload_n C.1 C.2.1 dX4_topped_0 rfl (lv_at hl 0 rfl) ?_
  refine lv_iload_n C.1 C.2.1 dX4_topped_1 rfl (lv_at hl 1 rfl) ?_
  obtain ⟨r2, hc2, h⟩ := bi_s h
  refine cVi C hW (As := [.int v1]) (rest := []) (mt_X4_isCask  hc2) (cwV 1 C.2.2.2.2.2.1 gX4_topped_X4_isCask rfl rfl rfl (by decide +kernel) ⟨Nat.le_of_ble_eq_true rfl, Nat.le_of_ble_eq_true rfl⟩) (rcv4 C hW (rfl : kd 58 = 4)) rfl hl.1 rfl (Nat.le_of_ble_eq_true rfl) dX4_topped_2 (Nat.zero_le _) (Nat.zero_le _) (fun H locs hW => ?_)
  refine lv_if_ne (tgt := 11) C.1 C.2.1 dX4_topped_5 (by decide) (fun c_5 => ?_) (fun c_5 => ?_)
  · have h := if_n h c_5
    refine lv_aload_n C.1 C.2.1 dX4_topped_11 rfl (lv_at hl 0 rfl) ?_
    refine lv_iload_n C.1 C.2.1 dX4_topped_12 rfl (lv_at hl 2 rfl) ?_
    obtain ⟨r13, hc13, h⟩ := bi_s h
    refine cVi C hW (As := [.int v2]) (rest := []) (mt_X4_arePeople  hc13) (cwV 1 C.2.2.2.2.2.1 gX4_topped_X4_arePeople rfl rfl rfl (by decide +kernel) ⟨Nat.le_of_ble_eq_true rfl, Nat.le_of_ble_eq_true rfl⟩) (rcv4 C hW (rfl : kd 58 = 4)) rfl hl.1 rfl (Nat.le_of_ble_eq_true rfl) dX4_topped_13 (Nat.zero_le _) (Nat.zero_le _) (fun H locs hW => ?_)
    refine lv_if_eq (tgt := 38) C.1 C.2.1 dX4_topped_16 (by decide) (fun c_16 => ?_) (fun c_16 => ?_)
    · have h := if_y h c_16
      exact tX4_topped_38 C  h  hW (lv_sub hl [] rfl)
    · have h := if_n h c_16
      refine lv_iload_n C.1 C.2.1 dX4_topped_19 rfl (lv_at hl 3 rfl) ?_
      refine lv_iconst (v := 0) C.1 C.2.1 dX4_topped_20 (by decide) ?_
      refine lv_iconst (v := 1) C.1 C.2.1 dX4_topped_21 (by decide) ?_
      obtain ⟨r22, hc22, h⟩ := bi_s h
      refine cSi C hW (As := [.int v3, .int 0, .int 1]) (rest := []) (mt_X4_within  hc22) (va_cwS 3 C.2.2.2.2.2.1 gX4_topped_X4_within rfl rfl rfl (by decide +kernel) ⟨Nat.le_of_ble_eq_true rfl, Nat.le_of_ble_eq_true rfl⟩) rfl hl.1 rfl (Nat.le_of_ble_eq_true rfl) dX4_topped_22 (Nat.zero_le _) (Nat.zero_le _) (fun H locs hW => ?_)
      refine lv_if_eq (tgt := 38) C.1 C.2.1 dX4_topped_25 (by decide) (fun c_25 => ?_) (fun c_25 => ?_)
      · have h := if_y h c_25
        exact tX4_topped_38 C  h  hW (lv_sub hl [] rfl)
      · have h := if_n h c_25
        refine lv_aload_n C.1 C.2.1 dX4_topped_28 rfl (lv_at hl 0 rfl) ?_
        refine lv_iload_n C.1 C.2.1 dX4_topped_29 rfl (lv_at hl 1 rfl) ?_
        refine lv_iload_n C.1 C.2.1 dX4_topped_30 rfl (lv_at hl 2 rfl) ?_
        refine lv_iload_n C.1 C.2.1 dX4_topped_31 rfl (lv_at hl 3 rfl) ?_
        obtain ⟨r32, B32, hc32, h⟩ := b2_s h
        refine cVi C hW (As := [.int v1, .int v2, .int v3]) (rest := []) (mt_X4_toppedNow  hc32) (cwV 3 C.2.2.2.2.2.1 gX4_topped_X4_toppedNow rfl rfl rfl (by decide +kernel) ⟨Nat.le_of_ble_eq_true rfl, Nat.le_of_ble_eq_true rfl⟩) (rcv4 C hW (rfl : kd 58 = 4)) rfl hl.1 rfl (Nat.le_of_ble_eq_true rfl) dX4_topped_32 (Nat.zero_le _) (Nat.zero_le _) (fun H locs hW => ?_)
        refine lv_goto (tgt := 40) C.1 C.2.1 dX4_topped_35 (by decide) ?_
        exact tX4_topped_40 C  h  hW (lv_sub hl [] rfl)
  · have h := if_y h c_5
    refine lv_bipush (v := (-101)) C.1 C.2.1 dX4_topped_8 (by decide) ?_
    cases h
    exact z_iret C hW dX4_topped_10
theorem mt_X4_topped {l : Launch} {Γ : Gm} {A B : Me}  {v1 : Int32} {v2 : Int32} {v3 : Int32} {rZ : Int32} {BZ : Me}  (h : fX4_topped B v1 v2 v3 = some (rZ, BZ)) : Met l yX4_topped wsX4_topped rmX4_topped (PC Γ A B [.ref (Γ.2.2 58), .int v1, .int v2, .int v3]) (QI Γ A BZ rZ) 0 0 (rg Γ) :=
  met_of (by decide) rfl (Nat.le_of_ble_eq_true rfl) (fun p e s m below meth c ls C hW hl => tX4_topped_0 C  h  hW (lv_sub (l := [(0, .ref (Γ.2.2 58)), (1, .int v1), (2, .int v2), (3, .int v3)]) hl [0, 1, 2, 3] rfl))
abbrev rmX4_draw : Room := { frames := 0, cells := 0, slots := 0, locals := 0 }
set_option maxRecDepth 100000 in
theorem iX4_draw_c4 : ∀ w ∈ wsX40, w ∈ wsX4_draw := by decide +kernel
set_option maxRecDepth 100000 in
theorem wX4_draw_0 : Cond.constantLong RX4 201 (1103515245) ∈ wsX4_draw := by decide +kernel
set_option maxRecDepth 100000 in
theorem wX4_draw_1 : Cond.fieldLink RX4 203 "WineByYearsModel" "seedNow" "J" ∈ wsX4_draw := by decide +kernel
set_option maxRecDepth 100000 in
theorem wX4_draw_2 : Cond.constantLong RX4 207 (12345) ∈ wsX4_draw := by decide +kernel
set_option maxRecDepth 100000 in
theorem wX4_draw_3 : Cond.constantLong RX4 209 (2147483647) ∈ wsX4_draw := by decide +kernel
set_option maxRecDepth 100000 in
theorem wX4_draw_4 : Cond.constantLong RX4 211 (65536) ∈ wsX4_draw := by decide +kernel
def fX4_draw  (B : Me)  (v1 : Int32) : Option (Int32 × Me) := ck (nzl v1.toInt64) <| some ((((gl ((upl B 58 19 ((((1103515245 : Int64) * (gl (B 58) 19)) + (12345 : Int64)) &&& (2147483647 : Int64))) 58) 19) / (65536 : Int64)) - ((gl ((upl B 58 19 ((((1103515245 : Int64) * (gl (B 58) 19)) + (12345 : Int64)) &&& (2147483647 : Int64))) 58) 19) / (65536 : Int64)) / v1.toInt64 * v1.toInt64).toInt32, (upl B 58 19 ((((1103515245 : Int64) * (gl (B 58) 19)) + (12345 : Int64)) &&& (2147483647 : Int64))))
set_option maxRecDepth 100000 in
theorem tX4_draw_0 {A B : Me}  {H : Heap} {locs : List Loc} {ls : Array Slot} {v1 : Int32} {rZ : Int32} {BZ : Me}  (C : Cx Γ p s m args meth c cX4_draw 2 (some .int) RX4 wsX4_draw)  (h : fX4_draw B v1 = some (rZ, BZ))  (hW : Wd Γ A B s.heap H locs) (hl : lv_has ls 2 [(0, .ref (Γ.2.2 58)), (1, .int v1)]) : W p l e rmX4_draw s m args below meth c H locs 0 0 (MQ below (QI Γ A BZ rZ) args s 0 0 (rg Γ)) (F0 m 0 ls []) := by
  unfold fX4_draw at h
  refine lv_aload_n C.1 C.2.1 dX4_draw_0 rfl (lv_at hl 0 rfl) ?_
  refine lv_ldc2 (v := 1103515245) C.1 C.2.1 C.2.2.2.2.1 (C.2.2.2.2.2.1 _ wX4_draw_0) dX4_draw_1 ?_
  refine lv_aload_n C.1 C.2.1 dX4_draw_4 rfl (lv_at hl 0 rfl) ?_
  refine gX4_19 C hW rfl iX4_draw_c4 wX4_draw_1 dX4_draw_5 ?_
  refine lv_lmul C.1 C.2.1 dX4_draw_8 ?_
  refine lv_ldc2 (v := 12345) C.1 C.2.1 C.2.2.2.2.1 (C.2.2.2.2.2.1 _ wX4_draw_2) dX4_draw_9 ?_
  refine lv_ladd C.1 C.2.1 dX4_draw_12 ?_
  refine lv_ldc2 (v := 2147483647) C.1 C.2.1 C.2.2.2.2.1 (C.2.2.2.2.2.1 _ wX4_draw_3) dX4_draw_13 ?_
  refine lv_land C.1 C.2.1 dX4_draw_16 ?_
  refine pX4_19 C hW rfl iX4_draw_c4 wX4_draw_1 dX4_draw_17 (fun H locs hW => ?_)
  refine lv_aload_n C.1 C.2.1 dX4_draw_20 rfl (lv_at hl 0 rfl) ?_
  refine gX4_19 C hW rfl iX4_draw_c4 wX4_draw_1 dX4_draw_21 ?_
  refine lv_ldc2 (v := 65536) C.1 C.2.1 C.2.2.2.2.1 (C.2.2.2.2.2.1 _ wX4_draw_4) dX4_draw_24 ?_
  refine lv_ldiv C.1 C.2.1 dX4_draw_27 (by decide) ?_
  refine lv_iload_n C.1 C.2.1 dX4_draw_28 rfl (lv_at hl 1 rfl) ?_
  refine lv_i2l C.1 C.2.1 dX4_draw_29 rfl ?_
  obtain ⟨hz, h⟩ := ck_s h
  refine lv_lrem C.1 C.2.1 dX4_draw_30 (nzl_s hz) ?_
  refine lv_l2i C.1 C.2.1 dX4_draw_31 rfl ?_
  cases h
  exact z_iret C hW dX4_draw_32
theorem mt_X4_draw {l : Launch} {Γ : Gm} {A B : Me}  {v1 : Int32} {rZ : Int32} {BZ : Me}  (h : fX4_draw B v1 = some (rZ, BZ)) : Met l yX4_draw wsX4_draw rmX4_draw (PC Γ A B [.ref (Γ.2.2 58), .int v1]) (QI Γ A BZ rZ) 0 0 (rg Γ) :=
  met_of (by decide) rfl (Nat.le_of_ble_eq_true rfl) (fun p e s m below meth c ls C hW hl => tX4_draw_0 C  h  hW (lv_sub (l := [(0, .ref (Γ.2.2 58)), (1, .int v1)]) hl [0, 1] rfl))
abbrev rmX4_litresAll : Room := { frames := 3, cells := 0, slots := 0, locals := 64 }
set_option maxRecDepth 100000 in
theorem iX4_litresAll_c4 : ∀ w ∈ wsX40, w ∈ wsX4_litresAll := by decide +kernel
set_option maxRecDepth 100000 in
theorem wX4_litresAll_0 : Cond.fieldLink RX4 82 "WineByYearsModel" "casks" "I" ∈ wsX4_litresAll := by decide +kernel
def fX4_litresAll_4   : Nat → Me → Int32 → Int32 → Option (Int32 × Me)
  | 0, _, _, _ => none
  | n + 1, B, v1, v2 => if (B 58 2) ≤ v2 then (some (v1, B)) else (b2 (fX4_litresIn B v2) fun r15 B15 => fX4_litresAll_4 n B15 (v1 + r15) (v2 + 1))
set_option maxRecDepth 100000 in
theorem tX4_litresAll_4 {A : Me}  {rZ : Int32} {BZ : Me}  (C : Cx Γ p s m args meth c cX4_litresAll 3 (some .int) RX4 wsX4_litresAll)  (n : Nat) : ∀ (B : Me) (v1 : Int32) (v2 : Int32) (H : Heap) (locs : List Loc) (ls : Array Slot), fX4_litresAll_4 n B v1 v2 = some (rZ, BZ) → Wd Γ A B s.heap H locs → lv_has ls 3 [(0, .ref (Γ.2.2 58)), (1, .int v1), (2, .int v2)] → W p l e rmX4_litresAll s m args below meth c H locs 0 0 (MQ below (QI Γ A BZ rZ) args s 0 0 (rg Γ)) (F0 m 4 ls []) := by
  induction n with
  | zero =>
    intro _ _ _ H locs ls h
    exact nomatch (show (none : Option (Int32 × Me)) = some (rZ, BZ) from h)
  | succ n ih =>
    intro B v1 v2 H locs ls h  hW hl
    rw [fX4_litresAll_4] at h
    refine lv_iload_n C.1 C.2.1 dX4_litresAll_4 rfl (lv_at hl 2 rfl) ?_
    refine lv_aload_n C.1 C.2.1 dX4_litresAll_5 rfl (lv_at hl 0 rfl) ?_
    refine gX4_2 C hW rfl iX4_litresAll_c4 wX4_litresAll_0 dX4_litresAll_6 ?_
    refine lv_icmp_ge (tgt := 26) C.1 C.2.1 dX4_litresAll_9 (by decide) (fun c_9 => ?_) (fun c_9 => ?_)
    · have h := if_y h c_9
      refine lv_iload_n C.1 C.2.1 dX4_litresAll_26 rfl (lv_at hl 1 rfl) ?_
      cases h
      exact z_iret C hW dX4_litresAll_27
    · have h := if_n h c_9
      refine lv_iload_n C.1 C.2.1 dX4_litresAll_12 rfl (lv_at hl 1 rfl) ?_
      refine lv_aload_n C.1 C.2.1 dX4_litresAll_13 rfl (lv_at hl 0 rfl) ?_
      refine lv_iload_n C.1 C.2.1 dX4_litresAll_14 rfl (lv_at hl 2 rfl) ?_
      obtain ⟨r15, B15, hc15, h⟩ := b2_s h
      refine cVi C hW (As := [.int v2]) (rest := [.int v1]) (mt_X4_litresIn  hc15) (cwV 1 C.2.2.2.2.2.1 gX4_litresAll_X4_litresIn rfl rfl rfl (by decide +kernel) ⟨Nat.le_of_ble_eq_true rfl, Nat.le_of_ble_eq_true rfl⟩) (rcv4 C hW (rfl : kd 58 = 4)) rfl hl.1 rfl (Nat.le_of_ble_eq_true rfl) dX4_litresAll_15 (Nat.zero_le _) (Nat.zero_le _) (fun H locs hW => ?_)
      refine lv_iadd C.1 C.2.1 dX4_litresAll_18 ?_
      refine lv_istore_n (lv' := [(1, .int (v1 + r15)), (0, .ref (Γ.2.2 58)), (2, .int v2)]) C.1 C.2.1 dX4_litresAll_19 rfl hl (by decide) rfl (fun ls hl => ?_)
      refine lv_iinc (v := (v2 + 1)) (lv' := [(2, .int (v2 + 1)), (1, .int (v1 + r15)), (0, .ref (Γ.2.2 58))]) C.1 C.2.1 dX4_litresAll_20 hl (k := 2) rfl rfl (by decide) rfl (fun ls hl => ?_)
      refine lv_goto (tgt := 4) C.1 C.2.1 dX4_litresAll_23 (by decide) ?_
      exact ih _ _ _ _ _ _ h  hW (lv_sub hl [2, 1, 0] rfl)
def fX4_litresAll  (B : Me)   : Option (Int32 × Me) := fX4_litresAll_4 FU B 0 0
set_option maxRecDepth 100000 in
theorem tX4_litresAll_0 {A B : Me}  {H : Heap} {locs : List Loc} {ls : Array Slot}  {rZ : Int32} {BZ : Me}  (C : Cx Γ p s m args meth c cX4_litresAll 3 (some .int) RX4 wsX4_litresAll)  (h : fX4_litresAll B = some (rZ, BZ))  (hW : Wd Γ A B s.heap H locs) (hl : lv_has ls 3 [(0, .ref (Γ.2.2 58))]) : W p l e rmX4_litresAll s m args below meth c H locs 0 0 (MQ below (QI Γ A BZ rZ) args s 0 0 (rg Γ)) (F0 m 0 ls []) := by
  unfold fX4_litresAll at h
  refine lv_iconst (v := 0) C.1 C.2.1 dX4_litresAll_0 (by decide) ?_
  refine lv_istore_n (lv' := [(1, .int 0), (0, .ref (Γ.2.2 58))]) C.1 C.2.1 dX4_litresAll_1 rfl hl (by decide) rfl (fun ls hl => ?_)
  refine lv_iconst (v := 0) C.1 C.2.1 dX4_litresAll_2 (by decide) ?_
  refine lv_istore_n (lv' := [(2, .int 0), (1, .int 0), (0, .ref (Γ.2.2 58))]) C.1 C.2.1 dX4_litresAll_3 rfl hl (by decide) rfl (fun ls hl => ?_)
  exact tX4_litresAll_4 C  FU _ _ _ _ _ _ h  hW (lv_sub hl [2, 1, 0] rfl)
theorem mt_X4_litresAll {l : Launch} {Γ : Gm} {A B : Me}   {rZ : Int32} {BZ : Me}  (h : fX4_litresAll B = some (rZ, BZ)) : Met l yX4_litresAll wsX4_litresAll rmX4_litresAll (PC Γ A B [.ref (Γ.2.2 58)]) (QI Γ A BZ rZ) 0 0 (rg Γ) :=
  met_of (by decide) rfl (Nat.le_of_ble_eq_true rfl) (fun p e s m below meth c ls C hW hl => tX4_litresAll_0 C  h  hW (lv_sub (l := [(0, .ref (Γ.2.2 58))]) hl [0] rfl))
abbrev rmX4_feastsNow : Room := { frames := 4, cells := 0, slots := 0, locals := 86 }
set_option maxRecDepth 100000 in
theorem iX4_feastsNow_c4 : ∀ w ∈ wsX40, w ∈ wsX4_feastsNow := by decide +kernel
set_option maxRecDepth 100000 in
theorem wX4_feastsNow_0 : Cond.fieldLink RX4 203 "WineByYearsModel" "seedNow" "J" ∈ wsX4_feastsNow := by decide +kernel
set_option maxRecDepth 100000 in
theorem wX4_feastsNow_1 : Cond.fieldLink RX4 41 "WineByYearsModel" "saved" "[I" ∈ wsX4_feastsNow := by decide +kernel
set_option maxRecDepth 100000 in
theorem wX4_feastsNow_2 : Cond.fieldLink RX4 7 "WineByYearsModel" "litresOf" "[I" ∈ wsX4_feastsNow := by decide +kernel
set_option maxRecDepth 100000 in
theorem wX4_feastsNow_3 : Cond.fieldLink RX4 88 "WineByYearsModel" "people" "I" ∈ wsX4_feastsNow := by decide +kernel
set_option maxRecDepth 100000 in
theorem wX4_feastsNow_4 : Cond.fieldLink RX4 82 "WineByYearsModel" "casks" "I" ∈ wsX4_feastsNow := by decide +kernel
set_option maxRecDepth 100000 in
theorem wX4_feastsNow_5 : Cond.fieldLink RX4 16 "WineByYearsModel" "kindOf" "[I" ∈ wsX4_feastsNow := by decide +kernel
set_option maxRecDepth 100000 in
theorem wX4_feastsNow_6 : Cond.fieldLink RX4 19 "WineByYearsModel" "bornOf" "[I" ∈ wsX4_feastsNow := by decide +kernel
def fX4_feastsNow_130 (j42 : Me → Int32 → Int32 → Int32 → Int32 → Option (Int32 × Me)) (B : Me)  (v1 : Int32) (v3 : Int32) (v4 : Int32) (v5 : Int32) : Option (Int32 × Me) := j42 B v1 v3 v4 (v5 + 1)
set_option maxRecDepth 100000 in
theorem tX4_feastsNow_130 {A B : Me}  {H : Heap} {locs : List Loc} {ls : Array Slot} {v1 : Int32} {v3 : Int32} {v4 : Int32} {v5 : Int32} {rZ : Int32} {BZ : Me} {j42 : Me → Int32 → Int32 → Int32 → Int32 → Option (Int32 × Me)} (C : Cx Γ p s m args meth c cX4_feastsNow 9 (some .int) RX4 wsX4_feastsNow) (hr42 : ∀ (B : Me) (v1 : Int32) (v3 : Int32) (v4 : Int32) (v5 : Int32) (H : Heap) (locs : List Loc) (ls : Array Slot), j42 B v1 v3 v4 v5 = some (rZ, BZ) → Wd Γ A B s.heap H locs → lv_has ls 9 [(0, .ref (Γ.2.2 58)), (1, .int v1), (3, .int v3), (4, .int v4), (5, .int v5)] → W p l e rmX4_feastsNow s m args below meth c H locs 0 0 (MQ below (QI Γ A BZ rZ) args s 0 0 (rg Γ)) (F0 m 42 ls [])) (h : fX4_feastsNow_130 j42 B v1 v3 v4 v5 = some (rZ, BZ))  (hW : Wd Γ A B s.heap H locs) (hl : lv_has ls 9 [(0, .ref (Γ.2.2 58)), (1, .int v1), (3, .int v3), (4, .int v4), (5, .int v5)]) : W p l e rmX4_feastsNow s m args below meth c H locs 0 0 (MQ below (QI Γ A BZ rZ) args s 0 0 (rg Γ)) (F0 m 130 ls []) := by
  unfold fX4_feastsNow_130 at h
  refine lv_iinc (v := (v5 + 1)) (lv' := [(5, .int (v5 + 1)), (0, .ref (Γ.2.2 58)), (1, .int v1), (3, .int v3), (4, .int v4)]) C.1 C.2.1 dX4_feastsNow_130 hl (k := 4) rfl rfl (by decide) rfl (fun ls hl => ?_)
  refine lv_goto (tgt := 42) C.1 C.2.1 dX4_feastsNow_133 (by decide) ?_
  exact hr42 _ _ _ _ _ _ _ _ h  hW (lv_sub hl [1, 2, 3, 4, 0] rfl)
def fX4_feastsNow_110 (j42 : Me → Int32 → Int32 → Int32 → Int32 → Option (Int32 × Me)) (B : Me)  (v1 : Int32) (v3 : Int32) (v5 : Int32) (v7 : Int32) (v8 : Int32) (t0 : Int32) (t1 : Int32) : Option (Int32 × Me) := ck (inb ((10 * v7) + v8) 50) <| ck (inb ((10 * v7) + v8) 50) <| fX4_feastsNow_130 j42 (up2 B 59 ((10 * v7) + v8).toNatClampNeg ((B 59 ((10 * v7) + v8).toNatClampNeg) - 1)) v1 v3 (t0 + t1) v5
set_option maxRecDepth 100000 in
theorem tX4_feastsNow_110 {A B : Me}  {H : Heap} {locs : List Loc} {ls : Array Slot} {v1 : Int32} {v3 : Int32} {v5 : Int32} {v7 : Int32} {v8 : Int32} {t0 : Int32} {t1 : Int32} {rZ : Int32} {BZ : Me} {j42 : Me → Int32 → Int32 → Int32 → Int32 → Option (Int32 × Me)} (C : Cx Γ p s m args meth c cX4_feastsNow 9 (some .int) RX4 wsX4_feastsNow) (hr42 : ∀ (B : Me) (v1 : Int32) (v3 : Int32) (v4 : Int32) (v5 : Int32) (H : Heap) (locs : List Loc) (ls : Array Slot), j42 B v1 v3 v4 v5 = some (rZ, BZ) → Wd Γ A B s.heap H locs → lv_has ls 9 [(0, .ref (Γ.2.2 58)), (1, .int v1), (3, .int v3), (4, .int v4), (5, .int v5)] → W p l e rmX4_feastsNow s m args below meth c H locs 0 0 (MQ below (QI Γ A BZ rZ) args s 0 0 (rg Γ)) (F0 m 42 ls [])) (h : fX4_feastsNow_110 j42 B v1 v3 v5 v7 v8 t0 t1 = some (rZ, BZ))  (hW : Wd Γ A B s.heap H locs) (hl : lv_has ls 9 [(0, .ref (Γ.2.2 58)), (1, .int v1), (3, .int v3), (5, .int v5), (7, .int v7), (8, .int v8)]) : W p l e rmX4_feastsNow s m args below meth c H locs 0 0 (MQ below (QI Γ A BZ rZ) args s 0 0 (rg Γ)) (F0 m 110 ls [.int t1, .int t0]) := by
  unfold fX4_feastsNow_110 at h
  refine lv_iadd C.1 C.2.1 dX4_feastsNow_110 ?_
  refine lv_istore (lv' := [(4, .int (t0 + t1)), (0, .ref (Γ.2.2 58)), (1, .int v1), (3, .int v3), (5, .int v5), (7, .int v7), (8, .int v8)]) C.1 C.2.1 dX4_feastsNow_111 hl (by decide) rfl (fun ls hl => ?_)
  refine lv_aload_n C.1 C.2.1 dX4_feastsNow_113 rfl (lv_at hl 1 rfl) ?_
  refine gX4_3 C hW rfl iX4_feastsNow_c4 wX4_feastsNow_2 dX4_feastsNow_114 ?_
  refine lv_bipush (v := 10) C.1 C.2.1 dX4_feastsNow_117 (by decide) ?_
  refine lv_iload C.1 C.2.1 dX4_feastsNow_119 (lv_at hl 5 rfl) ?_
  refine lv_imul C.1 C.2.1 dX4_feastsNow_121 ?_
  refine lv_iload C.1 C.2.1 dX4_feastsNow_122 (lv_at hl 6 rfl) ?_
  refine lv_iadd C.1 C.2.1 dX4_feastsNow_124 ?_
  refine lv_dup2_11 C.1 C.2.1 dX4_feastsNow_125 rfl rfl ?_
  obtain ⟨hi126, h⟩ := ck_s h
  refine la9 C hW ⟨rfl, rfl⟩ hi126 dX4_feastsNow_126 ?_
  refine lv_iconst (v := 1) C.1 C.2.1 dX4_feastsNow_127 (by decide) ?_
  refine lv_isub C.1 C.2.1 dX4_feastsNow_128 ?_
  obtain ⟨hi129, h⟩ := ck_s h
  refine sa9 C hW ⟨rfl, rfl⟩ hi129 dX4_feastsNow_129 (fun H locs hW => ?_)
  exact tX4_feastsNow_130 C hr42 h  hW (lv_sub hl [1, 2, 3, 0, 4] rfl)
def fX4_feastsNow_196  (B : Me)  (t0 : Int32) : Option (Int32 × Me) := some (t0, B)
set_option maxRecDepth 100000 in
theorem tX4_feastsNow_196 {A B : Me}  {H : Heap} {locs : List Loc} {ls : Array Slot} {t0 : Int32} {rZ : Int32} {BZ : Me}  (C : Cx Γ p s m args meth c cX4_feastsNow 9 (some .int) RX4 wsX4_feastsNow)  (h : fX4_feastsNow_196 B t0 = some (rZ, BZ))  (hW : Wd Γ A B s.heap H locs) (hl : lv_has ls 9 []) : W p l e rmX4_feastsNow s m args below meth c H locs 0 0 (MQ below (QI Γ A BZ rZ) args s 0 0 (rg Γ)) (F0 m 196 ls [.int t0]) := by
  unfold fX4_feastsNow_196 at h
  cases h
  exact z_iret C hW dX4_feastsNow_196
def fX4_feastsNow_145   : Nat → Me → Int32 → Int32 → Int32 → Int32 → Option (Int32 × Me)
  | 0, _, _, _, _, _ => none
  | n + 1, B, v3, v4, v5, v6 => if 50 ≤ v6 then (if v3 = 0 then (fX4_feastsNow_196 B v4) else (if v3 = 1 then (fX4_feastsNow_196 B v5) else (fX4_feastsNow_196 B ((gl (B 58) 19).toInt32)))) else (ck (inb v6 50) <| ck (inb v6 50) <| fX4_feastsNow_145 n (up2 B 59 v6.toNatClampNeg (B 69 v6.toNatClampNeg)) v3 v4 v5 (v6 + 1))
set_option maxRecDepth 100000 in
theorem tX4_feastsNow_145 {A : Me}  {rZ : Int32} {BZ : Me}  (C : Cx Γ p s m args meth c cX4_feastsNow 9 (some .int) RX4 wsX4_feastsNow)  (n : Nat) : ∀ (B : Me) (v3 : Int32) (v4 : Int32) (v5 : Int32) (v6 : Int32) (H : Heap) (locs : List Loc) (ls : Array Slot), fX4_feastsNow_145 n B v3 v4 v5 v6 = some (rZ, BZ) → Wd Γ A B s.heap H locs → lv_has ls 9 [(0, .ref (Γ.2.2 58)), (3, .int v3), (4, .int v4), (5, .int v5), (6, .int v6)] → W p l e rmX4_feastsNow s m args below meth c H locs 0 0 (MQ below (QI Γ A BZ rZ) args s 0 0 (rg Γ)) (F0 m 145 ls []) := by
  induction n with
  | zero =>
    intro _ _ _ _ _ H locs ls h
    exact nomatch (show (none : Option (Int32 × Me)) = some (rZ, BZ) from h)
  | succ n ih =>
    intro B v3 v4 v5 v6 H locs ls h  hW hl
    rw [fX4_feastsNow_145] at h
    refine lv_iload C.1 C.2.1 dX4_feastsNow_145 (lv_at hl 4 rfl) ?_
    refine lv_bipush (v := 50) C.1 C.2.1 dX4_feastsNow_147 (by decide) ?_
    refine lv_icmp_ge (tgt := 172) C.1 C.2.1 dX4_feastsNow_149 (by decide) (fun c_149 => ?_) (fun c_149 => ?_)
    · have h := if_y h c_149
      refine lv_iload_n C.1 C.2.1 dX4_feastsNow_172 rfl (lv_at hl 1 rfl) ?_
      refine lv_if_ne (tgt := 181) C.1 C.2.1 dX4_feastsNow_173 (by decide) (fun c_173 => ?_) (fun c_173 => ?_)
      · have h := if_n h c_173
        refine lv_iload_n C.1 C.2.1 dX4_feastsNow_181 rfl (lv_at hl 1 rfl) ?_
        refine lv_iconst (v := 1) C.1 C.2.1 dX4_feastsNow_182 (by decide) ?_
        refine lv_icmp_ne (tgt := 191) C.1 C.2.1 dX4_feastsNow_183 (by decide) (fun c_183 => ?_) (fun c_183 => ?_)
        · have h := if_n h c_183
          refine lv_aload_n C.1 C.2.1 dX4_feastsNow_191 rfl (lv_at hl 0 rfl) ?_
          refine gX4_19 C hW rfl iX4_feastsNow_c4 wX4_feastsNow_0 dX4_feastsNow_192 ?_
          refine lv_l2i C.1 C.2.1 dX4_feastsNow_195 rfl ?_
          exact tX4_feastsNow_196 C  h  hW (lv_sub hl [] rfl)
        · have h := if_y h c_183
          refine lv_iload C.1 C.2.1 dX4_feastsNow_186 (lv_at hl 3 rfl) ?_
          refine lv_goto (tgt := 196) C.1 C.2.1 dX4_feastsNow_188 (by decide) ?_
          exact tX4_feastsNow_196 C  h  hW (lv_sub hl [] rfl)
      · have h := if_y h c_173
        refine lv_iload C.1 C.2.1 dX4_feastsNow_176 (lv_at hl 2 rfl) ?_
        refine lv_goto (tgt := 196) C.1 C.2.1 dX4_feastsNow_178 (by decide) ?_
        exact tX4_feastsNow_196 C  h  hW (lv_sub hl [] rfl)
    · have h := if_n h c_149
      refine lv_aload_n C.1 C.2.1 dX4_feastsNow_152 rfl (lv_at hl 0 rfl) ?_
      refine gX4_3 C hW rfl iX4_feastsNow_c4 wX4_feastsNow_2 dX4_feastsNow_153 ?_
      refine lv_iload C.1 C.2.1 dX4_feastsNow_156 (lv_at hl 4 rfl) ?_
      refine lv_aload_n C.1 C.2.1 dX4_feastsNow_158 rfl (lv_at hl 0 rfl) ?_
      refine gX4_20 C hW rfl iX4_feastsNow_c4 wX4_feastsNow_1 dX4_feastsNow_159 ?_
      refine lv_iload C.1 C.2.1 dX4_feastsNow_162 (lv_at hl 4 rfl) ?_
      obtain ⟨hi164, h⟩ := ck_s h
      refine la9 C hW ⟨rfl, rfl⟩ hi164 dX4_feastsNow_164 ?_
      obtain ⟨hi165, h⟩ := ck_s h
      refine sa9 C hW ⟨rfl, rfl⟩ hi165 dX4_feastsNow_165 (fun H locs hW => ?_)
      refine lv_iinc (v := (v6 + 1)) (lv' := [(6, .int (v6 + 1)), (0, .ref (Γ.2.2 58)), (3, .int v3), (4, .int v4), (5, .int v5)]) C.1 C.2.1 dX4_feastsNow_166 hl (k := 4) rfl rfl (by decide) rfl (fun ls hl => ?_)
      refine lv_goto (tgt := 145) C.1 C.2.1 dX4_feastsNow_169 (by decide) ?_
      exact ih _ _ _ _ _ _ _ _ h  hW (lv_sub hl [1, 2, 3, 4, 0] rfl)
def fX4_feastsNow_42   : Nat → Me → Int32 → Int32 → Int32 → Int32 → Option (Int32 × Me)
  | 0, _, _, _, _, _ => none
  | n + 1, B, v1, v3, v4, v5 => if v1 ≤ v5 then (b2 (fX4_litresAll B) fun r137 B137 => fX4_feastsNow_145 FU B137 v3 v4 r137 0) else (b2 (fX4_draw B (B 58 5)) fun r53 B53 => b2 (fX4_draw B53 (B53 58 2)) fun r63 B63 => b2 (fX4_latestIn B63 r63) fun r71 B71 => if r71 = (-1) then (fX4_feastsNow_130 (fun m x0 x1 x2 x3 => fX4_feastsNow_42 n m x0 x1 x2 x3) B71 v1 v3 v4 v5) else (ck (inb r53 5) <| ck (inb r53 5) <| bi (fX4_mayThought B71 (B71 61 r53.toNatClampNeg) (B71 62 r53.toNatClampNeg)) fun r99 => if r99 = 0 then (fX4_feastsNow_110 (fun m x0 x1 x2 x3 => fX4_feastsNow_42 n m x0 x1 x2 x3) B71 v1 v3 v5 r63 r71 v4 1) else (fX4_feastsNow_110 (fun m x0 x1 x2 x3 => fX4_feastsNow_42 n m x0 x1 x2 x3) B71 v1 v3 v5 r63 r71 v4 0)))
set_option maxRecDepth 100000 in
theorem tX4_feastsNow_42 {A : Me}  {rZ : Int32} {BZ : Me}  (C : Cx Γ p s m args meth c cX4_feastsNow 9 (some .int) RX4 wsX4_feastsNow)  (n : Nat) : ∀ (B : Me) (v1 : Int32) (v3 : Int32) (v4 : Int32) (v5 : Int32) (H : Heap) (locs : List Loc) (ls : Array Slot), fX4_feastsNow_42 n B v1 v3 v4 v5 = some (rZ, BZ) → Wd Γ A B s.heap H locs → lv_has ls 9 [(0, .ref (Γ.2.2 58)), (1, .int v1), (3, .int v3), (4, .int v4), (5, .int v5)] → W p l e rmX4_feastsNow s m args below meth c H locs 0 0 (MQ below (QI Γ A BZ rZ) args s 0 0 (rg Γ)) (F0 m 42 ls []) := by
  induction n with
  | zero =>
    intro _ _ _ _ _ H locs ls h
    exact nomatch (show (none : Option (Int32 × Me)) = some (rZ, BZ) from h)
  | succ n ih =>
    intro B v1 v3 v4 v5 H locs ls h  hW hl
    rw [fX4_feastsNow_42] at h
    refine lv_iload C.1 C.2.1 dX4_feastsNow_42 (lv_at hl 4 rfl) ?_
    refine lv_iload_n C.1 C.2.1 dX4_feastsNow_44 rfl (lv_at hl 1 rfl) ?_
    refine lv_icmp_ge (tgt := 136) C.1 C.2.1 dX4_feastsNow_45 (by decide) (fun c_45 => ?_) (fun c_45 => ?_)
    · have h := if_y h c_45
      refine lv_aload_n C.1 C.2.1 dX4_feastsNow_136 rfl (lv_at hl 0 rfl) ?_
      obtain ⟨r137, B137, hc137, h⟩ := b2_s h
      refine cVi C hW (As := []) (rest := []) (mt_X4_litresAll  hc137) (cwV 0 C.2.2.2.2.2.1 gX4_feastsNow_X4_litresAll rfl rfl rfl (by decide +kernel) ⟨Nat.le_of_ble_eq_true rfl, Nat.le_of_ble_eq_true rfl⟩) (rcv4 C hW (rfl : kd 58 = 4)) rfl hl.1 rfl (Nat.le_of_ble_eq_true rfl) dX4_feastsNow_137 (Nat.zero_le _) (Nat.zero_le _) (fun H locs hW => ?_)
      refine lv_istore (lv' := [(5, .int r137), (0, .ref (Γ.2.2 58)), (1, .int v1), (3, .int v3), (4, .int v4)]) C.1 C.2.1 dX4_feastsNow_140 hl (by decide) rfl (fun ls hl => ?_)
      refine lv_iconst (v := 0) C.1 C.2.1 dX4_feastsNow_142 (by decide) ?_
      refine lv_istore (lv' := [(6, .int 0), (5, .int r137), (0, .ref (Γ.2.2 58)), (1, .int v1), (3, .int v3), (4, .int v4)]) C.1 C.2.1 dX4_feastsNow_143 hl (by decide) rfl (fun ls hl => ?_)
      exact tX4_feastsNow_145 C  FU _ _ _ _ _ _ _ _ h  hW (lv_sub hl [2, 4, 5, 1, 0] rfl)
    · have h := if_n h c_45
      refine lv_aload_n C.1 C.2.1 dX4_feastsNow_48 rfl (lv_at hl 0 rfl) ?_
      refine lv_aload_n C.1 C.2.1 dX4_feastsNow_49 rfl (lv_at hl 0 rfl) ?_
      refine gX4_5 C hW rfl iX4_feastsNow_c4 wX4_feastsNow_3 dX4_feastsNow_50 ?_
      obtain ⟨r53, B53, hc53, h⟩ := b2_s h
      refine cVi C hW (As := [.int (B 58 5)]) (rest := []) (mt_X4_draw  hc53) (cwV 1 C.2.2.2.2.2.1 gX4_feastsNow_X4_draw rfl rfl rfl (by decide +kernel) ⟨Nat.le_of_ble_eq_true rfl, Nat.le_of_ble_eq_true rfl⟩) (rcv4 C hW (rfl : kd 58 = 4)) rfl hl.1 rfl (Nat.le_of_ble_eq_true rfl) dX4_feastsNow_53 (Nat.zero_le _) (Nat.zero_le _) (fun H locs hW => ?_)
      refine lv_istore (lv' := [(6, .int r53), (0, .ref (Γ.2.2 58)), (1, .int v1), (3, .int v3), (4, .int v4), (5, .int v5)]) C.1 C.2.1 dX4_feastsNow_56 hl (by decide) rfl (fun ls hl => ?_)
      refine lv_aload_n C.1 C.2.1 dX4_feastsNow_58 rfl (lv_at hl 1 rfl) ?_
      refine lv_aload_n C.1 C.2.1 dX4_feastsNow_59 rfl (lv_at hl 1 rfl) ?_
      refine gX4_2 C hW rfl iX4_feastsNow_c4 wX4_feastsNow_4 dX4_feastsNow_60 ?_
      obtain ⟨r63, B63, hc63, h⟩ := b2_s h
      refine cVi C hW (As := [.int (B53 58 2)]) (rest := []) (mt_X4_draw  hc63) (cwV 1 C.2.2.2.2.2.1 gX4_feastsNow_X4_draw rfl rfl rfl (by decide +kernel) ⟨Nat.le_of_ble_eq_true rfl, Nat.le_of_ble_eq_true rfl⟩) (rcv4 C hW (rfl : kd 58 = 4)) rfl hl.1 rfl (Nat.le_of_ble_eq_true rfl) dX4_feastsNow_63 (Nat.zero_le _) (Nat.zero_le _) (fun H locs hW => ?_)
      refine lv_istore (lv' := [(7, .int r63), (6, .int r53), (0, .ref (Γ.2.2 58)), (1, .int v1), (3, .int v3), (4, .int v4), (5, .int v5)]) C.1 C.2.1 dX4_feastsNow_66 hl (by decide) rfl (fun ls hl => ?_)
      refine lv_aload_n C.1 C.2.1 dX4_feastsNow_68 rfl (lv_at hl 2 rfl) ?_
      refine lv_iload C.1 C.2.1 dX4_feastsNow_69 (lv_at hl 0 rfl) ?_
      obtain ⟨r71, B71, hc71, h⟩ := b2_s h
      refine cVi C hW (As := [.int r63]) (rest := []) (mt_X4_latestIn  hc71) (cwV 1 C.2.2.2.2.2.1 gX4_feastsNow_X4_latestIn rfl rfl rfl (by decide +kernel) ⟨Nat.le_of_ble_eq_true rfl, Nat.le_of_ble_eq_true rfl⟩) (rcv4 C hW (rfl : kd 58 = 4)) rfl hl.1 rfl (Nat.le_of_ble_eq_true rfl) dX4_feastsNow_71 (Nat.zero_le _) (Nat.zero_le _) (fun H locs hW => ?_)
      refine lv_istore (lv' := [(8, .int r71), (7, .int r63), (6, .int r53), (0, .ref (Γ.2.2 58)), (1, .int v1), (3, .int v3), (4, .int v4), (5, .int v5)]) C.1 C.2.1 dX4_feastsNow_74 hl (by decide) rfl (fun ls hl => ?_)
      refine lv_iload C.1 C.2.1 dX4_feastsNow_76 (lv_at hl 0 rfl) ?_
      refine lv_iconst (v := (-1)) C.1 C.2.1 dX4_feastsNow_78 (by decide) ?_
      refine lv_icmp_eq (tgt := 130) C.1 C.2.1 dX4_feastsNow_79 (by decide) (fun c_79 => ?_) (fun c_79 => ?_)
      · have h := if_y h c_79
        exact tX4_feastsNow_130 C ih h  hW (lv_sub hl [3, 4, 5, 6, 7] rfl)
      · have h := if_n h c_79
        refine lv_iload C.1 C.2.1 dX4_feastsNow_82 (lv_at hl 6 rfl) ?_
        refine lv_aload_n C.1 C.2.1 dX4_feastsNow_84 rfl (lv_at hl 3 rfl) ?_
        refine lv_aload_n C.1 C.2.1 dX4_feastsNow_85 rfl (lv_at hl 3 rfl) ?_
        refine gX4_6 C hW rfl iX4_feastsNow_c4 wX4_feastsNow_5 dX4_feastsNow_86 ?_
        refine lv_iload C.1 C.2.1 dX4_feastsNow_89 (lv_at hl 2 rfl) ?_
        obtain ⟨hi91, h⟩ := ck_s h
        refine la9 C hW ⟨rfl, rfl⟩ hi91 dX4_feastsNow_91 ?_
        refine lv_aload_n C.1 C.2.1 dX4_feastsNow_92 rfl (lv_at hl 3 rfl) ?_
        refine gX4_7 C hW rfl iX4_feastsNow_c4 wX4_feastsNow_6 dX4_feastsNow_93 ?_
        refine lv_iload C.1 C.2.1 dX4_feastsNow_96 (lv_at hl 2 rfl) ?_
        obtain ⟨hi98, h⟩ := ck_s h
        refine la9 C hW ⟨rfl, rfl⟩ hi98 dX4_feastsNow_98 ?_
        obtain ⟨r99, hc99, h⟩ := bi_s h
        refine cVi C hW (As := [.int (B71 61 r53.toNatClampNeg), .int (B71 62 r53.toNatClampNeg)]) (rest := [.int v4]) (mt_X4_mayThought  hc99) (cwV 2 C.2.2.2.2.2.1 gX4_feastsNow_X4_mayThought rfl rfl rfl (by decide +kernel) ⟨Nat.le_of_ble_eq_true rfl, Nat.le_of_ble_eq_true rfl⟩) (rcv4 C hW (rfl : kd 58 = 4)) rfl hl.1 rfl (Nat.le_of_ble_eq_true rfl) dX4_feastsNow_99 (Nat.zero_le _) (Nat.zero_le _) (fun H locs hW => ?_)
        refine lv_if_eq (tgt := 109) C.1 C.2.1 dX4_feastsNow_102 (by decide) (fun c_102 => ?_) (fun c_102 => ?_)
        · have h := if_y h c_102
          refine lv_iconst (v := 1) C.1 C.2.1 dX4_feastsNow_109 (by decide) ?_
          exact tX4_feastsNow_110 C ih h  hW (lv_sub hl [3, 4, 5, 7, 1, 0] rfl)
        · have h := if_n h c_102
          refine lv_iconst (v := 0) C.1 C.2.1 dX4_feastsNow_105 (by decide) ?_
          refine lv_goto (tgt := 110) C.1 C.2.1 dX4_feastsNow_106 (by decide) ?_
          exact tX4_feastsNow_110 C ih h  hW (lv_sub hl [3, 4, 5, 7, 1, 0] rfl)
def fX4_feastsNow_3   : Nat → Me → Int32 → Int32 → Int32 → Int32 → Option (Int32 × Me)
  | 0, _, _, _, _, _ => none
  | n + 1, B, v1, v2, v3, v4 => if 50 ≤ v4 then (fX4_feastsNow_42 FU (upl B 58 19 v2.toInt64) v1 v3 0 0) else (ck (inb v4 50) <| ck (inb v4 50) <| fX4_feastsNow_3 n (up2 B 69 v4.toNatClampNeg (B 59 v4.toNatClampNeg)) v1 v2 v3 (v4 + 1))
set_option maxRecDepth 100000 in
theorem tX4_feastsNow_3 {A : Me}  {rZ : Int32} {BZ : Me}  (C : Cx Γ p s m args meth c cX4_feastsNow 9 (some .int) RX4 wsX4_feastsNow)  (n : Nat) : ∀ (B : Me) (v1 : Int32) (v2 : Int32) (v3 : Int32) (v4 : Int32) (H : Heap) (locs : List Loc) (ls : Array Slot), fX4_feastsNow_3 n B v1 v2 v3 v4 = some (rZ, BZ) → Wd Γ A B s.heap H locs → lv_has ls 9 [(0, .ref (Γ.2.2 58)), (1, .int v1), (2, .int v2), (3, .int v3), (4, .int v4)] → W p l e rmX4_feastsNow s m args below meth c H locs 0 0 (MQ below (QI Γ A BZ rZ) args s 0 0 (rg Γ)) (F0 m 3 ls []) := by
  induction n with
  | zero =>
    intro _ _ _ _ _ H locs ls h
    exact nomatch (show (none : Option (Int32 × Me)) = some (rZ, BZ) from h)
  | succ n ih =>
    intro B v1 v2 v3 v4 H locs ls h  hW hl
    rw [fX4_feastsNow_3] at h
    refine lv_iload C.1 C.2.1 dX4_feastsNow_3 (lv_at hl 4 rfl) ?_
    refine lv_bipush (v := 50) C.1 C.2.1 dX4_feastsNow_5 (by decide) ?_
    refine lv_icmp_ge (tgt := 30) C.1 C.2.1 dX4_feastsNow_7 (by decide) (fun c_7 => ?_) (fun c_7 => ?_)
    · have h := if_y h c_7
      refine lv_aload_n C.1 C.2.1 dX4_feastsNow_30 rfl (lv_at hl 0 rfl) ?_
      refine lv_iload_n C.1 C.2.1 dX4_feastsNow_31 rfl (lv_at hl 2 rfl) ?_
      refine lv_i2l C.1 C.2.1 dX4_feastsNow_32 rfl ?_
      refine pX4_19 C hW rfl iX4_feastsNow_c4 wX4_feastsNow_0 dX4_feastsNow_33 (fun H locs hW => ?_)
      refine lv_iconst (v := 0) C.1 C.2.1 dX4_feastsNow_36 (by decide) ?_
      refine lv_istore (lv' := [(4, .int 0), (0, .ref (Γ.2.2 58)), (1, .int v1), (2, .int v2), (3, .int v3)]) C.1 C.2.1 dX4_feastsNow_37 hl (by decide) rfl (fun ls hl => ?_)
      refine lv_iconst (v := 0) C.1 C.2.1 dX4_feastsNow_39 (by decide) ?_
      refine lv_istore (lv' := [(5, .int 0), (4, .int 0), (0, .ref (Γ.2.2 58)), (1, .int v1), (2, .int v2), (3, .int v3)]) C.1 C.2.1 dX4_feastsNow_40 hl (by decide) rfl (fun ls hl => ?_)
      exact tX4_feastsNow_42 C  FU _ _ _ _ _ _ _ _ h  hW (lv_sub hl [2, 3, 5, 1, 0] rfl)
    · have h := if_n h c_7
      refine lv_aload_n C.1 C.2.1 dX4_feastsNow_10 rfl (lv_at hl 0 rfl) ?_
      refine gX4_20 C hW rfl iX4_feastsNow_c4 wX4_feastsNow_1 dX4_feastsNow_11 ?_
      refine lv_iload C.1 C.2.1 dX4_feastsNow_14 (lv_at hl 4 rfl) ?_
      refine lv_aload_n C.1 C.2.1 dX4_feastsNow_16 rfl (lv_at hl 0 rfl) ?_
      refine gX4_3 C hW rfl iX4_feastsNow_c4 wX4_feastsNow_2 dX4_feastsNow_17 ?_
      refine lv_iload C.1 C.2.1 dX4_feastsNow_20 (lv_at hl 4 rfl) ?_
      obtain ⟨hi22, h⟩ := ck_s h
      refine la9 C hW ⟨rfl, rfl⟩ hi22 dX4_feastsNow_22 ?_
      obtain ⟨hi23, h⟩ := ck_s h
      refine sa9 C hW ⟨rfl, rfl⟩ hi23 dX4_feastsNow_23 (fun H locs hW => ?_)
      refine lv_iinc (v := (v4 + 1)) (lv' := [(4, .int (v4 + 1)), (0, .ref (Γ.2.2 58)), (1, .int v1), (2, .int v2), (3, .int v3)]) C.1 C.2.1 dX4_feastsNow_24 hl (k := 4) rfl rfl (by decide) rfl (fun ls hl => ?_)
      refine lv_goto (tgt := 3) C.1 C.2.1 dX4_feastsNow_27 (by decide) ?_
      exact ih _ _ _ _ _ _ _ _ h  hW (lv_sub hl [1, 2, 3, 4, 0] rfl)
def fX4_feastsNow  (B : Me)  (v1 : Int32) (v2 : Int32) (v3 : Int32) : Option (Int32 × Me) := fX4_feastsNow_3 FU B v1 v2 v3 0
set_option maxRecDepth 100000 in
theorem tX4_feastsNow_0 {A B : Me}  {H : Heap} {locs : List Loc} {ls : Array Slot} {v1 : Int32} {v2 : Int32} {v3 : Int32} {rZ : Int32} {BZ : Me}  (C : Cx Γ p s m args meth c cX4_feastsNow 9 (some .int) RX4 wsX4_feastsNow)  (h : fX4_feastsNow B v1 v2 v3 = some (rZ, BZ))  (hW : Wd Γ A B s.heap H locs) (hl : lv_has ls 9 [(0, .ref (Γ.2.2 58)), (1, .int v1), (2, .int v2), (3, .int v3)]) : W p l e rmX4_feastsNow s m args below meth c H locs 0 0 (MQ below (QI Γ A BZ rZ) args s 0 0 (rg Γ)) (F0 m 0 ls []) := by
  unfold fX4_feastsNow at h
  refine lv_iconst (v := 0) C.1 C.2.1 dX4_feastsNow_0 (by decide) ?_
  refine lv_istore (lv' := [(4, .int 0), (0, .ref (Γ.2.2 58)), (1, .int v1), (2, .int v2), (3, .int v3)]) C.1 C.2.1 dX4_feastsNow_1 hl (by decide) rfl (fun ls hl => ?_)
  exact tX4_feastsNow_3 C  FU _ _ _ _ _ _ _ _ h  hW (lv_sub hl [1, 2, 3, 4, 0] rfl)
theorem mt_X4_feastsNow {l : Launch} {Γ : Gm} {A B : Me}  {v1 : Int32} {v2 : Int32} {v3 : Int32} {rZ : Int32} {BZ : Me}  (h : fX4_feastsNow B v1 v2 v3 = some (rZ, BZ)) : Met l yX4_feastsNow wsX4_feastsNow rmX4_feastsNow (PC Γ A B [.ref (Γ.2.2 58), .int v1, .int v2, .int v3]) (QI Γ A BZ rZ) 0 0 (rg Γ) :=
  met_of (by decide) rfl (Nat.le_of_ble_eq_true rfl) (fun p e s m below meth c ls C hW hl => tX4_feastsNow_0 C  h  hW (lv_sub (l := [(0, .ref (Γ.2.2 58)), (1, .int v1), (2, .int v2), (3, .int v3)]) hl [0, 1, 2, 3] rfl))
abbrev rmX4_feasts : Room := { frames := 5, cells := 0, slots := 0, locals := 114 }
set_option maxRecDepth 100000 in
theorem iX4_feasts_c4 : ∀ w ∈ wsX40, w ∈ wsX4_feasts := by decide +kernel
set_option maxRecDepth 100000 in
theorem wX4_feasts_0 : Cond.fieldLink RX4 88 "WineByYearsModel" "people" "I" ∈ wsX4_feasts := by decide +kernel
def fX4_feasts_23  (B : Me)   : Option (Int32 × Me) := some ((-102), B)
set_option maxRecDepth 100000 in
theorem tX4_feasts_23 {A B : Me}  {H : Heap} {locs : List Loc} {ls : Array Slot}  {rZ : Int32} {BZ : Me}  (C : Cx Γ p s m args meth c cX4_feasts 4 (some .int) RX4 wsX4_feasts)  (h : fX4_feasts_23 B = some (rZ, BZ))  (hW : Wd Γ A B s.heap H locs) (hl : lv_has ls 4 []) : W p l e rmX4_feasts s m args below meth c H locs 0 0 (MQ below (QI Γ A BZ rZ) args s 0 0 (rg Γ)) (F0 m 23 ls []) := by
  unfold fX4_feasts_23 at h
  refine lv_bipush (v := (-102)) C.1 C.2.1 dX4_feasts_23 (by decide) ?_
  cases h
  exact z_iret C hW dX4_feasts_25
def fX4_feasts_45  (B : Me)  (t0 : Int32) : Option (Int32 × Me) := some (t0, B)
set_option maxRecDepth 100000 in
theorem tX4_feasts_45 {A B : Me}  {H : Heap} {locs : List Loc} {ls : Array Slot} {t0 : Int32} {rZ : Int32} {BZ : Me}  (C : Cx Γ p s m args meth c cX4_feasts 4 (some .int) RX4 wsX4_feasts)  (h : fX4_feasts_45 B t0 = some (rZ, BZ))  (hW : Wd Γ A B s.heap H locs) (hl : lv_has ls 4 []) : W p l e rmX4_feasts s m args below meth c H locs 0 0 (MQ below (QI Γ A BZ rZ) args s 0 0 (rg Γ)) (F0 m 45 ls [.int t0]) := by
  unfold fX4_feasts_45 at h
  cases h
  exact z_iret C hW dX4_feasts_45
def fX4_feasts  (B : Me)  (v1 : Int32) (v2 : Int32) (v3 : Int32) : Option (Int32 × Me) := bi (fX4_within v1 1 60) fun r4 => if r4 = 0 then (fX4_feasts_23 B) else (if v2 < 0 then (fX4_feasts_23 B) else (bi (fX4_within v3 0 2) fun r17 => if r17 = 0 then (fX4_feasts_23 B) else (if (B 58 5) = 0 then (fX4_feasts_45 B (-103)) else (b2 (fX4_feastsNow B v1 v2 v3) fun r42 B42 => fX4_feasts_45 B42 r42))))
set_option maxRecDepth 100000 in
theorem tX4_feasts_0 {A B : Me}  {H : Heap} {locs : List Loc} {ls : Array Slot} {v1 : Int32} {v2 : Int32} {v3 : Int32} {rZ : Int32} {BZ : Me}  (C : Cx Γ p s m args meth c cX4_feasts 4 (some .int) RX4 wsX4_feasts)  (h : fX4_feasts B v1 v2 v3 = some (rZ, BZ))  (hW : Wd Γ A B s.heap H locs) (hl : lv_has ls 4 [(0, .ref (Γ.2.2 58)), (1, .int v1), (2, .int v2), (3, .int v3)]) : W p l e rmX4_feasts s m args below meth c H locs 0 0 (MQ below (QI Γ A BZ rZ) args s 0 0 (rg Γ)) (F0 m 0 ls []) := by
  unfold fX4_feasts at h
  refine lv_iload_n C.1 C.2.1 dX4_feasts_0 rfl (lv_at hl 1 rfl) ?_
  refine lv_iconst (v := 1) C.1 C.2.1 dX4_feasts_1 (by decide) ?_
  refine lv_bipush (v := 60) C.1 C.2.1 dX4_feasts_2 (by decide) ?_
  obtain ⟨r4, hc4, h⟩ := bi_s h
  refine cSi C hW (As := [.int v1, .int 1, .int 60]) (rest := []) (mt_X4_within  hc4) (va_cwS 3 C.2.2.2.2.2.1 gX4_feasts_X4_within rfl rfl rfl (by decide +kernel) ⟨Nat.le_of_ble_eq_true rfl, Nat.le_of_ble_eq_true rfl⟩) rfl hl.1 rfl (Nat.le_of_ble_eq_true rfl) dX4_feasts_4 (Nat.zero_le _) (Nat.zero_le _) (fun H locs hW => ?_)
  refine lv_if_eq (tgt := 23) C.1 C.2.1 dX4_feasts_7 (by decide) (fun c_7 => ?_) (fun c_7 => ?_)
  · have h := if_y h c_7
    exact tX4_feasts_23 C  h  hW (lv_sub hl [] rfl)
  · have h := if_n h c_7
    refine lv_iload_n C.1 C.2.1 dX4_feasts_10 rfl (lv_at hl 2 rfl) ?_
    refine lv_if_lt (tgt := 23) C.1 C.2.1 dX4_feasts_11 (by decide) (fun c_11 => ?_) (fun c_11 => ?_)
    · have h := if_y h c_11
      exact tX4_feasts_23 C  h  hW (lv_sub hl [] rfl)
    · have h := if_n h c_11
      refine lv_iload_n C.1 C.2.1 dX4_feasts_14 rfl (lv_at hl 3 rfl) ?_
      refine lv_iconst (v := 0) C.1 C.2.1 dX4_feasts_15 (by decide) ?_
      refine lv_iconst (v := 2) C.1 C.2.1 dX4_feasts_16 (by decide) ?_
      obtain ⟨r17, hc17, h⟩ := bi_s h
      refine cSi C hW (As := [.int v3, .int 0, .int 2]) (rest := []) (mt_X4_within  hc17) (va_cwS 3 C.2.2.2.2.2.1 gX4_feasts_X4_within rfl rfl rfl (by decide +kernel) ⟨Nat.le_of_ble_eq_true rfl, Nat.le_of_ble_eq_true rfl⟩) rfl hl.1 rfl (Nat.le_of_ble_eq_true rfl) dX4_feasts_17 (Nat.zero_le _) (Nat.zero_le _) (fun H locs hW => ?_)
      refine lv_if_ne (tgt := 26) C.1 C.2.1 dX4_feasts_20 (by decide) (fun c_20 => ?_) (fun c_20 => ?_)
      · have h := if_n h c_20
        refine lv_aload_n C.1 C.2.1 dX4_feasts_26 rfl (lv_at hl 0 rfl) ?_
        refine gX4_5 C hW rfl iX4_feasts_c4 wX4_feasts_0 dX4_feasts_27 ?_
        refine lv_if_ne (tgt := 38) C.1 C.2.1 dX4_feasts_30 (by decide) (fun c_30 => ?_) (fun c_30 => ?_)
        · have h := if_n h c_30
          refine lv_aload_n C.1 C.2.1 dX4_feasts_38 rfl (lv_at hl 0 rfl) ?_
          refine lv_iload_n C.1 C.2.1 dX4_feasts_39 rfl (lv_at hl 1 rfl) ?_
          refine lv_iload_n C.1 C.2.1 dX4_feasts_40 rfl (lv_at hl 2 rfl) ?_
          refine lv_iload_n C.1 C.2.1 dX4_feasts_41 rfl (lv_at hl 3 rfl) ?_
          obtain ⟨r42, B42, hc42, h⟩ := b2_s h
          refine cVi C hW (As := [.int v1, .int v2, .int v3]) (rest := []) (mt_X4_feastsNow  hc42) (cwV 3 C.2.2.2.2.2.1 gX4_feasts_X4_feastsNow rfl rfl rfl (by decide +kernel) ⟨Nat.le_of_ble_eq_true rfl, Nat.le_of_ble_eq_true rfl⟩) (rcv4 C hW (rfl : kd 58 = 4)) rfl hl.1 rfl (Nat.le_of_ble_eq_true rfl) dX4_feasts_42 (Nat.zero_le _) (Nat.zero_le _) (fun H locs hW => ?_)
          exact tX4_feasts_45 C  h  hW (lv_sub hl [] rfl)
        · have h := if_y h c_30
          refine lv_bipush (v := (-103)) C.1 C.2.1 dX4_feasts_33 (by decide) ?_
          refine lv_goto (tgt := 45) C.1 C.2.1 dX4_feasts_35 (by decide) ?_
          exact tX4_feasts_45 C  h  hW (lv_sub hl [] rfl)
      · have h := if_y h c_20
        exact tX4_feasts_23 C  h  hW (lv_sub hl [] rfl)
theorem mt_X4_feasts {l : Launch} {Γ : Gm} {A B : Me}  {v1 : Int32} {v2 : Int32} {v3 : Int32} {rZ : Int32} {BZ : Me}  (h : fX4_feasts B v1 v2 v3 = some (rZ, BZ)) : Met l yX4_feasts wsX4_feasts rmX4_feasts (PC Γ A B [.ref (Γ.2.2 58), .int v1, .int v2, .int v3]) (QI Γ A BZ rZ) 0 0 (rg Γ) :=
  met_of (by decide) rfl (Nat.le_of_ble_eq_true rfl) (fun p e s m below meth c ls C hW hl => tX4_feasts_0 C  h  hW (lv_sub (l := [(0, .ref (Γ.2.2 58)), (1, .int v1), (2, .int v2), (3, .int v3)]) hl [0, 1, 2, 3] rfl))
abbrev rmX4_image : Room := { frames := 4, cells := 0, slots := 0, locals := 86 }
set_option maxRecDepth 100000 in
theorem iX4_image_c4 : ∀ w ∈ wsX40, w ∈ wsX4_image := by decide +kernel
set_option maxRecDepth 100000 in
theorem wX4_image_0 : Cond.fieldLink RX4 82 "WineByYearsModel" "casks" "I" ∈ wsX4_image := by decide +kernel
set_option maxRecDepth 100000 in
theorem wX4_image_1 : Cond.fieldLink RX4 222 "WineByYearsModel" "isKept" "Z" ∈ wsX4_image := by decide +kernel
set_option maxRecDepth 100000 in
theorem wX4_image_2 : Cond.fieldLink RX4 85 "WineByYearsModel" "cellars" "I" ∈ wsX4_image := by decide +kernel
set_option maxRecDepth 100000 in
theorem wX4_image_3 : Cond.fieldLink RX4 225 "WineByYearsModel" "keptCellar" "I" ∈ wsX4_image := by decide +kernel
set_option maxRecDepth 100000 in
theorem wX4_image_4 : Cond.fieldLink RX4 88 "WineByYearsModel" "people" "I" ∈ wsX4_image := by decide +kernel
set_option maxRecDepth 100000 in
theorem wX4_image_5 : Cond.fieldLink RX4 228 "WineByYearsModel" "keptPeople" "I" ∈ wsX4_image := by decide +kernel
set_option maxRecDepth 100000 in
theorem wX4_image_6 : Cond.fieldLink RX4 91 "WineByYearsModel" "trials" "I" ∈ wsX4_image := by decide +kernel
set_option maxRecDepth 100000 in
theorem wX4_image_7 : Cond.fieldLink RX4 231 "WineByYearsModel" "keptTrials" "I" ∈ wsX4_image := by decide +kernel
set_option maxRecDepth 100000 in
theorem wX4_image_8 : Cond.fieldLink RX4 44 "WineByYearsModel" "keptLitres" "[I" ∈ wsX4_image := by decide +kernel
set_option maxRecDepth 100000 in
theorem wX4_image_9 : Cond.fieldLink RX4 7 "WineByYearsModel" "litresOf" "[I" ∈ wsX4_image := by decide +kernel
set_option maxRecDepth 100000 in
theorem wX4_image_10 : Cond.fieldLink RX4 47 "WineByYearsModel" "keptIll" "[I" ∈ wsX4_image := by decide +kernel
set_option maxRecDepth 100000 in
theorem wX4_image_11 : Cond.fieldLink RX4 22 "WineByYearsModel" "illOf" "[I" ∈ wsX4_image := by decide +kernel
set_option maxRecDepth 100000 in
theorem wX4_image_12 : Cond.fieldLink RX4 50 "WineByYearsModel" "keptCask" "[I" ∈ wsX4_image := by decide +kernel
set_option maxRecDepth 100000 in
theorem wX4_image_13 : Cond.fieldLink RX4 25 "WineByYearsModel" "trialCask" "[I" ∈ wsX4_image := by decide +kernel
set_option maxRecDepth 100000 in
theorem wX4_image_14 : Cond.fieldLink RX4 53 "WineByYearsModel" "keptTrialIll" "[I" ∈ wsX4_image := by decide +kernel
set_option maxRecDepth 100000 in
theorem wX4_image_15 : Cond.fieldLink RX4 28 "WineByYearsModel" "trialIll" "[I" ∈ wsX4_image := by decide +kernel
def fX4_image_92   : Nat → Me → Int32 → Option (Int32 × Me)
  | 0, _, _ => none
  | n + 1, B, v1 => if 8 ≤ v1 then (b2 (fX4_litresAll B) fun r129 B129 => some (r129, B129)) else (ck (inb v1 8) <| ck (inb v1 8) <| ck (inb v1 8) <| ck (inb v1 8) <| fX4_image_92 n (up2 (up2 B 72 v1.toNatClampNeg (B 64 v1.toNatClampNeg)) 73 v1.toNatClampNeg ((up2 B 72 v1.toNatClampNeg (B 64 v1.toNatClampNeg)) 65 v1.toNatClampNeg)) (v1 + 1))
set_option maxRecDepth 100000 in
theorem tX4_image_92 {A : Me}  {rZ : Int32} {BZ : Me}  (C : Cx Γ p s m args meth c cX4_image 2 (some .int) RX4 wsX4_image)  (n : Nat) : ∀ (B : Me) (v1 : Int32) (H : Heap) (locs : List Loc) (ls : Array Slot), fX4_image_92 n B v1 = some (rZ, BZ) → Wd Γ A B s.heap H locs → lv_has ls 2 [(0, .ref (Γ.2.2 58)), (1, .int v1)] → W p l e rmX4_image s m args below meth c H locs 0 0 (MQ below (QI Γ A BZ rZ) args s 0 0 (rg Γ)) (F0 m 92 ls []) := by
  induction n with
  | zero =>
    intro _ _ H locs ls h
    exact nomatch (show (none : Option (Int32 × Me)) = some (rZ, BZ) from h)
  | succ n ih =>
    intro B v1 H locs ls h  hW hl
    rw [fX4_image_92] at h
    refine lv_iload_n C.1 C.2.1 dX4_image_92 rfl (lv_at hl 1 rfl) ?_
    refine lv_bipush (v := 8) C.1 C.2.1 dX4_image_93 (by decide) ?_
    refine lv_icmp_ge (tgt := 128) C.1 C.2.1 dX4_image_95 (by decide) (fun c_95 => ?_) (fun c_95 => ?_)
    · have h := if_y h c_95
      refine lv_aload_n C.1 C.2.1 dX4_image_128 rfl (lv_at hl 0 rfl) ?_
      obtain ⟨r129, B129, hc129, h⟩ := b2_s h
      refine cVi C hW (As := []) (rest := []) (mt_X4_litresAll  hc129) (cwV 0 C.2.2.2.2.2.1 gX4_image_X4_litresAll rfl rfl rfl (by decide +kernel) ⟨Nat.le_of_ble_eq_true rfl, Nat.le_of_ble_eq_true rfl⟩) (rcv4 C hW (rfl : kd 58 = 4)) rfl hl.1 rfl (Nat.le_of_ble_eq_true rfl) dX4_image_129 (Nat.zero_le _) (Nat.zero_le _) (fun H locs hW => ?_)
      cases h
      exact z_iret C hW dX4_image_132
    · have h := if_n h c_95
      refine lv_aload_n C.1 C.2.1 dX4_image_98 rfl (lv_at hl 0 rfl) ?_
      refine gX4_27 C hW rfl iX4_image_c4 wX4_image_12 dX4_image_99 ?_
      refine lv_iload_n C.1 C.2.1 dX4_image_102 rfl (lv_at hl 1 rfl) ?_
      refine lv_aload_n C.1 C.2.1 dX4_image_103 rfl (lv_at hl 0 rfl) ?_
      refine gX4_10 C hW rfl iX4_image_c4 wX4_image_13 dX4_image_104 ?_
      refine lv_iload_n C.1 C.2.1 dX4_image_107 rfl (lv_at hl 1 rfl) ?_
      obtain ⟨hi108, h⟩ := ck_s h
      refine la9 C hW ⟨rfl, rfl⟩ hi108 dX4_image_108 ?_
      obtain ⟨hi109, h⟩ := ck_s h
      refine sa9 C hW ⟨rfl, rfl⟩ hi109 dX4_image_109 (fun H locs hW => ?_)
      refine lv_aload_n C.1 C.2.1 dX4_image_110 rfl (lv_at hl 0 rfl) ?_
      refine gX4_28 C hW rfl iX4_image_c4 wX4_image_14 dX4_image_111 ?_
      refine lv_iload_n C.1 C.2.1 dX4_image_114 rfl (lv_at hl 1 rfl) ?_
      refine lv_aload_n C.1 C.2.1 dX4_image_115 rfl (lv_at hl 0 rfl) ?_
      refine gX4_11 C hW rfl iX4_image_c4 wX4_image_15 dX4_image_116 ?_
      refine lv_iload_n C.1 C.2.1 dX4_image_119 rfl (lv_at hl 1 rfl) ?_
      obtain ⟨hi120, h⟩ := ck_s h
      refine la9 C hW ⟨rfl, rfl⟩ hi120 dX4_image_120 ?_
      obtain ⟨hi121, h⟩ := ck_s h
      refine sa9 C hW ⟨rfl, rfl⟩ hi121 dX4_image_121 (fun H locs hW => ?_)
      refine lv_iinc (v := (v1 + 1)) (lv' := [(1, .int (v1 + 1)), (0, .ref (Γ.2.2 58))]) C.1 C.2.1 dX4_image_122 hl (k := 1) rfl rfl (by decide) rfl (fun ls hl => ?_)
      refine lv_goto (tgt := 92) C.1 C.2.1 dX4_image_125 (by decide) ?_
      exact ih _ _ _ _ _ h  hW (lv_sub hl [1, 0] rfl)
def fX4_image_67   : Nat → Me → Int32 → Option (Int32 × Me)
  | 0, _, _ => none
  | n + 1, B, v1 => if 5 ≤ v1 then (fX4_image_92 FU B 0) else (ck (inb v1 5) <| ck (inb v1 5) <| fX4_image_67 n (up2 B 71 v1.toNatClampNeg (B 63 v1.toNatClampNeg)) (v1 + 1))
set_option maxRecDepth 100000 in
theorem tX4_image_67 {A : Me}  {rZ : Int32} {BZ : Me}  (C : Cx Γ p s m args meth c cX4_image 2 (some .int) RX4 wsX4_image)  (n : Nat) : ∀ (B : Me) (v1 : Int32) (H : Heap) (locs : List Loc) (ls : Array Slot), fX4_image_67 n B v1 = some (rZ, BZ) → Wd Γ A B s.heap H locs → lv_has ls 2 [(0, .ref (Γ.2.2 58)), (1, .int v1)] → W p l e rmX4_image s m args below meth c H locs 0 0 (MQ below (QI Γ A BZ rZ) args s 0 0 (rg Γ)) (F0 m 67 ls []) := by
  induction n with
  | zero =>
    intro _ _ H locs ls h
    exact nomatch (show (none : Option (Int32 × Me)) = some (rZ, BZ) from h)
  | succ n ih =>
    intro B v1 H locs ls h  hW hl
    rw [fX4_image_67] at h
    refine lv_iload_n C.1 C.2.1 dX4_image_67 rfl (lv_at hl 1 rfl) ?_
    refine lv_iconst (v := 5) C.1 C.2.1 dX4_image_68 (by decide) ?_
    refine lv_icmp_ge (tgt := 90) C.1 C.2.1 dX4_image_69 (by decide) (fun c_69 => ?_) (fun c_69 => ?_)
    · have h := if_y h c_69
      refine lv_iconst (v := 0) C.1 C.2.1 dX4_image_90 (by decide) ?_
      refine lv_istore_n (lv' := [(1, .int 0), (0, .ref (Γ.2.2 58))]) C.1 C.2.1 dX4_image_91 rfl hl (by decide) rfl (fun ls hl => ?_)
      exact tX4_image_92 C  FU _ _ _ _ _ h  hW (lv_sub hl [1, 0] rfl)
    · have h := if_n h c_69
      refine lv_aload_n C.1 C.2.1 dX4_image_72 rfl (lv_at hl 0 rfl) ?_
      refine gX4_26 C hW rfl iX4_image_c4 wX4_image_10 dX4_image_73 ?_
      refine lv_iload_n C.1 C.2.1 dX4_image_76 rfl (lv_at hl 1 rfl) ?_
      refine lv_aload_n C.1 C.2.1 dX4_image_77 rfl (lv_at hl 0 rfl) ?_
      refine gX4_8 C hW rfl iX4_image_c4 wX4_image_11 dX4_image_78 ?_
      refine lv_iload_n C.1 C.2.1 dX4_image_81 rfl (lv_at hl 1 rfl) ?_
      obtain ⟨hi82, h⟩ := ck_s h
      refine la9 C hW ⟨rfl, rfl⟩ hi82 dX4_image_82 ?_
      obtain ⟨hi83, h⟩ := ck_s h
      refine sa9 C hW ⟨rfl, rfl⟩ hi83 dX4_image_83 (fun H locs hW => ?_)
      refine lv_iinc (v := (v1 + 1)) (lv' := [(1, .int (v1 + 1)), (0, .ref (Γ.2.2 58))]) C.1 C.2.1 dX4_image_84 hl (k := 1) rfl rfl (by decide) rfl (fun ls hl => ?_)
      refine lv_goto (tgt := 67) C.1 C.2.1 dX4_image_87 (by decide) ?_
      exact ih _ _ _ _ _ h  hW (lv_sub hl [1, 0] rfl)
def fX4_image_41   : Nat → Me → Int32 → Option (Int32 × Me)
  | 0, _, _ => none
  | n + 1, B, v1 => if 50 ≤ v1 then (fX4_image_67 FU B 0) else (ck (inb v1 50) <| ck (inb v1 50) <| fX4_image_41 n (up2 B 70 v1.toNatClampNeg (B 59 v1.toNatClampNeg)) (v1 + 1))
set_option maxRecDepth 100000 in
theorem tX4_image_41 {A : Me}  {rZ : Int32} {BZ : Me}  (C : Cx Γ p s m args meth c cX4_image 2 (some .int) RX4 wsX4_image)  (n : Nat) : ∀ (B : Me) (v1 : Int32) (H : Heap) (locs : List Loc) (ls : Array Slot), fX4_image_41 n B v1 = some (rZ, BZ) → Wd Γ A B s.heap H locs → lv_has ls 2 [(0, .ref (Γ.2.2 58)), (1, .int v1)] → W p l e rmX4_image s m args below meth c H locs 0 0 (MQ below (QI Γ A BZ rZ) args s 0 0 (rg Γ)) (F0 m 41 ls []) := by
  induction n with
  | zero =>
    intro _ _ H locs ls h
    exact nomatch (show (none : Option (Int32 × Me)) = some (rZ, BZ) from h)
  | succ n ih =>
    intro B v1 H locs ls h  hW hl
    rw [fX4_image_41] at h
    refine lv_iload_n C.1 C.2.1 dX4_image_41 rfl (lv_at hl 1 rfl) ?_
    refine lv_bipush (v := 50) C.1 C.2.1 dX4_image_42 (by decide) ?_
    refine lv_icmp_ge (tgt := 65) C.1 C.2.1 dX4_image_44 (by decide) (fun c_44 => ?_) (fun c_44 => ?_)
    · have h := if_y h c_44
      refine lv_iconst (v := 0) C.1 C.2.1 dX4_image_65 (by decide) ?_
      refine lv_istore_n (lv' := [(1, .int 0), (0, .ref (Γ.2.2 58))]) C.1 C.2.1 dX4_image_66 rfl hl (by decide) rfl (fun ls hl => ?_)
      exact tX4_image_67 C  FU _ _ _ _ _ h  hW (lv_sub hl [1, 0] rfl)
    · have h := if_n h c_44
      refine lv_aload_n C.1 C.2.1 dX4_image_47 rfl (lv_at hl 0 rfl) ?_
      refine gX4_25 C hW rfl iX4_image_c4 wX4_image_8 dX4_image_48 ?_
      refine lv_iload_n C.1 C.2.1 dX4_image_51 rfl (lv_at hl 1 rfl) ?_
      refine lv_aload_n C.1 C.2.1 dX4_image_52 rfl (lv_at hl 0 rfl) ?_
      refine gX4_3 C hW rfl iX4_image_c4 wX4_image_9 dX4_image_53 ?_
      refine lv_iload_n C.1 C.2.1 dX4_image_56 rfl (lv_at hl 1 rfl) ?_
      obtain ⟨hi57, h⟩ := ck_s h
      refine la9 C hW ⟨rfl, rfl⟩ hi57 dX4_image_57 ?_
      obtain ⟨hi58, h⟩ := ck_s h
      refine sa9 C hW ⟨rfl, rfl⟩ hi58 dX4_image_58 (fun H locs hW => ?_)
      refine lv_iinc (v := (v1 + 1)) (lv' := [(1, .int (v1 + 1)), (0, .ref (Γ.2.2 58))]) C.1 C.2.1 dX4_image_59 hl (k := 1) rfl rfl (by decide) rfl (fun ls hl => ?_)
      refine lv_goto (tgt := 41) C.1 C.2.1 dX4_image_62 (by decide) ?_
      exact ih _ _ _ _ _ h  hW (lv_sub hl [1, 0] rfl)
def fX4_image  (B : Me)   : Option (Int32 × Me) := if (B 58 2) = 0 then (some ((-103), B)) else (fX4_image_41 FU (up2 (up2 (up2 (up2 B 58 21 1) 58 22 ((up2 B 58 21 1) 58 0)) 58 23 ((up2 (up2 B 58 21 1) 58 22 ((up2 B 58 21 1) 58 0)) 58 5)) 58 24 ((up2 (up2 (up2 B 58 21 1) 58 22 ((up2 B 58 21 1) 58 0)) 58 23 ((up2 (up2 B 58 21 1) 58 22 ((up2 B 58 21 1) 58 0)) 58 5)) 58 9)) 0)
set_option maxRecDepth 100000 in
theorem tX4_image_0 {A B : Me}  {H : Heap} {locs : List Loc} {ls : Array Slot}  {rZ : Int32} {BZ : Me}  (C : Cx Γ p s m args meth c cX4_image 2 (some .int) RX4 wsX4_image)  (h : fX4_image B = some (rZ, BZ))  (hW : Wd Γ A B s.heap H locs) (hl : lv_has ls 2 [(0, .ref (Γ.2.2 58))]) : W p l e rmX4_image s m args below meth c H locs 0 0 (MQ below (QI Γ A BZ rZ) args s 0 0 (rg Γ)) (F0 m 0 ls []) := by
  unfold fX4_image at h
  refine lv_aload_n C.1 C.2.1 dX4_image_0 rfl (lv_at hl 0 rfl) ?_
  refine gX4_2 C hW rfl iX4_image_c4 wX4_image_0 dX4_image_1 ?_
  refine lv_if_ne (tgt := 10) C.1 C.2.1 dX4_image_4 (by decide) (fun c_4 => ?_) (fun c_4 => ?_)
  · have h := if_n h c_4
    refine lv_aload_n C.1 C.2.1 dX4_image_10 rfl (lv_at hl 0 rfl) ?_
    refine lv_iconst (v := 1) C.1 C.2.1 dX4_image_11 (by decide) ?_
    refine pX4_21 C hW rfl (by decide) iX4_image_c4 wX4_image_1 dX4_image_12 (fun H locs hW => ?_)
    refine lv_aload_n C.1 C.2.1 dX4_image_15 rfl (lv_at hl 0 rfl) ?_
    refine lv_aload_n C.1 C.2.1 dX4_image_16 rfl (lv_at hl 0 rfl) ?_
    refine gX4_0 C hW rfl iX4_image_c4 wX4_image_2 dX4_image_17 ?_
    refine pX4_22 C hW rfl iX4_image_c4 wX4_image_3 dX4_image_20 (fun H locs hW => ?_)
    refine lv_aload_n C.1 C.2.1 dX4_image_23 rfl (lv_at hl 0 rfl) ?_
    refine lv_aload_n C.1 C.2.1 dX4_image_24 rfl (lv_at hl 0 rfl) ?_
    refine gX4_5 C hW rfl iX4_image_c4 wX4_image_4 dX4_image_25 ?_
    refine pX4_23 C hW rfl iX4_image_c4 wX4_image_5 dX4_image_28 (fun H locs hW => ?_)
    refine lv_aload_n C.1 C.2.1 dX4_image_31 rfl (lv_at hl 0 rfl) ?_
    refine lv_aload_n C.1 C.2.1 dX4_image_32 rfl (lv_at hl 0 rfl) ?_
    refine gX4_9 C hW rfl iX4_image_c4 wX4_image_6 dX4_image_33 ?_
    refine pX4_24 C hW rfl iX4_image_c4 wX4_image_7 dX4_image_36 (fun H locs hW => ?_)
    refine lv_iconst (v := 0) C.1 C.2.1 dX4_image_39 (by decide) ?_
    refine lv_istore_n (lv' := [(1, .int 0), (0, .ref (Γ.2.2 58))]) C.1 C.2.1 dX4_image_40 rfl hl (by decide) rfl (fun ls hl => ?_)
    exact tX4_image_41 C  FU _ _ _ _ _ h  hW (lv_sub hl [1, 0] rfl)
  · have h := if_y h c_4
    refine lv_bipush (v := (-103)) C.1 C.2.1 dX4_image_7 (by decide) ?_
    cases h
    exact z_iret C hW dX4_image_9
theorem mt_X4_image {l : Launch} {Γ : Gm} {A B : Me}   {rZ : Int32} {BZ : Me}  (h : fX4_image B = some (rZ, BZ)) : Met l yX4_image wsX4_image rmX4_image (PC Γ A B [.ref (Γ.2.2 58)]) (QI Γ A BZ rZ) 0 0 (rg Γ) :=
  met_of (by decide) rfl (Nat.le_of_ble_eq_true rfl) (fun p e s m below meth c ls C hW hl => tX4_image_0 C  h  hW (lv_sub (l := [(0, .ref (Γ.2.2 58))]) hl [0] rfl))
abbrev rmX4_restore : Room := { frames := 4, cells := 0, slots := 0, locals := 86 }
set_option maxRecDepth 100000 in
theorem iX4_restore_c4 : ∀ w ∈ wsX40, w ∈ wsX4_restore := by decide +kernel
set_option maxRecDepth 100000 in
theorem wX4_restore_0 : Cond.fieldLink RX4 222 "WineByYearsModel" "isKept" "Z" ∈ wsX4_restore := by decide +kernel
set_option maxRecDepth 100000 in
theorem wX4_restore_1 : Cond.fieldLink RX4 225 "WineByYearsModel" "keptCellar" "I" ∈ wsX4_restore := by decide +kernel
set_option maxRecDepth 100000 in
theorem wX4_restore_2 : Cond.fieldLink RX4 85 "WineByYearsModel" "cellars" "I" ∈ wsX4_restore := by decide +kernel
set_option maxRecDepth 100000 in
theorem wX4_restore_3 : Cond.fieldLink RX4 228 "WineByYearsModel" "keptPeople" "I" ∈ wsX4_restore := by decide +kernel
set_option maxRecDepth 100000 in
theorem wX4_restore_4 : Cond.fieldLink RX4 88 "WineByYearsModel" "people" "I" ∈ wsX4_restore := by decide +kernel
set_option maxRecDepth 100000 in
theorem wX4_restore_5 : Cond.fieldLink RX4 231 "WineByYearsModel" "keptTrials" "I" ∈ wsX4_restore := by decide +kernel
set_option maxRecDepth 100000 in
theorem wX4_restore_6 : Cond.fieldLink RX4 91 "WineByYearsModel" "trials" "I" ∈ wsX4_restore := by decide +kernel
set_option maxRecDepth 100000 in
theorem wX4_restore_7 : Cond.fieldLink RX4 7 "WineByYearsModel" "litresOf" "[I" ∈ wsX4_restore := by decide +kernel
set_option maxRecDepth 100000 in
theorem wX4_restore_8 : Cond.fieldLink RX4 44 "WineByYearsModel" "keptLitres" "[I" ∈ wsX4_restore := by decide +kernel
set_option maxRecDepth 100000 in
theorem wX4_restore_9 : Cond.fieldLink RX4 22 "WineByYearsModel" "illOf" "[I" ∈ wsX4_restore := by decide +kernel
set_option maxRecDepth 100000 in
theorem wX4_restore_10 : Cond.fieldLink RX4 47 "WineByYearsModel" "keptIll" "[I" ∈ wsX4_restore := by decide +kernel
set_option maxRecDepth 100000 in
theorem wX4_restore_11 : Cond.fieldLink RX4 25 "WineByYearsModel" "trialCask" "[I" ∈ wsX4_restore := by decide +kernel
set_option maxRecDepth 100000 in
theorem wX4_restore_12 : Cond.fieldLink RX4 50 "WineByYearsModel" "keptCask" "[I" ∈ wsX4_restore := by decide +kernel
set_option maxRecDepth 100000 in
theorem wX4_restore_13 : Cond.fieldLink RX4 28 "WineByYearsModel" "trialIll" "[I" ∈ wsX4_restore := by decide +kernel
set_option maxRecDepth 100000 in
theorem wX4_restore_14 : Cond.fieldLink RX4 53 "WineByYearsModel" "keptTrialIll" "[I" ∈ wsX4_restore := by decide +kernel
def fX4_restore_18  (B : Me)   : Option (Int32 × Me) := some ((-103), B)
set_option maxRecDepth 100000 in
theorem tX4_restore_18 {A B : Me}  {H : Heap} {locs : List Loc} {ls : Array Slot}  {rZ : Int32} {BZ : Me}  (C : Cx Γ p s m args meth c cX4_restore 2 (some .int) RX4 wsX4_restore)  (h : fX4_restore_18 B = some (rZ, BZ))  (hW : Wd Γ A B s.heap H locs) (hl : lv_has ls 2 []) : W p l e rmX4_restore s m args below meth c H locs 0 0 (MQ below (QI Γ A BZ rZ) args s 0 0 (rg Γ)) (F0 m 18 ls []) := by
  unfold fX4_restore_18 at h
  refine lv_bipush (v := (-103)) C.1 C.2.1 dX4_restore_18 (by decide) ?_
  cases h
  exact z_iret C hW dX4_restore_20
def fX4_restore_90   : Nat → Me → Int32 → Option (Int32 × Me)
  | 0, _, _ => none
  | n + 1, B, v1 => if 8 ≤ v1 then (b2 (fX4_litresAll B) fun r127 B127 => some (r127, B127)) else (ck (inb v1 8) <| ck (inb v1 8) <| ck (inb v1 8) <| ck (inb v1 8) <| fX4_restore_90 n (up2 (up2 B 64 v1.toNatClampNeg (B 72 v1.toNatClampNeg)) 65 v1.toNatClampNeg ((up2 B 64 v1.toNatClampNeg (B 72 v1.toNatClampNeg)) 73 v1.toNatClampNeg)) (v1 + 1))
set_option maxRecDepth 100000 in
theorem tX4_restore_90 {A : Me}  {rZ : Int32} {BZ : Me}  (C : Cx Γ p s m args meth c cX4_restore 2 (some .int) RX4 wsX4_restore)  (n : Nat) : ∀ (B : Me) (v1 : Int32) (H : Heap) (locs : List Loc) (ls : Array Slot), fX4_restore_90 n B v1 = some (rZ, BZ) → Wd Γ A B s.heap H locs → lv_has ls 2 [(0, .ref (Γ.2.2 58)), (1, .int v1)] → W p l e rmX4_restore s m args below meth c H locs 0 0 (MQ below (QI Γ A BZ rZ) args s 0 0 (rg Γ)) (F0 m 90 ls []) := by
  induction n with
  | zero =>
    intro _ _ H locs ls h
    exact nomatch (show (none : Option (Int32 × Me)) = some (rZ, BZ) from h)
  | succ n ih =>
    intro B v1 H locs ls h  hW hl
    rw [fX4_restore_90] at h
    refine lv_iload_n C.1 C.2.1 dX4_restore_90 rfl (lv_at hl 1 rfl) ?_
    refine lv_bipush (v := 8) C.1 C.2.1 dX4_restore_91 (by decide) ?_
    refine lv_icmp_ge (tgt := 126) C.1 C.2.1 dX4_restore_93 (by decide) (fun c_93 => ?_) (fun c_93 => ?_)
    · have h := if_y h c_93
      refine lv_aload_n C.1 C.2.1 dX4_restore_126 rfl (lv_at hl 0 rfl) ?_
      obtain ⟨r127, B127, hc127, h⟩ := b2_s h
      refine cVi C hW (As := []) (rest := []) (mt_X4_litresAll  hc127) (cwV 0 C.2.2.2.2.2.1 gX4_restore_X4_litresAll rfl rfl rfl (by decide +kernel) ⟨Nat.le_of_ble_eq_true rfl, Nat.le_of_ble_eq_true rfl⟩) (rcv4 C hW (rfl : kd 58 = 4)) rfl hl.1 rfl (Nat.le_of_ble_eq_true rfl) dX4_restore_127 (Nat.zero_le _) (Nat.zero_le _) (fun H locs hW => ?_)
      cases h
      exact z_iret C hW dX4_restore_130
    · have h := if_n h c_93
      refine lv_aload_n C.1 C.2.1 dX4_restore_96 rfl (lv_at hl 0 rfl) ?_
      refine gX4_10 C hW rfl iX4_restore_c4 wX4_restore_11 dX4_restore_97 ?_
      refine lv_iload_n C.1 C.2.1 dX4_restore_100 rfl (lv_at hl 1 rfl) ?_
      refine lv_aload_n C.1 C.2.1 dX4_restore_101 rfl (lv_at hl 0 rfl) ?_
      refine gX4_27 C hW rfl iX4_restore_c4 wX4_restore_12 dX4_restore_102 ?_
      refine lv_iload_n C.1 C.2.1 dX4_restore_105 rfl (lv_at hl 1 rfl) ?_
      obtain ⟨hi106, h⟩ := ck_s h
      refine la9 C hW ⟨rfl, rfl⟩ hi106 dX4_restore_106 ?_
      obtain ⟨hi107, h⟩ := ck_s h
      refine sa9 C hW ⟨rfl, rfl⟩ hi107 dX4_restore_107 (fun H locs hW => ?_)
      refine lv_aload_n C.1 C.2.1 dX4_restore_108 rfl (lv_at hl 0 rfl) ?_
      refine gX4_11 C hW rfl iX4_restore_c4 wX4_restore_13 dX4_restore_109 ?_
      refine lv_iload_n C.1 C.2.1 dX4_restore_112 rfl (lv_at hl 1 rfl) ?_
      refine lv_aload_n C.1 C.2.1 dX4_restore_113 rfl (lv_at hl 0 rfl) ?_
      refine gX4_28 C hW rfl iX4_restore_c4 wX4_restore_14 dX4_restore_114 ?_
      refine lv_iload_n C.1 C.2.1 dX4_restore_117 rfl (lv_at hl 1 rfl) ?_
      obtain ⟨hi118, h⟩ := ck_s h
      refine la9 C hW ⟨rfl, rfl⟩ hi118 dX4_restore_118 ?_
      obtain ⟨hi119, h⟩ := ck_s h
      refine sa9 C hW ⟨rfl, rfl⟩ hi119 dX4_restore_119 (fun H locs hW => ?_)
      refine lv_iinc (v := (v1 + 1)) (lv' := [(1, .int (v1 + 1)), (0, .ref (Γ.2.2 58))]) C.1 C.2.1 dX4_restore_120 hl (k := 1) rfl rfl (by decide) rfl (fun ls hl => ?_)
      refine lv_goto (tgt := 90) C.1 C.2.1 dX4_restore_123 (by decide) ?_
      exact ih _ _ _ _ _ h  hW (lv_sub hl [1, 0] rfl)
def fX4_restore_65   : Nat → Me → Int32 → Option (Int32 × Me)
  | 0, _, _ => none
  | n + 1, B, v1 => if 5 ≤ v1 then (fX4_restore_90 FU B 0) else (ck (inb v1 5) <| ck (inb v1 5) <| fX4_restore_65 n (up2 B 63 v1.toNatClampNeg (B 71 v1.toNatClampNeg)) (v1 + 1))
set_option maxRecDepth 100000 in
theorem tX4_restore_65 {A : Me}  {rZ : Int32} {BZ : Me}  (C : Cx Γ p s m args meth c cX4_restore 2 (some .int) RX4 wsX4_restore)  (n : Nat) : ∀ (B : Me) (v1 : Int32) (H : Heap) (locs : List Loc) (ls : Array Slot), fX4_restore_65 n B v1 = some (rZ, BZ) → Wd Γ A B s.heap H locs → lv_has ls 2 [(0, .ref (Γ.2.2 58)), (1, .int v1)] → W p l e rmX4_restore s m args below meth c H locs 0 0 (MQ below (QI Γ A BZ rZ) args s 0 0 (rg Γ)) (F0 m 65 ls []) := by
  induction n with
  | zero =>
    intro _ _ H locs ls h
    exact nomatch (show (none : Option (Int32 × Me)) = some (rZ, BZ) from h)
  | succ n ih =>
    intro B v1 H locs ls h  hW hl
    rw [fX4_restore_65] at h
    refine lv_iload_n C.1 C.2.1 dX4_restore_65 rfl (lv_at hl 1 rfl) ?_
    refine lv_iconst (v := 5) C.1 C.2.1 dX4_restore_66 (by decide) ?_
    refine lv_icmp_ge (tgt := 88) C.1 C.2.1 dX4_restore_67 (by decide) (fun c_67 => ?_) (fun c_67 => ?_)
    · have h := if_y h c_67
      refine lv_iconst (v := 0) C.1 C.2.1 dX4_restore_88 (by decide) ?_
      refine lv_istore_n (lv' := [(1, .int 0), (0, .ref (Γ.2.2 58))]) C.1 C.2.1 dX4_restore_89 rfl hl (by decide) rfl (fun ls hl => ?_)
      exact tX4_restore_90 C  FU _ _ _ _ _ h  hW (lv_sub hl [1, 0] rfl)
    · have h := if_n h c_67
      refine lv_aload_n C.1 C.2.1 dX4_restore_70 rfl (lv_at hl 0 rfl) ?_
      refine gX4_8 C hW rfl iX4_restore_c4 wX4_restore_9 dX4_restore_71 ?_
      refine lv_iload_n C.1 C.2.1 dX4_restore_74 rfl (lv_at hl 1 rfl) ?_
      refine lv_aload_n C.1 C.2.1 dX4_restore_75 rfl (lv_at hl 0 rfl) ?_
      refine gX4_26 C hW rfl iX4_restore_c4 wX4_restore_10 dX4_restore_76 ?_
      refine lv_iload_n C.1 C.2.1 dX4_restore_79 rfl (lv_at hl 1 rfl) ?_
      obtain ⟨hi80, h⟩ := ck_s h
      refine la9 C hW ⟨rfl, rfl⟩ hi80 dX4_restore_80 ?_
      obtain ⟨hi81, h⟩ := ck_s h
      refine sa9 C hW ⟨rfl, rfl⟩ hi81 dX4_restore_81 (fun H locs hW => ?_)
      refine lv_iinc (v := (v1 + 1)) (lv' := [(1, .int (v1 + 1)), (0, .ref (Γ.2.2 58))]) C.1 C.2.1 dX4_restore_82 hl (k := 1) rfl rfl (by decide) rfl (fun ls hl => ?_)
      refine lv_goto (tgt := 65) C.1 C.2.1 dX4_restore_85 (by decide) ?_
      exact ih _ _ _ _ _ h  hW (lv_sub hl [1, 0] rfl)
def fX4_restore_39   : Nat → Me → Int32 → Option (Int32 × Me)
  | 0, _, _ => none
  | n + 1, B, v1 => if 50 ≤ v1 then (fX4_restore_65 FU B 0) else (ck (inb v1 50) <| ck (inb v1 50) <| fX4_restore_39 n (up2 B 59 v1.toNatClampNeg (B 70 v1.toNatClampNeg)) (v1 + 1))
set_option maxRecDepth 100000 in
theorem tX4_restore_39 {A : Me}  {rZ : Int32} {BZ : Me}  (C : Cx Γ p s m args meth c cX4_restore 2 (some .int) RX4 wsX4_restore)  (n : Nat) : ∀ (B : Me) (v1 : Int32) (H : Heap) (locs : List Loc) (ls : Array Slot), fX4_restore_39 n B v1 = some (rZ, BZ) → Wd Γ A B s.heap H locs → lv_has ls 2 [(0, .ref (Γ.2.2 58)), (1, .int v1)] → W p l e rmX4_restore s m args below meth c H locs 0 0 (MQ below (QI Γ A BZ rZ) args s 0 0 (rg Γ)) (F0 m 39 ls []) := by
  induction n with
  | zero =>
    intro _ _ H locs ls h
    exact nomatch (show (none : Option (Int32 × Me)) = some (rZ, BZ) from h)
  | succ n ih =>
    intro B v1 H locs ls h  hW hl
    rw [fX4_restore_39] at h
    refine lv_iload_n C.1 C.2.1 dX4_restore_39 rfl (lv_at hl 1 rfl) ?_
    refine lv_bipush (v := 50) C.1 C.2.1 dX4_restore_40 (by decide) ?_
    refine lv_icmp_ge (tgt := 63) C.1 C.2.1 dX4_restore_42 (by decide) (fun c_42 => ?_) (fun c_42 => ?_)
    · have h := if_y h c_42
      refine lv_iconst (v := 0) C.1 C.2.1 dX4_restore_63 (by decide) ?_
      refine lv_istore_n (lv' := [(1, .int 0), (0, .ref (Γ.2.2 58))]) C.1 C.2.1 dX4_restore_64 rfl hl (by decide) rfl (fun ls hl => ?_)
      exact tX4_restore_65 C  FU _ _ _ _ _ h  hW (lv_sub hl [1, 0] rfl)
    · have h := if_n h c_42
      refine lv_aload_n C.1 C.2.1 dX4_restore_45 rfl (lv_at hl 0 rfl) ?_
      refine gX4_3 C hW rfl iX4_restore_c4 wX4_restore_7 dX4_restore_46 ?_
      refine lv_iload_n C.1 C.2.1 dX4_restore_49 rfl (lv_at hl 1 rfl) ?_
      refine lv_aload_n C.1 C.2.1 dX4_restore_50 rfl (lv_at hl 0 rfl) ?_
      refine gX4_25 C hW rfl iX4_restore_c4 wX4_restore_8 dX4_restore_51 ?_
      refine lv_iload_n C.1 C.2.1 dX4_restore_54 rfl (lv_at hl 1 rfl) ?_
      obtain ⟨hi55, h⟩ := ck_s h
      refine la9 C hW ⟨rfl, rfl⟩ hi55 dX4_restore_55 ?_
      obtain ⟨hi56, h⟩ := ck_s h
      refine sa9 C hW ⟨rfl, rfl⟩ hi56 dX4_restore_56 (fun H locs hW => ?_)
      refine lv_iinc (v := (v1 + 1)) (lv' := [(1, .int (v1 + 1)), (0, .ref (Γ.2.2 58))]) C.1 C.2.1 dX4_restore_57 hl (k := 1) rfl rfl (by decide) rfl (fun ls hl => ?_)
      refine lv_goto (tgt := 39) C.1 C.2.1 dX4_restore_60 (by decide) ?_
      exact ih _ _ _ _ _ h  hW (lv_sub hl [1, 0] rfl)
def fX4_restore  (B : Me)   : Option (Int32 × Me) := if (B 58 21) = 0 then (fX4_restore_18 B) else (if (B 58 22) = (B 58 0) then (fX4_restore_39 FU (up2 (up2 B 58 5 (B 58 23)) 58 9 ((up2 B 58 5 (B 58 23)) 58 24)) 0) else (fX4_restore_18 B))
set_option maxRecDepth 100000 in
theorem tX4_restore_0 {A B : Me}  {H : Heap} {locs : List Loc} {ls : Array Slot}  {rZ : Int32} {BZ : Me}  (C : Cx Γ p s m args meth c cX4_restore 2 (some .int) RX4 wsX4_restore)  (h : fX4_restore B = some (rZ, BZ))  (hW : Wd Γ A B s.heap H locs) (hl : lv_has ls 2 [(0, .ref (Γ.2.2 58))]) : W p l e rmX4_restore s m args below meth c H locs 0 0 (MQ below (QI Γ A BZ rZ) args s 0 0 (rg Γ)) (F0 m 0 ls []) := by
  unfold fX4_restore at h
  refine lv_aload_n C.1 C.2.1 dX4_restore_0 rfl (lv_at hl 0 rfl) ?_
  refine gX4_21 C hW rfl iX4_restore_c4 wX4_restore_0 dX4_restore_1 ?_
  refine lv_if_eq (tgt := 18) C.1 C.2.1 dX4_restore_4 (by decide) (fun c_4 => ?_) (fun c_4 => ?_)
  · have h := if_y h c_4
    exact tX4_restore_18 C  h  hW (lv_sub hl [] rfl)
  · have h := if_n h c_4
    refine lv_aload_n C.1 C.2.1 dX4_restore_7 rfl (lv_at hl 0 rfl) ?_
    refine gX4_22 C hW rfl iX4_restore_c4 wX4_restore_1 dX4_restore_8 ?_
    refine lv_aload_n C.1 C.2.1 dX4_restore_11 rfl (lv_at hl 0 rfl) ?_
    refine gX4_0 C hW rfl iX4_restore_c4 wX4_restore_2 dX4_restore_12 ?_
    refine lv_icmp_eq (tgt := 21) C.1 C.2.1 dX4_restore_15 (by decide) (fun c_15 => ?_) (fun c_15 => ?_)
    · have h := if_y h c_15
      refine lv_aload_n C.1 C.2.1 dX4_restore_21 rfl (lv_at hl 0 rfl) ?_
      refine lv_aload_n C.1 C.2.1 dX4_restore_22 rfl (lv_at hl 0 rfl) ?_
      refine gX4_23 C hW rfl iX4_restore_c4 wX4_restore_3 dX4_restore_23 ?_
      refine pX4_5 C hW rfl iX4_restore_c4 wX4_restore_4 dX4_restore_26 (fun H locs hW => ?_)
      refine lv_aload_n C.1 C.2.1 dX4_restore_29 rfl (lv_at hl 0 rfl) ?_
      refine lv_aload_n C.1 C.2.1 dX4_restore_30 rfl (lv_at hl 0 rfl) ?_
      refine gX4_24 C hW rfl iX4_restore_c4 wX4_restore_5 dX4_restore_31 ?_
      refine pX4_9 C hW rfl iX4_restore_c4 wX4_restore_6 dX4_restore_34 (fun H locs hW => ?_)
      refine lv_iconst (v := 0) C.1 C.2.1 dX4_restore_37 (by decide) ?_
      refine lv_istore_n (lv' := [(1, .int 0), (0, .ref (Γ.2.2 58))]) C.1 C.2.1 dX4_restore_38 rfl hl (by decide) rfl (fun ls hl => ?_)
      exact tX4_restore_39 C  FU _ _ _ _ _ h  hW (lv_sub hl [1, 0] rfl)
    · have h := if_n h c_15
      exact tX4_restore_18 C  h  hW (lv_sub hl [] rfl)
theorem mt_X4_restore {l : Launch} {Γ : Gm} {A B : Me}   {rZ : Int32} {BZ : Me}  (h : fX4_restore B = some (rZ, BZ)) : Met l yX4_restore wsX4_restore rmX4_restore (PC Γ A B [.ref (Γ.2.2 58)]) (QI Γ A BZ rZ) 0 0 (rg Γ) :=
  met_of (by decide) rfl (Nat.le_of_ble_eq_true rfl) (fun p e s m below meth c ls C hW hl => tX4_restore_0 C  h  hW (lv_sub (l := [(0, .ref (Γ.2.2 58))]) hl [0] rfl))
abbrev rmX4_illAll : Room := { frames := 0, cells := 0, slots := 0, locals := 0 }
set_option maxRecDepth 100000 in
theorem iX4_illAll_c4 : ∀ w ∈ wsX40, w ∈ wsX4_illAll := by decide +kernel
set_option maxRecDepth 100000 in
theorem wX4_illAll_0 : Cond.fieldLink RX4 88 "WineByYearsModel" "people" "I" ∈ wsX4_illAll := by decide +kernel
set_option maxRecDepth 100000 in
theorem wX4_illAll_1 : Cond.fieldLink RX4 22 "WineByYearsModel" "illOf" "[I" ∈ wsX4_illAll := by decide +kernel
def fX4_illAll_4  (B : Me) : Nat → Int32 → Int32 → Option (Int32)
  | 0, _, _ => none
  | n + 1, v1, v2 => if (B 58 5) ≤ v2 then (some v1) else (ck (inb v2 5) <| fX4_illAll_4 B n (v1 + (B 63 v2.toNatClampNeg)) (v2 + 1))
set_option maxRecDepth 100000 in
theorem tX4_illAll_4 {A B : Me}  {rZ : Int32}  (C : Cx Γ p s m args meth c cX4_illAll 3 (some .int) RX4 wsX4_illAll)  (n : Nat) : ∀ (v1 : Int32) (v2 : Int32) (H : Heap) (locs : List Loc) (ls : Array Slot), fX4_illAll_4 B n v1 v2 = some rZ → Wd Γ A B s.heap H locs → lv_has ls 3 [(0, .ref (Γ.2.2 58)), (1, .int v1), (2, .int v2)] → W p l e rmX4_illAll s m args below meth c H locs 0 0 (MQ below (QI Γ A B rZ) args s 0 0 (rg Γ)) (F0 m 4 ls []) := by
  induction n with
  | zero =>
    intro _ _ H locs ls h
    exact nomatch (show (none : Option (Int32)) = some rZ from h)
  | succ n ih =>
    intro v1 v2 H locs ls h  hW hl
    rw [fX4_illAll_4] at h
    refine lv_iload_n C.1 C.2.1 dX4_illAll_4 rfl (lv_at hl 2 rfl) ?_
    refine lv_aload_n C.1 C.2.1 dX4_illAll_5 rfl (lv_at hl 0 rfl) ?_
    refine gX4_5 C hW rfl iX4_illAll_c4 wX4_illAll_0 dX4_illAll_6 ?_
    refine lv_icmp_ge (tgt := 27) C.1 C.2.1 dX4_illAll_9 (by decide) (fun c_9 => ?_) (fun c_9 => ?_)
    · have h := if_y h c_9
      refine lv_iload_n C.1 C.2.1 dX4_illAll_27 rfl (lv_at hl 1 rfl) ?_
      cases h
      exact z_iret C hW dX4_illAll_28
    · have h := if_n h c_9
      refine lv_iload_n C.1 C.2.1 dX4_illAll_12 rfl (lv_at hl 1 rfl) ?_
      refine lv_aload_n C.1 C.2.1 dX4_illAll_13 rfl (lv_at hl 0 rfl) ?_
      refine gX4_8 C hW rfl iX4_illAll_c4 wX4_illAll_1 dX4_illAll_14 ?_
      refine lv_iload_n C.1 C.2.1 dX4_illAll_17 rfl (lv_at hl 2 rfl) ?_
      obtain ⟨hi18, h⟩ := ck_s h
      refine la9 C hW ⟨rfl, rfl⟩ hi18 dX4_illAll_18 ?_
      refine lv_iadd C.1 C.2.1 dX4_illAll_19 ?_
      refine lv_istore_n (lv' := [(1, .int (v1 + (B 63 v2.toNatClampNeg))), (0, .ref (Γ.2.2 58)), (2, .int v2)]) C.1 C.2.1 dX4_illAll_20 rfl hl (by decide) rfl (fun ls hl => ?_)
      refine lv_iinc (v := (v2 + 1)) (lv' := [(2, .int (v2 + 1)), (1, .int (v1 + (B 63 v2.toNatClampNeg))), (0, .ref (Γ.2.2 58))]) C.1 C.2.1 dX4_illAll_21 hl (k := 2) rfl rfl (by decide) rfl (fun ls hl => ?_)
      refine lv_goto (tgt := 4) C.1 C.2.1 dX4_illAll_24 (by decide) ?_
      exact ih _ _ _ _ _ h  hW (lv_sub hl [2, 1, 0] rfl)
def fX4_illAll  (B : Me)   : Option (Int32) := fX4_illAll_4 B FU 0 0
set_option maxRecDepth 100000 in
theorem tX4_illAll_0 {A B : Me}  {H : Heap} {locs : List Loc} {ls : Array Slot}  {rZ : Int32}  (C : Cx Γ p s m args meth c cX4_illAll 3 (some .int) RX4 wsX4_illAll)  (h : fX4_illAll B = some rZ)  (hW : Wd Γ A B s.heap H locs) (hl : lv_has ls 3 [(0, .ref (Γ.2.2 58))]) : W p l e rmX4_illAll s m args below meth c H locs 0 0 (MQ below (QI Γ A B rZ) args s 0 0 (rg Γ)) (F0 m 0 ls []) := by
  unfold fX4_illAll at h
  refine lv_iconst (v := 0) C.1 C.2.1 dX4_illAll_0 (by decide) ?_
  refine lv_istore_n (lv' := [(1, .int 0), (0, .ref (Γ.2.2 58))]) C.1 C.2.1 dX4_illAll_1 rfl hl (by decide) rfl (fun ls hl => ?_)
  refine lv_iconst (v := 0) C.1 C.2.1 dX4_illAll_2 (by decide) ?_
  refine lv_istore_n (lv' := [(2, .int 0), (1, .int 0), (0, .ref (Γ.2.2 58))]) C.1 C.2.1 dX4_illAll_3 rfl hl (by decide) rfl (fun ls hl => ?_)
  exact tX4_illAll_4 C  FU _ _ _ _ _ h  hW (lv_sub hl [2, 1, 0] rfl)
theorem mt_X4_illAll {l : Launch} {Γ : Gm} {A B : Me}   {rZ : Int32}  (h : fX4_illAll B = some rZ) : Met l yX4_illAll wsX4_illAll rmX4_illAll (PC Γ A B [.ref (Γ.2.2 58)]) (QI Γ A B rZ) 0 0 (rg Γ) :=
  met_of (by decide) rfl (Nat.le_of_ble_eq_true rfl) (fun p e s m below meth c ls C hW hl => tX4_illAll_0 C  h  hW (lv_sub (l := [(0, .ref (Γ.2.2 58))]) hl [0] rfl))
abbrev rmX4_howMany : Room := { frames := 4, cells := 0, slots := 0, locals := 86 }
set_option maxRecDepth 100000 in
theorem iX4_howMany_c4 : ∀ w ∈ wsX40, w ∈ wsX4_howMany := by decide +kernel
set_option maxRecDepth 100000 in
theorem wX4_howMany_0 : Cond.fieldLink RX4 79 "WineByYearsModel" "law" "I" ∈ wsX4_howMany := by decide +kernel
set_option maxRecDepth 100000 in
theorem wX4_howMany_1 : Cond.fieldLink RX4 82 "WineByYearsModel" "casks" "I" ∈ wsX4_howMany := by decide +kernel
set_option maxRecDepth 100000 in
theorem wX4_howMany_2 : Cond.fieldLink RX4 88 "WineByYearsModel" "people" "I" ∈ wsX4_howMany := by decide +kernel
set_option maxRecDepth 100000 in
theorem wX4_howMany_3 : Cond.fieldLink RX4 91 "WineByYearsModel" "trials" "I" ∈ wsX4_howMany := by decide +kernel
set_option maxRecDepth 100000 in
theorem wX4_howMany_4 : Cond.fieldLink RX4 60 "WineByYearsModel" "pageLength" "I" ∈ wsX4_howMany := by decide +kernel
set_option maxRecDepth 100000 in
theorem wX4_howMany_5 : Cond.fieldLink RX4 85 "WineByYearsModel" "cellars" "I" ∈ wsX4_howMany := by decide +kernel
def fX4_howMany  (B : Me)  (v1 : Int32) : Option (Int32 × Me) := if v1 = 0 then (some ((B 58 1), B)) else if v1 = 1 then (some ((B 58 2), B)) else if v1 = 2 then (b2 (fX4_litresAll B) fun r59 B59 => some (r59, B59)) else if v1 = 3 then (some ((B 58 5), B)) else if v1 = 4 then (bi (fX4_illAll B) fun r69 => some (r69, B)) else if v1 = 5 then (some ((B 58 9), B)) else if v1 = 6 then (some ((B 58 12), B)) else if v1 = 7 then (some ((B 58 0), B)) else (some ((-102), B))
set_option maxRecDepth 100000 in
theorem tX4_howMany_0 {A B : Me}  {H : Heap} {locs : List Loc} {ls : Array Slot} {v1 : Int32} {rZ : Int32} {BZ : Me}  (C : Cx Γ p s m args meth c cX4_howMany 2 (some .int) RX4 wsX4_howMany)  (h : fX4_howMany B v1 = some (rZ, BZ))  (hW : Wd Γ A B s.heap H locs) (hl : lv_has ls 2 [(0, .ref (Γ.2.2 58)), (1, .int v1)]) : W p l e rmX4_howMany s m args below meth c H locs 0 0 (MQ below (QI Γ A BZ rZ) args s 0 0 (rg Γ)) (F0 m 0 ls []) := by
  unfold fX4_howMany at h
  refine lv_iload_n C.1 C.2.1 dX4_howMany_0 rfl (lv_at hl 1 rfl) ?_
  by_cases e_0 : v1 = 0
  · have h := if_y h e_0
    refine lv_tableIn (off := 47) (tgt := 48) C.1 C.2.1 dX4_howMany_1 (by rw [e_0]; decide) (by rw [e_0]; decide) (by rw [e_0]; decide) (by decide) ?_
    refine lv_aload_n C.1 C.2.1 dX4_howMany_48 rfl (lv_at hl 0 rfl) ?_
    refine gX4_1 C hW rfl iX4_howMany_c4 wX4_howMany_0 dX4_howMany_49 ?_
    cases h
    exact z_iret C hW dX4_howMany_52
  have h := if_n h e_0
  by_cases e_1 : v1 = 1
  · have h := if_y h e_1
    refine lv_tableIn (off := 52) (tgt := 53) C.1 C.2.1 dX4_howMany_1 (by rw [e_1]; decide) (by rw [e_1]; decide) (by rw [e_1]; decide) (by decide) ?_
    refine lv_aload_n C.1 C.2.1 dX4_howMany_53 rfl (lv_at hl 0 rfl) ?_
    refine gX4_2 C hW rfl iX4_howMany_c4 wX4_howMany_1 dX4_howMany_54 ?_
    cases h
    exact z_iret C hW dX4_howMany_57
  have h := if_n h e_1
  by_cases e_2 : v1 = 2
  · have h := if_y h e_2
    refine lv_tableIn (off := 57) (tgt := 58) C.1 C.2.1 dX4_howMany_1 (by rw [e_2]; decide) (by rw [e_2]; decide) (by rw [e_2]; decide) (by decide) ?_
    refine lv_aload_n C.1 C.2.1 dX4_howMany_58 rfl (lv_at hl 0 rfl) ?_
    obtain ⟨r59, B59, hc59, h⟩ := b2_s h
    refine cVi C hW (As := []) (rest := []) (mt_X4_litresAll  hc59) (cwV 0 C.2.2.2.2.2.1 gX4_howMany_X4_litresAll rfl rfl rfl (by decide +kernel) ⟨Nat.le_of_ble_eq_true rfl, Nat.le_of_ble_eq_true rfl⟩) (rcv4 C hW (rfl : kd 58 = 4)) rfl hl.1 rfl (Nat.le_of_ble_eq_true rfl) dX4_howMany_59 (Nat.zero_le _) (Nat.zero_le _) (fun H locs hW => ?_)
    cases h
    exact z_iret C hW dX4_howMany_62
  have h := if_n h e_2
  by_cases e_3 : v1 = 3
  · have h := if_y h e_3
    refine lv_tableIn (off := 62) (tgt := 63) C.1 C.2.1 dX4_howMany_1 (by rw [e_3]; decide) (by rw [e_3]; decide) (by rw [e_3]; decide) (by decide) ?_
    refine lv_aload_n C.1 C.2.1 dX4_howMany_63 rfl (lv_at hl 0 rfl) ?_
    refine gX4_5 C hW rfl iX4_howMany_c4 wX4_howMany_2 dX4_howMany_64 ?_
    cases h
    exact z_iret C hW dX4_howMany_67
  have h := if_n h e_3
  by_cases e_4 : v1 = 4
  · have h := if_y h e_4
    refine lv_tableIn (off := 67) (tgt := 68) C.1 C.2.1 dX4_howMany_1 (by rw [e_4]; decide) (by rw [e_4]; decide) (by rw [e_4]; decide) (by decide) ?_
    refine lv_aload_n C.1 C.2.1 dX4_howMany_68 rfl (lv_at hl 0 rfl) ?_
    obtain ⟨r69, hc69, h⟩ := bi_s h
    refine cVi C hW (As := []) (rest := []) (mt_X4_illAll  hc69) (cwV 0 C.2.2.2.2.2.1 gX4_howMany_X4_illAll rfl rfl rfl (by decide +kernel) ⟨Nat.le_of_ble_eq_true rfl, Nat.le_of_ble_eq_true rfl⟩) (rcv4 C hW (rfl : kd 58 = 4)) rfl hl.1 rfl (Nat.le_of_ble_eq_true rfl) dX4_howMany_69 (Nat.zero_le _) (Nat.zero_le _) (fun H locs hW => ?_)
    cases h
    exact z_iret C hW dX4_howMany_72
  have h := if_n h e_4
  by_cases e_5 : v1 = 5
  · have h := if_y h e_5
    refine lv_tableIn (off := 72) (tgt := 73) C.1 C.2.1 dX4_howMany_1 (by rw [e_5]; decide) (by rw [e_5]; decide) (by rw [e_5]; decide) (by decide) ?_
    refine lv_aload_n C.1 C.2.1 dX4_howMany_73 rfl (lv_at hl 0 rfl) ?_
    refine gX4_9 C hW rfl iX4_howMany_c4 wX4_howMany_3 dX4_howMany_74 ?_
    cases h
    exact z_iret C hW dX4_howMany_77
  have h := if_n h e_5
  by_cases e_6 : v1 = 6
  · have h := if_y h e_6
    refine lv_tableIn (off := 77) (tgt := 78) C.1 C.2.1 dX4_howMany_1 (by rw [e_6]; decide) (by rw [e_6]; decide) (by rw [e_6]; decide) (by decide) ?_
    refine lv_aload_n C.1 C.2.1 dX4_howMany_78 rfl (lv_at hl 0 rfl) ?_
    refine gX4_12 C hW rfl iX4_howMany_c4 wX4_howMany_4 dX4_howMany_79 ?_
    cases h
    exact z_iret C hW dX4_howMany_82
  have h := if_n h e_6
  by_cases e_7 : v1 = 7
  · have h := if_y h e_7
    refine lv_tableIn (off := 82) (tgt := 83) C.1 C.2.1 dX4_howMany_1 (by rw [e_7]; decide) (by rw [e_7]; decide) (by rw [e_7]; decide) (by decide) ?_
    refine lv_aload_n C.1 C.2.1 dX4_howMany_83 rfl (lv_at hl 0 rfl) ?_
    refine gX4_0 C hW rfl iX4_howMany_c4 wX4_howMany_5 dX4_howMany_84 ?_
    cases h
    exact z_iret C hW dX4_howMany_87
  have h := if_n h e_7
  refine lv_tableOut (tgt := 88) C.1 C.2.1 dX4_howMany_1 ?_ (by decide) ?_
  · exact tsw0_7 e_0 e_1 e_2 e_3 e_4 e_5 e_6 e_7
  · refine lv_bipush (v := (-102)) C.1 C.2.1 dX4_howMany_88 (by decide) ?_
    cases h
    exact z_iret C hW dX4_howMany_90
theorem mt_X4_howMany {l : Launch} {Γ : Gm} {A B : Me}  {v1 : Int32} {rZ : Int32} {BZ : Me}  (h : fX4_howMany B v1 = some (rZ, BZ)) : Met l yX4_howMany wsX4_howMany rmX4_howMany (PC Γ A B [.ref (Γ.2.2 58), .int v1]) (QI Γ A BZ rZ) 0 0 (rg Γ) :=
  met_of (by decide) rfl (Nat.le_of_ble_eq_true rfl) (fun p e s m below meth c ls C hW hl => tX4_howMany_0 C  h  hW (lv_sub (l := [(0, .ref (Γ.2.2 58)), (1, .int v1)]) hl [0, 1] rfl))
abbrev rmX4_count : Room := { frames := 5, cells := 0, slots := 0, locals := 107 }
def fX4_count  (B : Me)  (v1 : Int32) : Option (Int32 × Me) := b2 (fX4_howMany B v1) fun r2 B2 => some (r2, B2)
set_option maxRecDepth 100000 in
theorem tX4_count_0 {A B : Me}  {H : Heap} {locs : List Loc} {ls : Array Slot} {v1 : Int32} {rZ : Int32} {BZ : Me}  (C : Cx Γ p s m args meth c cX4_count 2 (some .int) RX4 wsX4_count)  (h : fX4_count B v1 = some (rZ, BZ))  (hW : Wd Γ A B s.heap H locs) (hl : lv_has ls 2 [(0, .ref (Γ.2.2 58)), (1, .int v1)]) : W p l e rmX4_count s m args below meth c H locs 0 0 (MQ below (QI Γ A BZ rZ) args s 0 0 (rg Γ)) (F0 m 0 ls []) := by
  unfold fX4_count at h
  refine lv_aload_n C.1 C.2.1 dX4_count_0 rfl (lv_at hl 0 rfl) ?_
  refine lv_iload_n C.1 C.2.1 dX4_count_1 rfl (lv_at hl 1 rfl) ?_
  obtain ⟨r2, B2, hc2, h⟩ := b2_s h
  refine cVi C hW (As := [.int v1]) (rest := []) (mt_X4_howMany  hc2) (cwV 1 C.2.2.2.2.2.1 gX4_count_X4_howMany rfl rfl rfl (by decide +kernel) ⟨Nat.le_of_ble_eq_true rfl, Nat.le_of_ble_eq_true rfl⟩) (rcv4 C hW (rfl : kd 58 = 4)) rfl hl.1 rfl (Nat.le_of_ble_eq_true rfl) dX4_count_2 (Nat.zero_le _) (Nat.zero_le _) (fun H locs hW => ?_)
  cases h
  exact z_iret C hW dX4_count_5
theorem mt_X4_count {l : Launch} {Γ : Gm} {A B : Me}  {v1 : Int32} {rZ : Int32} {BZ : Me}  (h : fX4_count B v1 = some (rZ, BZ)) : Met l yX4_count wsX4_count rmX4_count (PC Γ A B [.ref (Γ.2.2 58), .int v1]) (QI Γ A BZ rZ) 0 0 (rg Γ) :=
  met_of (by decide) rfl (Nat.le_of_ble_eq_true rfl) (fun p e s m below meth c ls C hW hl => tX4_count_0 C  h  hW (lv_sub (l := [(0, .ref (Γ.2.2 58)), (1, .int v1)]) hl [0, 1] rfl))
abbrev rmX4_mix : Room := { frames := 0, cells := 0, slots := 0, locals := 0 }
set_option maxRecDepth 100000 in
theorem iX4_mix_c4 : ∀ w ∈ wsX40, w ∈ wsX4_mix := by decide +kernel
set_option maxRecDepth 100000 in
theorem wX4_mix_0 : Cond.constantLong RX4 240 (31) ∈ wsX4_mix := by decide +kernel
set_option maxRecDepth 100000 in
theorem wX4_mix_1 : Cond.fieldLink RX4 242 "WineByYearsModel" "h" "J" ∈ wsX4_mix := by decide +kernel
def fX4_mix  (B : Me)  (v1 : Int64) : Option (Me) := some (upl B 58 29 (((31 : Int64) * (gl (B 58) 29)) + v1))
set_option maxRecDepth 100000 in
theorem tX4_mix_0 {A B : Me}  {H : Heap} {locs : List Loc} {ls : Array Slot} {v1 : Int64} {BZ : Me}  (C : Cx Γ p s m args meth c cX4_mix 3 none RX4 wsX4_mix)  (h : fX4_mix B v1 = some BZ)  (hW : Wd Γ A B s.heap H locs) (hl : lv_has ls 3 [(0, .ref (Γ.2.2 58)), (1, .long v1)]) : W p l e rmX4_mix s m args below meth c H locs 0 0 (MQ below (QV Γ A BZ) args s 0 0 (rg Γ)) (F0 m 0 ls []) := by
  unfold fX4_mix at h
  refine lv_aload_n C.1 C.2.1 dX4_mix_0 rfl (lv_at hl 0 rfl) ?_
  refine lv_ldc2 (v := 31) C.1 C.2.1 C.2.2.2.2.1 (C.2.2.2.2.2.1 _ wX4_mix_0) dX4_mix_1 ?_
  refine lv_aload_n C.1 C.2.1 dX4_mix_4 rfl (lv_at hl 0 rfl) ?_
  refine gX4_29 C hW rfl iX4_mix_c4 wX4_mix_1 dX4_mix_5 ?_
  refine lv_lmul C.1 C.2.1 dX4_mix_8 ?_
  refine lv_lload_n C.1 C.2.1 dX4_mix_9 rfl (lv_at hl 1 rfl) ?_
  refine lv_ladd C.1 C.2.1 dX4_mix_10 ?_
  refine pX4_29 C hW rfl iX4_mix_c4 wX4_mix_1 dX4_mix_11 (fun H locs hW => ?_)
  cases h
  exact z_vret C hW dX4_mix_14
theorem mt_X4_mix {l : Launch} {Γ : Gm} {A B : Me}  {v1 : Int64} {BZ : Me}  (h : fX4_mix B v1 = some BZ) : Met l yX4_mix wsX4_mix rmX4_mix (PC Γ A B [.ref (Γ.2.2 58), .long v1]) (QV Γ A BZ) 0 0 (rg Γ) :=
  met_of (by decide) rfl (Nat.le_of_ble_eq_true rfl) (fun p e s m below meth c ls C hW hl => tX4_mix_0 C  h  hW (lv_sub (l := [(0, .ref (Γ.2.2 58)), (1, .long v1)]) hl [0, 1] rfl))
abbrev rmX4_mixCellar : Room := { frames := 6, cells := 0, slots := 0, locals := 145 }
set_option maxRecDepth 100000 in
theorem iX4_mixCellar_c4 : ∀ w ∈ wsX40, w ∈ wsX4_mixCellar := by decide +kernel
set_option maxRecDepth 100000 in
theorem wX4_mixCellar_0 : Cond.fieldLink RX4 88 "WineByYearsModel" "people" "I" ∈ wsX4_mixCellar := by decide +kernel
def fX4_mixCellar_45   : Nat → Me → Int32 → Option (Me)
  | 0, _, _ => none
  | n + 1, B, v2 => if 5 ≤ v2 then (some B) else (b2 (fX4_birthsNow B v2) fun r53 B53 => bi (fX4_mix B53 r53.toInt64) fun B57 => b2 (fX4_askNow B57 v2) fun r63 B63 => bi (fX4_mix B63 r63.toInt64) fun B67 => fX4_mixCellar_45 n B67 (v2 + 1))
set_option maxRecDepth 100000 in
theorem tX4_mixCellar_45 {A : Me}  {BZ : Me}  (C : Cx Γ p s m args meth c cX4_mixCellar 3 none RX4 wsX4_mixCellar)  (n : Nat) : ∀ (B : Me) (v2 : Int32) (H : Heap) (locs : List Loc) (ls : Array Slot), fX4_mixCellar_45 n B v2 = some BZ → Wd Γ A B s.heap H locs → lv_has ls 3 [(0, .ref (Γ.2.2 58)), (2, .int v2)] → W p l e rmX4_mixCellar s m args below meth c H locs 0 0 (MQ below (QV Γ A BZ) args s 0 0 (rg Γ)) (F0 m 45 ls []) := by
  induction n with
  | zero =>
    intro _ _ H locs ls h
    exact nomatch (show (none : Option (Me)) = some BZ from h)
  | succ n ih =>
    intro B v2 H locs ls h  hW hl
    rw [fX4_mixCellar_45] at h
    refine lv_iload_n C.1 C.2.1 dX4_mixCellar_45 rfl (lv_at hl 1 rfl) ?_
    refine lv_iconst (v := 5) C.1 C.2.1 dX4_mixCellar_46 (by decide) ?_
    refine lv_icmp_ge (tgt := 76) C.1 C.2.1 dX4_mixCellar_47 (by decide) (fun c_47 => ?_) (fun c_47 => ?_)
    · have h := if_y h c_47
      cases h
      exact z_vret C hW dX4_mixCellar_76
    · have h := if_n h c_47
      refine lv_aload_n C.1 C.2.1 dX4_mixCellar_50 rfl (lv_at hl 0 rfl) ?_
      refine lv_aload_n C.1 C.2.1 dX4_mixCellar_51 rfl (lv_at hl 0 rfl) ?_
      refine lv_iload_n C.1 C.2.1 dX4_mixCellar_52 rfl (lv_at hl 1 rfl) ?_
      obtain ⟨r53, B53, hc53, h⟩ := b2_s h
      refine cVi C hW (As := [.int v2]) (rest := [.ref (Γ.2.2 58)]) (mt_X4_birthsNow  hc53) (cwV 1 C.2.2.2.2.2.1 gX4_mixCellar_X4_birthsNow rfl rfl rfl (by decide +kernel) ⟨Nat.le_of_ble_eq_true rfl, Nat.le_of_ble_eq_true rfl⟩) (rcv4 C hW (rfl : kd 58 = 4)) rfl hl.1 rfl (Nat.le_of_ble_eq_true rfl) dX4_mixCellar_53 (Nat.zero_le _) (Nat.zero_le _) (fun H locs hW => ?_)
      refine lv_i2l C.1 C.2.1 dX4_mixCellar_56 rfl ?_
      obtain ⟨B57, hc57, h⟩ := bi_s h
      refine cVv C hW (As := [.long r53.toInt64]) (rest := []) (mt_X4_mix  hc57) (cwV 1 C.2.2.2.2.2.1 gX4_mixCellar_X4_mix rfl rfl rfl (by decide +kernel) ⟨Nat.le_of_ble_eq_true rfl, Nat.le_of_ble_eq_true rfl⟩) (rcv4 C hW (rfl : kd 58 = 4)) rfl hl.1 rfl (Nat.le_of_ble_eq_true rfl) dX4_mixCellar_57 (Nat.zero_le _) (Nat.zero_le _) (fun H locs hW => ?_)
      refine lv_aload_n C.1 C.2.1 dX4_mixCellar_60 rfl (lv_at hl 0 rfl) ?_
      refine lv_aload_n C.1 C.2.1 dX4_mixCellar_61 rfl (lv_at hl 0 rfl) ?_
      refine lv_iload_n C.1 C.2.1 dX4_mixCellar_62 rfl (lv_at hl 1 rfl) ?_
      obtain ⟨r63, B63, hc63, h⟩ := b2_s h
      refine cVi C hW (As := [.int v2]) (rest := [.ref (Γ.2.2 58)]) (mt_X4_askNow  hc63) (cwV 1 C.2.2.2.2.2.1 gX4_mixCellar_X4_askNow rfl rfl rfl (by decide +kernel) ⟨Nat.le_of_ble_eq_true rfl, Nat.le_of_ble_eq_true rfl⟩) (rcv4 C hW (rfl : kd 58 = 4)) rfl hl.1 rfl (Nat.le_of_ble_eq_true rfl) dX4_mixCellar_63 (Nat.zero_le _) (Nat.zero_le _) (fun H locs hW => ?_)
      refine lv_i2l C.1 C.2.1 dX4_mixCellar_66 rfl ?_
      obtain ⟨B67, hc67, h⟩ := bi_s h
      refine cVv C hW (As := [.long r63.toInt64]) (rest := []) (mt_X4_mix  hc67) (cwV 1 C.2.2.2.2.2.1 gX4_mixCellar_X4_mix rfl rfl rfl (by decide +kernel) ⟨Nat.le_of_ble_eq_true rfl, Nat.le_of_ble_eq_true rfl⟩) (rcv4 C hW (rfl : kd 58 = 4)) rfl hl.1 rfl (Nat.le_of_ble_eq_true rfl) dX4_mixCellar_67 (Nat.zero_le _) (Nat.zero_le _) (fun H locs hW => ?_)
      refine lv_iinc (v := (v2 + 1)) (lv' := [(2, .int (v2 + 1)), (0, .ref (Γ.2.2 58))]) C.1 C.2.1 dX4_mixCellar_70 hl (k := 1) rfl rfl (by decide) rfl (fun ls hl => ?_)
      refine lv_goto (tgt := 45) C.1 C.2.1 dX4_mixCellar_73 (by decide) ?_
      exact ih _ _ _ _ _ h  hW (lv_sub hl [1, 0] rfl)
def fX4_mixCellar  (B : Me)   : Option (Me) := b2 (fX4_tableNow B ((1 <<< ((B 58 5) &&& 31)) - 1)) fun r12 B12 => bi (fX4_mix B12 r12.toInt64) fun B16 => b2 (fX4_blendNow B16 ((1 <<< ((B 58 5) &&& 31)) - 1) 5 0) fun r24 B24 => bi (fX4_mix B24 r24.toInt64) fun B28 => b2 (fX4_blendNow B28 ((1 <<< ((B 58 5) &&& 31)) - 1) 5 1) fun r36 B36 => bi (fX4_mix B36 r36.toInt64) fun B40 => fX4_mixCellar_45 FU B40 0
set_option maxRecDepth 100000 in
theorem tX4_mixCellar_0 {A B : Me}  {H : Heap} {locs : List Loc} {ls : Array Slot}  {BZ : Me}  (C : Cx Γ p s m args meth c cX4_mixCellar 3 none RX4 wsX4_mixCellar)  (h : fX4_mixCellar B = some BZ)  (hW : Wd Γ A B s.heap H locs) (hl : lv_has ls 3 [(0, .ref (Γ.2.2 58))]) : W p l e rmX4_mixCellar s m args below meth c H locs 0 0 (MQ below (QV Γ A BZ) args s 0 0 (rg Γ)) (F0 m 0 ls []) := by
  unfold fX4_mixCellar at h
  refine lv_iconst (v := 1) C.1 C.2.1 dX4_mixCellar_0 (by decide) ?_
  refine lv_aload_n C.1 C.2.1 dX4_mixCellar_1 rfl (lv_at hl 0 rfl) ?_
  refine gX4_5 C hW rfl iX4_mixCellar_c4 wX4_mixCellar_0 dX4_mixCellar_2 ?_
  refine lv_ishl C.1 C.2.1 dX4_mixCellar_5 ?_
  refine lv_iconst (v := 1) C.1 C.2.1 dX4_mixCellar_6 (by decide) ?_
  refine lv_isub C.1 C.2.1 dX4_mixCellar_7 ?_
  refine lv_istore_n (lv' := [(1, .int ((1 <<< ((B 58 5) &&& 31)) - 1)), (0, .ref (Γ.2.2 58))]) C.1 C.2.1 dX4_mixCellar_8 rfl hl (by decide) rfl (fun ls hl => ?_)
  refine lv_aload_n C.1 C.2.1 dX4_mixCellar_9 rfl (lv_at hl 1 rfl) ?_
  refine lv_aload_n C.1 C.2.1 dX4_mixCellar_10 rfl (lv_at hl 1 rfl) ?_
  refine lv_iload_n C.1 C.2.1 dX4_mixCellar_11 rfl (lv_at hl 0 rfl) ?_
  obtain ⟨r12, B12, hc12, h⟩ := b2_s h
  refine cVi C hW (As := [.int ((1 <<< ((B 58 5) &&& 31)) - 1)]) (rest := [.ref (Γ.2.2 58)]) (mt_X4_tableNow  hc12) (cwV 1 C.2.2.2.2.2.1 gX4_mixCellar_X4_tableNow rfl rfl rfl (by decide +kernel) ⟨Nat.le_of_ble_eq_true rfl, Nat.le_of_ble_eq_true rfl⟩) (rcv4 C hW (rfl : kd 58 = 4)) rfl hl.1 rfl (Nat.le_of_ble_eq_true rfl) dX4_mixCellar_12 (Nat.zero_le _) (Nat.zero_le _) (fun H locs hW => ?_)
  refine lv_i2l C.1 C.2.1 dX4_mixCellar_15 rfl ?_
  obtain ⟨B16, hc16, h⟩ := bi_s h
  refine cVv C hW (As := [.long r12.toInt64]) (rest := []) (mt_X4_mix  hc16) (cwV 1 C.2.2.2.2.2.1 gX4_mixCellar_X4_mix rfl rfl rfl (by decide +kernel) ⟨Nat.le_of_ble_eq_true rfl, Nat.le_of_ble_eq_true rfl⟩) (rcv4 C hW (rfl : kd 58 = 4)) rfl hl.1 rfl (Nat.le_of_ble_eq_true rfl) dX4_mixCellar_16 (Nat.zero_le _) (Nat.zero_le _) (fun H locs hW => ?_)
  refine lv_aload_n C.1 C.2.1 dX4_mixCellar_19 rfl (lv_at hl 1 rfl) ?_
  refine lv_aload_n C.1 C.2.1 dX4_mixCellar_20 rfl (lv_at hl 1 rfl) ?_
  refine lv_iload_n C.1 C.2.1 dX4_mixCellar_21 rfl (lv_at hl 0 rfl) ?_
  refine lv_iconst (v := 5) C.1 C.2.1 dX4_mixCellar_22 (by decide) ?_
  refine lv_iconst (v := 0) C.1 C.2.1 dX4_mixCellar_23 (by decide) ?_
  obtain ⟨r24, B24, hc24, h⟩ := b2_s h
  refine cVi C hW (As := [.int ((1 <<< ((B 58 5) &&& 31)) - 1), .int 5, .int 0]) (rest := [.ref (Γ.2.2 58)]) (mt_X4_blendNow  hc24) (cwV 3 C.2.2.2.2.2.1 gX4_mixCellar_X4_blendNow rfl rfl rfl (by decide +kernel) ⟨Nat.le_of_ble_eq_true rfl, Nat.le_of_ble_eq_true rfl⟩) (rcv4 C hW (rfl : kd 58 = 4)) rfl hl.1 rfl (Nat.le_of_ble_eq_true rfl) dX4_mixCellar_24 (Nat.zero_le _) (Nat.zero_le _) (fun H locs hW => ?_)
  refine lv_i2l C.1 C.2.1 dX4_mixCellar_27 rfl ?_
  obtain ⟨B28, hc28, h⟩ := bi_s h
  refine cVv C hW (As := [.long r24.toInt64]) (rest := []) (mt_X4_mix  hc28) (cwV 1 C.2.2.2.2.2.1 gX4_mixCellar_X4_mix rfl rfl rfl (by decide +kernel) ⟨Nat.le_of_ble_eq_true rfl, Nat.le_of_ble_eq_true rfl⟩) (rcv4 C hW (rfl : kd 58 = 4)) rfl hl.1 rfl (Nat.le_of_ble_eq_true rfl) dX4_mixCellar_28 (Nat.zero_le _) (Nat.zero_le _) (fun H locs hW => ?_)
  refine lv_aload_n C.1 C.2.1 dX4_mixCellar_31 rfl (lv_at hl 1 rfl) ?_
  refine lv_aload_n C.1 C.2.1 dX4_mixCellar_32 rfl (lv_at hl 1 rfl) ?_
  refine lv_iload_n C.1 C.2.1 dX4_mixCellar_33 rfl (lv_at hl 0 rfl) ?_
  refine lv_iconst (v := 5) C.1 C.2.1 dX4_mixCellar_34 (by decide) ?_
  refine lv_iconst (v := 1) C.1 C.2.1 dX4_mixCellar_35 (by decide) ?_
  obtain ⟨r36, B36, hc36, h⟩ := b2_s h
  refine cVi C hW (As := [.int ((1 <<< ((B 58 5) &&& 31)) - 1), .int 5, .int 1]) (rest := [.ref (Γ.2.2 58)]) (mt_X4_blendNow  hc36) (cwV 3 C.2.2.2.2.2.1 gX4_mixCellar_X4_blendNow rfl rfl rfl (by decide +kernel) ⟨Nat.le_of_ble_eq_true rfl, Nat.le_of_ble_eq_true rfl⟩) (rcv4 C hW (rfl : kd 58 = 4)) rfl hl.1 rfl (Nat.le_of_ble_eq_true rfl) dX4_mixCellar_36 (Nat.zero_le _) (Nat.zero_le _) (fun H locs hW => ?_)
  refine lv_i2l C.1 C.2.1 dX4_mixCellar_39 rfl ?_
  obtain ⟨B40, hc40, h⟩ := bi_s h
  refine cVv C hW (As := [.long r36.toInt64]) (rest := []) (mt_X4_mix  hc40) (cwV 1 C.2.2.2.2.2.1 gX4_mixCellar_X4_mix rfl rfl rfl (by decide +kernel) ⟨Nat.le_of_ble_eq_true rfl, Nat.le_of_ble_eq_true rfl⟩) (rcv4 C hW (rfl : kd 58 = 4)) rfl hl.1 rfl (Nat.le_of_ble_eq_true rfl) dX4_mixCellar_40 (Nat.zero_le _) (Nat.zero_le _) (fun H locs hW => ?_)
  refine lv_iconst (v := 0) C.1 C.2.1 dX4_mixCellar_43 (by decide) ?_
  refine lv_istore_n (lv' := [(2, .int 0), (1, .int ((1 <<< ((B 58 5) &&& 31)) - 1)), (0, .ref (Γ.2.2 58))]) C.1 C.2.1 dX4_mixCellar_44 rfl hl (by decide) rfl (fun ls hl => ?_)
  exact tX4_mixCellar_45 C  FU _ _ _ _ _ h  hW (lv_sub hl [2, 0] rfl)
theorem mt_X4_mixCellar {l : Launch} {Γ : Gm} {A B : Me}   {BZ : Me}  (h : fX4_mixCellar B = some BZ) : Met l yX4_mixCellar wsX4_mixCellar rmX4_mixCellar (PC Γ A B [.ref (Γ.2.2 58)]) (QV Γ A BZ) 0 0 (rg Γ) :=
  met_of (by decide) rfl (Nat.le_of_ble_eq_true rfl) (fun p e s m below meth c ls C hW hl => tX4_mixCellar_0 C  h  hW (lv_sub (l := [(0, .ref (Γ.2.2 58))]) hl [0] rfl))
abbrev rmX4_digest : Room := { frames := 7, cells := 0, slots := 0, locals := 167 }
set_option maxRecDepth 100000 in
theorem iX4_digest_c4 : ∀ w ∈ wsX40, w ∈ wsX4_digest := by decide +kernel
set_option maxRecDepth 100000 in
theorem wX4_digest_0 : Cond.constantLong RX4 249 (863) ∈ wsX4_digest := by decide +kernel
set_option maxRecDepth 100000 in
theorem wX4_digest_1 : Cond.fieldLink RX4 242 "WineByYearsModel" "h" "J" ∈ wsX4_digest := by decide +kernel
set_option maxRecDepth 100000 in
theorem wX4_digest_2 : Cond.fieldLink RX4 82 "WineByYearsModel" "casks" "I" ∈ wsX4_digest := by decide +kernel
set_option maxRecDepth 100000 in
theorem wX4_digest_3 : Cond.fieldLink RX4 88 "WineByYearsModel" "people" "I" ∈ wsX4_digest := by decide +kernel
set_option maxRecDepth 100000 in
theorem wX4_digest_4 : Cond.fieldLink RX4 60 "WineByYearsModel" "pageLength" "I" ∈ wsX4_digest := by decide +kernel
set_option maxRecDepth 100000 in
theorem wX4_digest_5 : Cond.fieldLink RX4 31 "WineByYearsModel" "page" "[B" ∈ wsX4_digest := by decide +kernel
def fX4_digest_47 (j9 : Me → Int32 → Option (Int64 × Me)) (j19 : Me → Int32 → Int32 → Option (Int64 × Me)) (B : Me)  (v1 : Int32) (v2 : Int32) : Option (Int64 × Me) := j19 B v1 (v2 + 1)
set_option maxRecDepth 100000 in
theorem tX4_digest_47 {A B : Me}  {H : Heap} {locs : List Loc} {ls : Array Slot} {v1 : Int32} {v2 : Int32} {rZ : Int64} {BZ : Me} {j9 : Me → Int32 → Option (Int64 × Me)} {j19 : Me → Int32 → Int32 → Option (Int64 × Me)} (C : Cx Γ p s m args meth c cX4_digest 3 (some .long) RX4 wsX4_digest) (hr9 : ∀ (B : Me) (v1 : Int32) (H : Heap) (locs : List Loc) (ls : Array Slot), j9 B v1 = some (rZ, BZ) → Wd Γ A B s.heap H locs → lv_has ls 3 [(0, .ref (Γ.2.2 58)), (1, .int v1)] → W p l e rmX4_digest s m args below meth c H locs 0 0 (MQ below (QL Γ A BZ rZ) args s 0 0 (rg Γ)) (F0 m 9 ls [])) (hr19 : ∀ (B : Me) (v1 : Int32) (v2 : Int32) (H : Heap) (locs : List Loc) (ls : Array Slot), j19 B v1 v2 = some (rZ, BZ) → Wd Γ A B s.heap H locs → lv_has ls 3 [(0, .ref (Γ.2.2 58)), (1, .int v1), (2, .int v2)] → W p l e rmX4_digest s m args below meth c H locs 0 0 (MQ below (QL Γ A BZ rZ) args s 0 0 (rg Γ)) (F0 m 19 ls [])) (h : fX4_digest_47 j9 j19 B v1 v2 = some (rZ, BZ))  (hW : Wd Γ A B s.heap H locs) (hl : lv_has ls 3 [(0, .ref (Γ.2.2 58)), (1, .int v1), (2, .int v2)]) : W p l e rmX4_digest s m args below meth c H locs 0 0 (MQ below (QL Γ A BZ rZ) args s 0 0 (rg Γ)) (F0 m 47 ls []) := by
  unfold fX4_digest_47 at h
  refine lv_iinc (v := (v2 + 1)) (lv' := [(2, .int (v2 + 1)), (0, .ref (Γ.2.2 58)), (1, .int v1)]) C.1 C.2.1 dX4_digest_47 hl (k := 2) rfl rfl (by decide) rfl (fun ls hl => ?_)
  refine lv_goto (tgt := 19) C.1 C.2.1 dX4_digest_50 (by decide) ?_
  exact hr19 _ _ _ _ _ _ h  hW (lv_sub hl [1, 2, 0] rfl)
def fX4_digest_36 (j9 : Me → Int32 → Option (Int64 × Me)) (j19 : Me → Int32 → Int32 → Option (Int64 × Me)) (B : Me)  (v1 : Int32) (v2 : Int32) : Option (Int64 × Me) := b2 (fX4_caskNow B v1 v2) fun r40 B40 => bi (fX4_mix B40 r40.toInt64) fun B44 => fX4_digest_47 j9 j19 B44 v1 v2
set_option maxRecDepth 100000 in
theorem tX4_digest_36 {A B : Me}  {H : Heap} {locs : List Loc} {ls : Array Slot} {v1 : Int32} {v2 : Int32} {rZ : Int64} {BZ : Me} {j9 : Me → Int32 → Option (Int64 × Me)} {j19 : Me → Int32 → Int32 → Option (Int64 × Me)} (C : Cx Γ p s m args meth c cX4_digest 3 (some .long) RX4 wsX4_digest) (hr9 : ∀ (B : Me) (v1 : Int32) (H : Heap) (locs : List Loc) (ls : Array Slot), j9 B v1 = some (rZ, BZ) → Wd Γ A B s.heap H locs → lv_has ls 3 [(0, .ref (Γ.2.2 58)), (1, .int v1)] → W p l e rmX4_digest s m args below meth c H locs 0 0 (MQ below (QL Γ A BZ rZ) args s 0 0 (rg Γ)) (F0 m 9 ls [])) (hr19 : ∀ (B : Me) (v1 : Int32) (v2 : Int32) (H : Heap) (locs : List Loc) (ls : Array Slot), j19 B v1 v2 = some (rZ, BZ) → Wd Γ A B s.heap H locs → lv_has ls 3 [(0, .ref (Γ.2.2 58)), (1, .int v1), (2, .int v2)] → W p l e rmX4_digest s m args below meth c H locs 0 0 (MQ below (QL Γ A BZ rZ) args s 0 0 (rg Γ)) (F0 m 19 ls [])) (h : fX4_digest_36 j9 j19 B v1 v2 = some (rZ, BZ))  (hW : Wd Γ A B s.heap H locs) (hl : lv_has ls 3 [(0, .ref (Γ.2.2 58)), (1, .int v1), (2, .int v2)]) : W p l e rmX4_digest s m args below meth c H locs 0 0 (MQ below (QL Γ A BZ rZ) args s 0 0 (rg Γ)) (F0 m 36 ls []) := by
  unfold fX4_digest_36 at h
  refine lv_aload_n C.1 C.2.1 dX4_digest_36 rfl (lv_at hl 0 rfl) ?_
  refine lv_aload_n C.1 C.2.1 dX4_digest_37 rfl (lv_at hl 0 rfl) ?_
  refine lv_iload_n C.1 C.2.1 dX4_digest_38 rfl (lv_at hl 1 rfl) ?_
  refine lv_iload_n C.1 C.2.1 dX4_digest_39 rfl (lv_at hl 2 rfl) ?_
  obtain ⟨r40, B40, hc40, h⟩ := b2_s h
  refine cVi C hW (As := [.int v1, .int v2]) (rest := [.ref (Γ.2.2 58)]) (mt_X4_caskNow  hc40) (cwV 2 C.2.2.2.2.2.1 gX4_digest_X4_caskNow rfl rfl rfl (by decide +kernel) ⟨Nat.le_of_ble_eq_true rfl, Nat.le_of_ble_eq_true rfl⟩) (rcv4 C hW (rfl : kd 58 = 4)) rfl hl.1 rfl (Nat.le_of_ble_eq_true rfl) dX4_digest_40 (Nat.zero_le _) (Nat.zero_le _) (fun H locs hW => ?_)
  refine lv_i2l C.1 C.2.1 dX4_digest_43 rfl ?_
  obtain ⟨B44, hc44, h⟩ := bi_s h
  refine cVv C hW (As := [.long r40.toInt64]) (rest := []) (mt_X4_mix  hc44) (cwV 1 C.2.2.2.2.2.1 gX4_digest_X4_mix rfl rfl rfl (by decide +kernel) ⟨Nat.le_of_ble_eq_true rfl, Nat.le_of_ble_eq_true rfl⟩) (rcv4 C hW (rfl : kd 58 = 4)) rfl hl.1 rfl (Nat.le_of_ble_eq_true rfl) dX4_digest_44 (Nat.zero_le _) (Nat.zero_le _) (fun H locs hW => ?_)
  exact tX4_digest_47 C hr9 hr19 h  hW (lv_sub hl [0, 1, 2] rfl)
def fX4_digest_19 (j9 : Me → Int32 → Option (Int64 × Me))  : Nat → Me → Int32 → Int32 → Option (Int64 × Me)
  | 0, _, _, _ => none
  | n + 1, B, v1, v2 => if 20 ≤ v2 then (j9 B (v1 + 1)) else (if v2 < 4 then (fX4_digest_36 j9 (fun m x0 x1 => fX4_digest_19 j9 n m x0 x1) B v1 v2) else (if v2 ≤ 9 then (fX4_digest_47 j9 (fun m x0 x1 => fX4_digest_19 j9 n m x0 x1) B v1 v2) else (fX4_digest_36 j9 (fun m x0 x1 => fX4_digest_19 j9 n m x0 x1) B v1 v2)))
set_option maxRecDepth 100000 in
theorem tX4_digest_19 {A : Me}  {rZ : Int64} {BZ : Me} {j9 : Me → Int32 → Option (Int64 × Me)} (C : Cx Γ p s m args meth c cX4_digest 3 (some .long) RX4 wsX4_digest) (hr9 : ∀ (B : Me) (v1 : Int32) (H : Heap) (locs : List Loc) (ls : Array Slot), j9 B v1 = some (rZ, BZ) → Wd Γ A B s.heap H locs → lv_has ls 3 [(0, .ref (Γ.2.2 58)), (1, .int v1)] → W p l e rmX4_digest s m args below meth c H locs 0 0 (MQ below (QL Γ A BZ rZ) args s 0 0 (rg Γ)) (F0 m 9 ls [])) (n : Nat) : ∀ (B : Me) (v1 : Int32) (v2 : Int32) (H : Heap) (locs : List Loc) (ls : Array Slot), fX4_digest_19 j9 n B v1 v2 = some (rZ, BZ) → Wd Γ A B s.heap H locs → lv_has ls 3 [(0, .ref (Γ.2.2 58)), (1, .int v1), (2, .int v2)] → W p l e rmX4_digest s m args below meth c H locs 0 0 (MQ below (QL Γ A BZ rZ) args s 0 0 (rg Γ)) (F0 m 19 ls []) := by
  induction n with
  | zero =>
    intro _ _ _ H locs ls h
    exact nomatch (show (none : Option (Int64 × Me)) = some (rZ, BZ) from h)
  | succ n ih =>
    intro B v1 v2 H locs ls h  hW hl
    rw [fX4_digest_19] at h
    refine lv_iload_n C.1 C.2.1 dX4_digest_19 rfl (lv_at hl 2 rfl) ?_
    refine lv_bipush (v := 20) C.1 C.2.1 dX4_digest_20 (by decide) ?_
    refine lv_icmp_ge (tgt := 53) C.1 C.2.1 dX4_digest_22 (by decide) (fun c_22 => ?_) (fun c_22 => ?_)
    · have h := if_y h c_22
      refine lv_iinc (v := (v1 + 1)) (lv' := [(1, .int (v1 + 1)), (0, .ref (Γ.2.2 58)), (2, .int v2)]) C.1 C.2.1 dX4_digest_53 hl (k := 1) rfl rfl (by decide) rfl (fun ls hl => ?_)
      refine lv_goto (tgt := 9) C.1 C.2.1 dX4_digest_56 (by decide) ?_
      exact hr9 _ _ _ _ _ h  hW (lv_sub hl [1, 0] rfl)
    · have h := if_n h c_22
      refine lv_iload_n C.1 C.2.1 dX4_digest_25 rfl (lv_at hl 2 rfl) ?_
      refine lv_iconst (v := 4) C.1 C.2.1 dX4_digest_26 (by decide) ?_
      refine lv_icmp_lt (tgt := 36) C.1 C.2.1 dX4_digest_27 (by decide) (fun c_27 => ?_) (fun c_27 => ?_)
      · have h := if_y h c_27
        exact tX4_digest_36 C hr9 ih h  hW (lv_sub hl [0, 1, 2] rfl)
      · have h := if_n h c_27
        refine lv_iload_n C.1 C.2.1 dX4_digest_30 rfl (lv_at hl 2 rfl) ?_
        refine lv_bipush (v := 9) C.1 C.2.1 dX4_digest_31 (by decide) ?_
        refine lv_icmp_le (tgt := 47) C.1 C.2.1 dX4_digest_33 (by decide) (fun c_33 => ?_) (fun c_33 => ?_)
        · have h := if_y h c_33
          exact tX4_digest_47 C hr9 ih h  hW (lv_sub hl [0, 1, 2] rfl)
        · have h := if_n h c_33
          exact tX4_digest_36 C hr9 ih h  hW (lv_sub hl [0, 1, 2] rfl)
def fX4_digest_71 (j61 : Me → Int32 → Option (Int64 × Me))  : Nat → Me → Int32 → Int32 → Option (Int64 × Me)
  | 0, _, _, _ => none
  | n + 1, B, v1, v2 => if 4 ≤ v2 then (j61 B (v1 + 1)) else (b2 (fX4_personNow B v1 v2) fun r80 B80 => bi (fX4_mix B80 r80.toInt64) fun B84 => fX4_digest_71 j61 n B84 v1 (v2 + 1))
set_option maxRecDepth 100000 in
theorem tX4_digest_71 {A : Me}  {rZ : Int64} {BZ : Me} {j61 : Me → Int32 → Option (Int64 × Me)} (C : Cx Γ p s m args meth c cX4_digest 3 (some .long) RX4 wsX4_digest) (hr61 : ∀ (B : Me) (v1 : Int32) (H : Heap) (locs : List Loc) (ls : Array Slot), j61 B v1 = some (rZ, BZ) → Wd Γ A B s.heap H locs → lv_has ls 3 [(0, .ref (Γ.2.2 58)), (1, .int v1)] → W p l e rmX4_digest s m args below meth c H locs 0 0 (MQ below (QL Γ A BZ rZ) args s 0 0 (rg Γ)) (F0 m 61 ls [])) (n : Nat) : ∀ (B : Me) (v1 : Int32) (v2 : Int32) (H : Heap) (locs : List Loc) (ls : Array Slot), fX4_digest_71 j61 n B v1 v2 = some (rZ, BZ) → Wd Γ A B s.heap H locs → lv_has ls 3 [(0, .ref (Γ.2.2 58)), (1, .int v1), (2, .int v2)] → W p l e rmX4_digest s m args below meth c H locs 0 0 (MQ below (QL Γ A BZ rZ) args s 0 0 (rg Γ)) (F0 m 71 ls []) := by
  induction n with
  | zero =>
    intro _ _ _ H locs ls h
    exact nomatch (show (none : Option (Int64 × Me)) = some (rZ, BZ) from h)
  | succ n ih =>
    intro B v1 v2 H locs ls h  hW hl
    rw [fX4_digest_71] at h
    refine lv_iload_n C.1 C.2.1 dX4_digest_71 rfl (lv_at hl 2 rfl) ?_
    refine lv_iconst (v := 4) C.1 C.2.1 dX4_digest_72 (by decide) ?_
    refine lv_icmp_ge (tgt := 93) C.1 C.2.1 dX4_digest_73 (by decide) (fun c_73 => ?_) (fun c_73 => ?_)
    · have h := if_y h c_73
      refine lv_iinc (v := (v1 + 1)) (lv' := [(1, .int (v1 + 1)), (0, .ref (Γ.2.2 58)), (2, .int v2)]) C.1 C.2.1 dX4_digest_93 hl (k := 1) rfl rfl (by decide) rfl (fun ls hl => ?_)
      refine lv_goto (tgt := 61) C.1 C.2.1 dX4_digest_96 (by decide) ?_
      exact hr61 _ _ _ _ _ h  hW (lv_sub hl [1, 0] rfl)
    · have h := if_n h c_73
      refine lv_aload_n C.1 C.2.1 dX4_digest_76 rfl (lv_at hl 0 rfl) ?_
      refine lv_aload_n C.1 C.2.1 dX4_digest_77 rfl (lv_at hl 0 rfl) ?_
      refine lv_iload_n C.1 C.2.1 dX4_digest_78 rfl (lv_at hl 1 rfl) ?_
      refine lv_iload_n C.1 C.2.1 dX4_digest_79 rfl (lv_at hl 2 rfl) ?_
      obtain ⟨r80, B80, hc80, h⟩ := b2_s h
      refine cVi C hW (As := [.int v1, .int v2]) (rest := [.ref (Γ.2.2 58)]) (mt_X4_personNow  hc80) (cwV 2 C.2.2.2.2.2.1 gX4_digest_X4_personNow rfl rfl rfl (by decide +kernel) ⟨Nat.le_of_ble_eq_true rfl, Nat.le_of_ble_eq_true rfl⟩) (rcv4 C hW (rfl : kd 58 = 4)) rfl hl.1 rfl (Nat.le_of_ble_eq_true rfl) dX4_digest_80 (Nat.zero_le _) (Nat.zero_le _) (fun H locs hW => ?_)
      refine lv_i2l C.1 C.2.1 dX4_digest_83 rfl ?_
      obtain ⟨B84, hc84, h⟩ := bi_s h
      refine cVv C hW (As := [.long r80.toInt64]) (rest := []) (mt_X4_mix  hc84) (cwV 1 C.2.2.2.2.2.1 gX4_digest_X4_mix rfl rfl rfl (by decide +kernel) ⟨Nat.le_of_ble_eq_true rfl, Nat.le_of_ble_eq_true rfl⟩) (rcv4 C hW (rfl : kd 58 = 4)) rfl hl.1 rfl (Nat.le_of_ble_eq_true rfl) dX4_digest_84 (Nat.zero_le _) (Nat.zero_le _) (fun H locs hW => ?_)
      refine lv_iinc (v := (v2 + 1)) (lv' := [(2, .int (v2 + 1)), (0, .ref (Γ.2.2 58)), (1, .int v1)]) C.1 C.2.1 dX4_digest_87 hl (k := 2) rfl rfl (by decide) rfl (fun ls hl => ?_)
      refine lv_goto (tgt := 71) C.1 C.2.1 dX4_digest_90 (by decide) ?_
      exact ih _ _ _ _ _ _ h  hW (lv_sub hl [1, 2, 0] rfl)
def fX4_digest_139   : Nat → Me → Int32 → Option (Int64 × Me)
  | 0, _, _ => none
  | n + 1, B, v1 => if 8 ≤ v1 then (some ((gl (B 58) 29), B)) else (b2 (fX4_howMany B v1) fun r148 B148 => bi (fX4_mix B148 r148.toInt64) fun B152 => fX4_digest_139 n B152 (v1 + 1))
set_option maxRecDepth 100000 in
theorem tX4_digest_139 {A : Me}  {rZ : Int64} {BZ : Me}  (C : Cx Γ p s m args meth c cX4_digest 3 (some .long) RX4 wsX4_digest)  (n : Nat) : ∀ (B : Me) (v1 : Int32) (H : Heap) (locs : List Loc) (ls : Array Slot), fX4_digest_139 n B v1 = some (rZ, BZ) → Wd Γ A B s.heap H locs → lv_has ls 3 [(0, .ref (Γ.2.2 58)), (1, .int v1)] → W p l e rmX4_digest s m args below meth c H locs 0 0 (MQ below (QL Γ A BZ rZ) args s 0 0 (rg Γ)) (F0 m 139 ls []) := by
  induction n with
  | zero =>
    intro _ _ H locs ls h
    exact nomatch (show (none : Option (Int64 × Me)) = some (rZ, BZ) from h)
  | succ n ih =>
    intro B v1 H locs ls h  hW hl
    rw [fX4_digest_139] at h
    refine lv_iload_n C.1 C.2.1 dX4_digest_139 rfl (lv_at hl 1 rfl) ?_
    refine lv_bipush (v := 8) C.1 C.2.1 dX4_digest_140 (by decide) ?_
    refine lv_icmp_ge (tgt := 161) C.1 C.2.1 dX4_digest_142 (by decide) (fun c_142 => ?_) (fun c_142 => ?_)
    · have h := if_y h c_142
      refine lv_aload_n C.1 C.2.1 dX4_digest_161 rfl (lv_at hl 0 rfl) ?_
      refine gX4_29 C hW rfl iX4_digest_c4 wX4_digest_1 dX4_digest_162 ?_
      cases h
      exact z_lret C hW dX4_digest_165
    · have h := if_n h c_142
      refine lv_aload_n C.1 C.2.1 dX4_digest_145 rfl (lv_at hl 0 rfl) ?_
      refine lv_aload_n C.1 C.2.1 dX4_digest_146 rfl (lv_at hl 0 rfl) ?_
      refine lv_iload_n C.1 C.2.1 dX4_digest_147 rfl (lv_at hl 1 rfl) ?_
      obtain ⟨r148, B148, hc148, h⟩ := b2_s h
      refine cVi C hW (As := [.int v1]) (rest := [.ref (Γ.2.2 58)]) (mt_X4_howMany  hc148) (cwV 1 C.2.2.2.2.2.1 gX4_digest_X4_howMany rfl rfl rfl (by decide +kernel) ⟨Nat.le_of_ble_eq_true rfl, Nat.le_of_ble_eq_true rfl⟩) (rcv4 C hW (rfl : kd 58 = 4)) rfl hl.1 rfl (Nat.le_of_ble_eq_true rfl) dX4_digest_148 (Nat.zero_le _) (Nat.zero_le _) (fun H locs hW => ?_)
      refine lv_i2l C.1 C.2.1 dX4_digest_151 rfl ?_
      obtain ⟨B152, hc152, h⟩ := bi_s h
      refine cVv C hW (As := [.long r148.toInt64]) (rest := []) (mt_X4_mix  hc152) (cwV 1 C.2.2.2.2.2.1 gX4_digest_X4_mix rfl rfl rfl (by decide +kernel) ⟨Nat.le_of_ble_eq_true rfl, Nat.le_of_ble_eq_true rfl⟩) (rcv4 C hW (rfl : kd 58 = 4)) rfl hl.1 rfl (Nat.le_of_ble_eq_true rfl) dX4_digest_152 (Nat.zero_le _) (Nat.zero_le _) (fun H locs hW => ?_)
      refine lv_iinc (v := (v1 + 1)) (lv' := [(1, .int (v1 + 1)), (0, .ref (Γ.2.2 58))]) C.1 C.2.1 dX4_digest_155 hl (k := 1) rfl rfl (by decide) rfl (fun ls hl => ?_)
      refine lv_goto (tgt := 139) C.1 C.2.1 dX4_digest_158 (by decide) ?_
      exact ih _ _ _ _ _ h  hW (lv_sub hl [1, 0] rfl)
def fX4_digest_112   : Nat → Me → Int32 → Option (Int64 × Me)
  | 0, _, _ => none
  | n + 1, B, v1 => if (B 58 12) ≤ v1 then (fX4_digest_139 FU B 0) else (ck (inb v1 18) <| bi (fX4_mix B ((B 66 v1.toNatClampNeg).toInt64)) fun B128 => fX4_digest_112 n B128 (v1 + 1))
set_option maxRecDepth 100000 in
theorem tX4_digest_112 {A : Me}  {rZ : Int64} {BZ : Me}  (C : Cx Γ p s m args meth c cX4_digest 3 (some .long) RX4 wsX4_digest)  (n : Nat) : ∀ (B : Me) (v1 : Int32) (H : Heap) (locs : List Loc) (ls : Array Slot), fX4_digest_112 n B v1 = some (rZ, BZ) → Wd Γ A B s.heap H locs → lv_has ls 3 [(0, .ref (Γ.2.2 58)), (1, .int v1)] → W p l e rmX4_digest s m args below meth c H locs 0 0 (MQ below (QL Γ A BZ rZ) args s 0 0 (rg Γ)) (F0 m 112 ls []) := by
  induction n with
  | zero =>
    intro _ _ H locs ls h
    exact nomatch (show (none : Option (Int64 × Me)) = some (rZ, BZ) from h)
  | succ n ih =>
    intro B v1 H locs ls h  hW hl
    rw [fX4_digest_112] at h
    refine lv_iload_n C.1 C.2.1 dX4_digest_112 rfl (lv_at hl 1 rfl) ?_
    refine lv_aload_n C.1 C.2.1 dX4_digest_113 rfl (lv_at hl 0 rfl) ?_
    refine gX4_12 C hW rfl iX4_digest_c4 wX4_digest_4 dX4_digest_114 ?_
    refine lv_icmp_ge (tgt := 137) C.1 C.2.1 dX4_digest_117 (by decide) (fun c_117 => ?_) (fun c_117 => ?_)
    · have h := if_y h c_117
      refine lv_iconst (v := 0) C.1 C.2.1 dX4_digest_137 (by decide) ?_
      refine lv_istore_n (lv' := [(1, .int 0), (0, .ref (Γ.2.2 58))]) C.1 C.2.1 dX4_digest_138 rfl hl (by decide) rfl (fun ls hl => ?_)
      exact tX4_digest_139 C  FU _ _ _ _ _ h  hW (lv_sub hl [1, 0] rfl)
    · have h := if_n h c_117
      refine lv_aload_n C.1 C.2.1 dX4_digest_120 rfl (lv_at hl 0 rfl) ?_
      refine lv_aload_n C.1 C.2.1 dX4_digest_121 rfl (lv_at hl 0 rfl) ?_
      refine gX4_13 C hW rfl iX4_digest_c4 wX4_digest_5 dX4_digest_122 ?_
      refine lv_iload_n C.1 C.2.1 dX4_digest_125 rfl (lv_at hl 1 rfl) ?_
      obtain ⟨hi126, h⟩ := ck_s h
      refine la5 C hW ⟨rfl, rfl⟩ hi126 dX4_digest_126 ?_
      refine lv_i2l C.1 C.2.1 dX4_digest_127 rfl ?_
      obtain ⟨B128, hc128, h⟩ := bi_s h
      refine cVv C hW (As := [.long ((B 66 v1.toNatClampNeg).toInt64)]) (rest := []) (mt_X4_mix  hc128) (cwV 1 C.2.2.2.2.2.1 gX4_digest_X4_mix rfl rfl rfl (by decide +kernel) ⟨Nat.le_of_ble_eq_true rfl, Nat.le_of_ble_eq_true rfl⟩) (rcv4 C hW (rfl : kd 58 = 4)) rfl hl.1 rfl (Nat.le_of_ble_eq_true rfl) dX4_digest_128 (Nat.zero_le _) (Nat.zero_le _) (fun H locs hW => ?_)
      refine lv_iinc (v := (v1 + 1)) (lv' := [(1, .int (v1 + 1)), (0, .ref (Γ.2.2 58))]) C.1 C.2.1 dX4_digest_131 hl (k := 1) rfl rfl (by decide) rfl (fun ls hl => ?_)
      refine lv_goto (tgt := 112) C.1 C.2.1 dX4_digest_134 (by decide) ?_
      exact ih _ _ _ _ _ h  hW (lv_sub hl [1, 0] rfl)
def fX4_digest_110  (B : Me)   : Option (Int64 × Me) := fX4_digest_112 FU B 0
set_option maxRecDepth 100000 in
theorem tX4_digest_110 {A B : Me}  {H : Heap} {locs : List Loc} {ls : Array Slot}  {rZ : Int64} {BZ : Me}  (C : Cx Γ p s m args meth c cX4_digest 3 (some .long) RX4 wsX4_digest)  (h : fX4_digest_110 B = some (rZ, BZ))  (hW : Wd Γ A B s.heap H locs) (hl : lv_has ls 3 [(0, .ref (Γ.2.2 58))]) : W p l e rmX4_digest s m args below meth c H locs 0 0 (MQ below (QL Γ A BZ rZ) args s 0 0 (rg Γ)) (F0 m 110 ls []) := by
  unfold fX4_digest_110 at h
  refine lv_iconst (v := 0) C.1 C.2.1 dX4_digest_110 (by decide) ?_
  refine lv_istore_n (lv' := [(1, .int 0), (0, .ref (Γ.2.2 58))]) C.1 C.2.1 dX4_digest_111 rfl hl (by decide) rfl (fun ls hl => ?_)
  exact tX4_digest_112 C  FU _ _ _ _ _ h  hW (lv_sub hl [1, 0] rfl)
def fX4_digest_61   : Nat → Me → Int32 → Option (Int64 × Me)
  | 0, _, _ => none
  | n + 1, B, v1 => if (B 58 5) ≤ v1 then (if (B 58 2) ≤ 0 then (fX4_digest_110 B) else (bi (fX4_mixCellar B) fun B107 => fX4_digest_110 B107)) else (fX4_digest_71 (fun m x0 => fX4_digest_61 n m x0) FU B v1 0)
set_option maxRecDepth 100000 in
theorem tX4_digest_61 {A : Me}  {rZ : Int64} {BZ : Me}  (C : Cx Γ p s m args meth c cX4_digest 3 (some .long) RX4 wsX4_digest)  (n : Nat) : ∀ (B : Me) (v1 : Int32) (H : Heap) (locs : List Loc) (ls : Array Slot), fX4_digest_61 n B v1 = some (rZ, BZ) → Wd Γ A B s.heap H locs → lv_has ls 3 [(0, .ref (Γ.2.2 58)), (1, .int v1)] → W p l e rmX4_digest s m args below meth c H locs 0 0 (MQ below (QL Γ A BZ rZ) args s 0 0 (rg Γ)) (F0 m 61 ls []) := by
  induction n with
  | zero =>
    intro _ _ H locs ls h
    exact nomatch (show (none : Option (Int64 × Me)) = some (rZ, BZ) from h)
  | succ n ih =>
    intro B v1 H locs ls h  hW hl
    rw [fX4_digest_61] at h
    refine lv_iload_n C.1 C.2.1 dX4_digest_61 rfl (lv_at hl 1 rfl) ?_
    refine lv_aload_n C.1 C.2.1 dX4_digest_62 rfl (lv_at hl 0 rfl) ?_
    refine gX4_5 C hW rfl iX4_digest_c4 wX4_digest_3 dX4_digest_63 ?_
    refine lv_icmp_ge (tgt := 99) C.1 C.2.1 dX4_digest_66 (by decide) (fun c_66 => ?_) (fun c_66 => ?_)
    · have h := if_y h c_66
      refine lv_aload_n C.1 C.2.1 dX4_digest_99 rfl (lv_at hl 0 rfl) ?_
      refine gX4_2 C hW rfl iX4_digest_c4 wX4_digest_2 dX4_digest_100 ?_
      refine lv_if_le (tgt := 110) C.1 C.2.1 dX4_digest_103 (by decide) (fun c_103 => ?_) (fun c_103 => ?_)
      · have h := if_y h c_103
        exact tX4_digest_110 C  h  hW (lv_sub hl [0] rfl)
      · have h := if_n h c_103
        refine lv_aload_n C.1 C.2.1 dX4_digest_106 rfl (lv_at hl 0 rfl) ?_
        obtain ⟨B107, hc107, h⟩ := bi_s h
        refine cVv C hW (As := []) (rest := []) (mt_X4_mixCellar  hc107) (cwV 0 C.2.2.2.2.2.1 gX4_digest_X4_mixCellar rfl rfl rfl (by decide +kernel) ⟨Nat.le_of_ble_eq_true rfl, Nat.le_of_ble_eq_true rfl⟩) (rcv4 C hW (rfl : kd 58 = 4)) rfl hl.1 rfl (Nat.le_of_ble_eq_true rfl) dX4_digest_107 (Nat.zero_le _) (Nat.zero_le _) (fun H locs hW => ?_)
        exact tX4_digest_110 C  h  hW (lv_sub hl [0] rfl)
    · have h := if_n h c_66
      refine lv_iconst (v := 0) C.1 C.2.1 dX4_digest_69 (by decide) ?_
      refine lv_istore_n (lv' := [(2, .int 0), (0, .ref (Γ.2.2 58)), (1, .int v1)]) C.1 C.2.1 dX4_digest_70 rfl hl (by decide) rfl (fun ls hl => ?_)
      exact tX4_digest_71 C ih FU _ _ _ _ _ _ h  hW (lv_sub hl [1, 2, 0] rfl)
def fX4_digest_9   : Nat → Me → Int32 → Option (Int64 × Me)
  | 0, _, _ => none
  | n + 1, B, v1 => if (B 58 2) ≤ v1 then (fX4_digest_61 FU B 0) else (fX4_digest_19 (fun m x0 => fX4_digest_9 n m x0) FU B v1 0)
set_option maxRecDepth 100000 in
theorem tX4_digest_9 {A : Me}  {rZ : Int64} {BZ : Me}  (C : Cx Γ p s m args meth c cX4_digest 3 (some .long) RX4 wsX4_digest)  (n : Nat) : ∀ (B : Me) (v1 : Int32) (H : Heap) (locs : List Loc) (ls : Array Slot), fX4_digest_9 n B v1 = some (rZ, BZ) → Wd Γ A B s.heap H locs → lv_has ls 3 [(0, .ref (Γ.2.2 58)), (1, .int v1)] → W p l e rmX4_digest s m args below meth c H locs 0 0 (MQ below (QL Γ A BZ rZ) args s 0 0 (rg Γ)) (F0 m 9 ls []) := by
  induction n with
  | zero =>
    intro _ _ H locs ls h
    exact nomatch (show (none : Option (Int64 × Me)) = some (rZ, BZ) from h)
  | succ n ih =>
    intro B v1 H locs ls h  hW hl
    rw [fX4_digest_9] at h
    refine lv_iload_n C.1 C.2.1 dX4_digest_9 rfl (lv_at hl 1 rfl) ?_
    refine lv_aload_n C.1 C.2.1 dX4_digest_10 rfl (lv_at hl 0 rfl) ?_
    refine gX4_2 C hW rfl iX4_digest_c4 wX4_digest_2 dX4_digest_11 ?_
    refine lv_icmp_ge (tgt := 59) C.1 C.2.1 dX4_digest_14 (by decide) (fun c_14 => ?_) (fun c_14 => ?_)
    · have h := if_y h c_14
      refine lv_iconst (v := 0) C.1 C.2.1 dX4_digest_59 (by decide) ?_
      refine lv_istore_n (lv' := [(1, .int 0), (0, .ref (Γ.2.2 58))]) C.1 C.2.1 dX4_digest_60 rfl hl (by decide) rfl (fun ls hl => ?_)
      exact tX4_digest_61 C  FU _ _ _ _ _ h  hW (lv_sub hl [1, 0] rfl)
    · have h := if_n h c_14
      refine lv_iconst (v := 0) C.1 C.2.1 dX4_digest_17 (by decide) ?_
      refine lv_istore_n (lv' := [(2, .int 0), (0, .ref (Γ.2.2 58)), (1, .int v1)]) C.1 C.2.1 dX4_digest_18 rfl hl (by decide) rfl (fun ls hl => ?_)
      exact tX4_digest_19 C ih FU _ _ _ _ _ _ h  hW (lv_sub hl [1, 2, 0] rfl)
def fX4_digest  (B : Me)   : Option (Int64 × Me) := fX4_digest_9 FU (upl B 58 29 (863 : Int64)) 0
set_option maxRecDepth 100000 in
theorem tX4_digest_0 {A B : Me}  {H : Heap} {locs : List Loc} {ls : Array Slot}  {rZ : Int64} {BZ : Me}  (C : Cx Γ p s m args meth c cX4_digest 3 (some .long) RX4 wsX4_digest)  (h : fX4_digest B = some (rZ, BZ))  (hW : Wd Γ A B s.heap H locs) (hl : lv_has ls 3 [(0, .ref (Γ.2.2 58))]) : W p l e rmX4_digest s m args below meth c H locs 0 0 (MQ below (QL Γ A BZ rZ) args s 0 0 (rg Γ)) (F0 m 0 ls []) := by
  unfold fX4_digest at h
  refine lv_aload_n C.1 C.2.1 dX4_digest_0 rfl (lv_at hl 0 rfl) ?_
  refine lv_ldc2 (v := 863) C.1 C.2.1 C.2.2.2.2.1 (C.2.2.2.2.2.1 _ wX4_digest_0) dX4_digest_1 ?_
  refine pX4_29 C hW rfl iX4_digest_c4 wX4_digest_1 dX4_digest_4 (fun H locs hW => ?_)
  refine lv_iconst (v := 0) C.1 C.2.1 dX4_digest_7 (by decide) ?_
  refine lv_istore_n (lv' := [(1, .int 0), (0, .ref (Γ.2.2 58))]) C.1 C.2.1 dX4_digest_8 rfl hl (by decide) rfl (fun ls hl => ?_)
  exact tX4_digest_9 C  FU _ _ _ _ _ h  hW (lv_sub hl [1, 0] rfl)
theorem mt_X4_digest {l : Launch} {Γ : Gm} {A B : Me}   {rZ : Int64} {BZ : Me}  (h : fX4_digest B = some (rZ, BZ)) : Met l yX4_digest wsX4_digest rmX4_digest (PC Γ A B [.ref (Γ.2.2 58)]) (QL Γ A BZ rZ) 0 0 (rg Γ) :=
  met_of (by decide) rfl (Nat.le_of_ble_eq_true rfl) (fun p e s m below meth c ls C hW hl => tX4_digest_0 C  h  hW (lv_sub (l := [(0, .ref (Γ.2.2 58))]) hl [0] rfl))
end
