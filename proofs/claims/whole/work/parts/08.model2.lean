section
variable {p : Program} {l : Launch} {e : Env} {s : State} {m : MethodId} {args : Array Value} {below : List Frame} {meth : Method} {c : Code} {Γ : Gm}
abbrev rmX4_isPerson : Room := { frames := 1, cells := 0, slots := 0, locals := 22 }
set_option maxRecDepth 100000 in
theorem iX4_isPerson_c4 : ∀ w ∈ wsX40, w ∈ wsX4_isPerson := by decide +kernel
set_option maxRecDepth 100000 in
theorem wX4_isPerson_0 : Cond.fieldLink RX4 88 "WineByYearsModel" "people" "I" ∈ wsX4_isPerson := by decide +kernel
def fX4_isPerson  (B : Me)  (v1 : Int32) : Option (Int32) := bi (fX4_within v1 0 ((B 58 5) - 1)) fun r8 => ck (zb r8) <| some r8
set_option maxRecDepth 100000 in
theorem tX4_isPerson_0 {A B : Me}  {H : Heap} {locs : List Loc} {ls : Array Slot} {v1 : Int32} {rZ : Int32}  (C : Cx Γ p s m args meth c cX4_isPerson 2 (some .boolean) RX4 wsX4_isPerson)  (h : fX4_isPerson B v1 = some rZ)  (hW : Wd Γ A B s.heap H locs) (hl : lv_has ls 2 [(0, .ref (Γ.2.2 58)), (1, .int v1)]) : W p l e rmX4_isPerson s m args below meth c H locs 0 0 (MQ below (QI Γ A B rZ) args s 0 0 (rg Γ)) (F0 m 0 ls []) := by
  unfold fX4_isPerson at h
  refine lv_iload_n C.1 C.2.1 dX4_isPerson_0 rfl (lv_at hl 1 rfl) ?_
  refine lv_iconst (v := 0) C.1 C.2.1 dX4_isPerson_1 (by decide) ?_
  refine lv_aload_n C.1 C.2.1 dX4_isPerson_2 rfl (lv_at hl 0 rfl) ?_
  refine gX4_5 C hW rfl iX4_isPerson_c4 wX4_isPerson_0 dX4_isPerson_3 ?_
  refine lv_iconst (v := 1) C.1 C.2.1 dX4_isPerson_6 (by decide) ?_
  refine lv_isub C.1 C.2.1 dX4_isPerson_7 ?_
  obtain ⟨r8, hc8, h⟩ := bi_s h
  refine cSi C hW (As := [.int v1, .int 0, .int ((B 58 5) - 1)]) (rest := []) (mt_X4_within  hc8) (va_cwS 3 C.2.2.2.2.2.1 gX4_isPerson_X4_within rfl rfl rfl (by decide +kernel) ⟨Nat.le_of_ble_eq_true rfl, Nat.le_of_ble_eq_true rfl⟩) rfl hl.1 rfl (Nat.le_of_ble_eq_true rfl) dX4_isPerson_8 (Nat.zero_le _) (Nat.zero_le _) (fun H locs hW => ?_)
  obtain ⟨hz, h⟩ := ck_s h
  cases h
  exact z_zret C hW hz dX4_isPerson_11
theorem mt_X4_isPerson {l : Launch} {Γ : Gm} {A B : Me}  {v1 : Int32} {rZ : Int32}  (h : fX4_isPerson B v1 = some rZ) : Met l yX4_isPerson wsX4_isPerson rmX4_isPerson (PC Γ A B [.ref (Γ.2.2 58), .int v1]) (QI Γ A B rZ) 0 0 (rg Γ) :=
  met_of (by decide) rfl (Nat.le_of_ble_eq_true rfl) (fun p e s m below meth c ls C hW hl => tX4_isPerson_0 C  h  hW (lv_sub (l := [(0, .ref (Γ.2.2 58)), (1, .int v1)]) hl [0, 1] rfl))
abbrev rmX4_person : Room := { frames := 1, cells := 0, slots := 0, locals := 22 }
set_option maxRecDepth 100000 in
theorem iX4_person_c4 : ∀ w ∈ wsX40, w ∈ wsX4_person := by decide +kernel
set_option maxRecDepth 100000 in
theorem wX4_person_0 : Cond.fieldLink RX4 82 "WineByYearsModel" "casks" "I" ∈ wsX4_person := by decide +kernel
set_option maxRecDepth 100000 in
theorem wX4_person_1 : Cond.fieldLink RX4 88 "WineByYearsModel" "people" "I" ∈ wsX4_person := by decide +kernel
set_option maxRecDepth 100000 in
theorem wX4_person_2 : Cond.fieldLink RX4 16 "WineByYearsModel" "kindOf" "[I" ∈ wsX4_person := by decide +kernel
set_option maxRecDepth 100000 in
theorem wX4_person_3 : Cond.fieldLink RX4 19 "WineByYearsModel" "bornOf" "[I" ∈ wsX4_person := by decide +kernel
set_option maxRecDepth 100000 in
theorem wX4_person_4 : Cond.fieldLink RX4 22 "WineByYearsModel" "illOf" "[I" ∈ wsX4_person := by decide +kernel
def fX4_person_19  (B : Me)   : Option (Int32 × Me) := some ((-102), B)
set_option maxRecDepth 100000 in
theorem tX4_person_19 {A B : Me}  {H : Heap} {locs : List Loc} {ls : Array Slot}  {rZ : Int32} {BZ : Me}  (C : Cx Γ p s m args meth c cX4_person 3 (some .int) RX4 wsX4_person)  (h : fX4_person_19 B = some (rZ, BZ))  (hW : Wd Γ A B s.heap H locs) (hl : lv_has ls 3 []) : W p l e rmX4_person s m args below meth c H locs 0 0 (MQ below (QI Γ A BZ rZ) args s 0 0 (rg Γ)) (F0 m 19 ls []) := by
  unfold fX4_person_19 at h
  refine lv_bipush (v := (-102)) C.1 C.2.1 dX4_person_19 (by decide) ?_
  cases h
  exact z_iret C hW dX4_person_21
def fX4_person  (B : Me)  (v1 : Int32) (v2 : Int32) : Option (Int32 × Me) := bi (fX4_within v1 0 4) fun r3 => if r3 = 0 then (fX4_person_19 B) else (bi (fX4_within v2 0 9) fun r13 => if r13 = 0 then (fX4_person_19 B) else (if (B 58 2) = 0 then (some ((-103), B)) else (if (B 58 5) = 5 then (some ((-104), B)) else (ck (inb (B 58 5) 5) <| ck (inb ((up2 B 61 (B 58 5).toNatClampNeg v1) 58 5) 5) <| ck (inb ((up2 (up2 B 61 (B 58 5).toNatClampNeg v1) 62 ((up2 B 61 (B 58 5).toNatClampNeg v1) 58 5).toNatClampNeg v2) 58 5) 5) <| some ((((up2 (up2 (up2 (up2 B 61 (B 58 5).toNatClampNeg v1) 62 ((up2 B 61 (B 58 5).toNatClampNeg v1) 58 5).toNatClampNeg v2) 63 ((up2 (up2 B 61 (B 58 5).toNatClampNeg v1) 62 ((up2 B 61 (B 58 5).toNatClampNeg v1) 58 5).toNatClampNeg v2) 58 5).toNatClampNeg 0) 58 5 (((up2 (up2 (up2 B 61 (B 58 5).toNatClampNeg v1) 62 ((up2 B 61 (B 58 5).toNatClampNeg v1) 58 5).toNatClampNeg v2) 63 ((up2 (up2 B 61 (B 58 5).toNatClampNeg v1) 62 ((up2 B 61 (B 58 5).toNatClampNeg v1) 58 5).toNatClampNeg v2) 58 5).toNatClampNeg 0) 58 5) + 1)) 58 5) - 1), (up2 (up2 (up2 (up2 B 61 (B 58 5).toNatClampNeg v1) 62 ((up2 B 61 (B 58 5).toNatClampNeg v1) 58 5).toNatClampNeg v2) 63 ((up2 (up2 B 61 (B 58 5).toNatClampNeg v1) 62 ((up2 B 61 (B 58 5).toNatClampNeg v1) 58 5).toNatClampNeg v2) 58 5).toNatClampNeg 0) 58 5 (((up2 (up2 (up2 B 61 (B 58 5).toNatClampNeg v1) 62 ((up2 B 61 (B 58 5).toNatClampNeg v1) 58 5).toNatClampNeg v2) 63 ((up2 (up2 B 61 (B 58 5).toNatClampNeg v1) 62 ((up2 B 61 (B 58 5).toNatClampNeg v1) 58 5).toNatClampNeg v2) 58 5).toNatClampNeg 0) 58 5) + 1)))))))
set_option maxRecDepth 100000 in
theorem tX4_person_0 {A B : Me}  {H : Heap} {locs : List Loc} {ls : Array Slot} {v1 : Int32} {v2 : Int32} {rZ : Int32} {BZ : Me}  (C : Cx Γ p s m args meth c cX4_person 3 (some .int) RX4 wsX4_person)  (h : fX4_person B v1 v2 = some (rZ, BZ))  (hW : Wd Γ A B s.heap H locs) (hl : lv_has ls 3 [(0, .ref (Γ.2.2 58)), (1, .int v1), (2, .int v2)]) : W p l e rmX4_person s m args below meth c H locs 0 0 (MQ below (QI Γ A BZ rZ) args s 0 0 (rg Γ)) (F0 m 0 ls []) := by
  unfold fX4_person at h
  refine lv_iload_n C.1 C.2.1 dX4_person_0 rfl (lv_at hl 1 rfl) ?_
  refine lv_iconst (v := 0) C.1 C.2.1 dX4_person_1 (by decide) ?_
  refine lv_iconst (v := 4) C.1 C.2.1 dX4_person_2 (by decide) ?_
  obtain ⟨r3, hc3, h⟩ := bi_s h
  refine cSi C hW (As := [.int v1, .int 0, .int 4]) (rest := []) (mt_X4_within  hc3) (va_cwS 3 C.2.2.2.2.2.1 gX4_person_X4_within rfl rfl rfl (by decide +kernel) ⟨Nat.le_of_ble_eq_true rfl, Nat.le_of_ble_eq_true rfl⟩) rfl hl.1 rfl (Nat.le_of_ble_eq_true rfl) dX4_person_3 (Nat.zero_le _) (Nat.zero_le _) (fun H locs hW => ?_)
  refine lv_if_eq (tgt := 19) C.1 C.2.1 dX4_person_6 (by decide) (fun c_6 => ?_) (fun c_6 => ?_)
  · have h := if_y h c_6
    exact tX4_person_19 C  h  hW (lv_sub hl [] rfl)
  · have h := if_n h c_6
    refine lv_iload_n C.1 C.2.1 dX4_person_9 rfl (lv_at hl 2 rfl) ?_
    refine lv_iconst (v := 0) C.1 C.2.1 dX4_person_10 (by decide) ?_
    refine lv_bipush (v := 9) C.1 C.2.1 dX4_person_11 (by decide) ?_
    obtain ⟨r13, hc13, h⟩ := bi_s h
    refine cSi C hW (As := [.int v2, .int 0, .int 9]) (rest := []) (mt_X4_within  hc13) (va_cwS 3 C.2.2.2.2.2.1 gX4_person_X4_within rfl rfl rfl (by decide +kernel) ⟨Nat.le_of_ble_eq_true rfl, Nat.le_of_ble_eq_true rfl⟩) rfl hl.1 rfl (Nat.le_of_ble_eq_true rfl) dX4_person_13 (Nat.zero_le _) (Nat.zero_le _) (fun H locs hW => ?_)
    refine lv_if_ne (tgt := 22) C.1 C.2.1 dX4_person_16 (by decide) (fun c_16 => ?_) (fun c_16 => ?_)
    · have h := if_n h c_16
      refine lv_aload_n C.1 C.2.1 dX4_person_22 rfl (lv_at hl 0 rfl) ?_
      refine gX4_2 C hW rfl iX4_person_c4 wX4_person_0 dX4_person_23 ?_
      refine lv_if_ne (tgt := 32) C.1 C.2.1 dX4_person_26 (by decide) (fun c_26 => ?_) (fun c_26 => ?_)
      · have h := if_n h c_26
        refine lv_aload_n C.1 C.2.1 dX4_person_32 rfl (lv_at hl 0 rfl) ?_
        refine gX4_5 C hW rfl iX4_person_c4 wX4_person_1 dX4_person_33 ?_
        refine lv_iconst (v := 5) C.1 C.2.1 dX4_person_36 (by decide) ?_
        refine lv_icmp_ne (tgt := 43) C.1 C.2.1 dX4_person_37 (by decide) (fun c_37 => ?_) (fun c_37 => ?_)
        · have h := if_n h c_37
          refine lv_aload_n C.1 C.2.1 dX4_person_43 rfl (lv_at hl 0 rfl) ?_
          refine gX4_6 C hW rfl iX4_person_c4 wX4_person_2 dX4_person_44 ?_
          refine lv_aload_n C.1 C.2.1 dX4_person_47 rfl (lv_at hl 0 rfl) ?_
          refine gX4_5 C hW rfl iX4_person_c4 wX4_person_1 dX4_person_48 ?_
          refine lv_iload_n C.1 C.2.1 dX4_person_51 rfl (lv_at hl 1 rfl) ?_
          obtain ⟨hi52, h⟩ := ck_s h
          refine sa9 C hW ⟨rfl, rfl⟩ hi52 dX4_person_52 (fun H locs hW => ?_)
          refine lv_aload_n C.1 C.2.1 dX4_person_53 rfl (lv_at hl 0 rfl) ?_
          refine gX4_7 C hW rfl iX4_person_c4 wX4_person_3 dX4_person_54 ?_
          refine lv_aload_n C.1 C.2.1 dX4_person_57 rfl (lv_at hl 0 rfl) ?_
          refine gX4_5 C hW rfl iX4_person_c4 wX4_person_1 dX4_person_58 ?_
          refine lv_iload_n C.1 C.2.1 dX4_person_61 rfl (lv_at hl 2 rfl) ?_
          obtain ⟨hi62, h⟩ := ck_s h
          refine sa9 C hW ⟨rfl, rfl⟩ hi62 dX4_person_62 (fun H locs hW => ?_)
          refine lv_aload_n C.1 C.2.1 dX4_person_63 rfl (lv_at hl 0 rfl) ?_
          refine gX4_8 C hW rfl iX4_person_c4 wX4_person_4 dX4_person_64 ?_
          refine lv_aload_n C.1 C.2.1 dX4_person_67 rfl (lv_at hl 0 rfl) ?_
          refine gX4_5 C hW rfl iX4_person_c4 wX4_person_1 dX4_person_68 ?_
          refine lv_iconst (v := 0) C.1 C.2.1 dX4_person_71 (by decide) ?_
          obtain ⟨hi72, h⟩ := ck_s h
          refine sa9 C hW ⟨rfl, rfl⟩ hi72 dX4_person_72 (fun H locs hW => ?_)
          refine lv_aload_n C.1 C.2.1 dX4_person_73 rfl (lv_at hl 0 rfl) ?_
          refine lv_dup C.1 C.2.1 dX4_person_74 rfl ?_
          refine gX4_5 C hW rfl iX4_person_c4 wX4_person_1 dX4_person_75 ?_
          refine lv_iconst (v := 1) C.1 C.2.1 dX4_person_78 (by decide) ?_
          refine lv_iadd C.1 C.2.1 dX4_person_79 ?_
          refine pX4_5 C hW rfl iX4_person_c4 wX4_person_1 dX4_person_80 (fun H locs hW => ?_)
          refine lv_aload_n C.1 C.2.1 dX4_person_83 rfl (lv_at hl 0 rfl) ?_
          refine gX4_5 C hW rfl iX4_person_c4 wX4_person_1 dX4_person_84 ?_
          refine lv_iconst (v := 1) C.1 C.2.1 dX4_person_87 (by decide) ?_
          refine lv_isub C.1 C.2.1 dX4_person_88 ?_
          cases h
          exact z_iret C hW dX4_person_89
        · have h := if_y h c_37
          refine lv_bipush (v := (-104)) C.1 C.2.1 dX4_person_40 (by decide) ?_
          cases h
          exact z_iret C hW dX4_person_42
      · have h := if_y h c_26
        refine lv_bipush (v := (-103)) C.1 C.2.1 dX4_person_29 (by decide) ?_
        cases h
        exact z_iret C hW dX4_person_31
    · have h := if_y h c_16
      exact tX4_person_19 C  h  hW (lv_sub hl [] rfl)
theorem mt_X4_person {l : Launch} {Γ : Gm} {A B : Me}  {v1 : Int32} {v2 : Int32} {rZ : Int32} {BZ : Me}  (h : fX4_person B v1 v2 = some (rZ, BZ)) : Met l yX4_person wsX4_person rmX4_person (PC Γ A B [.ref (Γ.2.2 58), .int v1, .int v2]) (QI Γ A BZ rZ) 0 0 (rg Γ) :=
  met_of (by decide) rfl (Nat.le_of_ble_eq_true rfl) (fun p e s m below meth c ls C hW hl => tX4_person_0 C  h  hW (lv_sub (l := [(0, .ref (Γ.2.2 58)), (1, .int v1), (2, .int v2)]) hl [0, 1, 2] rfl))
abbrev rmX4_mayOf : Room := { frames := 3, cells := 0, slots := 0, locals := 70 }
set_option maxRecDepth 100000 in
theorem iX4_mayOf_c4 : ∀ w ∈ wsX40, w ∈ wsX4_mayOf := by decide +kernel
set_option maxRecDepth 100000 in
theorem wX4_mayOf_0 : Cond.fieldLink RX4 82 "WineByYearsModel" "casks" "I" ∈ wsX4_mayOf := by decide +kernel
set_option maxRecDepth 100000 in
theorem wX4_mayOf_1 : Cond.fieldLink RX4 16 "WineByYearsModel" "kindOf" "[I" ∈ wsX4_mayOf := by decide +kernel
set_option maxRecDepth 100000 in
theorem wX4_mayOf_2 : Cond.fieldLink RX4 19 "WineByYearsModel" "bornOf" "[I" ∈ wsX4_mayOf := by decide +kernel
def fX4_mayOf_44 (j4 : Me → Int32 → Int32 → Int32 → Option (Int32 × Me)) (B : Me)  (v1 : Int32) (v3 : Int32) (t0 : Int32) (t1 : Int32) : Option (Int32 × Me) := j4 B v1 (t0 ||| t1) (v3 + 1)
set_option maxRecDepth 100000 in
theorem tX4_mayOf_44 {A B : Me}  {H : Heap} {locs : List Loc} {ls : Array Slot} {v1 : Int32} {v3 : Int32} {t0 : Int32} {t1 : Int32} {rZ : Int32} {BZ : Me} {j4 : Me → Int32 → Int32 → Int32 → Option (Int32 × Me)} (C : Cx Γ p s m args meth c cX4_mayOf 4 (some .int) RX4 wsX4_mayOf) (hr4 : ∀ (B : Me) (v1 : Int32) (v2 : Int32) (v3 : Int32) (H : Heap) (locs : List Loc) (ls : Array Slot), j4 B v1 v2 v3 = some (rZ, BZ) → Wd Γ A B s.heap H locs → lv_has ls 4 [(0, .ref (Γ.2.2 58)), (1, .int v1), (2, .int v2), (3, .int v3)] → W p l e rmX4_mayOf s m args below meth c H locs 0 0 (MQ below (QI Γ A BZ rZ) args s 0 0 (rg Γ)) (F0 m 4 ls [])) (h : fX4_mayOf_44 j4 B v1 v3 t0 t1 = some (rZ, BZ))  (hW : Wd Γ A B s.heap H locs) (hl : lv_has ls 4 [(0, .ref (Γ.2.2 58)), (1, .int v1), (3, .int v3)]) : W p l e rmX4_mayOf s m args below meth c H locs 0 0 (MQ below (QI Γ A BZ rZ) args s 0 0 (rg Γ)) (F0 m 44 ls [.int t1, .int t0]) := by
  unfold fX4_mayOf_44 at h
  refine lv_ior C.1 C.2.1 dX4_mayOf_44 ?_
  refine lv_istore_n (lv' := [(2, .int (t0 ||| t1)), (0, .ref (Γ.2.2 58)), (1, .int v1), (3, .int v3)]) C.1 C.2.1 dX4_mayOf_45 rfl hl (by decide) rfl (fun ls hl => ?_)
  refine lv_iinc (v := (v3 + 1)) (lv' := [(3, .int (v3 + 1)), (2, .int (t0 ||| t1)), (0, .ref (Γ.2.2 58)), (1, .int v1)]) C.1 C.2.1 dX4_mayOf_46 hl (k := 3) rfl rfl (by decide) rfl (fun ls hl => ?_)
  refine lv_goto (tgt := 4) C.1 C.2.1 dX4_mayOf_49 (by decide) ?_
  exact hr4 _ _ _ _ _ _ _ h  hW (lv_sub hl [2, 3, 1, 0] rfl)
def fX4_mayOf_4   : Nat → Me → Int32 → Int32 → Int32 → Option (Int32 × Me)
  | 0, _, _, _, _ => none
  | n + 1, B, v1, v2, v3 => if (B 58 2) ≤ v3 then (some (v2, B)) else (bi (fX4_think B v3) fun B14 => ck (inb v1 5) <| ck (inb v1 5) <| bi (fX4_mayThought B14 (B14 61 v1.toNatClampNeg) (B14 62 v1.toNatClampNeg)) fun r31 => if r31 = 0 then (fX4_mayOf_44 (fun m x0 x1 x2 => fX4_mayOf_4 n m x0 x1 x2) B14 v1 v3 v2 0) else (fX4_mayOf_44 (fun m x0 x1 x2 => fX4_mayOf_4 n m x0 x1 x2) B14 v1 v3 v2 (1 <<< (v3 &&& 31))))
set_option maxRecDepth 100000 in
theorem tX4_mayOf_4 {A : Me}  {rZ : Int32} {BZ : Me}  (C : Cx Γ p s m args meth c cX4_mayOf 4 (some .int) RX4 wsX4_mayOf)  (n : Nat) : ∀ (B : Me) (v1 : Int32) (v2 : Int32) (v3 : Int32) (H : Heap) (locs : List Loc) (ls : Array Slot), fX4_mayOf_4 n B v1 v2 v3 = some (rZ, BZ) → Wd Γ A B s.heap H locs → lv_has ls 4 [(0, .ref (Γ.2.2 58)), (1, .int v1), (2, .int v2), (3, .int v3)] → W p l e rmX4_mayOf s m args below meth c H locs 0 0 (MQ below (QI Γ A BZ rZ) args s 0 0 (rg Γ)) (F0 m 4 ls []) := by
  induction n with
  | zero =>
    intro _ _ _ _ H locs ls h
    exact nomatch (show (none : Option (Int32 × Me)) = some (rZ, BZ) from h)
  | succ n ih =>
    intro B v1 v2 v3 H locs ls h  hW hl
    rw [fX4_mayOf_4] at h
    refine lv_iload_n C.1 C.2.1 dX4_mayOf_4 rfl (lv_at hl 3 rfl) ?_
    refine lv_aload_n C.1 C.2.1 dX4_mayOf_5 rfl (lv_at hl 0 rfl) ?_
    refine gX4_2 C hW rfl iX4_mayOf_c4 wX4_mayOf_0 dX4_mayOf_6 ?_
    refine lv_icmp_ge (tgt := 52) C.1 C.2.1 dX4_mayOf_9 (by decide) (fun c_9 => ?_) (fun c_9 => ?_)
    · have h := if_y h c_9
      refine lv_iload_n C.1 C.2.1 dX4_mayOf_52 rfl (lv_at hl 2 rfl) ?_
      cases h
      exact z_iret C hW dX4_mayOf_53
    · have h := if_n h c_9
      refine lv_aload_n C.1 C.2.1 dX4_mayOf_12 rfl (lv_at hl 0 rfl) ?_
      refine lv_iload_n C.1 C.2.1 dX4_mayOf_13 rfl (lv_at hl 3 rfl) ?_
      obtain ⟨B14, hc14, h⟩ := bi_s h
      refine cVv C hW (As := [.int v3]) (rest := []) (mt_X4_think  hc14) (cwV 1 C.2.2.2.2.2.1 gX4_mayOf_X4_think rfl rfl rfl (by decide +kernel) ⟨Nat.le_of_ble_eq_true rfl, Nat.le_of_ble_eq_true rfl⟩) (rcv4 C hW (rfl : kd 58 = 4)) rfl hl.1 rfl (Nat.le_of_ble_eq_true rfl) dX4_mayOf_14 (Nat.zero_le _) (Nat.zero_le _) (fun H locs hW => ?_)
      refine lv_iload_n C.1 C.2.1 dX4_mayOf_17 rfl (lv_at hl 2 rfl) ?_
      refine lv_aload_n C.1 C.2.1 dX4_mayOf_18 rfl (lv_at hl 0 rfl) ?_
      refine lv_aload_n C.1 C.2.1 dX4_mayOf_19 rfl (lv_at hl 0 rfl) ?_
      refine gX4_6 C hW rfl iX4_mayOf_c4 wX4_mayOf_1 dX4_mayOf_20 ?_
      refine lv_iload_n C.1 C.2.1 dX4_mayOf_23 rfl (lv_at hl 1 rfl) ?_
      obtain ⟨hi24, h⟩ := ck_s h
      refine la9 C hW ⟨rfl, rfl⟩ hi24 dX4_mayOf_24 ?_
      refine lv_aload_n C.1 C.2.1 dX4_mayOf_25 rfl (lv_at hl 0 rfl) ?_
      refine gX4_7 C hW rfl iX4_mayOf_c4 wX4_mayOf_2 dX4_mayOf_26 ?_
      refine lv_iload_n C.1 C.2.1 dX4_mayOf_29 rfl (lv_at hl 1 rfl) ?_
      obtain ⟨hi30, h⟩ := ck_s h
      refine la9 C hW ⟨rfl, rfl⟩ hi30 dX4_mayOf_30 ?_
      obtain ⟨r31, hc31, h⟩ := bi_s h
      refine cVi C hW (As := [.int (B14 61 v1.toNatClampNeg), .int (B14 62 v1.toNatClampNeg)]) (rest := [.int v2]) (mt_X4_mayThought  hc31) (cwV 2 C.2.2.2.2.2.1 gX4_mayOf_X4_mayThought rfl rfl rfl (by decide +kernel) ⟨Nat.le_of_ble_eq_true rfl, Nat.le_of_ble_eq_true rfl⟩) (rcv4 C hW (rfl : kd 58 = 4)) rfl hl.1 rfl (Nat.le_of_ble_eq_true rfl) dX4_mayOf_31 (Nat.zero_le _) (Nat.zero_le _) (fun H locs hW => ?_)
      refine lv_if_eq (tgt := 43) C.1 C.2.1 dX4_mayOf_34 (by decide) (fun c_34 => ?_) (fun c_34 => ?_)
      · have h := if_y h c_34
        refine lv_iconst (v := 0) C.1 C.2.1 dX4_mayOf_43 (by decide) ?_
        exact tX4_mayOf_44 C ih h  hW (lv_sub hl [0, 1, 3] rfl)
      · have h := if_n h c_34
        refine lv_iconst (v := 1) C.1 C.2.1 dX4_mayOf_37 (by decide) ?_
        refine lv_iload_n C.1 C.2.1 dX4_mayOf_38 rfl (lv_at hl 3 rfl) ?_
        refine lv_ishl C.1 C.2.1 dX4_mayOf_39 ?_
        refine lv_goto (tgt := 44) C.1 C.2.1 dX4_mayOf_40 (by decide) ?_
        exact tX4_mayOf_44 C ih h  hW (lv_sub hl [0, 1, 3] rfl)
def fX4_mayOf  (B : Me)  (v1 : Int32) : Option (Int32 × Me) := fX4_mayOf_4 FU B v1 0 0
set_option maxRecDepth 100000 in
theorem tX4_mayOf_0 {A B : Me}  {H : Heap} {locs : List Loc} {ls : Array Slot} {v1 : Int32} {rZ : Int32} {BZ : Me}  (C : Cx Γ p s m args meth c cX4_mayOf 4 (some .int) RX4 wsX4_mayOf)  (h : fX4_mayOf B v1 = some (rZ, BZ))  (hW : Wd Γ A B s.heap H locs) (hl : lv_has ls 4 [(0, .ref (Γ.2.2 58)), (1, .int v1)]) : W p l e rmX4_mayOf s m args below meth c H locs 0 0 (MQ below (QI Γ A BZ rZ) args s 0 0 (rg Γ)) (F0 m 0 ls []) := by
  unfold fX4_mayOf at h
  refine lv_iconst (v := 0) C.1 C.2.1 dX4_mayOf_0 (by decide) ?_
  refine lv_istore_n (lv' := [(2, .int 0), (0, .ref (Γ.2.2 58)), (1, .int v1)]) C.1 C.2.1 dX4_mayOf_1 rfl hl (by decide) rfl (fun ls hl => ?_)
  refine lv_iconst (v := 0) C.1 C.2.1 dX4_mayOf_2 (by decide) ?_
  refine lv_istore_n (lv' := [(3, .int 0), (2, .int 0), (0, .ref (Γ.2.2 58)), (1, .int v1)]) C.1 C.2.1 dX4_mayOf_3 rfl hl (by decide) rfl (fun ls hl => ?_)
  exact tX4_mayOf_4 C  FU _ _ _ _ _ _ _ h  hW (lv_sub hl [2, 3, 1, 0] rfl)
theorem mt_X4_mayOf {l : Launch} {Γ : Gm} {A B : Me}  {v1 : Int32} {rZ : Int32} {BZ : Me}  (h : fX4_mayOf B v1 = some (rZ, BZ)) : Met l yX4_mayOf wsX4_mayOf rmX4_mayOf (PC Γ A B [.ref (Γ.2.2 58), .int v1]) (QI Γ A BZ rZ) 0 0 (rg Γ) :=
  met_of (by decide) rfl (Nat.le_of_ble_eq_true rfl) (fun p e s m below meth c ls C hW hl => tX4_mayOf_0 C  h  hW (lv_sub (l := [(0, .ref (Γ.2.2 58)), (1, .int v1)]) hl [0, 1] rfl))
abbrev rmX4_personNow : Room := { frames := 4, cells := 0, slots := 0, locals := 93 }
set_option maxRecDepth 100000 in
theorem iX4_personNow_c4 : ∀ w ∈ wsX40, w ∈ wsX4_personNow := by decide +kernel
set_option maxRecDepth 100000 in
theorem wX4_personNow_0 : Cond.fieldLink RX4 22 "WineByYearsModel" "illOf" "[I" ∈ wsX4_personNow := by decide +kernel
set_option maxRecDepth 100000 in
theorem wX4_personNow_1 : Cond.fieldLink RX4 19 "WineByYearsModel" "bornOf" "[I" ∈ wsX4_personNow := by decide +kernel
set_option maxRecDepth 100000 in
theorem wX4_personNow_2 : Cond.fieldLink RX4 16 "WineByYearsModel" "kindOf" "[I" ∈ wsX4_personNow := by decide +kernel
def fX4_personNow_46  (B : Me)  (t0 : Int32) : Option (Int32 × Me) := some (t0, B)
set_option maxRecDepth 100000 in
theorem tX4_personNow_46 {A B : Me}  {H : Heap} {locs : List Loc} {ls : Array Slot} {t0 : Int32} {rZ : Int32} {BZ : Me}  (C : Cx Γ p s m args meth c cX4_personNow 3 (some .int) RX4 wsX4_personNow)  (h : fX4_personNow_46 B t0 = some (rZ, BZ))  (hW : Wd Γ A B s.heap H locs) (hl : lv_has ls 3 []) : W p l e rmX4_personNow s m args below meth c H locs 0 0 (MQ below (QI Γ A BZ rZ) args s 0 0 (rg Γ)) (F0 m 46 ls [.int t0]) := by
  unfold fX4_personNow_46 at h
  cases h
  exact z_iret C hW dX4_personNow_46
def fX4_personNow  (B : Me)  (v1 : Int32) (v2 : Int32) : Option (Int32 × Me) := if v2 = 0 then (ck (inb v1 5) <| fX4_personNow_46 B (B 61 v1.toNatClampNeg)) else (if v2 = 1 then (ck (inb v1 5) <| fX4_personNow_46 B (B 62 v1.toNatClampNeg)) else (if v2 = 2 then (b2 (fX4_mayOf B v1) fun r34 B34 => fX4_personNow_46 B34 r34) else (ck (inb v1 5) <| fX4_personNow_46 B (B 63 v1.toNatClampNeg))))
set_option maxRecDepth 100000 in
theorem tX4_personNow_0 {A B : Me}  {H : Heap} {locs : List Loc} {ls : Array Slot} {v1 : Int32} {v2 : Int32} {rZ : Int32} {BZ : Me}  (C : Cx Γ p s m args meth c cX4_personNow 3 (some .int) RX4 wsX4_personNow)  (h : fX4_personNow B v1 v2 = some (rZ, BZ))  (hW : Wd Γ A B s.heap H locs) (hl : lv_has ls 3 [(0, .ref (Γ.2.2 58)), (1, .int v1), (2, .int v2)]) : W p l e rmX4_personNow s m args below meth c H locs 0 0 (MQ below (QI Γ A BZ rZ) args s 0 0 (rg Γ)) (F0 m 0 ls []) := by
  unfold fX4_personNow at h
  refine lv_iload_n C.1 C.2.1 dX4_personNow_0 rfl (lv_at hl 2 rfl) ?_
  refine lv_if_ne (tgt := 13) C.1 C.2.1 dX4_personNow_1 (by decide) (fun c_1 => ?_) (fun c_1 => ?_)
  · have h := if_n h c_1
    refine lv_iload_n C.1 C.2.1 dX4_personNow_13 rfl (lv_at hl 2 rfl) ?_
    refine lv_iconst (v := 1) C.1 C.2.1 dX4_personNow_14 (by decide) ?_
    refine lv_icmp_ne (tgt := 27) C.1 C.2.1 dX4_personNow_15 (by decide) (fun c_15 => ?_) (fun c_15 => ?_)
    · have h := if_n h c_15
      refine lv_iload_n C.1 C.2.1 dX4_personNow_27 rfl (lv_at hl 2 rfl) ?_
      refine lv_iconst (v := 2) C.1 C.2.1 dX4_personNow_28 (by decide) ?_
      refine lv_icmp_ne (tgt := 40) C.1 C.2.1 dX4_personNow_29 (by decide) (fun c_29 => ?_) (fun c_29 => ?_)
      · have h := if_n h c_29
        refine lv_aload_n C.1 C.2.1 dX4_personNow_40 rfl (lv_at hl 0 rfl) ?_
        refine gX4_8 C hW rfl iX4_personNow_c4 wX4_personNow_0 dX4_personNow_41 ?_
        refine lv_iload_n C.1 C.2.1 dX4_personNow_44 rfl (lv_at hl 1 rfl) ?_
        obtain ⟨hi45, h⟩ := ck_s h
        refine la9 C hW ⟨rfl, rfl⟩ hi45 dX4_personNow_45 ?_
        exact tX4_personNow_46 C  h  hW (lv_sub hl [] rfl)
      · have h := if_y h c_29
        refine lv_aload_n C.1 C.2.1 dX4_personNow_32 rfl (lv_at hl 0 rfl) ?_
        refine lv_iload_n C.1 C.2.1 dX4_personNow_33 rfl (lv_at hl 1 rfl) ?_
        obtain ⟨r34, B34, hc34, h⟩ := b2_s h
        refine cVi C hW (As := [.int v1]) (rest := []) (mt_X4_mayOf  hc34) (cwV 1 C.2.2.2.2.2.1 gX4_personNow_X4_mayOf rfl rfl rfl (by decide +kernel) ⟨Nat.le_of_ble_eq_true rfl, Nat.le_of_ble_eq_true rfl⟩) (rcv4 C hW (rfl : kd 58 = 4)) rfl hl.1 rfl (Nat.le_of_ble_eq_true rfl) dX4_personNow_34 (Nat.zero_le _) (Nat.zero_le _) (fun H locs hW => ?_)
        refine lv_goto (tgt := 46) C.1 C.2.1 dX4_personNow_37 (by decide) ?_
        exact tX4_personNow_46 C  h  hW (lv_sub hl [] rfl)
    · have h := if_y h c_15
      refine lv_aload_n C.1 C.2.1 dX4_personNow_18 rfl (lv_at hl 0 rfl) ?_
      refine gX4_7 C hW rfl iX4_personNow_c4 wX4_personNow_1 dX4_personNow_19 ?_
      refine lv_iload_n C.1 C.2.1 dX4_personNow_22 rfl (lv_at hl 1 rfl) ?_
      obtain ⟨hi23, h⟩ := ck_s h
      refine la9 C hW ⟨rfl, rfl⟩ hi23 dX4_personNow_23 ?_
      refine lv_goto (tgt := 46) C.1 C.2.1 dX4_personNow_24 (by decide) ?_
      exact tX4_personNow_46 C  h  hW (lv_sub hl [] rfl)
  · have h := if_y h c_1
    refine lv_aload_n C.1 C.2.1 dX4_personNow_4 rfl (lv_at hl 0 rfl) ?_
    refine gX4_6 C hW rfl iX4_personNow_c4 wX4_personNow_2 dX4_personNow_5 ?_
    refine lv_iload_n C.1 C.2.1 dX4_personNow_8 rfl (lv_at hl 1 rfl) ?_
    obtain ⟨hi9, h⟩ := ck_s h
    refine la9 C hW ⟨rfl, rfl⟩ hi9 dX4_personNow_9 ?_
    refine lv_goto (tgt := 46) C.1 C.2.1 dX4_personNow_10 (by decide) ?_
    exact tX4_personNow_46 C  h  hW (lv_sub hl [] rfl)
theorem mt_X4_personNow {l : Launch} {Γ : Gm} {A B : Me}  {v1 : Int32} {v2 : Int32} {rZ : Int32} {BZ : Me}  (h : fX4_personNow B v1 v2 = some (rZ, BZ)) : Met l yX4_personNow wsX4_personNow rmX4_personNow (PC Γ A B [.ref (Γ.2.2 58), .int v1, .int v2]) (QI Γ A BZ rZ) 0 0 (rg Γ) :=
  met_of (by decide) rfl (Nat.le_of_ble_eq_true rfl) (fun p e s m below meth c ls C hW hl => tX4_personNow_0 C  h  hW (lv_sub (l := [(0, .ref (Γ.2.2 58)), (1, .int v1), (2, .int v2)]) hl [0, 1, 2] rfl))
abbrev rmX4_about : Room := { frames := 5, cells := 0, slots := 0, locals := 115 }
def fX4_about_33  (B : Me)  (t0 : Int32) : Option (Int32 × Me) := some (t0, B)
set_option maxRecDepth 100000 in
theorem tX4_about_33 {A B : Me}  {H : Heap} {locs : List Loc} {ls : Array Slot} {t0 : Int32} {rZ : Int32} {BZ : Me}  (C : Cx Γ p s m args meth c cX4_about 3 (some .int) RX4 wsX4_about)  (h : fX4_about_33 B t0 = some (rZ, BZ))  (hW : Wd Γ A B s.heap H locs) (hl : lv_has ls 3 []) : W p l e rmX4_about s m args below meth c H locs 0 0 (MQ below (QI Γ A BZ rZ) args s 0 0 (rg Γ)) (F0 m 33 ls [.int t0]) := by
  unfold fX4_about_33 at h
  cases h
  exact z_iret C hW dX4_about_33
def fX4_about  (B : Me)  (v1 : Int32) (v2 : Int32) : Option (Int32 × Me) := bi (fX4_isPerson B v1) fun r2 => if r2 = 0 then (fX4_about_33 B (-101)) else (bi (fX4_within v2 0 3) fun r16 => if r16 = 0 then (fX4_about_33 B (-102)) else (b2 (fX4_personNow B v1 v2) fun r25 B25 => fX4_about_33 B25 r25))
set_option maxRecDepth 100000 in
theorem tX4_about_0 {A B : Me}  {H : Heap} {locs : List Loc} {ls : Array Slot} {v1 : Int32} {v2 : Int32} {rZ : Int32} {BZ : Me}  (C : Cx Γ p s m args meth c cX4_about 3 (some .int) RX4 wsX4_about)  (h : fX4_about B v1 v2 = some (rZ, BZ))  (hW : Wd Γ A B s.heap H locs) (hl : lv_has ls 3 [(0, .ref (Γ.2.2 58)), (1, .int v1), (2, .int v2)]) : W p l e rmX4_about s m args below meth c H locs 0 0 (MQ below (QI Γ A BZ rZ) args s 0 0 (rg Γ)) (F0 m 0 ls []) := by
  unfold fX4_about at h
  refine lv_aload_n C.1 C.2.1 dX4_about_0 rfl (lv_at hl 0 rfl) ?_
  refine lv_iload_n C.1 C.2.1 dX4_about_1 rfl (lv_at hl 1 rfl) ?_
  obtain ⟨r2, hc2, h⟩ := bi_s h
  refine cVi C hW (As := [.int v1]) (rest := []) (mt_X4_isPerson  hc2) (cwV 1 C.2.2.2.2.2.1 gX4_about_X4_isPerson rfl rfl rfl (by decide +kernel) ⟨Nat.le_of_ble_eq_true rfl, Nat.le_of_ble_eq_true rfl⟩) (rcv4 C hW (rfl : kd 58 = 4)) rfl hl.1 rfl (Nat.le_of_ble_eq_true rfl) dX4_about_2 (Nat.zero_le _) (Nat.zero_le _) (fun H locs hW => ?_)
  refine lv_if_ne (tgt := 13) C.1 C.2.1 dX4_about_5 (by decide) (fun c_5 => ?_) (fun c_5 => ?_)
  · have h := if_n h c_5
    refine lv_iload_n C.1 C.2.1 dX4_about_13 rfl (lv_at hl 2 rfl) ?_
    refine lv_iconst (v := 0) C.1 C.2.1 dX4_about_14 (by decide) ?_
    refine lv_iconst (v := 3) C.1 C.2.1 dX4_about_15 (by decide) ?_
    obtain ⟨r16, hc16, h⟩ := bi_s h
    refine cSi C hW (As := [.int v2, .int 0, .int 3]) (rest := []) (mt_X4_within  hc16) (va_cwS 3 C.2.2.2.2.2.1 gX4_about_X4_within rfl rfl rfl (by decide +kernel) ⟨Nat.le_of_ble_eq_true rfl, Nat.le_of_ble_eq_true rfl⟩) rfl hl.1 rfl (Nat.le_of_ble_eq_true rfl) dX4_about_16 (Nat.zero_le _) (Nat.zero_le _) (fun H locs hW => ?_)
    refine lv_if_eq (tgt := 31) C.1 C.2.1 dX4_about_19 (by decide) (fun c_19 => ?_) (fun c_19 => ?_)
    · have h := if_y h c_19
      refine lv_bipush (v := (-102)) C.1 C.2.1 dX4_about_31 (by decide) ?_
      exact tX4_about_33 C  h  hW (lv_sub hl [] rfl)
    · have h := if_n h c_19
      refine lv_aload_n C.1 C.2.1 dX4_about_22 rfl (lv_at hl 0 rfl) ?_
      refine lv_iload_n C.1 C.2.1 dX4_about_23 rfl (lv_at hl 1 rfl) ?_
      refine lv_iload_n C.1 C.2.1 dX4_about_24 rfl (lv_at hl 2 rfl) ?_
      obtain ⟨r25, B25, hc25, h⟩ := b2_s h
      refine cVi C hW (As := [.int v1, .int v2]) (rest := []) (mt_X4_personNow  hc25) (cwV 2 C.2.2.2.2.2.1 gX4_about_X4_personNow rfl rfl rfl (by decide +kernel) ⟨Nat.le_of_ble_eq_true rfl, Nat.le_of_ble_eq_true rfl⟩) (rcv4 C hW (rfl : kd 58 = 4)) rfl hl.1 rfl (Nat.le_of_ble_eq_true rfl) dX4_about_25 (Nat.zero_le _) (Nat.zero_le _) (fun H locs hW => ?_)
      refine lv_goto (tgt := 33) C.1 C.2.1 dX4_about_28 (by decide) ?_
      exact tX4_about_33 C  h  hW (lv_sub hl [] rfl)
  · have h := if_y h c_5
    refine lv_bipush (v := (-101)) C.1 C.2.1 dX4_about_8 (by decide) ?_
    refine lv_goto (tgt := 33) C.1 C.2.1 dX4_about_10 (by decide) ?_
    exact tX4_about_33 C  h  hW (lv_sub hl [] rfl)
theorem mt_X4_about {l : Launch} {Γ : Gm} {A B : Me}  {v1 : Int32} {v2 : Int32} {rZ : Int32} {BZ : Me}  (h : fX4_about B v1 v2 = some (rZ, BZ)) : Met l yX4_about wsX4_about rmX4_about (PC Γ A B [.ref (Γ.2.2 58), .int v1, .int v2]) (QI Γ A BZ rZ) 0 0 (rg Γ) :=
  met_of (by decide) rfl (Nat.le_of_ble_eq_true rfl) (fun p e s m below meth c ls C hW hl => tX4_about_0 C  h  hW (lv_sub (l := [(0, .ref (Γ.2.2 58)), (1, .int v1), (2, .int v2)]) hl [0, 1, 2] rfl))
abbrev rmX4_as : Room := { frames := 2, cells := 0, slots := 0, locals := 43 }
set_option maxRecDepth 100000 in
theorem iX4_as_c4 : ∀ w ∈ wsX40, w ∈ wsX4_as := by decide +kernel
set_option maxRecDepth 100000 in
theorem wX4_as_0 : Cond.fieldLink RX4 16 "WineByYearsModel" "kindOf" "[I" ∈ wsX4_as := by decide +kernel
def fX4_as_54  (B : Me)  (t0 : Int32) : Option (Int32) := some t0
set_option maxRecDepth 100000 in
theorem tX4_as_54 {A B : Me}  {H : Heap} {locs : List Loc} {ls : Array Slot} {t0 : Int32} {rZ : Int32}  (C : Cx Γ p s m args meth c cX4_as 4 (some .int) RX4 wsX4_as)  (h : fX4_as_54 B t0 = some rZ)  (hW : Wd Γ A B s.heap H locs) (hl : lv_has ls 4 []) : W p l e rmX4_as s m args below meth c H locs 0 0 (MQ below (QI Γ A B rZ) args s 0 0 (rg Γ)) (F0 m 54 ls [.int t0]) := by
  unfold fX4_as_54 at h
  cases h
  exact z_iret C hW dX4_as_54
def fX4_as_49  (B : Me)  (v1 : Int32) : Option (Int32) := fX4_as_54 B v1
set_option maxRecDepth 100000 in
theorem tX4_as_49 {A B : Me}  {H : Heap} {locs : List Loc} {ls : Array Slot} {v1 : Int32} {rZ : Int32}  (C : Cx Γ p s m args meth c cX4_as 4 (some .int) RX4 wsX4_as)  (h : fX4_as_49 B v1 = some rZ)  (hW : Wd Γ A B s.heap H locs) (hl : lv_has ls 4 [(1, .int v1)]) : W p l e rmX4_as s m args below meth c H locs 0 0 (MQ below (QI Γ A B rZ) args s 0 0 (rg Γ)) (F0 m 49 ls []) := by
  unfold fX4_as_49 at h
  refine lv_iload_n C.1 C.2.1 dX4_as_49 rfl (lv_at hl 0 rfl) ?_
  refine lv_goto (tgt := 54) C.1 C.2.1 dX4_as_50 (by decide) ?_
  exact tX4_as_54 C  h  hW (lv_sub hl [] rfl)
def fX4_as_53  (B : Me)   : Option (Int32) := fX4_as_54 B (-1)
set_option maxRecDepth 100000 in
theorem tX4_as_53 {A B : Me}  {H : Heap} {locs : List Loc} {ls : Array Slot}  {rZ : Int32}  (C : Cx Γ p s m args meth c cX4_as 4 (some .int) RX4 wsX4_as)  (h : fX4_as_53 B = some rZ)  (hW : Wd Γ A B s.heap H locs) (hl : lv_has ls 4 []) : W p l e rmX4_as s m args below meth c H locs 0 0 (MQ below (QI Γ A B rZ) args s 0 0 (rg Γ)) (F0 m 53 ls []) := by
  unfold fX4_as_53 at h
  refine lv_iconst (v := (-1)) C.1 C.2.1 dX4_as_53 (by decide) ?_
  exact tX4_as_54 C  h  hW (lv_sub hl [] rfl)
def fX4_as  (B : Me)  (v1 : Int32) (v2 : Int32) : Option (Int32) := bi (fX4_isPerson B v1) fun r2 => if r2 = 0 then (some (-101)) else (bi (fX4_within v2 0 4) fun r14 => if r14 = 0 then (some (-102)) else (ck (inb v1 5) <| if v2 = 0 then (fX4_as_49 B v1) else (if (B 61 v1.toNatClampNeg) = v2 then (fX4_as_49 B v1) else (if v2 = 1 then (if (B 61 v1.toNatClampNeg) = 4 then (fX4_as_49 B v1) else (fX4_as_53 B)) else (fX4_as_53 B)))))
set_option maxRecDepth 100000 in
theorem tX4_as_0 {A B : Me}  {H : Heap} {locs : List Loc} {ls : Array Slot} {v1 : Int32} {v2 : Int32} {rZ : Int32}  (C : Cx Γ p s m args meth c cX4_as 4 (some .int) RX4 wsX4_as)  (h : fX4_as B v1 v2 = some rZ)  (hW : Wd Γ A B s.heap H locs) (hl : lv_has ls 4 [(0, .ref (Γ.2.2 58)), (1, .int v1), (2, .int v2)]) : W p l e rmX4_as s m args below meth c H locs 0 0 (MQ below (QI Γ A B rZ) args s 0 0 (rg Γ)) (F0 m 0 ls []) := by
  unfold fX4_as at h
  refine lv_aload_n C.1 C.2.1 dX4_as_0 rfl (lv_at hl 0 rfl) ?_
  refine lv_iload_n C.1 C.2.1 dX4_as_1 rfl (lv_at hl 1 rfl) ?_
  obtain ⟨r2, hc2, h⟩ := bi_s h
  refine cVi C hW (As := [.int v1]) (rest := []) (mt_X4_isPerson  hc2) (cwV 1 C.2.2.2.2.2.1 gX4_as_X4_isPerson rfl rfl rfl (by decide +kernel) ⟨Nat.le_of_ble_eq_true rfl, Nat.le_of_ble_eq_true rfl⟩) (rcv4 C hW (rfl : kd 58 = 4)) rfl hl.1 rfl (Nat.le_of_ble_eq_true rfl) dX4_as_2 (Nat.zero_le _) (Nat.zero_le _) (fun H locs hW => ?_)
  refine lv_if_ne (tgt := 11) C.1 C.2.1 dX4_as_5 (by decide) (fun c_5 => ?_) (fun c_5 => ?_)
  · have h := if_n h c_5
    refine lv_iload_n C.1 C.2.1 dX4_as_11 rfl (lv_at hl 2 rfl) ?_
    refine lv_iconst (v := 0) C.1 C.2.1 dX4_as_12 (by decide) ?_
    refine lv_iconst (v := 4) C.1 C.2.1 dX4_as_13 (by decide) ?_
    obtain ⟨r14, hc14, h⟩ := bi_s h
    refine cSi C hW (As := [.int v2, .int 0, .int 4]) (rest := []) (mt_X4_within  hc14) (va_cwS 3 C.2.2.2.2.2.1 gX4_as_X4_within rfl rfl rfl (by decide +kernel) ⟨Nat.le_of_ble_eq_true rfl, Nat.le_of_ble_eq_true rfl⟩) rfl hl.1 rfl (Nat.le_of_ble_eq_true rfl) dX4_as_14 (Nat.zero_le _) (Nat.zero_le _) (fun H locs hW => ?_)
    refine lv_if_ne (tgt := 23) C.1 C.2.1 dX4_as_17 (by decide) (fun c_17 => ?_) (fun c_17 => ?_)
    · have h := if_n h c_17
      refine lv_aload_n C.1 C.2.1 dX4_as_23 rfl (lv_at hl 0 rfl) ?_
      refine gX4_6 C hW rfl iX4_as_c4 wX4_as_0 dX4_as_24 ?_
      refine lv_iload_n C.1 C.2.1 dX4_as_27 rfl (lv_at hl 1 rfl) ?_
      obtain ⟨hi28, h⟩ := ck_s h
      refine la9 C hW ⟨rfl, rfl⟩ hi28 dX4_as_28 ?_
      refine lv_istore_n (lv' := [(3, .int (B 61 v1.toNatClampNeg)), (0, .ref (Γ.2.2 58)), (1, .int v1), (2, .int v2)]) C.1 C.2.1 dX4_as_29 rfl hl (by decide) rfl (fun ls hl => ?_)
      refine lv_iload_n C.1 C.2.1 dX4_as_30 rfl (lv_at hl 3 rfl) ?_
      refine lv_if_eq (tgt := 49) C.1 C.2.1 dX4_as_31 (by decide) (fun c_31 => ?_) (fun c_31 => ?_)
      · have h := if_y h c_31
        exact tX4_as_49 C  h  hW (lv_sub hl [2] rfl)
      · have h := if_n h c_31
        refine lv_iload_n C.1 C.2.1 dX4_as_34 rfl (lv_at hl 0 rfl) ?_
        refine lv_iload_n C.1 C.2.1 dX4_as_35 rfl (lv_at hl 3 rfl) ?_
        refine lv_icmp_eq (tgt := 49) C.1 C.2.1 dX4_as_36 (by decide) (fun c_36 => ?_) (fun c_36 => ?_)
        · have h := if_y h c_36
          exact tX4_as_49 C  h  hW (lv_sub hl [2] rfl)
        · have h := if_n h c_36
          refine lv_iload_n C.1 C.2.1 dX4_as_39 rfl (lv_at hl 3 rfl) ?_
          refine lv_iconst (v := 1) C.1 C.2.1 dX4_as_40 (by decide) ?_
          refine lv_icmp_ne (tgt := 53) C.1 C.2.1 dX4_as_41 (by decide) (fun c_41 => ?_) (fun c_41 => ?_)
          · have h := if_n h c_41
            exact tX4_as_53 C  h  hW (lv_sub hl [] rfl)
          · have h := if_y h c_41
            refine lv_iload_n C.1 C.2.1 dX4_as_44 rfl (lv_at hl 0 rfl) ?_
            refine lv_iconst (v := 4) C.1 C.2.1 dX4_as_45 (by decide) ?_
            refine lv_icmp_ne (tgt := 53) C.1 C.2.1 dX4_as_46 (by decide) (fun c_46 => ?_) (fun c_46 => ?_)
            · have h := if_n h c_46
              exact tX4_as_53 C  h  hW (lv_sub hl [] rfl)
            · have h := if_y h c_46
              exact tX4_as_49 C  h  hW (lv_sub hl [2] rfl)
    · have h := if_y h c_17
      refine lv_bipush (v := (-102)) C.1 C.2.1 dX4_as_20 (by decide) ?_
      cases h
      exact z_iret C hW dX4_as_22
  · have h := if_y h c_5
    refine lv_bipush (v := (-101)) C.1 C.2.1 dX4_as_8 (by decide) ?_
    cases h
    exact z_iret C hW dX4_as_10
theorem mt_X4_as {l : Launch} {Γ : Gm} {A B : Me}  {v1 : Int32} {v2 : Int32} {rZ : Int32}  (h : fX4_as B v1 v2 = some rZ) : Met l yX4_as wsX4_as rmX4_as (PC Γ A B [.ref (Γ.2.2 58), .int v1, .int v2]) (QI Γ A B rZ) 0 0 (rg Γ) :=
  met_of (by decide) rfl (Nat.le_of_ble_eq_true rfl) (fun p e s m below meth c ls C hW hl => tX4_as_0 C  h  hW (lv_sub (l := [(0, .ref (Γ.2.2 58)), (1, .int v1), (2, .int v2)]) hl [0, 1, 2] rfl))
abbrev rmX4_latestIn : Room := { frames := 2, cells := 0, slots := 0, locals := 43 }
def fX4_latestIn  (B : Me)  (v1 : Int32) : Option (Int32 × Me) := bi (fX4_think B v1) fun B2 => bi (fX4_latestThought B2) fun r6 => some (r6, B2)
set_option maxRecDepth 100000 in
theorem tX4_latestIn_0 {A B : Me}  {H : Heap} {locs : List Loc} {ls : Array Slot} {v1 : Int32} {rZ : Int32} {BZ : Me}  (C : Cx Γ p s m args meth c cX4_latestIn 2 (some .int) RX4 wsX4_latestIn)  (h : fX4_latestIn B v1 = some (rZ, BZ))  (hW : Wd Γ A B s.heap H locs) (hl : lv_has ls 2 [(0, .ref (Γ.2.2 58)), (1, .int v1)]) : W p l e rmX4_latestIn s m args below meth c H locs 0 0 (MQ below (QI Γ A BZ rZ) args s 0 0 (rg Γ)) (F0 m 0 ls []) := by
  unfold fX4_latestIn at h
  refine lv_aload_n C.1 C.2.1 dX4_latestIn_0 rfl (lv_at hl 0 rfl) ?_
  refine lv_iload_n C.1 C.2.1 dX4_latestIn_1 rfl (lv_at hl 1 rfl) ?_
  obtain ⟨B2, hc2, h⟩ := bi_s h
  refine cVv C hW (As := [.int v1]) (rest := []) (mt_X4_think  hc2) (cwV 1 C.2.2.2.2.2.1 gX4_latestIn_X4_think rfl rfl rfl (by decide +kernel) ⟨Nat.le_of_ble_eq_true rfl, Nat.le_of_ble_eq_true rfl⟩) (rcv4 C hW (rfl : kd 58 = 4)) rfl hl.1 rfl (Nat.le_of_ble_eq_true rfl) dX4_latestIn_2 (Nat.zero_le _) (Nat.zero_le _) (fun H locs hW => ?_)
  refine lv_aload_n C.1 C.2.1 dX4_latestIn_5 rfl (lv_at hl 0 rfl) ?_
  obtain ⟨r6, hc6, h⟩ := bi_s h
  refine cVi C hW (As := []) (rest := []) (mt_X4_latestThought  hc6) (cwV 0 C.2.2.2.2.2.1 gX4_latestIn_X4_latestThought rfl rfl rfl (by decide +kernel) ⟨Nat.le_of_ble_eq_true rfl, Nat.le_of_ble_eq_true rfl⟩) (rcv4 C hW (rfl : kd 58 = 4)) rfl hl.1 rfl (Nat.le_of_ble_eq_true rfl) dX4_latestIn_6 (Nat.zero_le _) (Nat.zero_le _) (fun H locs hW => ?_)
  cases h
  exact z_iret C hW dX4_latestIn_9
theorem mt_X4_latestIn {l : Launch} {Γ : Gm} {A B : Me}  {v1 : Int32} {rZ : Int32} {BZ : Me}  (h : fX4_latestIn B v1 = some (rZ, BZ)) : Met l yX4_latestIn wsX4_latestIn rmX4_latestIn (PC Γ A B [.ref (Γ.2.2 58), .int v1]) (QI Γ A BZ rZ) 0 0 (rg Γ) :=
  met_of (by decide) rfl (Nat.le_of_ble_eq_true rfl) (fun p e s m below meth c ls C hW hl => tX4_latestIn_0 C  h  hW (lv_sub (l := [(0, .ref (Γ.2.2 58)), (1, .int v1)]) hl [0, 1] rfl))
abbrev rmX4_drink : Room := { frames := 3, cells := 0, slots := 0, locals := 70 }
set_option maxRecDepth 100000 in
theorem iX4_drink_c4 : ∀ w ∈ wsX40, w ∈ wsX4_drink := by decide +kernel
set_option maxRecDepth 100000 in
theorem wX4_drink_0 : Cond.fieldLink RX4 16 "WineByYearsModel" "kindOf" "[I" ∈ wsX4_drink := by decide +kernel
set_option maxRecDepth 100000 in
theorem wX4_drink_1 : Cond.fieldLink RX4 19 "WineByYearsModel" "bornOf" "[I" ∈ wsX4_drink := by decide +kernel
set_option maxRecDepth 100000 in
theorem wX4_drink_2 : Cond.fieldLink RX4 7 "WineByYearsModel" "litresOf" "[I" ∈ wsX4_drink := by decide +kernel
set_option maxRecDepth 100000 in
theorem wX4_drink_3 : Cond.fieldLink RX4 22 "WineByYearsModel" "illOf" "[I" ∈ wsX4_drink := by decide +kernel
def fX4_drink_16  (B : Me)   : Option (Int32 × Me) := some ((-101), B)
set_option maxRecDepth 100000 in
theorem tX4_drink_16 {A B : Me}  {H : Heap} {locs : List Loc} {ls : Array Slot}  {rZ : Int32} {BZ : Me}  (C : Cx Γ p s m args meth c cX4_drink 5 (some .int) RX4 wsX4_drink)  (h : fX4_drink_16 B = some (rZ, BZ))  (hW : Wd Γ A B s.heap H locs) (hl : lv_has ls 5 []) : W p l e rmX4_drink s m args below meth c H locs 0 0 (MQ below (QI Γ A BZ rZ) args s 0 0 (rg Γ)) (F0 m 16 ls []) := by
  unfold fX4_drink_16 at h
  refine lv_bipush (v := (-101)) C.1 C.2.1 dX4_drink_16 (by decide) ?_
  cases h
  exact z_iret C hW dX4_drink_18
def fX4_drink_57  (B : Me)  (v1 : Int32) (v2 : Int32) (v3 : Int32) (t0 : Int32) : Option (Int32 × Me) := ck (inb ((10 * v2) + v3) 50) <| ck (inb ((10 * v2) + v3) 50) <| ck (inb v1 5) <| ck (inb v1 5) <| some (t0, (up2 (up2 B 59 ((10 * v2) + v3).toNatClampNeg ((B 59 ((10 * v2) + v3).toNatClampNeg) - 1)) 63 v1.toNatClampNeg (((up2 B 59 ((10 * v2) + v3).toNatClampNeg ((B 59 ((10 * v2) + v3).toNatClampNeg) - 1)) 63 v1.toNatClampNeg) + t0)))
set_option maxRecDepth 100000 in
theorem tX4_drink_57 {A B : Me}  {H : Heap} {locs : List Loc} {ls : Array Slot} {v1 : Int32} {v2 : Int32} {v3 : Int32} {t0 : Int32} {rZ : Int32} {BZ : Me}  (C : Cx Γ p s m args meth c cX4_drink 5 (some .int) RX4 wsX4_drink)  (h : fX4_drink_57 B v1 v2 v3 t0 = some (rZ, BZ))  (hW : Wd Γ A B s.heap H locs) (hl : lv_has ls 5 [(0, .ref (Γ.2.2 58)), (1, .int v1), (2, .int v2), (3, .int v3)]) : W p l e rmX4_drink s m args below meth c H locs 0 0 (MQ below (QI Γ A BZ rZ) args s 0 0 (rg Γ)) (F0 m 57 ls [.int t0]) := by
  unfold fX4_drink_57 at h
  refine lv_istore (lv' := [(4, .int t0), (0, .ref (Γ.2.2 58)), (1, .int v1), (2, .int v2), (3, .int v3)]) C.1 C.2.1 dX4_drink_57 hl (by decide) rfl (fun ls hl => ?_)
  refine lv_aload_n C.1 C.2.1 dX4_drink_59 rfl (lv_at hl 1 rfl) ?_
  refine gX4_3 C hW rfl iX4_drink_c4 wX4_drink_2 dX4_drink_60 ?_
  refine lv_bipush (v := 10) C.1 C.2.1 dX4_drink_63 (by decide) ?_
  refine lv_iload_n C.1 C.2.1 dX4_drink_65 rfl (lv_at hl 3 rfl) ?_
  refine lv_imul C.1 C.2.1 dX4_drink_66 ?_
  refine lv_iload_n C.1 C.2.1 dX4_drink_67 rfl (lv_at hl 4 rfl) ?_
  refine lv_iadd C.1 C.2.1 dX4_drink_68 ?_
  refine lv_dup2_11 C.1 C.2.1 dX4_drink_69 rfl rfl ?_
  obtain ⟨hi70, h⟩ := ck_s h
  refine la9 C hW ⟨rfl, rfl⟩ hi70 dX4_drink_70 ?_
  refine lv_iconst (v := 1) C.1 C.2.1 dX4_drink_71 (by decide) ?_
  refine lv_isub C.1 C.2.1 dX4_drink_72 ?_
  obtain ⟨hi73, h⟩ := ck_s h
  refine sa9 C hW ⟨rfl, rfl⟩ hi73 dX4_drink_73 (fun H locs hW => ?_)
  refine lv_aload_n C.1 C.2.1 dX4_drink_74 rfl (lv_at hl 1 rfl) ?_
  refine gX4_8 C hW rfl iX4_drink_c4 wX4_drink_3 dX4_drink_75 ?_
  refine lv_iload_n C.1 C.2.1 dX4_drink_78 rfl (lv_at hl 2 rfl) ?_
  refine lv_dup2_11 C.1 C.2.1 dX4_drink_79 rfl rfl ?_
  obtain ⟨hi80, h⟩ := ck_s h
  refine la9 C hW ⟨rfl, rfl⟩ hi80 dX4_drink_80 ?_
  refine lv_iload C.1 C.2.1 dX4_drink_81 (lv_at hl 0 rfl) ?_
  refine lv_iadd C.1 C.2.1 dX4_drink_83 ?_
  obtain ⟨hi84, h⟩ := ck_s h
  refine sa9 C hW ⟨rfl, rfl⟩ hi84 dX4_drink_84 (fun H locs hW => ?_)
  refine lv_iload C.1 C.2.1 dX4_drink_85 (lv_at hl 0 rfl) ?_
  cases h
  exact z_iret C hW dX4_drink_87
def fX4_drink  (B : Me)  (v1 : Int32) (v2 : Int32) : Option (Int32 × Me) := bi (fX4_isPerson B v1) fun r2 => if r2 = 0 then (fX4_drink_16 B) else (bi (fX4_isCask B v2) fun r10 => if r10 = 0 then (fX4_drink_16 B) else (b2 (fX4_latestIn B v2) fun r21 B21 => if r21 = (-1) then (some ((-103), B21)) else (ck (inb v1 5) <| ck (inb v1 5) <| bi (fX4_mayThought B21 (B21 61 v1.toNatClampNeg) (B21 62 v1.toNatClampNeg)) fun r46 => if r46 = 0 then (fX4_drink_57 B21 v1 v2 r21 1) else (fX4_drink_57 B21 v1 v2 r21 0))))
set_option maxRecDepth 100000 in
theorem tX4_drink_0 {A B : Me}  {H : Heap} {locs : List Loc} {ls : Array Slot} {v1 : Int32} {v2 : Int32} {rZ : Int32} {BZ : Me}  (C : Cx Γ p s m args meth c cX4_drink 5 (some .int) RX4 wsX4_drink)  (h : fX4_drink B v1 v2 = some (rZ, BZ))  (hW : Wd Γ A B s.heap H locs) (hl : lv_has ls 5 [(0, .ref (Γ.2.2 58)), (1, .int v1), (2, .int v2)]) : W p l e rmX4_drink s m args below meth c H locs 0 0 (MQ below (QI Γ A BZ rZ) args s 0 0 (rg Γ)) (F0 m 0 ls []) := by
  unfold fX4_drink at h
  refine lv_aload_n C.1 C.2.1 dX4_drink_0 rfl (lv_at hl 0 rfl) ?_
  refine lv_iload_n C.1 C.2.1 dX4_drink_1 rfl (lv_at hl 1 rfl) ?_
  obtain ⟨r2, hc2, h⟩ := bi_s h
  refine cVi C hW (As := [.int v1]) (rest := []) (mt_X4_isPerson  hc2) (cwV 1 C.2.2.2.2.2.1 gX4_drink_X4_isPerson rfl rfl rfl (by decide +kernel) ⟨Nat.le_of_ble_eq_true rfl, Nat.le_of_ble_eq_true rfl⟩) (rcv4 C hW (rfl : kd 58 = 4)) rfl hl.1 rfl (Nat.le_of_ble_eq_true rfl) dX4_drink_2 (Nat.zero_le _) (Nat.zero_le _) (fun H locs hW => ?_)
  refine lv_if_eq (tgt := 16) C.1 C.2.1 dX4_drink_5 (by decide) (fun c_5 => ?_) (fun c_5 => ?_)
  · have h := if_y h c_5
    exact tX4_drink_16 C  h  hW (lv_sub hl [] rfl)
  · have h := if_n h c_5
    refine lv_aload_n C.1 C.2.1 dX4_drink_8 rfl (lv_at hl 0 rfl) ?_
    refine lv_iload_n C.1 C.2.1 dX4_drink_9 rfl (lv_at hl 2 rfl) ?_
    obtain ⟨r10, hc10, h⟩ := bi_s h
    refine cVi C hW (As := [.int v2]) (rest := []) (mt_X4_isCask  hc10) (cwV 1 C.2.2.2.2.2.1 gX4_drink_X4_isCask rfl rfl rfl (by decide +kernel) ⟨Nat.le_of_ble_eq_true rfl, Nat.le_of_ble_eq_true rfl⟩) (rcv4 C hW (rfl : kd 58 = 4)) rfl hl.1 rfl (Nat.le_of_ble_eq_true rfl) dX4_drink_10 (Nat.zero_le _) (Nat.zero_le _) (fun H locs hW => ?_)
    refine lv_if_ne (tgt := 19) C.1 C.2.1 dX4_drink_13 (by decide) (fun c_13 => ?_) (fun c_13 => ?_)
    · have h := if_n h c_13
      refine lv_aload_n C.1 C.2.1 dX4_drink_19 rfl (lv_at hl 0 rfl) ?_
      refine lv_iload_n C.1 C.2.1 dX4_drink_20 rfl (lv_at hl 2 rfl) ?_
      obtain ⟨r21, B21, hc21, h⟩ := b2_s h
      refine cVi C hW (As := [.int v2]) (rest := []) (mt_X4_latestIn  hc21) (cwV 1 C.2.2.2.2.2.1 gX4_drink_X4_latestIn rfl rfl rfl (by decide +kernel) ⟨Nat.le_of_ble_eq_true rfl, Nat.le_of_ble_eq_true rfl⟩) (rcv4 C hW (rfl : kd 58 = 4)) rfl hl.1 rfl (Nat.le_of_ble_eq_true rfl) dX4_drink_21 (Nat.zero_le _) (Nat.zero_le _) (fun H locs hW => ?_)
      refine lv_istore_n (lv' := [(3, .int r21), (0, .ref (Γ.2.2 58)), (1, .int v1), (2, .int v2)]) C.1 C.2.1 dX4_drink_24 rfl hl (by decide) rfl (fun ls hl => ?_)
      refine lv_iload_n C.1 C.2.1 dX4_drink_25 rfl (lv_at hl 0 rfl) ?_
      refine lv_iconst (v := (-1)) C.1 C.2.1 dX4_drink_26 (by decide) ?_
      refine lv_icmp_ne (tgt := 33) C.1 C.2.1 dX4_drink_27 (by decide) (fun c_27 => ?_) (fun c_27 => ?_)
      · have h := if_n h c_27
        refine lv_aload_n C.1 C.2.1 dX4_drink_33 rfl (lv_at hl 1 rfl) ?_
        refine lv_aload_n C.1 C.2.1 dX4_drink_34 rfl (lv_at hl 1 rfl) ?_
        refine gX4_6 C hW rfl iX4_drink_c4 wX4_drink_0 dX4_drink_35 ?_
        refine lv_iload_n C.1 C.2.1 dX4_drink_38 rfl (lv_at hl 2 rfl) ?_
        obtain ⟨hi39, h⟩ := ck_s h
        refine la9 C hW ⟨rfl, rfl⟩ hi39 dX4_drink_39 ?_
        refine lv_aload_n C.1 C.2.1 dX4_drink_40 rfl (lv_at hl 1 rfl) ?_
        refine gX4_7 C hW rfl iX4_drink_c4 wX4_drink_1 dX4_drink_41 ?_
        refine lv_iload_n C.1 C.2.1 dX4_drink_44 rfl (lv_at hl 2 rfl) ?_
        obtain ⟨hi45, h⟩ := ck_s h
        refine la9 C hW ⟨rfl, rfl⟩ hi45 dX4_drink_45 ?_
        obtain ⟨r46, hc46, h⟩ := bi_s h
        refine cVi C hW (As := [.int (B21 61 v1.toNatClampNeg), .int (B21 62 v1.toNatClampNeg)]) (rest := []) (mt_X4_mayThought  hc46) (cwV 2 C.2.2.2.2.2.1 gX4_drink_X4_mayThought rfl rfl rfl (by decide +kernel) ⟨Nat.le_of_ble_eq_true rfl, Nat.le_of_ble_eq_true rfl⟩) (rcv4 C hW (rfl : kd 58 = 4)) rfl hl.1 rfl (Nat.le_of_ble_eq_true rfl) dX4_drink_46 (Nat.zero_le _) (Nat.zero_le _) (fun H locs hW => ?_)
        refine lv_if_eq (tgt := 56) C.1 C.2.1 dX4_drink_49 (by decide) (fun c_49 => ?_) (fun c_49 => ?_)
        · have h := if_y h c_49
          refine lv_iconst (v := 1) C.1 C.2.1 dX4_drink_56 (by decide) ?_
          exact tX4_drink_57 C  h  hW (lv_sub hl [1, 2, 3, 0] rfl)
        · have h := if_n h c_49
          refine lv_iconst (v := 0) C.1 C.2.1 dX4_drink_52 (by decide) ?_
          refine lv_goto (tgt := 57) C.1 C.2.1 dX4_drink_53 (by decide) ?_
          exact tX4_drink_57 C  h  hW (lv_sub hl [1, 2, 3, 0] rfl)
      · have h := if_y h c_27
        refine lv_bipush (v := (-103)) C.1 C.2.1 dX4_drink_30 (by decide) ?_
        cases h
        exact z_iret C hW dX4_drink_32
    · have h := if_y h c_13
      exact tX4_drink_16 C  h  hW (lv_sub hl [] rfl)
theorem mt_X4_drink {l : Launch} {Γ : Gm} {A B : Me}  {v1 : Int32} {v2 : Int32} {rZ : Int32} {BZ : Me}  (h : fX4_drink B v1 v2 = some (rZ, BZ)) : Met l yX4_drink wsX4_drink rmX4_drink (PC Γ A B [.ref (Γ.2.2 58), .int v1, .int v2]) (QI Γ A BZ rZ) 0 0 (rg Γ) :=
  met_of (by decide) rfl (Nat.le_of_ble_eq_true rfl) (fun p e s m below meth c ls C hW hl => tX4_drink_0 C  h  hW (lv_sub (l := [(0, .ref (Γ.2.2 58)), (1, .int v1), (2, .int v2)]) hl [0, 1, 2] rfl))
abbrev rmX4_pourOne : Room := { frames := 3, cells := 0, slots := 0, locals := 64 }
set_option maxRecDepth 100000 in
theorem iX4_pourOne_c4 : ∀ w ∈ wsX40, w ∈ wsX4_pourOne := by decide +kernel
set_option maxRecDepth 100000 in
theorem wX4_pourOne_0 : Cond.fieldLink RX4 7 "WineByYearsModel" "litresOf" "[I" ∈ wsX4_pourOne := by decide +kernel
def fX4_pourOne  (B : Me)  (v1 : Int32) (v2 : Int32) : Option (Me) := b2 (fX4_latestIn B v1) fun r2 B2 => ck (inb ((10 * v1) + r2) 50) <| ck (inb ((10 * v1) + r2) 50) <| ck (inb ((10 * v2) + r2) 50) <| ck (inb ((10 * v2) + r2) 50) <| some (up2 (up2 B2 59 ((10 * v1) + r2).toNatClampNeg ((B2 59 ((10 * v1) + r2).toNatClampNeg) - 1)) 59 ((10 * v2) + r2).toNatClampNeg (((up2 B2 59 ((10 * v1) + r2).toNatClampNeg ((B2 59 ((10 * v1) + r2).toNatClampNeg) - 1)) 59 ((10 * v2) + r2).toNatClampNeg) + 1))
set_option maxRecDepth 100000 in
theorem tX4_pourOne_0 {A B : Me}  {H : Heap} {locs : List Loc} {ls : Array Slot} {v1 : Int32} {v2 : Int32} {BZ : Me}  (C : Cx Γ p s m args meth c cX4_pourOne 4 none RX4 wsX4_pourOne)  (h : fX4_pourOne B v1 v2 = some BZ)  (hW : Wd Γ A B s.heap H locs) (hl : lv_has ls 4 [(0, .ref (Γ.2.2 58)), (1, .int v1), (2, .int v2)]) : W p l e rmX4_pourOne s m args below meth c H locs 0 0 (MQ below (QV Γ A BZ) args s 0 0 (rg Γ)) (F0 m 0 ls []) := by
  unfold fX4_pourOne at h
  refine lv_aload_n C.1 C.2.1 dX4_pourOne_0 rfl (lv_at hl 0 rfl) ?_
  refine lv_iload_n C.1 C.2.1 dX4_pourOne_1 rfl (lv_at hl 1 rfl) ?_
  obtain ⟨r2, B2, hc2, h⟩ := b2_s h
  refine cVi C hW (As := [.int v1]) (rest := []) (mt_X4_latestIn  hc2) (cwV 1 C.2.2.2.2.2.1 gX4_pourOne_X4_latestIn rfl rfl rfl (by decide +kernel) ⟨Nat.le_of_ble_eq_true rfl, Nat.le_of_ble_eq_true rfl⟩) (rcv4 C hW (rfl : kd 58 = 4)) rfl hl.1 rfl (Nat.le_of_ble_eq_true rfl) dX4_pourOne_2 (Nat.zero_le _) (Nat.zero_le _) (fun H locs hW => ?_)
  refine lv_istore_n (lv' := [(3, .int r2), (0, .ref (Γ.2.2 58)), (1, .int v1), (2, .int v2)]) C.1 C.2.1 dX4_pourOne_5 rfl hl (by decide) rfl (fun ls hl => ?_)
  refine lv_aload_n C.1 C.2.1 dX4_pourOne_6 rfl (lv_at hl 1 rfl) ?_
  refine gX4_3 C hW rfl iX4_pourOne_c4 wX4_pourOne_0 dX4_pourOne_7 ?_
  refine lv_bipush (v := 10) C.1 C.2.1 dX4_pourOne_10 (by decide) ?_
  refine lv_iload_n C.1 C.2.1 dX4_pourOne_12 rfl (lv_at hl 2 rfl) ?_
  refine lv_imul C.1 C.2.1 dX4_pourOne_13 ?_
  refine lv_iload_n C.1 C.2.1 dX4_pourOne_14 rfl (lv_at hl 0 rfl) ?_
  refine lv_iadd C.1 C.2.1 dX4_pourOne_15 ?_
  refine lv_dup2_11 C.1 C.2.1 dX4_pourOne_16 rfl rfl ?_
  obtain ⟨hi17, h⟩ := ck_s h
  refine la9 C hW ⟨rfl, rfl⟩ hi17 dX4_pourOne_17 ?_
  refine lv_iconst (v := 1) C.1 C.2.1 dX4_pourOne_18 (by decide) ?_
  refine lv_isub C.1 C.2.1 dX4_pourOne_19 ?_
  obtain ⟨hi20, h⟩ := ck_s h
  refine sa9 C hW ⟨rfl, rfl⟩ hi20 dX4_pourOne_20 (fun H locs hW => ?_)
  refine lv_aload_n C.1 C.2.1 dX4_pourOne_21 rfl (lv_at hl 1 rfl) ?_
  refine gX4_3 C hW rfl iX4_pourOne_c4 wX4_pourOne_0 dX4_pourOne_22 ?_
  refine lv_bipush (v := 10) C.1 C.2.1 dX4_pourOne_25 (by decide) ?_
  refine lv_iload_n C.1 C.2.1 dX4_pourOne_27 rfl (lv_at hl 3 rfl) ?_
  refine lv_imul C.1 C.2.1 dX4_pourOne_28 ?_
  refine lv_iload_n C.1 C.2.1 dX4_pourOne_29 rfl (lv_at hl 0 rfl) ?_
  refine lv_iadd C.1 C.2.1 dX4_pourOne_30 ?_
  refine lv_dup2_11 C.1 C.2.1 dX4_pourOne_31 rfl rfl ?_
  obtain ⟨hi32, h⟩ := ck_s h
  refine la9 C hW ⟨rfl, rfl⟩ hi32 dX4_pourOne_32 ?_
  refine lv_iconst (v := 1) C.1 C.2.1 dX4_pourOne_33 (by decide) ?_
  refine lv_iadd C.1 C.2.1 dX4_pourOne_34 ?_
  obtain ⟨hi35, h⟩ := ck_s h
  refine sa9 C hW ⟨rfl, rfl⟩ hi35 dX4_pourOne_35 (fun H locs hW => ?_)
  cases h
  exact z_vret C hW dX4_pourOne_36
theorem mt_X4_pourOne {l : Launch} {Γ : Gm} {A B : Me}  {v1 : Int32} {v2 : Int32} {BZ : Me}  (h : fX4_pourOne B v1 v2 = some BZ) : Met l yX4_pourOne wsX4_pourOne rmX4_pourOne (PC Γ A B [.ref (Γ.2.2 58), .int v1, .int v2]) (QV Γ A BZ) 0 0 (rg Γ) :=
  met_of (by decide) rfl (Nat.le_of_ble_eq_true rfl) (fun p e s m below meth c ls C hW hl => tX4_pourOne_0 C  h  hW (lv_sub (l := [(0, .ref (Γ.2.2 58)), (1, .int v1), (2, .int v2)]) hl [0, 1, 2] rfl))
abbrev rmX4_pour : Room := { frames := 4, cells := 0, slots := 0, locals := 87 }
def fX4_pour_21  (B : Me)   : Option (Int32 × Me) := some ((-101), B)
set_option maxRecDepth 100000 in
theorem tX4_pour_21 {A B : Me}  {H : Heap} {locs : List Loc} {ls : Array Slot}  {rZ : Int32} {BZ : Me}  (C : Cx Γ p s m args meth c cX4_pour 5 (some .int) RX4 wsX4_pour)  (h : fX4_pour_21 B = some (rZ, BZ))  (hW : Wd Γ A B s.heap H locs) (hl : lv_has ls 5 []) : W p l e rmX4_pour s m args below meth c H locs 0 0 (MQ below (QI Γ A BZ rZ) args s 0 0 (rg Γ)) (F0 m 21 ls []) := by
  unfold fX4_pour_21 at h
  refine lv_bipush (v := (-101)) C.1 C.2.1 dX4_pour_21 (by decide) ?_
  cases h
  exact z_iret C hW dX4_pour_23
def fX4_pour_58  (B : Me)   : Option (Int32 × Me) := some ((-103), B)
set_option maxRecDepth 100000 in
theorem tX4_pour_58 {A B : Me}  {H : Heap} {locs : List Loc} {ls : Array Slot}  {rZ : Int32} {BZ : Me}  (C : Cx Γ p s m args meth c cX4_pour 5 (some .int) RX4 wsX4_pour)  (h : fX4_pour_58 B = some (rZ, BZ))  (hW : Wd Γ A B s.heap H locs) (hl : lv_has ls 5 []) : W p l e rmX4_pour s m args below meth c H locs 0 0 (MQ below (QI Γ A BZ rZ) args s 0 0 (rg Γ)) (F0 m 58 ls []) := by
  unfold fX4_pour_58 at h
  refine lv_bipush (v := (-103)) C.1 C.2.1 dX4_pour_58 (by decide) ?_
  cases h
  exact z_iret C hW dX4_pour_60
def fX4_pour_64   : Nat → Me → Int32 → Int32 → Int32 → Int32 → Option (Int32 × Me)
  | 0, _, _, _, _, _ => none
  | n + 1, B, v1, v2, v3, v4 => if v3 ≤ v4 then (b2 (fX4_litresIn B v2) fun r84 B84 => some (r84, B84)) else (bi (fX4_pourOne B v1 v2) fun B73 => fX4_pour_64 n B73 v1 v2 v3 (v4 + 1))
set_option maxRecDepth 100000 in
theorem tX4_pour_64 {A : Me}  {rZ : Int32} {BZ : Me}  (C : Cx Γ p s m args meth c cX4_pour 5 (some .int) RX4 wsX4_pour)  (n : Nat) : ∀ (B : Me) (v1 : Int32) (v2 : Int32) (v3 : Int32) (v4 : Int32) (H : Heap) (locs : List Loc) (ls : Array Slot), fX4_pour_64 n B v1 v2 v3 v4 = some (rZ, BZ) → Wd Γ A B s.heap H locs → lv_has ls 5 [(0, .ref (Γ.2.2 58)), (1, .int v1), (2, .int v2), (3, .int v3), (4, .int v4)] → W p l e rmX4_pour s m args below meth c H locs 0 0 (MQ below (QI Γ A BZ rZ) args s 0 0 (rg Γ)) (F0 m 64 ls []) := by
  induction n with
  | zero =>
    intro _ _ _ _ _ H locs ls h
    exact nomatch (show (none : Option (Int32 × Me)) = some (rZ, BZ) from h)
  | succ n ih =>
    intro B v1 v2 v3 v4 H locs ls h  hW hl
    rw [fX4_pour_64] at h
    refine lv_iload C.1 C.2.1 dX4_pour_64 (lv_at hl 4 rfl) ?_
    refine lv_iload_n C.1 C.2.1 dX4_pour_66 rfl (lv_at hl 3 rfl) ?_
    refine lv_icmp_ge (tgt := 82) C.1 C.2.1 dX4_pour_67 (by decide) (fun c_67 => ?_) (fun c_67 => ?_)
    · have h := if_y h c_67
      refine lv_aload_n C.1 C.2.1 dX4_pour_82 rfl (lv_at hl 0 rfl) ?_
      refine lv_iload_n C.1 C.2.1 dX4_pour_83 rfl (lv_at hl 2 rfl) ?_
      obtain ⟨r84, B84, hc84, h⟩ := b2_s h
      refine cVi C hW (As := [.int v2]) (rest := []) (mt_X4_litresIn  hc84) (cwV 1 C.2.2.2.2.2.1 gX4_pour_X4_litresIn rfl rfl rfl (by decide +kernel) ⟨Nat.le_of_ble_eq_true rfl, Nat.le_of_ble_eq_true rfl⟩) (rcv4 C hW (rfl : kd 58 = 4)) rfl hl.1 rfl (Nat.le_of_ble_eq_true rfl) dX4_pour_84 (Nat.zero_le _) (Nat.zero_le _) (fun H locs hW => ?_)
      cases h
      exact z_iret C hW dX4_pour_87
    · have h := if_n h c_67
      refine lv_aload_n C.1 C.2.1 dX4_pour_70 rfl (lv_at hl 0 rfl) ?_
      refine lv_iload_n C.1 C.2.1 dX4_pour_71 rfl (lv_at hl 1 rfl) ?_
      refine lv_iload_n C.1 C.2.1 dX4_pour_72 rfl (lv_at hl 2 rfl) ?_
      obtain ⟨B73, hc73, h⟩ := bi_s h
      refine cVv C hW (As := [.int v1, .int v2]) (rest := []) (mt_X4_pourOne  hc73) (cwV 2 C.2.2.2.2.2.1 gX4_pour_X4_pourOne rfl rfl rfl (by decide +kernel) ⟨Nat.le_of_ble_eq_true rfl, Nat.le_of_ble_eq_true rfl⟩) (rcv4 C hW (rfl : kd 58 = 4)) rfl hl.1 rfl (Nat.le_of_ble_eq_true rfl) dX4_pour_73 (Nat.zero_le _) (Nat.zero_le _) (fun H locs hW => ?_)
      refine lv_iinc (v := (v4 + 1)) (lv' := [(4, .int (v4 + 1)), (0, .ref (Γ.2.2 58)), (1, .int v1), (2, .int v2), (3, .int v3)]) C.1 C.2.1 dX4_pour_76 hl (k := 4) rfl rfl (by decide) rfl (fun ls hl => ?_)
      refine lv_goto (tgt := 64) C.1 C.2.1 dX4_pour_79 (by decide) ?_
      exact ih _ _ _ _ _ _ _ _ h  hW (lv_sub hl [1, 2, 3, 4, 0] rfl)
def fX4_pour  (B : Me)  (v1 : Int32) (v2 : Int32) (v3 : Int32) : Option (Int32 × Me) := bi (fX4_isCask B v1) fun r2 => if r2 = 0 then (fX4_pour_21 B) else (bi (fX4_isCask B v2) fun r10 => if r10 = 0 then (fX4_pour_21 B) else (if v1 = v2 then (fX4_pour_21 B) else (bi (fX4_within v3 1 9) fun r28 => if r28 = 0 then (some ((-102), B)) else (b2 (fX4_litresIn B v1) fun r39 B39 => if r39 < v3 then (fX4_pour_58 B39) else (b2 (fX4_litresIn B39 v2) fun r48 B48 => if (r48 + v3) ≤ 20 then (fX4_pour_64 FU B48 v1 v2 v3 0) else (fX4_pour_58 B48))))))
set_option maxRecDepth 100000 in
theorem tX4_pour_0 {A B : Me}  {H : Heap} {locs : List Loc} {ls : Array Slot} {v1 : Int32} {v2 : Int32} {v3 : Int32} {rZ : Int32} {BZ : Me}  (C : Cx Γ p s m args meth c cX4_pour 5 (some .int) RX4 wsX4_pour)  (h : fX4_pour B v1 v2 v3 = some (rZ, BZ))  (hW : Wd Γ A B s.heap H locs) (hl : lv_has ls 5 [(0, .ref (Γ.2.2 58)), (1, .int v1), (2, .int v2), (3, .int v3)]) : W p l e rmX4_pour s m args below meth c H locs 0 0 (MQ below (QI Γ A BZ rZ) args s 0 0 (rg Γ)) (F0 m 0 ls []) := by
  unfold fX4_pour at h
  refine lv_aload_n C.1 C.2.1 dX4_pour_0 rfl (lv_at hl 0 rfl) ?_
  refine lv_iload_n C.1 C.2.1 dX4_pour_1 rfl (lv_at hl 1 rfl) ?_
  obtain ⟨r2, hc2, h⟩ := bi_s h
  refine cVi C hW (As := [.int v1]) (rest := []) (mt_X4_isCask  hc2) (cwV 1 C.2.2.2.2.2.1 gX4_pour_X4_isCask rfl rfl rfl (by decide +kernel) ⟨Nat.le_of_ble_eq_true rfl, Nat.le_of_ble_eq_true rfl⟩) (rcv4 C hW (rfl : kd 58 = 4)) rfl hl.1 rfl (Nat.le_of_ble_eq_true rfl) dX4_pour_2 (Nat.zero_le _) (Nat.zero_le _) (fun H locs hW => ?_)
  refine lv_if_eq (tgt := 21) C.1 C.2.1 dX4_pour_5 (by decide) (fun c_5 => ?_) (fun c_5 => ?_)
  · have h := if_y h c_5
    exact tX4_pour_21 C  h  hW (lv_sub hl [] rfl)
  · have h := if_n h c_5
    refine lv_aload_n C.1 C.2.1 dX4_pour_8 rfl (lv_at hl 0 rfl) ?_
    refine lv_iload_n C.1 C.2.1 dX4_pour_9 rfl (lv_at hl 2 rfl) ?_
    obtain ⟨r10, hc10, h⟩ := bi_s h
    refine cVi C hW (As := [.int v2]) (rest := []) (mt_X4_isCask  hc10) (cwV 1 C.2.2.2.2.2.1 gX4_pour_X4_isCask rfl rfl rfl (by decide +kernel) ⟨Nat.le_of_ble_eq_true rfl, Nat.le_of_ble_eq_true rfl⟩) (rcv4 C hW (rfl : kd 58 = 4)) rfl hl.1 rfl (Nat.le_of_ble_eq_true rfl) dX4_pour_10 (Nat.zero_le _) (Nat.zero_le _) (fun H locs hW => ?_)
    refine lv_if_eq (tgt := 21) C.1 C.2.1 dX4_pour_13 (by decide) (fun c_13 => ?_) (fun c_13 => ?_)
    · have h := if_y h c_13
      exact tX4_pour_21 C  h  hW (lv_sub hl [] rfl)
    · have h := if_n h c_13
      refine lv_iload_n C.1 C.2.1 dX4_pour_16 rfl (lv_at hl 1 rfl) ?_
      refine lv_iload_n C.1 C.2.1 dX4_pour_17 rfl (lv_at hl 2 rfl) ?_
      refine lv_icmp_ne (tgt := 24) C.1 C.2.1 dX4_pour_18 (by decide) (fun c_18 => ?_) (fun c_18 => ?_)
      · have h := if_n h c_18
        refine lv_iload_n C.1 C.2.1 dX4_pour_24 rfl (lv_at hl 3 rfl) ?_
        refine lv_iconst (v := 1) C.1 C.2.1 dX4_pour_25 (by decide) ?_
        refine lv_bipush (v := 9) C.1 C.2.1 dX4_pour_26 (by decide) ?_
        obtain ⟨r28, hc28, h⟩ := bi_s h
        refine cSi C hW (As := [.int v3, .int 1, .int 9]) (rest := []) (mt_X4_within  hc28) (va_cwS 3 C.2.2.2.2.2.1 gX4_pour_X4_within rfl rfl rfl (by decide +kernel) ⟨Nat.le_of_ble_eq_true rfl, Nat.le_of_ble_eq_true rfl⟩) rfl hl.1 rfl (Nat.le_of_ble_eq_true rfl) dX4_pour_28 (Nat.zero_le _) (Nat.zero_le _) (fun H locs hW => ?_)
        refine lv_if_ne (tgt := 37) C.1 C.2.1 dX4_pour_31 (by decide) (fun c_31 => ?_) (fun c_31 => ?_)
        · have h := if_n h c_31
          refine lv_aload_n C.1 C.2.1 dX4_pour_37 rfl (lv_at hl 0 rfl) ?_
          refine lv_iload_n C.1 C.2.1 dX4_pour_38 rfl (lv_at hl 1 rfl) ?_
          obtain ⟨r39, B39, hc39, h⟩ := b2_s h
          refine cVi C hW (As := [.int v1]) (rest := []) (mt_X4_litresIn  hc39) (cwV 1 C.2.2.2.2.2.1 gX4_pour_X4_litresIn rfl rfl rfl (by decide +kernel) ⟨Nat.le_of_ble_eq_true rfl, Nat.le_of_ble_eq_true rfl⟩) (rcv4 C hW (rfl : kd 58 = 4)) rfl hl.1 rfl (Nat.le_of_ble_eq_true rfl) dX4_pour_39 (Nat.zero_le _) (Nat.zero_le _) (fun H locs hW => ?_)
          refine lv_iload_n C.1 C.2.1 dX4_pour_42 rfl (lv_at hl 3 rfl) ?_
          refine lv_icmp_lt (tgt := 58) C.1 C.2.1 dX4_pour_43 (by decide) (fun c_43 => ?_) (fun c_43 => ?_)
          · have h := if_y h c_43
            exact tX4_pour_58 C  h  hW (lv_sub hl [] rfl)
          · have h := if_n h c_43
            refine lv_aload_n C.1 C.2.1 dX4_pour_46 rfl (lv_at hl 0 rfl) ?_
            refine lv_iload_n C.1 C.2.1 dX4_pour_47 rfl (lv_at hl 2 rfl) ?_
            obtain ⟨r48, B48, hc48, h⟩ := b2_s h
            refine cVi C hW (As := [.int v2]) (rest := []) (mt_X4_litresIn  hc48) (cwV 1 C.2.2.2.2.2.1 gX4_pour_X4_litresIn rfl rfl rfl (by decide +kernel) ⟨Nat.le_of_ble_eq_true rfl, Nat.le_of_ble_eq_true rfl⟩) (rcv4 C hW (rfl : kd 58 = 4)) rfl hl.1 rfl (Nat.le_of_ble_eq_true rfl) dX4_pour_48 (Nat.zero_le _) (Nat.zero_le _) (fun H locs hW => ?_)
            refine lv_iload_n C.1 C.2.1 dX4_pour_51 rfl (lv_at hl 3 rfl) ?_
            refine lv_iadd C.1 C.2.1 dX4_pour_52 ?_
            refine lv_bipush (v := 20) C.1 C.2.1 dX4_pour_53 (by decide) ?_
            refine lv_icmp_le (tgt := 61) C.1 C.2.1 dX4_pour_55 (by decide) (fun c_55 => ?_) (fun c_55 => ?_)
            · have h := if_y h c_55
              refine lv_iconst (v := 0) C.1 C.2.1 dX4_pour_61 (by decide) ?_
              refine lv_istore (lv' := [(4, .int 0), (0, .ref (Γ.2.2 58)), (1, .int v1), (2, .int v2), (3, .int v3)]) C.1 C.2.1 dX4_pour_62 hl (by decide) rfl (fun ls hl => ?_)
              exact tX4_pour_64 C  FU _ _ _ _ _ _ _ _ h  hW (lv_sub hl [1, 2, 3, 4, 0] rfl)
            · have h := if_n h c_55
              exact tX4_pour_58 C  h  hW (lv_sub hl [] rfl)
        · have h := if_y h c_31
          refine lv_bipush (v := (-102)) C.1 C.2.1 dX4_pour_34 (by decide) ?_
          cases h
          exact z_iret C hW dX4_pour_36
      · have h := if_y h c_18
        exact tX4_pour_21 C  h  hW (lv_sub hl [] rfl)
theorem mt_X4_pour {l : Launch} {Γ : Gm} {A B : Me}  {v1 : Int32} {v2 : Int32} {v3 : Int32} {rZ : Int32} {BZ : Me}  (h : fX4_pour B v1 v2 v3 = some (rZ, BZ)) : Met l yX4_pour wsX4_pour rmX4_pour (PC Γ A B [.ref (Γ.2.2 58), .int v1, .int v2, .int v3]) (QI Γ A BZ rZ) 0 0 (rg Γ) :=
  met_of (by decide) rfl (Nat.le_of_ble_eq_true rfl) (fun p e s m below meth c ls C hW hl => tX4_pour_0 C  h  hW (lv_sub (l := [(0, .ref (Γ.2.2 58)), (1, .int v1), (2, .int v2), (3, .int v3)]) hl [0, 1, 2, 3] rfl))
abbrev rmX4_arePeople : Room := { frames := 1, cells := 0, slots := 0, locals := 22 }
set_option maxRecDepth 100000 in
theorem iX4_arePeople_c4 : ∀ w ∈ wsX40, w ∈ wsX4_arePeople := by decide +kernel
set_option maxRecDepth 100000 in
theorem wX4_arePeople_0 : Cond.fieldLink RX4 88 "WineByYearsModel" "people" "I" ∈ wsX4_arePeople := by decide +kernel
def fX4_arePeople  (B : Me)  (v1 : Int32) : Option (Int32) := bi (fX4_within v1 0 ((1 <<< ((B 58 5) &&& 31)) - 1)) fun r10 => ck (zb r10) <| some r10
set_option maxRecDepth 100000 in
theorem tX4_arePeople_0 {A B : Me}  {H : Heap} {locs : List Loc} {ls : Array Slot} {v1 : Int32} {rZ : Int32}  (C : Cx Γ p s m args meth c cX4_arePeople 2 (some .boolean) RX4 wsX4_arePeople)  (h : fX4_arePeople B v1 = some rZ)  (hW : Wd Γ A B s.heap H locs) (hl : lv_has ls 2 [(0, .ref (Γ.2.2 58)), (1, .int v1)]) : W p l e rmX4_arePeople s m args below meth c H locs 0 0 (MQ below (QI Γ A B rZ) args s 0 0 (rg Γ)) (F0 m 0 ls []) := by
  unfold fX4_arePeople at h
  refine lv_iload_n C.1 C.2.1 dX4_arePeople_0 rfl (lv_at hl 1 rfl) ?_
  refine lv_iconst (v := 0) C.1 C.2.1 dX4_arePeople_1 (by decide) ?_
  refine lv_iconst (v := 1) C.1 C.2.1 dX4_arePeople_2 (by decide) ?_
  refine lv_aload_n C.1 C.2.1 dX4_arePeople_3 rfl (lv_at hl 0 rfl) ?_
  refine gX4_5 C hW rfl iX4_arePeople_c4 wX4_arePeople_0 dX4_arePeople_4 ?_
  refine lv_ishl C.1 C.2.1 dX4_arePeople_7 ?_
  refine lv_iconst (v := 1) C.1 C.2.1 dX4_arePeople_8 (by decide) ?_
  refine lv_isub C.1 C.2.1 dX4_arePeople_9 ?_
  obtain ⟨r10, hc10, h⟩ := bi_s h
  refine cSi C hW (As := [.int v1, .int 0, .int ((1 <<< ((B 58 5) &&& 31)) - 1)]) (rest := []) (mt_X4_within  hc10) (va_cwS 3 C.2.2.2.2.2.1 gX4_arePeople_X4_within rfl rfl rfl (by decide +kernel) ⟨Nat.le_of_ble_eq_true rfl, Nat.le_of_ble_eq_true rfl⟩) rfl hl.1 rfl (Nat.le_of_ble_eq_true rfl) dX4_arePeople_10 (Nat.zero_le _) (Nat.zero_le _) (fun H locs hW => ?_)
  obtain ⟨hz, h⟩ := ck_s h
  cases h
  exact z_zret C hW hz dX4_arePeople_13
theorem mt_X4_arePeople {l : Launch} {Γ : Gm} {A B : Me}  {v1 : Int32} {rZ : Int32}  (h : fX4_arePeople B v1 = some rZ) : Met l yX4_arePeople wsX4_arePeople rmX4_arePeople (PC Γ A B [.ref (Γ.2.2 58), .int v1]) (QI Γ A B rZ) 0 0 (rg Γ) :=
  met_of (by decide) rfl (Nat.le_of_ble_eq_true rfl) (fun p e s m below meth c ls C hW hl => tX4_arePeople_0 C  h  hW (lv_sub (l := [(0, .ref (Γ.2.2 58)), (1, .int v1)]) hl [0, 1] rfl))
abbrev rmX4_seated : Room := { frames := 3, cells := 0, slots := 0, locals := 64 }
set_option maxRecDepth 100000 in
theorem iX4_seated_c4 : ∀ w ∈ wsX40, w ∈ wsX4_seated := by decide +kernel
set_option maxRecDepth 100000 in
theorem wX4_seated_0 : Cond.fieldLink RX4 82 "WineByYearsModel" "casks" "I" ∈ wsX4_seated := by decide +kernel
set_option maxRecDepth 100000 in
theorem wX4_seated_1 : Cond.fieldLink RX4 38 "WineByYearsModel" "left" "[I" ∈ wsX4_seated := by decide +kernel
set_option maxRecDepth 100000 in
theorem wX4_seated_2 : Cond.fieldLink RX4 88 "WineByYearsModel" "people" "I" ∈ wsX4_seated := by decide +kernel
set_option maxRecDepth 100000 in
theorem wX4_seated_3 : Cond.fieldLink RX4 35 "WineByYearsModel" "mays" "[I" ∈ wsX4_seated := by decide +kernel
def fX4_seated_109 (j39 : Me → Int32 → Int32 → Int32 → Int32 → Option (Int32 × Me)) (B : Me)   : Option (Int32 × Me) := some ((-1), B)
set_option maxRecDepth 100000 in
theorem tX4_seated_109 {A B : Me}  {H : Heap} {locs : List Loc} {ls : Array Slot}  {rZ : Int32} {BZ : Me} {j39 : Me → Int32 → Int32 → Int32 → Int32 → Option (Int32 × Me)} (C : Cx Γ p s m args meth c cX4_seated 7 (some .int) RX4 wsX4_seated) (hr39 : ∀ (B : Me) (v1 : Int32) (v3 : Int32) (v4 : Int32) (v5 : Int32) (H : Heap) (locs : List Loc) (ls : Array Slot), j39 B v1 v3 v4 v5 = some (rZ, BZ) → Wd Γ A B s.heap H locs → lv_has ls 7 [(0, .ref (Γ.2.2 58)), (1, .int v1), (3, .int v3), (4, .int v4), (5, .int v5)] → W p l e rmX4_seated s m args below meth c H locs 0 0 (MQ below (QI Γ A BZ rZ) args s 0 0 (rg Γ)) (F0 m 39 ls [])) (h : fX4_seated_109 j39 B = some (rZ, BZ))  (hW : Wd Γ A B s.heap H locs) (hl : lv_has ls 7 []) : W p l e rmX4_seated s m args below meth c H locs 0 0 (MQ below (QI Γ A BZ rZ) args s 0 0 (rg Γ)) (F0 m 109 ls []) := by
  unfold fX4_seated_109 at h
  refine lv_iconst (v := (-1)) C.1 C.2.1 dX4_seated_109 (by decide) ?_
  cases h
  exact z_iret C hW dX4_seated_110
def fX4_seated_130 (j39 : Me → Int32 → Int32 → Int32 → Int32 → Option (Int32 × Me)) (B : Me)  (v1 : Int32) (v3 : Int32) (v4 : Int32) (v5 : Int32) : Option (Int32 × Me) := j39 B v1 v3 v4 (v5 + 1)
set_option maxRecDepth 100000 in
theorem tX4_seated_130 {A B : Me}  {H : Heap} {locs : List Loc} {ls : Array Slot} {v1 : Int32} {v3 : Int32} {v4 : Int32} {v5 : Int32} {rZ : Int32} {BZ : Me} {j39 : Me → Int32 → Int32 → Int32 → Int32 → Option (Int32 × Me)} (C : Cx Γ p s m args meth c cX4_seated 7 (some .int) RX4 wsX4_seated) (hr39 : ∀ (B : Me) (v1 : Int32) (v3 : Int32) (v4 : Int32) (v5 : Int32) (H : Heap) (locs : List Loc) (ls : Array Slot), j39 B v1 v3 v4 v5 = some (rZ, BZ) → Wd Γ A B s.heap H locs → lv_has ls 7 [(0, .ref (Γ.2.2 58)), (1, .int v1), (3, .int v3), (4, .int v4), (5, .int v5)] → W p l e rmX4_seated s m args below meth c H locs 0 0 (MQ below (QI Γ A BZ rZ) args s 0 0 (rg Γ)) (F0 m 39 ls [])) (h : fX4_seated_130 j39 B v1 v3 v4 v5 = some (rZ, BZ))  (hW : Wd Γ A B s.heap H locs) (hl : lv_has ls 7 [(0, .ref (Γ.2.2 58)), (1, .int v1), (3, .int v3), (4, .int v4), (5, .int v5)]) : W p l e rmX4_seated s m args below meth c H locs 0 0 (MQ below (QI Γ A BZ rZ) args s 0 0 (rg Γ)) (F0 m 130 ls []) := by
  unfold fX4_seated_130 at h
  refine lv_iinc (v := (v5 + 1)) (lv' := [(5, .int (v5 + 1)), (0, .ref (Γ.2.2 58)), (1, .int v1), (3, .int v3), (4, .int v4)]) C.1 C.2.1 dX4_seated_130 hl (k := 4) rfl rfl (by decide) rfl (fun ls hl => ?_)
  refine lv_goto (tgt := 39) C.1 C.2.1 dX4_seated_133 (by decide) ?_
  exact hr39 _ _ _ _ _ _ _ _ h  hW (lv_sub hl [1, 2, 3, 4, 0] rfl)
def fX4_seated_111 (j39 : Me → Int32 → Int32 → Int32 → Int32 → Option (Int32 × Me)) (B : Me)  (v1 : Int32) (v3 : Int32) (v4 : Int32) (v5 : Int32) (v6 : Int32) : Option (Int32 × Me) := if v6 < 0 then (fX4_seated_130 j39 B v1 v3 v4 v5) else (ck (inb v6 5) <| ck (inb v6 5) <| fX4_seated_130 j39 (up2 B 68 v6.toNatClampNeg ((B 68 v6.toNatClampNeg) - 1)) v1 v3 (v4 + 1) v5)
set_option maxRecDepth 100000 in
theorem tX4_seated_111 {A B : Me}  {H : Heap} {locs : List Loc} {ls : Array Slot} {v1 : Int32} {v3 : Int32} {v4 : Int32} {v5 : Int32} {v6 : Int32} {rZ : Int32} {BZ : Me} {j39 : Me → Int32 → Int32 → Int32 → Int32 → Option (Int32 × Me)} (C : Cx Γ p s m args meth c cX4_seated 7 (some .int) RX4 wsX4_seated) (hr39 : ∀ (B : Me) (v1 : Int32) (v3 : Int32) (v4 : Int32) (v5 : Int32) (H : Heap) (locs : List Loc) (ls : Array Slot), j39 B v1 v3 v4 v5 = some (rZ, BZ) → Wd Γ A B s.heap H locs → lv_has ls 7 [(0, .ref (Γ.2.2 58)), (1, .int v1), (3, .int v3), (4, .int v4), (5, .int v5)] → W p l e rmX4_seated s m args below meth c H locs 0 0 (MQ below (QI Γ A BZ rZ) args s 0 0 (rg Γ)) (F0 m 39 ls [])) (h : fX4_seated_111 j39 B v1 v3 v4 v5 v6 = some (rZ, BZ))  (hW : Wd Γ A B s.heap H locs) (hl : lv_has ls 7 [(0, .ref (Γ.2.2 58)), (1, .int v1), (3, .int v3), (4, .int v4), (5, .int v5), (6, .int v6)]) : W p l e rmX4_seated s m args below meth c H locs 0 0 (MQ below (QI Γ A BZ rZ) args s 0 0 (rg Γ)) (F0 m 111 ls []) := by
  unfold fX4_seated_111 at h
  refine lv_iload C.1 C.2.1 dX4_seated_111 (lv_at hl 5 rfl) ?_
  refine lv_if_lt (tgt := 130) C.1 C.2.1 dX4_seated_113 (by decide) (fun c_113 => ?_) (fun c_113 => ?_)
  · have h := if_y h c_113
    exact tX4_seated_130 C hr39 h  hW (lv_sub hl [0, 1, 2, 3, 4] rfl)
  · have h := if_n h c_113
    refine lv_aload_n C.1 C.2.1 dX4_seated_116 rfl (lv_at hl 0 rfl) ?_
    refine gX4_17 C hW rfl iX4_seated_c4 wX4_seated_1 dX4_seated_117 ?_
    refine lv_iload C.1 C.2.1 dX4_seated_120 (lv_at hl 5 rfl) ?_
    refine lv_dup2_11 C.1 C.2.1 dX4_seated_122 rfl rfl ?_
    obtain ⟨hi123, h⟩ := ck_s h
    refine la9 C hW ⟨rfl, rfl⟩ hi123 dX4_seated_123 ?_
    refine lv_iconst (v := 1) C.1 C.2.1 dX4_seated_124 (by decide) ?_
    refine lv_isub C.1 C.2.1 dX4_seated_125 ?_
    obtain ⟨hi126, h⟩ := ck_s h
    refine sa9 C hW ⟨rfl, rfl⟩ hi126 dX4_seated_126 (fun H locs hW => ?_)
    refine lv_iinc (v := (v4 + 1)) (lv' := [(4, .int (v4 + 1)), (0, .ref (Γ.2.2 58)), (1, .int v1), (3, .int v3), (5, .int v5), (6, .int v6)]) C.1 C.2.1 dX4_seated_127 hl (k := 3) rfl rfl (by decide) rfl (fun ls hl => ?_)
    exact tX4_seated_130 C hr39 h  hW (lv_sub hl [1, 2, 3, 0, 4] rfl)
def fX4_seated_39   : Nat → Me → Int32 → Int32 → Int32 → Int32 → Option (Int32 × Me)
  | 0, _, _, _, _, _ => none
  | n + 1, B, v1, v3, v4, v5 => if (B 58 5) ≤ v5 then (some (v4, B)) else (if ((v3 - v3 / 6 * 6) - 1) < 0 then (fX4_seated_111 (fun m x0 x1 x2 x3 => fX4_seated_39 n m x0 x1 x2 x3) B v1 (v3 / 6) v4 v5 ((v3 - v3 / 6 * 6) - 1)) else (bi (fX4_has v1 v5) fun r69 => if r69 = 0 then (fX4_seated_109 (fun m x0 x1 x2 x3 => fX4_seated_39 n m x0 x1 x2 x3) B) else (if (B 58 2) ≤ ((v3 - v3 / 6 * 6) - 1) then (fX4_seated_109 (fun m x0 x1 x2 x3 => fX4_seated_39 n m x0 x1 x2 x3) B) else (ck (inb v5 5) <| bi (fX4_has (B 67 v5.toNatClampNeg) ((v3 - v3 / 6 * 6) - 1)) fun r93 => if r93 = 0 then (fX4_seated_109 (fun m x0 x1 x2 x3 => fX4_seated_39 n m x0 x1 x2 x3) B) else (ck (inb ((v3 - v3 / 6 * 6) - 1) 5) <| if (B 68 ((v3 - v3 / 6 * 6) - 1).toNatClampNeg) = 0 then (fX4_seated_109 (fun m x0 x1 x2 x3 => fX4_seated_39 n m x0 x1 x2 x3) B) else (fX4_seated_111 (fun m x0 x1 x2 x3 => fX4_seated_39 n m x0 x1 x2 x3) B v1 (v3 / 6) v4 v5 ((v3 - v3 / 6 * 6) - 1)))))))
set_option maxRecDepth 100000 in
theorem tX4_seated_39 {A : Me}  {rZ : Int32} {BZ : Me}  (C : Cx Γ p s m args meth c cX4_seated 7 (some .int) RX4 wsX4_seated)  (n : Nat) : ∀ (B : Me) (v1 : Int32) (v3 : Int32) (v4 : Int32) (v5 : Int32) (H : Heap) (locs : List Loc) (ls : Array Slot), fX4_seated_39 n B v1 v3 v4 v5 = some (rZ, BZ) → Wd Γ A B s.heap H locs → lv_has ls 7 [(0, .ref (Γ.2.2 58)), (1, .int v1), (3, .int v3), (4, .int v4), (5, .int v5)] → W p l e rmX4_seated s m args below meth c H locs 0 0 (MQ below (QI Γ A BZ rZ) args s 0 0 (rg Γ)) (F0 m 39 ls []) := by
  induction n with
  | zero =>
    intro _ _ _ _ _ H locs ls h
    exact nomatch (show (none : Option (Int32 × Me)) = some (rZ, BZ) from h)
  | succ n ih =>
    intro B v1 v3 v4 v5 H locs ls h  hW hl
    rw [fX4_seated_39] at h
    refine lv_iload C.1 C.2.1 dX4_seated_39 (lv_at hl 4 rfl) ?_
    refine lv_aload_n C.1 C.2.1 dX4_seated_41 rfl (lv_at hl 0 rfl) ?_
    refine gX4_5 C hW rfl iX4_seated_c4 wX4_seated_2 dX4_seated_42 ?_
    refine lv_icmp_ge (tgt := 136) C.1 C.2.1 dX4_seated_45 (by decide) (fun c_45 => ?_) (fun c_45 => ?_)
    · have h := if_y h c_45
      refine lv_iload C.1 C.2.1 dX4_seated_136 (lv_at hl 3 rfl) ?_
      cases h
      exact z_iret C hW dX4_seated_138
    · have h := if_n h c_45
      refine lv_iload_n C.1 C.2.1 dX4_seated_48 rfl (lv_at hl 2 rfl) ?_
      refine lv_bipush (v := 6) C.1 C.2.1 dX4_seated_49 (by decide) ?_
      refine lv_irem C.1 C.2.1 dX4_seated_51 (by decide) ?_
      refine lv_iconst (v := 1) C.1 C.2.1 dX4_seated_52 (by decide) ?_
      refine lv_isub C.1 C.2.1 dX4_seated_53 ?_
      refine lv_istore (lv' := [(6, .int ((v3 - v3 / 6 * 6) - 1)), (0, .ref (Γ.2.2 58)), (1, .int v1), (3, .int v3), (4, .int v4), (5, .int v5)]) C.1 C.2.1 dX4_seated_54 hl (by decide) rfl (fun ls hl => ?_)
      refine lv_iload_n C.1 C.2.1 dX4_seated_56 rfl (lv_at hl 3 rfl) ?_
      refine lv_bipush (v := 6) C.1 C.2.1 dX4_seated_57 (by decide) ?_
      refine lv_idiv C.1 C.2.1 dX4_seated_59 (by decide) ?_
      refine lv_istore_n (lv' := [(3, .int (v3 / 6)), (6, .int ((v3 - v3 / 6 * 6) - 1)), (0, .ref (Γ.2.2 58)), (1, .int v1), (4, .int v4), (5, .int v5)]) C.1 C.2.1 dX4_seated_60 rfl hl (by decide) rfl (fun ls hl => ?_)
      refine lv_iload C.1 C.2.1 dX4_seated_61 (lv_at hl 1 rfl) ?_
      refine lv_if_lt (tgt := 111) C.1 C.2.1 dX4_seated_63 (by decide) (fun c_63 => ?_) (fun c_63 => ?_)
      · have h := if_y h c_63
        exact tX4_seated_111 C ih h  hW (lv_sub hl [2, 3, 0, 4, 5, 1] rfl)
      · have h := if_n h c_63
        refine lv_iload_n C.1 C.2.1 dX4_seated_66 rfl (lv_at hl 3 rfl) ?_
        refine lv_iload C.1 C.2.1 dX4_seated_67 (lv_at hl 5 rfl) ?_
        obtain ⟨r69, hc69, h⟩ := bi_s h
        refine cSi C hW (As := [.int v1, .int v5]) (rest := []) (mt_X4_has  hc69) (va_cwS 2 C.2.2.2.2.2.1 gX4_seated_X4_has rfl rfl rfl (by decide +kernel) ⟨Nat.le_of_ble_eq_true rfl, Nat.le_of_ble_eq_true rfl⟩) rfl hl.1 rfl (Nat.le_of_ble_eq_true rfl) dX4_seated_69 (Nat.zero_le _) (Nat.zero_le _) (fun H locs hW => ?_)
        refine lv_if_eq (tgt := 109) C.1 C.2.1 dX4_seated_72 (by decide) (fun c_72 => ?_) (fun c_72 => ?_)
        · have h := if_y h c_72
          exact tX4_seated_109 C ih h  hW (lv_sub hl [] rfl)
        · have h := if_n h c_72
          refine lv_iload C.1 C.2.1 dX4_seated_75 (lv_at hl 1 rfl) ?_
          refine lv_aload_n C.1 C.2.1 dX4_seated_77 rfl (lv_at hl 2 rfl) ?_
          refine gX4_2 C hW rfl iX4_seated_c4 wX4_seated_0 dX4_seated_78 ?_
          refine lv_icmp_ge (tgt := 109) C.1 C.2.1 dX4_seated_81 (by decide) (fun c_81 => ?_) (fun c_81 => ?_)
          · have h := if_y h c_81
            exact tX4_seated_109 C ih h  hW (lv_sub hl [] rfl)
          · have h := if_n h c_81
            refine lv_aload_n C.1 C.2.1 dX4_seated_84 rfl (lv_at hl 2 rfl) ?_
            refine gX4_16 C hW rfl iX4_seated_c4 wX4_seated_3 dX4_seated_85 ?_
            refine lv_iload C.1 C.2.1 dX4_seated_88 (lv_at hl 5 rfl) ?_
            obtain ⟨hi90, h⟩ := ck_s h
            refine la9 C hW ⟨rfl, rfl⟩ hi90 dX4_seated_90 ?_
            refine lv_iload C.1 C.2.1 dX4_seated_91 (lv_at hl 1 rfl) ?_
            obtain ⟨r93, hc93, h⟩ := bi_s h
            refine cSi C hW (As := [.int (B 67 v5.toNatClampNeg), .int ((v3 - v3 / 6 * 6) - 1)]) (rest := []) (mt_X4_has  hc93) (va_cwS 2 C.2.2.2.2.2.1 gX4_seated_X4_has rfl rfl rfl (by decide +kernel) ⟨Nat.le_of_ble_eq_true rfl, Nat.le_of_ble_eq_true rfl⟩) rfl hl.1 rfl (Nat.le_of_ble_eq_true rfl) dX4_seated_93 (Nat.zero_le _) (Nat.zero_le _) (fun H locs hW => ?_)
            refine lv_if_eq (tgt := 109) C.1 C.2.1 dX4_seated_96 (by decide) (fun c_96 => ?_) (fun c_96 => ?_)
            · have h := if_y h c_96
              exact tX4_seated_109 C ih h  hW (lv_sub hl [] rfl)
            · have h := if_n h c_96
              refine lv_aload_n C.1 C.2.1 dX4_seated_99 rfl (lv_at hl 2 rfl) ?_
              refine gX4_17 C hW rfl iX4_seated_c4 wX4_seated_1 dX4_seated_100 ?_
              refine lv_iload C.1 C.2.1 dX4_seated_103 (lv_at hl 1 rfl) ?_
              obtain ⟨hi105, h⟩ := ck_s h
              refine la9 C hW ⟨rfl, rfl⟩ hi105 dX4_seated_105 ?_
              refine lv_if_ne (tgt := 111) C.1 C.2.1 dX4_seated_106 (by decide) (fun c_106 => ?_) (fun c_106 => ?_)
              · have h := if_n h c_106
                exact tX4_seated_111 C ih h  hW (lv_sub hl [2, 3, 0, 4, 5, 1] rfl)
              · have h := if_y h c_106
                exact tX4_seated_109 C ih h  hW (lv_sub hl [] rfl)
def fX4_seated_8   : Nat → Me → Int32 → Int32 → Int32 → Int32 → Option (Int32 × Me)
  | 0, _, _, _, _, _ => none
  | n + 1, B, v1, v3, v4, v5 => if (B 58 2) ≤ v5 then (fX4_seated_39 FU B v1 v3 v4 0) else (b2 (fX4_litresIn B v5) fun r26 B26 => ck (inb v5 5) <| fX4_seated_8 n (up2 B26 68 v5.toNatClampNeg r26) v1 v3 v4 (v5 + 1))
set_option maxRecDepth 100000 in
theorem tX4_seated_8 {A : Me}  {rZ : Int32} {BZ : Me}  (C : Cx Γ p s m args meth c cX4_seated 7 (some .int) RX4 wsX4_seated)  (n : Nat) : ∀ (B : Me) (v1 : Int32) (v3 : Int32) (v4 : Int32) (v5 : Int32) (H : Heap) (locs : List Loc) (ls : Array Slot), fX4_seated_8 n B v1 v3 v4 v5 = some (rZ, BZ) → Wd Γ A B s.heap H locs → lv_has ls 7 [(0, .ref (Γ.2.2 58)), (1, .int v1), (3, .int v3), (4, .int v4), (5, .int v5)] → W p l e rmX4_seated s m args below meth c H locs 0 0 (MQ below (QI Γ A BZ rZ) args s 0 0 (rg Γ)) (F0 m 8 ls []) := by
  induction n with
  | zero =>
    intro _ _ _ _ _ H locs ls h
    exact nomatch (show (none : Option (Int32 × Me)) = some (rZ, BZ) from h)
  | succ n ih =>
    intro B v1 v3 v4 v5 H locs ls h  hW hl
    rw [fX4_seated_8] at h
    refine lv_iload C.1 C.2.1 dX4_seated_8 (lv_at hl 4 rfl) ?_
    refine lv_aload_n C.1 C.2.1 dX4_seated_10 rfl (lv_at hl 0 rfl) ?_
    refine gX4_2 C hW rfl iX4_seated_c4 wX4_seated_0 dX4_seated_11 ?_
    refine lv_icmp_ge (tgt := 36) C.1 C.2.1 dX4_seated_14 (by decide) (fun c_14 => ?_) (fun c_14 => ?_)
    · have h := if_y h c_14
      refine lv_iconst (v := 0) C.1 C.2.1 dX4_seated_36 (by decide) ?_
      refine lv_istore (lv' := [(5, .int 0), (0, .ref (Γ.2.2 58)), (1, .int v1), (3, .int v3), (4, .int v4)]) C.1 C.2.1 dX4_seated_37 hl (by decide) rfl (fun ls hl => ?_)
      exact tX4_seated_39 C  FU _ _ _ _ _ _ _ _ h  hW (lv_sub hl [1, 2, 3, 4, 0] rfl)
    · have h := if_n h c_14
      refine lv_aload_n C.1 C.2.1 dX4_seated_17 rfl (lv_at hl 0 rfl) ?_
      refine gX4_17 C hW rfl iX4_seated_c4 wX4_seated_1 dX4_seated_18 ?_
      refine lv_iload C.1 C.2.1 dX4_seated_21 (lv_at hl 4 rfl) ?_
      refine lv_aload_n C.1 C.2.1 dX4_seated_23 rfl (lv_at hl 0 rfl) ?_
      refine lv_iload C.1 C.2.1 dX4_seated_24 (lv_at hl 4 rfl) ?_
      obtain ⟨r26, B26, hc26, h⟩ := b2_s h
      refine cVi C hW (As := [.int v5]) (rest := [.int v5, .ref (Γ.2.2 68)]) (mt_X4_litresIn  hc26) (cwV 1 C.2.2.2.2.2.1 gX4_seated_X4_litresIn rfl rfl rfl (by decide +kernel) ⟨Nat.le_of_ble_eq_true rfl, Nat.le_of_ble_eq_true rfl⟩) (rcv4 C hW (rfl : kd 58 = 4)) rfl hl.1 rfl (Nat.le_of_ble_eq_true rfl) dX4_seated_26 (Nat.zero_le _) (Nat.zero_le _) (fun H locs hW => ?_)
      obtain ⟨hi29, h⟩ := ck_s h
      refine sa9 C hW ⟨rfl, rfl⟩ hi29 dX4_seated_29 (fun H locs hW => ?_)
      refine lv_iinc (v := (v5 + 1)) (lv' := [(5, .int (v5 + 1)), (0, .ref (Γ.2.2 58)), (1, .int v1), (3, .int v3), (4, .int v4)]) C.1 C.2.1 dX4_seated_30 hl (k := 4) rfl rfl (by decide) rfl (fun ls hl => ?_)
      refine lv_goto (tgt := 8) C.1 C.2.1 dX4_seated_33 (by decide) ?_
      exact ih _ _ _ _ _ _ _ _ h  hW (lv_sub hl [1, 2, 3, 4, 0] rfl)
def fX4_seated  (B : Me)  (v1 : Int32) (v2 : Int32) : Option (Int32 × Me) := fX4_seated_8 FU B v1 v2 0 0
set_option maxRecDepth 100000 in
theorem tX4_seated_0 {A B : Me}  {H : Heap} {locs : List Loc} {ls : Array Slot} {v1 : Int32} {v2 : Int32} {rZ : Int32} {BZ : Me}  (C : Cx Γ p s m args meth c cX4_seated 7 (some .int) RX4 wsX4_seated)  (h : fX4_seated B v1 v2 = some (rZ, BZ))  (hW : Wd Γ A B s.heap H locs) (hl : lv_has ls 7 [(0, .ref (Γ.2.2 58)), (1, .int v1), (2, .int v2)]) : W p l e rmX4_seated s m args below meth c H locs 0 0 (MQ below (QI Γ A BZ rZ) args s 0 0 (rg Γ)) (F0 m 0 ls []) := by
  unfold fX4_seated at h
  refine lv_iload_n C.1 C.2.1 dX4_seated_0 rfl (lv_at hl 2 rfl) ?_
  refine lv_istore_n (lv' := [(3, .int v2), (0, .ref (Γ.2.2 58)), (1, .int v1), (2, .int v2)]) C.1 C.2.1 dX4_seated_1 rfl hl (by decide) rfl (fun ls hl => ?_)
  refine lv_iconst (v := 0) C.1 C.2.1 dX4_seated_2 (by decide) ?_
  refine lv_istore (lv' := [(4, .int 0), (3, .int v2), (0, .ref (Γ.2.2 58)), (1, .int v1), (2, .int v2)]) C.1 C.2.1 dX4_seated_3 hl (by decide) rfl (fun ls hl => ?_)
  refine lv_iconst (v := 0) C.1 C.2.1 dX4_seated_5 (by decide) ?_
  refine lv_istore (lv' := [(5, .int 0), (4, .int 0), (3, .int v2), (0, .ref (Γ.2.2 58)), (1, .int v1), (2, .int v2)]) C.1 C.2.1 dX4_seated_6 hl (by decide) rfl (fun ls hl => ?_)
  exact tX4_seated_8 C  FU _ _ _ _ _ _ _ _ h  hW (lv_sub hl [3, 4, 2, 1, 0] rfl)
theorem mt_X4_seated {l : Launch} {Γ : Gm} {A B : Me}  {v1 : Int32} {v2 : Int32} {rZ : Int32} {BZ : Me}  (h : fX4_seated B v1 v2 = some (rZ, BZ)) : Met l yX4_seated wsX4_seated rmX4_seated (PC Γ A B [.ref (Γ.2.2 58), .int v1, .int v2]) (QI Γ A BZ rZ) 0 0 (rg Γ) :=
  met_of (by decide) rfl (Nat.le_of_ble_eq_true rfl) (fun p e s m below meth c ls C hW hl => tX4_seated_0 C  h  hW (lv_sub (l := [(0, .ref (Γ.2.2 58)), (1, .int v1), (2, .int v2)]) hl [0, 1, 2] rfl))
abbrev rmX4_tableNow : Room := { frames := 4, cells := 0, slots := 0, locals := 93 }
set_option maxRecDepth 100000 in
theorem iX4_tableNow_c4 : ∀ w ∈ wsX40, w ∈ wsX4_tableNow := by decide +kernel
set_option maxRecDepth 100000 in
theorem wX4_tableNow_0 : Cond.fieldLink RX4 88 "WineByYearsModel" "people" "I" ∈ wsX4_tableNow := by decide +kernel
set_option maxRecDepth 100000 in
theorem wX4_tableNow_1 : Cond.fieldLink RX4 35 "WineByYearsModel" "mays" "[I" ∈ wsX4_tableNow := by decide +kernel
def fX4_tableNow_70 (j43 : Me → Int32 → Int32 → Int32 → Int32 → Option (Int32 × Me)) (B : Me)  (v1 : Int32) (v3 : Int32) (v4 : Int32) (t0 : Int32) : Option (Int32 × Me) := j43 B v1 t0 v3 (v4 + 1)
set_option maxRecDepth 100000 in
theorem tX4_tableNow_70 {A B : Me}  {H : Heap} {locs : List Loc} {ls : Array Slot} {v1 : Int32} {v3 : Int32} {v4 : Int32} {t0 : Int32} {rZ : Int32} {BZ : Me} {j43 : Me → Int32 → Int32 → Int32 → Int32 → Option (Int32 × Me)} (C : Cx Γ p s m args meth c cX4_tableNow 6 (some .int) RX4 wsX4_tableNow) (hr43 : ∀ (B : Me) (v1 : Int32) (v2 : Int32) (v3 : Int32) (v4 : Int32) (H : Heap) (locs : List Loc) (ls : Array Slot), j43 B v1 v2 v3 v4 = some (rZ, BZ) → Wd Γ A B s.heap H locs → lv_has ls 6 [(0, .ref (Γ.2.2 58)), (1, .int v1), (2, .int v2), (3, .int v3), (4, .int v4)] → W p l e rmX4_tableNow s m args below meth c H locs 0 0 (MQ below (QI Γ A BZ rZ) args s 0 0 (rg Γ)) (F0 m 43 ls [])) (h : fX4_tableNow_70 j43 B v1 v3 v4 t0 = some (rZ, BZ))  (hW : Wd Γ A B s.heap H locs) (hl : lv_has ls 6 [(0, .ref (Γ.2.2 58)), (1, .int v1), (3, .int v3), (4, .int v4)]) : W p l e rmX4_tableNow s m args below meth c H locs 0 0 (MQ below (QI Γ A BZ rZ) args s 0 0 (rg Γ)) (F0 m 70 ls [.int t0]) := by
  unfold fX4_tableNow_70 at h
  refine lv_istore_n (lv' := [(2, .int t0), (0, .ref (Γ.2.2 58)), (1, .int v1), (3, .int v3), (4, .int v4)]) C.1 C.2.1 dX4_tableNow_70 rfl hl (by decide) rfl (fun ls hl => ?_)
  refine lv_iinc (v := (v4 + 1)) (lv' := [(4, .int (v4 + 1)), (2, .int t0), (0, .ref (Γ.2.2 58)), (1, .int v1), (3, .int v3)]) C.1 C.2.1 dX4_tableNow_71 hl (k := 4) rfl rfl (by decide) rfl (fun ls hl => ?_)
  refine lv_goto (tgt := 43) C.1 C.2.1 dX4_tableNow_74 (by decide) ?_
  exact hr43 _ _ _ _ _ _ _ _ h  hW (lv_sub hl [2, 3, 1, 4, 0] rfl)
def fX4_tableNow_43   : Nat → Me → Int32 → Int32 → Int32 → Int32 → Option (Int32 × Me)
  | 0, _, _, _, _, _ => none
  | n + 1, B, v1, v2, v3, v4 => if v3 ≤ v4 then (some (v2, B)) else (b2 (fX4_seated B v1 v4) fun r53 B53 => if r53 ≤ v2 then (fX4_tableNow_70 (fun m x0 x1 x2 x3 => fX4_tableNow_43 n m x0 x1 x2 x3) B53 v1 v3 v4 v2) else (fX4_tableNow_70 (fun m x0 x1 x2 x3 => fX4_tableNow_43 n m x0 x1 x2 x3) B53 v1 v3 v4 r53))
set_option maxRecDepth 100000 in
theorem tX4_tableNow_43 {A : Me}  {rZ : Int32} {BZ : Me}  (C : Cx Γ p s m args meth c cX4_tableNow 6 (some .int) RX4 wsX4_tableNow)  (n : Nat) : ∀ (B : Me) (v1 : Int32) (v2 : Int32) (v3 : Int32) (v4 : Int32) (H : Heap) (locs : List Loc) (ls : Array Slot), fX4_tableNow_43 n B v1 v2 v3 v4 = some (rZ, BZ) → Wd Γ A B s.heap H locs → lv_has ls 6 [(0, .ref (Γ.2.2 58)), (1, .int v1), (2, .int v2), (3, .int v3), (4, .int v4)] → W p l e rmX4_tableNow s m args below meth c H locs 0 0 (MQ below (QI Γ A BZ rZ) args s 0 0 (rg Γ)) (F0 m 43 ls []) := by
  induction n with
  | zero =>
    intro _ _ _ _ _ H locs ls h
    exact nomatch (show (none : Option (Int32 × Me)) = some (rZ, BZ) from h)
  | succ n ih =>
    intro B v1 v2 v3 v4 H locs ls h  hW hl
    rw [fX4_tableNow_43] at h
    refine lv_iload C.1 C.2.1 dX4_tableNow_43 (lv_at hl 4 rfl) ?_
    refine lv_iload_n C.1 C.2.1 dX4_tableNow_45 rfl (lv_at hl 3 rfl) ?_
    refine lv_icmp_ge (tgt := 77) C.1 C.2.1 dX4_tableNow_46 (by decide) (fun c_46 => ?_) (fun c_46 => ?_)
    · have h := if_y h c_46
      refine lv_iload_n C.1 C.2.1 dX4_tableNow_77 rfl (lv_at hl 2 rfl) ?_
      cases h
      exact z_iret C hW dX4_tableNow_78
    · have h := if_n h c_46
      refine lv_aload_n C.1 C.2.1 dX4_tableNow_49 rfl (lv_at hl 0 rfl) ?_
      refine lv_iload_n C.1 C.2.1 dX4_tableNow_50 rfl (lv_at hl 1 rfl) ?_
      refine lv_iload C.1 C.2.1 dX4_tableNow_51 (lv_at hl 4 rfl) ?_
      obtain ⟨r53, B53, hc53, h⟩ := b2_s h
      refine cVi C hW (As := [.int v1, .int v4]) (rest := []) (mt_X4_seated  hc53) (cwV 2 C.2.2.2.2.2.1 gX4_tableNow_X4_seated rfl rfl rfl (by decide +kernel) ⟨Nat.le_of_ble_eq_true rfl, Nat.le_of_ble_eq_true rfl⟩) (rcv4 C hW (rfl : kd 58 = 4)) rfl hl.1 rfl (Nat.le_of_ble_eq_true rfl) dX4_tableNow_53 (Nat.zero_le _) (Nat.zero_le _) (fun H locs hW => ?_)
      refine lv_istore (lv' := [(5, .int r53), (0, .ref (Γ.2.2 58)), (1, .int v1), (2, .int v2), (3, .int v3), (4, .int v4)]) C.1 C.2.1 dX4_tableNow_56 hl (by decide) rfl (fun ls hl => ?_)
      refine lv_iload C.1 C.2.1 dX4_tableNow_58 (lv_at hl 0 rfl) ?_
      refine lv_iload_n C.1 C.2.1 dX4_tableNow_60 rfl (lv_at hl 3 rfl) ?_
      refine lv_icmp_le (tgt := 69) C.1 C.2.1 dX4_tableNow_61 (by decide) (fun c_61 => ?_) (fun c_61 => ?_)
      · have h := if_y h c_61
        refine lv_iload_n C.1 C.2.1 dX4_tableNow_69 rfl (lv_at hl 3 rfl) ?_
        exact tX4_tableNow_70 C ih h  hW (lv_sub hl [1, 2, 4, 5] rfl)
      · have h := if_n h c_61
        refine lv_iload C.1 C.2.1 dX4_tableNow_64 (lv_at hl 0 rfl) ?_
        refine lv_goto (tgt := 70) C.1 C.2.1 dX4_tableNow_66 (by decide) ?_
        exact tX4_tableNow_70 C ih h  hW (lv_sub hl [1, 2, 4, 5] rfl)
def fX4_tableNow_7   : Nat → Me → Int32 → Int32 → Int32 → Int32 → Option (Int32 × Me)
  | 0, _, _, _, _, _ => none
  | n + 1, B, v1, v2, v3, v4 => if (B 58 5) ≤ v4 then (fX4_tableNow_43 FU B v1 v2 v3 0) else (b2 (fX4_mayOf B v4) fun r25 B25 => ck (inb v4 5) <| fX4_tableNow_7 n (up2 B25 67 v4.toNatClampNeg r25) v1 v2 (v3 * 6) (v4 + 1))
set_option maxRecDepth 100000 in
theorem tX4_tableNow_7 {A : Me}  {rZ : Int32} {BZ : Me}  (C : Cx Γ p s m args meth c cX4_tableNow 6 (some .int) RX4 wsX4_tableNow)  (n : Nat) : ∀ (B : Me) (v1 : Int32) (v2 : Int32) (v3 : Int32) (v4 : Int32) (H : Heap) (locs : List Loc) (ls : Array Slot), fX4_tableNow_7 n B v1 v2 v3 v4 = some (rZ, BZ) → Wd Γ A B s.heap H locs → lv_has ls 6 [(0, .ref (Γ.2.2 58)), (1, .int v1), (2, .int v2), (3, .int v3), (4, .int v4)] → W p l e rmX4_tableNow s m args below meth c H locs 0 0 (MQ below (QI Γ A BZ rZ) args s 0 0 (rg Γ)) (F0 m 7 ls []) := by
  induction n with
  | zero =>
    intro _ _ _ _ _ H locs ls h
    exact nomatch (show (none : Option (Int32 × Me)) = some (rZ, BZ) from h)
  | succ n ih =>
    intro B v1 v2 v3 v4 H locs ls h  hW hl
    rw [fX4_tableNow_7] at h
    refine lv_iload C.1 C.2.1 dX4_tableNow_7 (lv_at hl 4 rfl) ?_
    refine lv_aload_n C.1 C.2.1 dX4_tableNow_9 rfl (lv_at hl 0 rfl) ?_
    refine gX4_5 C hW rfl iX4_tableNow_c4 wX4_tableNow_0 dX4_tableNow_10 ?_
    refine lv_icmp_ge (tgt := 40) C.1 C.2.1 dX4_tableNow_13 (by decide) (fun c_13 => ?_) (fun c_13 => ?_)
    · have h := if_y h c_13
      refine lv_iconst (v := 0) C.1 C.2.1 dX4_tableNow_40 (by decide) ?_
      refine lv_istore (lv' := [(4, .int 0), (0, .ref (Γ.2.2 58)), (1, .int v1), (2, .int v2), (3, .int v3)]) C.1 C.2.1 dX4_tableNow_41 hl (by decide) rfl (fun ls hl => ?_)
      exact tX4_tableNow_43 C  FU _ _ _ _ _ _ _ _ h  hW (lv_sub hl [1, 2, 3, 4, 0] rfl)
    · have h := if_n h c_13
      refine lv_aload_n C.1 C.2.1 dX4_tableNow_16 rfl (lv_at hl 0 rfl) ?_
      refine gX4_16 C hW rfl iX4_tableNow_c4 wX4_tableNow_1 dX4_tableNow_17 ?_
      refine lv_iload C.1 C.2.1 dX4_tableNow_20 (lv_at hl 4 rfl) ?_
      refine lv_aload_n C.1 C.2.1 dX4_tableNow_22 rfl (lv_at hl 0 rfl) ?_
      refine lv_iload C.1 C.2.1 dX4_tableNow_23 (lv_at hl 4 rfl) ?_
      obtain ⟨r25, B25, hc25, h⟩ := b2_s h
      refine cVi C hW (As := [.int v4]) (rest := [.int v4, .ref (Γ.2.2 67)]) (mt_X4_mayOf  hc25) (cwV 1 C.2.2.2.2.2.1 gX4_tableNow_X4_mayOf rfl rfl rfl (by decide +kernel) ⟨Nat.le_of_ble_eq_true rfl, Nat.le_of_ble_eq_true rfl⟩) (rcv4 C hW (rfl : kd 58 = 4)) rfl hl.1 rfl (Nat.le_of_ble_eq_true rfl) dX4_tableNow_25 (Nat.zero_le _) (Nat.zero_le _) (fun H locs hW => ?_)
      obtain ⟨hi28, h⟩ := ck_s h
      refine sa9 C hW ⟨rfl, rfl⟩ hi28 dX4_tableNow_28 (fun H locs hW => ?_)
      refine lv_iload_n C.1 C.2.1 dX4_tableNow_29 rfl (lv_at hl 3 rfl) ?_
      refine lv_bipush (v := 6) C.1 C.2.1 dX4_tableNow_30 (by decide) ?_
      refine lv_imul C.1 C.2.1 dX4_tableNow_32 ?_
      refine lv_istore_n (lv' := [(3, .int (v3 * 6)), (0, .ref (Γ.2.2 58)), (1, .int v1), (2, .int v2), (4, .int v4)]) C.1 C.2.1 dX4_tableNow_33 rfl hl (by decide) rfl (fun ls hl => ?_)
      refine lv_iinc (v := (v4 + 1)) (lv' := [(4, .int (v4 + 1)), (3, .int (v3 * 6)), (0, .ref (Γ.2.2 58)), (1, .int v1), (2, .int v2)]) C.1 C.2.1 dX4_tableNow_34 hl (k := 4) rfl rfl (by decide) rfl (fun ls hl => ?_)
      refine lv_goto (tgt := 7) C.1 C.2.1 dX4_tableNow_37 (by decide) ?_
      exact ih _ _ _ _ _ _ _ _ h  hW (lv_sub hl [2, 3, 4, 1, 0] rfl)
def fX4_tableNow  (B : Me)  (v1 : Int32) : Option (Int32 × Me) := fX4_tableNow_7 FU B v1 0 1 0
set_option maxRecDepth 100000 in
theorem tX4_tableNow_0 {A B : Me}  {H : Heap} {locs : List Loc} {ls : Array Slot} {v1 : Int32} {rZ : Int32} {BZ : Me}  (C : Cx Γ p s m args meth c cX4_tableNow 6 (some .int) RX4 wsX4_tableNow)  (h : fX4_tableNow B v1 = some (rZ, BZ))  (hW : Wd Γ A B s.heap H locs) (hl : lv_has ls 6 [(0, .ref (Γ.2.2 58)), (1, .int v1)]) : W p l e rmX4_tableNow s m args below meth c H locs 0 0 (MQ below (QI Γ A BZ rZ) args s 0 0 (rg Γ)) (F0 m 0 ls []) := by
  unfold fX4_tableNow at h
  refine lv_iconst (v := 0) C.1 C.2.1 dX4_tableNow_0 (by decide) ?_
  refine lv_istore_n (lv' := [(2, .int 0), (0, .ref (Γ.2.2 58)), (1, .int v1)]) C.1 C.2.1 dX4_tableNow_1 rfl hl (by decide) rfl (fun ls hl => ?_)
  refine lv_iconst (v := 1) C.1 C.2.1 dX4_tableNow_2 (by decide) ?_
  refine lv_istore_n (lv' := [(3, .int 1), (2, .int 0), (0, .ref (Γ.2.2 58)), (1, .int v1)]) C.1 C.2.1 dX4_tableNow_3 rfl hl (by decide) rfl (fun ls hl => ?_)
  refine lv_iconst (v := 0) C.1 C.2.1 dX4_tableNow_4 (by decide) ?_
  refine lv_istore (lv' := [(4, .int 0), (3, .int 1), (2, .int 0), (0, .ref (Γ.2.2 58)), (1, .int v1)]) C.1 C.2.1 dX4_tableNow_5 hl (by decide) rfl (fun ls hl => ?_)
  exact tX4_tableNow_7 C  FU _ _ _ _ _ _ _ _ h  hW (lv_sub hl [3, 4, 2, 1, 0] rfl)
theorem mt_X4_tableNow {l : Launch} {Γ : Gm} {A B : Me}  {v1 : Int32} {rZ : Int32} {BZ : Me}  (h : fX4_tableNow B v1 = some (rZ, BZ)) : Met l yX4_tableNow wsX4_tableNow rmX4_tableNow (PC Γ A B [.ref (Γ.2.2 58), .int v1]) (QI Γ A BZ rZ) 0 0 (rg Γ) :=
  met_of (by decide) rfl (Nat.le_of_ble_eq_true rfl) (fun p e s m below meth c ls C hW hl => tX4_tableNow_0 C  h  hW (lv_sub (l := [(0, .ref (Γ.2.2 58)), (1, .int v1)]) hl [0, 1] rfl))
abbrev rmX4_table : Room := { frames := 5, cells := 0, slots := 0, locals := 118 }
set_option maxRecDepth 100000 in
theorem iX4_table_c4 : ∀ w ∈ wsX40, w ∈ wsX4_table := by decide +kernel
set_option maxRecDepth 100000 in
theorem wX4_table_0 : Cond.fieldLink RX4 82 "WineByYearsModel" "casks" "I" ∈ wsX4_table := by decide +kernel
def fX4_table_28  (B : Me)  (t0 : Int32) : Option (Int32 × Me) := some (t0, B)
set_option maxRecDepth 100000 in
theorem tX4_table_28 {A B : Me}  {H : Heap} {locs : List Loc} {ls : Array Slot} {t0 : Int32} {rZ : Int32} {BZ : Me}  (C : Cx Γ p s m args meth c cX4_table 2 (some .int) RX4 wsX4_table)  (h : fX4_table_28 B t0 = some (rZ, BZ))  (hW : Wd Γ A B s.heap H locs) (hl : lv_has ls 2 []) : W p l e rmX4_table s m args below meth c H locs 0 0 (MQ below (QI Γ A BZ rZ) args s 0 0 (rg Γ)) (F0 m 28 ls [.int t0]) := by
  unfold fX4_table_28 at h
  cases h
  exact z_iret C hW dX4_table_28
def fX4_table  (B : Me)  (v1 : Int32) : Option (Int32 × Me) := bi (fX4_arePeople B v1) fun r2 => if r2 = 0 then (some ((-102), B)) else (if (B 58 2) = 0 then (fX4_table_28 B (-103)) else (b2 (fX4_tableNow B v1) fun r25 B25 => fX4_table_28 B25 r25))
set_option maxRecDepth 100000 in
theorem tX4_table_0 {A B : Me}  {H : Heap} {locs : List Loc} {ls : Array Slot} {v1 : Int32} {rZ : Int32} {BZ : Me}  (C : Cx Γ p s m args meth c cX4_table 2 (some .int) RX4 wsX4_table)  (h : fX4_table B v1 = some (rZ, BZ))  (hW : Wd Γ A B s.heap H locs) (hl : lv_has ls 2 [(0, .ref (Γ.2.2 58)), (1, .int v1)]) : W p l e rmX4_table s m args below meth c H locs 0 0 (MQ below (QI Γ A BZ rZ) args s 0 0 (rg Γ)) (F0 m 0 ls []) := by
  unfold fX4_table at h
  refine lv_aload_n C.1 C.2.1 dX4_table_0 rfl (lv_at hl 0 rfl) ?_
  refine lv_iload_n C.1 C.2.1 dX4_table_1 rfl (lv_at hl 1 rfl) ?_
  obtain ⟨r2, hc2, h⟩ := bi_s h
  refine cVi C hW (As := [.int v1]) (rest := []) (mt_X4_arePeople  hc2) (cwV 1 C.2.2.2.2.2.1 gX4_table_X4_arePeople rfl rfl rfl (by decide +kernel) ⟨Nat.le_of_ble_eq_true rfl, Nat.le_of_ble_eq_true rfl⟩) (rcv4 C hW (rfl : kd 58 = 4)) rfl hl.1 rfl (Nat.le_of_ble_eq_true rfl) dX4_table_2 (Nat.zero_le _) (Nat.zero_le _) (fun H locs hW => ?_)
  refine lv_if_ne (tgt := 11) C.1 C.2.1 dX4_table_5 (by decide) (fun c_5 => ?_) (fun c_5 => ?_)
  · have h := if_n h c_5
    refine lv_aload_n C.1 C.2.1 dX4_table_11 rfl (lv_at hl 0 rfl) ?_
    refine gX4_2 C hW rfl iX4_table_c4 wX4_table_0 dX4_table_12 ?_
    refine lv_if_ne (tgt := 23) C.1 C.2.1 dX4_table_15 (by decide) (fun c_15 => ?_) (fun c_15 => ?_)
    · have h := if_n h c_15
      refine lv_aload_n C.1 C.2.1 dX4_table_23 rfl (lv_at hl 0 rfl) ?_
      refine lv_iload_n C.1 C.2.1 dX4_table_24 rfl (lv_at hl 1 rfl) ?_
      obtain ⟨r25, B25, hc25, h⟩ := b2_s h
      refine cVi C hW (As := [.int v1]) (rest := []) (mt_X4_tableNow  hc25) (cwV 1 C.2.2.2.2.2.1 gX4_table_X4_tableNow rfl rfl rfl (by decide +kernel) ⟨Nat.le_of_ble_eq_true rfl, Nat.le_of_ble_eq_true rfl⟩) (rcv4 C hW (rfl : kd 58 = 4)) rfl hl.1 rfl (Nat.le_of_ble_eq_true rfl) dX4_table_25 (Nat.zero_le _) (Nat.zero_le _) (fun H locs hW => ?_)
      exact tX4_table_28 C  h  hW (lv_sub hl [] rfl)
    · have h := if_y h c_15
      refine lv_bipush (v := (-103)) C.1 C.2.1 dX4_table_18 (by decide) ?_
      refine lv_goto (tgt := 28) C.1 C.2.1 dX4_table_20 (by decide) ?_
      exact tX4_table_28 C  h  hW (lv_sub hl [] rfl)
  · have h := if_y h c_5
    refine lv_bipush (v := (-102)) C.1 C.2.1 dX4_table_8 (by decide) ?_
    cases h
    exact z_iret C hW dX4_table_10
theorem mt_X4_table {l : Launch} {Γ : Gm} {A B : Me}  {v1 : Int32} {rZ : Int32} {BZ : Me}  (h : fX4_table B v1 = some (rZ, BZ)) : Met l yX4_table wsX4_table rmX4_table (PC Γ A B [.ref (Γ.2.2 58), .int v1]) (QI Γ A BZ rZ) 0 0 (rg Γ) :=
  met_of (by decide) rfl (Nat.le_of_ble_eq_true rfl) (fun p e s m below meth c ls C hW hl => tX4_table_0 C  h  hW (lv_sub (l := [(0, .ref (Γ.2.2 58)), (1, .int v1)]) hl [0, 1] rfl))
abbrev rmX4_isBlend : Room := { frames := 4, cells := 0, slots := 0, locals := 92 }
set_option maxRecDepth 100000 in
theorem iX4_isBlend_c4 : ∀ w ∈ wsX40, w ∈ wsX4_isBlend := by decide +kernel
set_option maxRecDepth 100000 in
theorem wX4_isBlend_0 : Cond.fieldLink RX4 82 "WineByYearsModel" "casks" "I" ∈ wsX4_isBlend := by decide +kernel
def fX4_isBlend_61 (j10 : Me → Int32 → Int32 → Int32 → Int32 → Int32 → Option (Int32 × Me)) (B : Me)  (v1 : Int32) (v2 : Int32) (v3 : Int32) (v4 : Int32) (v5 : Int32) : Option (Int32 × Me) := j10 B v1 v2 v3 v4 (v5 + 1)
set_option maxRecDepth 100000 in
theorem tX4_isBlend_61 {A B : Me}  {H : Heap} {locs : List Loc} {ls : Array Slot} {v1 : Int32} {v2 : Int32} {v3 : Int32} {v4 : Int32} {v5 : Int32} {rZ : Int32} {BZ : Me} {j10 : Me → Int32 → Int32 → Int32 → Int32 → Int32 → Option (Int32 × Me)} (C : Cx Γ p s m args meth c cX4_isBlend 7 (some .boolean) RX4 wsX4_isBlend) (hr10 : ∀ (B : Me) (v1 : Int32) (v2 : Int32) (v3 : Int32) (v4 : Int32) (v5 : Int32) (H : Heap) (locs : List Loc) (ls : Array Slot), j10 B v1 v2 v3 v4 v5 = some (rZ, BZ) → Wd Γ A B s.heap H locs → lv_has ls 7 [(0, .ref (Γ.2.2 58)), (1, .int v1), (2, .int v2), (3, .int v3), (4, .int v4), (5, .int v5)] → W p l e rmX4_isBlend s m args below meth c H locs 0 0 (MQ below (QI Γ A BZ rZ) args s 0 0 (rg Γ)) (F0 m 10 ls [])) (h : fX4_isBlend_61 j10 B v1 v2 v3 v4 v5 = some (rZ, BZ))  (hW : Wd Γ A B s.heap H locs) (hl : lv_has ls 7 [(0, .ref (Γ.2.2 58)), (1, .int v1), (2, .int v2), (3, .int v3), (4, .int v4), (5, .int v5)]) : W p l e rmX4_isBlend s m args below meth c H locs 0 0 (MQ below (QI Γ A BZ rZ) args s 0 0 (rg Γ)) (F0 m 61 ls []) := by
  unfold fX4_isBlend_61 at h
  refine lv_iinc (v := (v5 + 1)) (lv' := [(5, .int (v5 + 1)), (0, .ref (Γ.2.2 58)), (1, .int v1), (2, .int v2), (3, .int v3), (4, .int v4)]) C.1 C.2.1 dX4_isBlend_61 hl (k := 5) rfl rfl (by decide) rfl (fun ls hl => ?_)
  refine lv_goto (tgt := 10) C.1 C.2.1 dX4_isBlend_64 (by decide) ?_
  exact hr10 _ _ _ _ _ _ _ _ _ h  hW (lv_sub hl [1, 2, 3, 4, 5, 0] rfl)
def fX4_isBlend_59 (j10 : Me → Int32 → Int32 → Int32 → Int32 → Int32 → Option (Int32 × Me)) (B : Me)  (v1 : Int32) (v2 : Int32) (v3 : Int32) (v5 : Int32) (t0 : Int32) : Option (Int32 × Me) := fX4_isBlend_61 j10 B v1 v2 v3 t0 v5
set_option maxRecDepth 100000 in
theorem tX4_isBlend_59 {A B : Me}  {H : Heap} {locs : List Loc} {ls : Array Slot} {v1 : Int32} {v2 : Int32} {v3 : Int32} {v5 : Int32} {t0 : Int32} {rZ : Int32} {BZ : Me} {j10 : Me → Int32 → Int32 → Int32 → Int32 → Int32 → Option (Int32 × Me)} (C : Cx Γ p s m args meth c cX4_isBlend 7 (some .boolean) RX4 wsX4_isBlend) (hr10 : ∀ (B : Me) (v1 : Int32) (v2 : Int32) (v3 : Int32) (v4 : Int32) (v5 : Int32) (H : Heap) (locs : List Loc) (ls : Array Slot), j10 B v1 v2 v3 v4 v5 = some (rZ, BZ) → Wd Γ A B s.heap H locs → lv_has ls 7 [(0, .ref (Γ.2.2 58)), (1, .int v1), (2, .int v2), (3, .int v3), (4, .int v4), (5, .int v5)] → W p l e rmX4_isBlend s m args below meth c H locs 0 0 (MQ below (QI Γ A BZ rZ) args s 0 0 (rg Γ)) (F0 m 10 ls [])) (h : fX4_isBlend_59 j10 B v1 v2 v3 v5 t0 = some (rZ, BZ))  (hW : Wd Γ A B s.heap H locs) (hl : lv_has ls 7 [(0, .ref (Γ.2.2 58)), (1, .int v1), (2, .int v2), (3, .int v3), (5, .int v5)]) : W p l e rmX4_isBlend s m args below meth c H locs 0 0 (MQ below (QI Γ A BZ rZ) args s 0 0 (rg Γ)) (F0 m 59 ls [.int t0]) := by
  unfold fX4_isBlend_59 at h
  refine lv_istore (lv' := [(4, .int t0), (0, .ref (Γ.2.2 58)), (1, .int v1), (2, .int v2), (3, .int v3), (5, .int v5)]) C.1 C.2.1 dX4_isBlend_59 hl (by decide) rfl (fun ls hl => ?_)
  exact tX4_isBlend_61 C hr10 h  hW (lv_sub hl [1, 2, 3, 4, 0, 5] rfl)
def fX4_isBlend_58 (j10 : Me → Int32 → Int32 → Int32 → Int32 → Int32 → Option (Int32 × Me)) (B : Me)  (v1 : Int32) (v2 : Int32) (v3 : Int32) (v5 : Int32) : Option (Int32 × Me) := fX4_isBlend_59 j10 B v1 v2 v3 v5 0
set_option maxRecDepth 100000 in
theorem tX4_isBlend_58 {A B : Me}  {H : Heap} {locs : List Loc} {ls : Array Slot} {v1 : Int32} {v2 : Int32} {v3 : Int32} {v5 : Int32} {rZ : Int32} {BZ : Me} {j10 : Me → Int32 → Int32 → Int32 → Int32 → Int32 → Option (Int32 × Me)} (C : Cx Γ p s m args meth c cX4_isBlend 7 (some .boolean) RX4 wsX4_isBlend) (hr10 : ∀ (B : Me) (v1 : Int32) (v2 : Int32) (v3 : Int32) (v4 : Int32) (v5 : Int32) (H : Heap) (locs : List Loc) (ls : Array Slot), j10 B v1 v2 v3 v4 v5 = some (rZ, BZ) → Wd Γ A B s.heap H locs → lv_has ls 7 [(0, .ref (Γ.2.2 58)), (1, .int v1), (2, .int v2), (3, .int v3), (4, .int v4), (5, .int v5)] → W p l e rmX4_isBlend s m args below meth c H locs 0 0 (MQ below (QI Γ A BZ rZ) args s 0 0 (rg Γ)) (F0 m 10 ls [])) (h : fX4_isBlend_58 j10 B v1 v2 v3 v5 = some (rZ, BZ))  (hW : Wd Γ A B s.heap H locs) (hl : lv_has ls 7 [(0, .ref (Γ.2.2 58)), (1, .int v1), (2, .int v2), (3, .int v3), (5, .int v5)]) : W p l e rmX4_isBlend s m args below meth c H locs 0 0 (MQ below (QI Γ A BZ rZ) args s 0 0 (rg Γ)) (F0 m 58 ls []) := by
  unfold fX4_isBlend_58 at h
  refine lv_iconst (v := 0) C.1 C.2.1 dX4_isBlend_58 (by decide) ?_
  exact tX4_isBlend_59 C hr10 h  hW (lv_sub hl [0, 1, 2, 3, 4] rfl)
def fX4_isBlend_95  (B : Me)  (t0 : Int32) : Option (Int32 × Me) := ck (zb t0) <| some (t0, B)
set_option maxRecDepth 100000 in
theorem tX4_isBlend_95 {A B : Me}  {H : Heap} {locs : List Loc} {ls : Array Slot} {t0 : Int32} {rZ : Int32} {BZ : Me}  (C : Cx Γ p s m args meth c cX4_isBlend 7 (some .boolean) RX4 wsX4_isBlend)  (h : fX4_isBlend_95 B t0 = some (rZ, BZ))  (hW : Wd Γ A B s.heap H locs) (hl : lv_has ls 7 []) : W p l e rmX4_isBlend s m args below meth c H locs 0 0 (MQ below (QI Γ A BZ rZ) args s 0 0 (rg Γ)) (F0 m 95 ls [.int t0]) := by
  unfold fX4_isBlend_95 at h
  obtain ⟨hz, h⟩ := ck_s h
  cases h
  exact z_zret C hW hz dX4_isBlend_95
def fX4_isBlend_94  (B : Me)   : Option (Int32 × Me) := fX4_isBlend_95 B 0
set_option maxRecDepth 100000 in
theorem tX4_isBlend_94 {A B : Me}  {H : Heap} {locs : List Loc} {ls : Array Slot}  {rZ : Int32} {BZ : Me}  (C : Cx Γ p s m args meth c cX4_isBlend 7 (some .boolean) RX4 wsX4_isBlend)  (h : fX4_isBlend_94 B = some (rZ, BZ))  (hW : Wd Γ A B s.heap H locs) (hl : lv_has ls 7 []) : W p l e rmX4_isBlend s m args below meth c H locs 0 0 (MQ below (QI Γ A BZ rZ) args s 0 0 (rg Γ)) (F0 m 94 ls []) := by
  unfold fX4_isBlend_94 at h
  refine lv_iconst (v := 0) C.1 C.2.1 dX4_isBlend_94 (by decide) ?_
  exact tX4_isBlend_95 C  h  hW (lv_sub hl [] rfl)
def fX4_isBlend_10   : Nat → Me → Int32 → Int32 → Int32 → Int32 → Int32 → Option (Int32 × Me)
  | 0, _, _, _, _, _, _ => none
  | n + 1, B, v1, v2, v3, v4, v5 => if (B 58 2) ≤ v5 then (if v4 = 0 then (fX4_isBlend_94 B) else (bi (fX4_litresThought B) fun r73 => if r73 < v3 then (fX4_isBlend_94 B) else (bi (fX4_whoMay B) fun r81 => if (r81 &&& v2) = v2 then (fX4_isBlend_95 B 1) else (fX4_isBlend_94 B)))) else (bi (fX4_has v1 v5) fun r22 => if r22 = 0 then (fX4_isBlend_61 (fun m x0 x1 x2 x3 x4 => fX4_isBlend_10 n m x0 x1 x2 x3 x4) B v1 v2 v3 v4 v5) else (bi (fX4_litresThought B) fun r29 => bi (fX4_add B v5) fun B37 => if v4 = 0 then (fX4_isBlend_58 (fun m x0 x1 x2 x3 x4 => fX4_isBlend_10 n m x0 x1 x2 x3 x4) B37 v1 v2 v3 v5) else (bi (fX4_litresThought B37) fun r46 => if r46 ≤ r29 then (fX4_isBlend_58 (fun m x0 x1 x2 x3 x4 => fX4_isBlend_10 n m x0 x1 x2 x3 x4) B37 v1 v2 v3 v5) else (fX4_isBlend_59 (fun m x0 x1 x2 x3 x4 => fX4_isBlend_10 n m x0 x1 x2 x3 x4) B37 v1 v2 v3 v5 1))))
set_option maxRecDepth 100000 in
theorem tX4_isBlend_10 {A : Me}  {rZ : Int32} {BZ : Me}  (C : Cx Γ p s m args meth c cX4_isBlend 7 (some .boolean) RX4 wsX4_isBlend)  (n : Nat) : ∀ (B : Me) (v1 : Int32) (v2 : Int32) (v3 : Int32) (v4 : Int32) (v5 : Int32) (H : Heap) (locs : List Loc) (ls : Array Slot), fX4_isBlend_10 n B v1 v2 v3 v4 v5 = some (rZ, BZ) → Wd Γ A B s.heap H locs → lv_has ls 7 [(0, .ref (Γ.2.2 58)), (1, .int v1), (2, .int v2), (3, .int v3), (4, .int v4), (5, .int v5)] → W p l e rmX4_isBlend s m args below meth c H locs 0 0 (MQ below (QI Γ A BZ rZ) args s 0 0 (rg Γ)) (F0 m 10 ls []) := by
  induction n with
  | zero =>
    intro _ _ _ _ _ _ H locs ls h
    exact nomatch (show (none : Option (Int32 × Me)) = some (rZ, BZ) from h)
  | succ n ih =>
    intro B v1 v2 v3 v4 v5 H locs ls h  hW hl
    rw [fX4_isBlend_10] at h
    refine lv_iload C.1 C.2.1 dX4_isBlend_10 (lv_at hl 5 rfl) ?_
    refine lv_aload_n C.1 C.2.1 dX4_isBlend_12 rfl (lv_at hl 0 rfl) ?_
    refine gX4_2 C hW rfl iX4_isBlend_c4 wX4_isBlend_0 dX4_isBlend_13 ?_
    refine lv_icmp_ge (tgt := 67) C.1 C.2.1 dX4_isBlend_16 (by decide) (fun c_16 => ?_) (fun c_16 => ?_)
    · have h := if_y h c_16
      refine lv_iload C.1 C.2.1 dX4_isBlend_67 (lv_at hl 4 rfl) ?_
      refine lv_if_eq (tgt := 94) C.1 C.2.1 dX4_isBlend_69 (by decide) (fun c_69 => ?_) (fun c_69 => ?_)
      · have h := if_y h c_69
        exact tX4_isBlend_94 C  h  hW (lv_sub hl [] rfl)
      · have h := if_n h c_69
        refine lv_aload_n C.1 C.2.1 dX4_isBlend_72 rfl (lv_at hl 0 rfl) ?_
        obtain ⟨r73, hc73, h⟩ := bi_s h
        refine cVi C hW (As := []) (rest := []) (mt_X4_litresThought  hc73) (cwV 0 C.2.2.2.2.2.1 gX4_isBlend_X4_litresThought rfl rfl rfl (by decide +kernel) ⟨Nat.le_of_ble_eq_true rfl, Nat.le_of_ble_eq_true rfl⟩) (rcv4 C hW (rfl : kd 58 = 4)) rfl hl.1 rfl (Nat.le_of_ble_eq_true rfl) dX4_isBlend_73 (Nat.zero_le _) (Nat.zero_le _) (fun H locs hW => ?_)
        refine lv_iload_n C.1 C.2.1 dX4_isBlend_76 rfl (lv_at hl 3 rfl) ?_
        refine lv_icmp_lt (tgt := 94) C.1 C.2.1 dX4_isBlend_77 (by decide) (fun c_77 => ?_) (fun c_77 => ?_)
        · have h := if_y h c_77
          exact tX4_isBlend_94 C  h  hW (lv_sub hl [] rfl)
        · have h := if_n h c_77
          refine lv_aload_n C.1 C.2.1 dX4_isBlend_80 rfl (lv_at hl 0 rfl) ?_
          obtain ⟨r81, hc81, h⟩ := bi_s h
          refine cVi C hW (As := []) (rest := []) (mt_X4_whoMay  hc81) (cwV 0 C.2.2.2.2.2.1 gX4_isBlend_X4_whoMay rfl rfl rfl (by decide +kernel) ⟨Nat.le_of_ble_eq_true rfl, Nat.le_of_ble_eq_true rfl⟩) (rcv4 C hW (rfl : kd 58 = 4)) rfl hl.1 rfl (Nat.le_of_ble_eq_true rfl) dX4_isBlend_81 (Nat.zero_le _) (Nat.zero_le _) (fun H locs hW => ?_)
          refine lv_iload_n C.1 C.2.1 dX4_isBlend_84 rfl (lv_at hl 2 rfl) ?_
          refine lv_iand C.1 C.2.1 dX4_isBlend_85 ?_
          refine lv_iload_n C.1 C.2.1 dX4_isBlend_86 rfl (lv_at hl 2 rfl) ?_
          refine lv_icmp_ne (tgt := 94) C.1 C.2.1 dX4_isBlend_87 (by decide) (fun c_87 => ?_) (fun c_87 => ?_)
          · have h := if_n h c_87
            exact tX4_isBlend_94 C  h  hW (lv_sub hl [] rfl)
          · have h := if_y h c_87
            refine lv_iconst (v := 1) C.1 C.2.1 dX4_isBlend_90 (by decide) ?_
            refine lv_goto (tgt := 95) C.1 C.2.1 dX4_isBlend_91 (by decide) ?_
            exact tX4_isBlend_95 C  h  hW (lv_sub hl [] rfl)
    · have h := if_n h c_16
      refine lv_iload_n C.1 C.2.1 dX4_isBlend_19 rfl (lv_at hl 1 rfl) ?_
      refine lv_iload C.1 C.2.1 dX4_isBlend_20 (lv_at hl 5 rfl) ?_
      obtain ⟨r22, hc22, h⟩ := bi_s h
      refine cSi C hW (As := [.int v1, .int v5]) (rest := []) (mt_X4_has  hc22) (va_cwS 2 C.2.2.2.2.2.1 gX4_isBlend_X4_has rfl rfl rfl (by decide +kernel) ⟨Nat.le_of_ble_eq_true rfl, Nat.le_of_ble_eq_true rfl⟩) rfl hl.1 rfl (Nat.le_of_ble_eq_true rfl) dX4_isBlend_22 (Nat.zero_le _) (Nat.zero_le _) (fun H locs hW => ?_)
      refine lv_if_eq (tgt := 61) C.1 C.2.1 dX4_isBlend_25 (by decide) (fun c_25 => ?_) (fun c_25 => ?_)
      · have h := if_y h c_25
        exact tX4_isBlend_61 C ih h  hW (lv_sub hl [0, 1, 2, 3, 4, 5] rfl)
      · have h := if_n h c_25
        refine lv_aload_n C.1 C.2.1 dX4_isBlend_28 rfl (lv_at hl 0 rfl) ?_
        obtain ⟨r29, hc29, h⟩ := bi_s h
        refine cVi C hW (As := []) (rest := []) (mt_X4_litresThought  hc29) (cwV 0 C.2.2.2.2.2.1 gX4_isBlend_X4_litresThought rfl rfl rfl (by decide +kernel) ⟨Nat.le_of_ble_eq_true rfl, Nat.le_of_ble_eq_true rfl⟩) (rcv4 C hW (rfl : kd 58 = 4)) rfl hl.1 rfl (Nat.le_of_ble_eq_true rfl) dX4_isBlend_29 (Nat.zero_le _) (Nat.zero_le _) (fun H locs hW => ?_)
        refine lv_istore (lv' := [(6, .int r29), (0, .ref (Γ.2.2 58)), (1, .int v1), (2, .int v2), (3, .int v3), (4, .int v4), (5, .int v5)]) C.1 C.2.1 dX4_isBlend_32 hl (by decide) rfl (fun ls hl => ?_)
        refine lv_aload_n C.1 C.2.1 dX4_isBlend_34 rfl (lv_at hl 1 rfl) ?_
        refine lv_iload C.1 C.2.1 dX4_isBlend_35 (lv_at hl 6 rfl) ?_
        obtain ⟨B37, hc37, h⟩ := bi_s h
        refine cVv C hW (As := [.int v5]) (rest := []) (mt_X4_add  hc37) (cwV 1 C.2.2.2.2.2.1 gX4_isBlend_X4_add rfl rfl rfl (by decide +kernel) ⟨Nat.le_of_ble_eq_true rfl, Nat.le_of_ble_eq_true rfl⟩) (rcv4 C hW (rfl : kd 58 = 4)) rfl hl.1 rfl (Nat.le_of_ble_eq_true rfl) dX4_isBlend_37 (Nat.zero_le _) (Nat.zero_le _) (fun H locs hW => ?_)
        refine lv_iload C.1 C.2.1 dX4_isBlend_40 (lv_at hl 5 rfl) ?_
        refine lv_if_eq (tgt := 58) C.1 C.2.1 dX4_isBlend_42 (by decide) (fun c_42 => ?_) (fun c_42 => ?_)
        · have h := if_y h c_42
          exact tX4_isBlend_58 C ih h  hW (lv_sub hl [1, 2, 3, 4, 6] rfl)
        · have h := if_n h c_42
          refine lv_aload_n C.1 C.2.1 dX4_isBlend_45 rfl (lv_at hl 1 rfl) ?_
          obtain ⟨r46, hc46, h⟩ := bi_s h
          refine cVi C hW (As := []) (rest := []) (mt_X4_litresThought  hc46) (cwV 0 C.2.2.2.2.2.1 gX4_isBlend_X4_litresThought rfl rfl rfl (by decide +kernel) ⟨Nat.le_of_ble_eq_true rfl, Nat.le_of_ble_eq_true rfl⟩) (rcv4 C hW (rfl : kd 58 = 4)) rfl hl.1 rfl (Nat.le_of_ble_eq_true rfl) dX4_isBlend_46 (Nat.zero_le _) (Nat.zero_le _) (fun H locs hW => ?_)
          refine lv_iload C.1 C.2.1 dX4_isBlend_49 (lv_at hl 0 rfl) ?_
          refine lv_icmp_le (tgt := 58) C.1 C.2.1 dX4_isBlend_51 (by decide) (fun c_51 => ?_) (fun c_51 => ?_)
          · have h := if_y h c_51
            exact tX4_isBlend_58 C ih h  hW (lv_sub hl [1, 2, 3, 4, 6] rfl)
          · have h := if_n h c_51
            refine lv_iconst (v := 1) C.1 C.2.1 dX4_isBlend_54 (by decide) ?_
            refine lv_goto (tgt := 59) C.1 C.2.1 dX4_isBlend_55 (by decide) ?_
            exact tX4_isBlend_59 C ih h  hW (lv_sub hl [1, 2, 3, 4, 6] rfl)
def fX4_isBlend  (B : Me)  (v1 : Int32) (v2 : Int32) (v3 : Int32) : Option (Int32 × Me) := bi (fX4_clear B) fun B1 => fX4_isBlend_10 FU B1 v1 v2 v3 1 0
set_option maxRecDepth 100000 in
theorem tX4_isBlend_0 {A B : Me}  {H : Heap} {locs : List Loc} {ls : Array Slot} {v1 : Int32} {v2 : Int32} {v3 : Int32} {rZ : Int32} {BZ : Me}  (C : Cx Γ p s m args meth c cX4_isBlend 7 (some .boolean) RX4 wsX4_isBlend)  (h : fX4_isBlend B v1 v2 v3 = some (rZ, BZ))  (hW : Wd Γ A B s.heap H locs) (hl : lv_has ls 7 [(0, .ref (Γ.2.2 58)), (1, .int v1), (2, .int v2), (3, .int v3)]) : W p l e rmX4_isBlend s m args below meth c H locs 0 0 (MQ below (QI Γ A BZ rZ) args s 0 0 (rg Γ)) (F0 m 0 ls []) := by
  unfold fX4_isBlend at h
  refine lv_aload_n C.1 C.2.1 dX4_isBlend_0 rfl (lv_at hl 0 rfl) ?_
  obtain ⟨B1, hc1, h⟩ := bi_s h
  refine cVv C hW (As := []) (rest := []) (mt_X4_clear  hc1) (cwV 0 C.2.2.2.2.2.1 gX4_isBlend_X4_clear rfl rfl rfl (by decide +kernel) ⟨Nat.le_of_ble_eq_true rfl, Nat.le_of_ble_eq_true rfl⟩) (rcv4 C hW (rfl : kd 58 = 4)) rfl hl.1 rfl (Nat.le_of_ble_eq_true rfl) dX4_isBlend_1 (Nat.zero_le _) (Nat.zero_le _) (fun H locs hW => ?_)
  refine lv_iconst (v := 1) C.1 C.2.1 dX4_isBlend_4 (by decide) ?_
  refine lv_istore (lv' := [(4, .int 1), (0, .ref (Γ.2.2 58)), (1, .int v1), (2, .int v2), (3, .int v3)]) C.1 C.2.1 dX4_isBlend_5 hl (by decide) rfl (fun ls hl => ?_)
  refine lv_iconst (v := 0) C.1 C.2.1 dX4_isBlend_7 (by decide) ?_
  refine lv_istore (lv' := [(5, .int 0), (4, .int 1), (0, .ref (Γ.2.2 58)), (1, .int v1), (2, .int v2), (3, .int v3)]) C.1 C.2.1 dX4_isBlend_8 hl (by decide) rfl (fun ls hl => ?_)
  exact tX4_isBlend_10 C  FU _ _ _ _ _ _ _ _ _ h  hW (lv_sub hl [2, 3, 4, 5, 1, 0] rfl)
theorem mt_X4_isBlend {l : Launch} {Γ : Gm} {A B : Me}  {v1 : Int32} {v2 : Int32} {v3 : Int32} {rZ : Int32} {BZ : Me}  (h : fX4_isBlend B v1 v2 v3 = some (rZ, BZ)) : Met l yX4_isBlend wsX4_isBlend rmX4_isBlend (PC Γ A B [.ref (Γ.2.2 58), .int v1, .int v2, .int v3]) (QI Γ A BZ rZ) 0 0 (rg Γ) :=
  met_of (by decide) rfl (Nat.le_of_ble_eq_true rfl) (fun p e s m below meth c ls C hW hl => tX4_isBlend_0 C  h  hW (lv_sub (l := [(0, .ref (Γ.2.2 58)), (1, .int v1), (2, .int v2), (3, .int v3)]) hl [0, 1, 2, 3] rfl))
abbrev rmX4_blendNow : Room := { frames := 5, cells := 0, slots := 0, locals := 118 }
set_option maxRecDepth 100000 in
theorem iX4_blendNow_c4 : ∀ w ∈ wsX40, w ∈ wsX4_blendNow := by decide +kernel
set_option maxRecDepth 100000 in
theorem wX4_blendNow_0 : Cond.fieldLink RX4 82 "WineByYearsModel" "casks" "I" ∈ wsX4_blendNow := by decide +kernel
def fX4_blendNow_66 (j6 : Me → Int32 → Int32 → Int32 → Int32 → Int32 → Option (Int32 × Me)) (B : Me)  (v1 : Int32) (v2 : Int32) (v3 : Int32) (v5 : Int32) (t0 : Int32) : Option (Int32 × Me) := j6 B v1 v2 v3 t0 (v5 + 1)
set_option maxRecDepth 100000 in
theorem tX4_blendNow_66 {A B : Me}  {H : Heap} {locs : List Loc} {ls : Array Slot} {v1 : Int32} {v2 : Int32} {v3 : Int32} {v5 : Int32} {t0 : Int32} {rZ : Int32} {BZ : Me} {j6 : Me → Int32 → Int32 → Int32 → Int32 → Int32 → Option (Int32 × Me)} (C : Cx Γ p s m args meth c cX4_blendNow 7 (some .int) RX4 wsX4_blendNow) (hr6 : ∀ (B : Me) (v1 : Int32) (v2 : Int32) (v3 : Int32) (v4 : Int32) (v5 : Int32) (H : Heap) (locs : List Loc) (ls : Array Slot), j6 B v1 v2 v3 v4 v5 = some (rZ, BZ) → Wd Γ A B s.heap H locs → lv_has ls 7 [(0, .ref (Γ.2.2 58)), (1, .int v1), (2, .int v2), (3, .int v3), (4, .int v4), (5, .int v5)] → W p l e rmX4_blendNow s m args below meth c H locs 0 0 (MQ below (QI Γ A BZ rZ) args s 0 0 (rg Γ)) (F0 m 6 ls [])) (h : fX4_blendNow_66 j6 B v1 v2 v3 v5 t0 = some (rZ, BZ))  (hW : Wd Γ A B s.heap H locs) (hl : lv_has ls 7 [(0, .ref (Γ.2.2 58)), (1, .int v1), (2, .int v2), (3, .int v3), (5, .int v5)]) : W p l e rmX4_blendNow s m args below meth c H locs 0 0 (MQ below (QI Γ A BZ rZ) args s 0 0 (rg Γ)) (F0 m 66 ls [.int t0]) := by
  unfold fX4_blendNow_66 at h
  refine lv_istore (lv' := [(4, .int t0), (0, .ref (Γ.2.2 58)), (1, .int v1), (2, .int v2), (3, .int v3), (5, .int v5)]) C.1 C.2.1 dX4_blendNow_66 hl (by decide) rfl (fun ls hl => ?_)
  refine lv_iinc (v := (v5 + 1)) (lv' := [(5, .int (v5 + 1)), (4, .int t0), (0, .ref (Γ.2.2 58)), (1, .int v1), (2, .int v2), (3, .int v3)]) C.1 C.2.1 dX4_blendNow_68 hl (k := 5) rfl rfl (by decide) rfl (fun ls hl => ?_)
  refine lv_goto (tgt := 6) C.1 C.2.1 dX4_blendNow_71 (by decide) ?_
  exact hr6 _ _ _ _ _ _ _ _ _ h  hW (lv_sub hl [2, 3, 4, 5, 1, 0] rfl)
def fX4_blendNow_64 (j6 : Me → Int32 → Int32 → Int32 → Int32 → Int32 → Option (Int32 × Me)) (B : Me)  (v1 : Int32) (v2 : Int32) (v3 : Int32) (v4 : Int32) (v5 : Int32) : Option (Int32 × Me) := fX4_blendNow_66 j6 B v1 v2 v3 v5 v4
set_option maxRecDepth 100000 in
theorem tX4_blendNow_64 {A B : Me}  {H : Heap} {locs : List Loc} {ls : Array Slot} {v1 : Int32} {v2 : Int32} {v3 : Int32} {v4 : Int32} {v5 : Int32} {rZ : Int32} {BZ : Me} {j6 : Me → Int32 → Int32 → Int32 → Int32 → Int32 → Option (Int32 × Me)} (C : Cx Γ p s m args meth c cX4_blendNow 7 (some .int) RX4 wsX4_blendNow) (hr6 : ∀ (B : Me) (v1 : Int32) (v2 : Int32) (v3 : Int32) (v4 : Int32) (v5 : Int32) (H : Heap) (locs : List Loc) (ls : Array Slot), j6 B v1 v2 v3 v4 v5 = some (rZ, BZ) → Wd Γ A B s.heap H locs → lv_has ls 7 [(0, .ref (Γ.2.2 58)), (1, .int v1), (2, .int v2), (3, .int v3), (4, .int v4), (5, .int v5)] → W p l e rmX4_blendNow s m args below meth c H locs 0 0 (MQ below (QI Γ A BZ rZ) args s 0 0 (rg Γ)) (F0 m 6 ls [])) (h : fX4_blendNow_64 j6 B v1 v2 v3 v4 v5 = some (rZ, BZ))  (hW : Wd Γ A B s.heap H locs) (hl : lv_has ls 7 [(0, .ref (Γ.2.2 58)), (1, .int v1), (2, .int v2), (3, .int v3), (4, .int v4), (5, .int v5)]) : W p l e rmX4_blendNow s m args below meth c H locs 0 0 (MQ below (QI Γ A BZ rZ) args s 0 0 (rg Γ)) (F0 m 64 ls []) := by
  unfold fX4_blendNow_64 at h
  refine lv_iload C.1 C.2.1 dX4_blendNow_64 (lv_at hl 4 rfl) ?_
  exact tX4_blendNow_66 C hr6 h  hW (lv_sub hl [0, 1, 2, 3, 5] rfl)
def fX4_blendNow_41 (j6 : Me → Int32 → Int32 → Int32 → Int32 → Int32 → Option (Int32 × Me)) (B : Me)  (v1 : Int32) (v2 : Int32) (v3 : Int32) (v4 : Int32) (v5 : Int32) (t0 : Int32) : Option (Int32 × Me) := if t0 = 0 then (fX4_blendNow_64 j6 B v1 v2 v3 v4 v5) else (b2 (fX4_isBlend B v5 v1 v2) fun r53 B53 => if r53 = 0 then (fX4_blendNow_64 j6 B53 v1 v2 v3 v4 v5) else (fX4_blendNow_66 j6 B53 v1 v2 v3 v5 v5))
set_option maxRecDepth 100000 in
theorem tX4_blendNow_41 {A B : Me}  {H : Heap} {locs : List Loc} {ls : Array Slot} {v1 : Int32} {v2 : Int32} {v3 : Int32} {v4 : Int32} {v5 : Int32} {t0 : Int32} {rZ : Int32} {BZ : Me} {j6 : Me → Int32 → Int32 → Int32 → Int32 → Int32 → Option (Int32 × Me)} (C : Cx Γ p s m args meth c cX4_blendNow 7 (some .int) RX4 wsX4_blendNow) (hr6 : ∀ (B : Me) (v1 : Int32) (v2 : Int32) (v3 : Int32) (v4 : Int32) (v5 : Int32) (H : Heap) (locs : List Loc) (ls : Array Slot), j6 B v1 v2 v3 v4 v5 = some (rZ, BZ) → Wd Γ A B s.heap H locs → lv_has ls 7 [(0, .ref (Γ.2.2 58)), (1, .int v1), (2, .int v2), (3, .int v3), (4, .int v4), (5, .int v5)] → W p l e rmX4_blendNow s m args below meth c H locs 0 0 (MQ below (QI Γ A BZ rZ) args s 0 0 (rg Γ)) (F0 m 6 ls [])) (h : fX4_blendNow_41 j6 B v1 v2 v3 v4 v5 t0 = some (rZ, BZ))  (hW : Wd Γ A B s.heap H locs) (hl : lv_has ls 7 [(0, .ref (Γ.2.2 58)), (1, .int v1), (2, .int v2), (3, .int v3), (4, .int v4), (5, .int v5)]) : W p l e rmX4_blendNow s m args below meth c H locs 0 0 (MQ below (QI Γ A BZ rZ) args s 0 0 (rg Γ)) (F0 m 41 ls [.int t0]) := by
  unfold fX4_blendNow_41 at h
  refine lv_istore (lv' := [(6, .int t0), (0, .ref (Γ.2.2 58)), (1, .int v1), (2, .int v2), (3, .int v3), (4, .int v4), (5, .int v5)]) C.1 C.2.1 dX4_blendNow_41 hl (by decide) rfl (fun ls hl => ?_)
  refine lv_iload C.1 C.2.1 dX4_blendNow_43 (lv_at hl 0 rfl) ?_
  refine lv_if_eq (tgt := 64) C.1 C.2.1 dX4_blendNow_45 (by decide) (fun c_45 => ?_) (fun c_45 => ?_)
  · have h := if_y h c_45
    exact tX4_blendNow_64 C hr6 h  hW (lv_sub hl [1, 2, 3, 4, 5, 6] rfl)
  · have h := if_n h c_45
    refine lv_aload_n C.1 C.2.1 dX4_blendNow_48 rfl (lv_at hl 1 rfl) ?_
    refine lv_iload C.1 C.2.1 dX4_blendNow_49 (lv_at hl 6 rfl) ?_
    refine lv_iload_n C.1 C.2.1 dX4_blendNow_51 rfl (lv_at hl 2 rfl) ?_
    refine lv_iload_n C.1 C.2.1 dX4_blendNow_52 rfl (lv_at hl 3 rfl) ?_
    obtain ⟨r53, B53, hc53, h⟩ := b2_s h
    refine cVi C hW (As := [.int v5, .int v1, .int v2]) (rest := []) (mt_X4_isBlend  hc53) (cwV 3 C.2.2.2.2.2.1 gX4_blendNow_X4_isBlend rfl rfl rfl (by decide +kernel) ⟨Nat.le_of_ble_eq_true rfl, Nat.le_of_ble_eq_true rfl⟩) (rcv4 C hW (rfl : kd 58 = 4)) rfl hl.1 rfl (Nat.le_of_ble_eq_true rfl) dX4_blendNow_53 (Nat.zero_le _) (Nat.zero_le _) (fun H locs hW => ?_)
    refine lv_if_eq (tgt := 64) C.1 C.2.1 dX4_blendNow_56 (by decide) (fun c_56 => ?_) (fun c_56 => ?_)
    · have h := if_y h c_56
      exact tX4_blendNow_64 C hr6 h  hW (lv_sub hl [1, 2, 3, 4, 5, 6] rfl)
    · have h := if_n h c_56
      refine lv_iload C.1 C.2.1 dX4_blendNow_59 (lv_at hl 6 rfl) ?_
      refine lv_goto (tgt := 66) C.1 C.2.1 dX4_blendNow_61 (by decide) ?_
      exact tX4_blendNow_66 C hr6 h  hW (lv_sub hl [1, 2, 3, 4, 6] rfl)
def fX4_blendNow_36 (j6 : Me → Int32 → Int32 → Int32 → Int32 → Int32 → Option (Int32 × Me)) (B : Me)  (v1 : Int32) (v2 : Int32) (v3 : Int32) (v4 : Int32) (v5 : Int32) : Option (Int32 × Me) := fX4_blendNow_41 j6 B v1 v2 v3 v4 v5 1
set_option maxRecDepth 100000 in
theorem tX4_blendNow_36 {A B : Me}  {H : Heap} {locs : List Loc} {ls : Array Slot} {v1 : Int32} {v2 : Int32} {v3 : Int32} {v4 : Int32} {v5 : Int32} {rZ : Int32} {BZ : Me} {j6 : Me → Int32 → Int32 → Int32 → Int32 → Int32 → Option (Int32 × Me)} (C : Cx Γ p s m args meth c cX4_blendNow 7 (some .int) RX4 wsX4_blendNow) (hr6 : ∀ (B : Me) (v1 : Int32) (v2 : Int32) (v3 : Int32) (v4 : Int32) (v5 : Int32) (H : Heap) (locs : List Loc) (ls : Array Slot), j6 B v1 v2 v3 v4 v5 = some (rZ, BZ) → Wd Γ A B s.heap H locs → lv_has ls 7 [(0, .ref (Γ.2.2 58)), (1, .int v1), (2, .int v2), (3, .int v3), (4, .int v4), (5, .int v5)] → W p l e rmX4_blendNow s m args below meth c H locs 0 0 (MQ below (QI Γ A BZ rZ) args s 0 0 (rg Γ)) (F0 m 6 ls [])) (h : fX4_blendNow_36 j6 B v1 v2 v3 v4 v5 = some (rZ, BZ))  (hW : Wd Γ A B s.heap H locs) (hl : lv_has ls 7 [(0, .ref (Γ.2.2 58)), (1, .int v1), (2, .int v2), (3, .int v3), (4, .int v4), (5, .int v5)]) : W p l e rmX4_blendNow s m args below meth c H locs 0 0 (MQ below (QI Γ A BZ rZ) args s 0 0 (rg Γ)) (F0 m 36 ls []) := by
  unfold fX4_blendNow_36 at h
  refine lv_iconst (v := 1) C.1 C.2.1 dX4_blendNow_36 (by decide) ?_
  refine lv_goto (tgt := 41) C.1 C.2.1 dX4_blendNow_37 (by decide) ?_
  exact tX4_blendNow_41 C hr6 h  hW (lv_sub hl [0, 1, 2, 3, 4, 5] rfl)
def fX4_blendNow_95  (B : Me)  (t0 : Int32) : Option (Int32 × Me) := some (t0, B)
set_option maxRecDepth 100000 in
theorem tX4_blendNow_95 {A B : Me}  {H : Heap} {locs : List Loc} {ls : Array Slot} {t0 : Int32} {rZ : Int32} {BZ : Me}  (C : Cx Γ p s m args meth c cX4_blendNow 7 (some .int) RX4 wsX4_blendNow)  (h : fX4_blendNow_95 B t0 = some (rZ, BZ))  (hW : Wd Γ A B s.heap H locs) (hl : lv_has ls 7 []) : W p l e rmX4_blendNow s m args below meth c H locs 0 0 (MQ below (QI Γ A BZ rZ) args s 0 0 (rg Γ)) (F0 m 95 ls [.int t0]) := by
  unfold fX4_blendNow_95 at h
  cases h
  exact z_iret C hW dX4_blendNow_95
def fX4_blendNow_85  (B : Me)  (v4 : Int32) : Option (Int32 × Me) := fX4_blendNow_95 B v4
set_option maxRecDepth 100000 in
theorem tX4_blendNow_85 {A B : Me}  {H : Heap} {locs : List Loc} {ls : Array Slot} {v4 : Int32} {rZ : Int32} {BZ : Me}  (C : Cx Γ p s m args meth c cX4_blendNow 7 (some .int) RX4 wsX4_blendNow)  (h : fX4_blendNow_85 B v4 = some (rZ, BZ))  (hW : Wd Γ A B s.heap H locs) (hl : lv_has ls 7 [(4, .int v4)]) : W p l e rmX4_blendNow s m args below meth c H locs 0 0 (MQ below (QI Γ A BZ rZ) args s 0 0 (rg Γ)) (F0 m 85 ls []) := by
  unfold fX4_blendNow_85 at h
  refine lv_iload C.1 C.2.1 dX4_blendNow_85 (lv_at hl 0 rfl) ?_
  refine lv_goto (tgt := 95) C.1 C.2.1 dX4_blendNow_87 (by decide) ?_
  exact tX4_blendNow_95 C  h  hW (lv_sub hl [] rfl)
def fX4_blendNow_6   : Nat → Me → Int32 → Int32 → Int32 → Int32 → Int32 → Option (Int32 × Me)
  | 0, _, _, _, _, _, _ => none
  | n + 1, B, v1, v2, v3, v4, v5 => if (1 <<< ((B 58 2) &&& 31)) ≤ v5 then (if v4 = (-1) then (fX4_blendNow_85 B v4) else (if v3 = 1 then (fX4_blendNow_85 B v4) else (bi (fX4_size v4) fun r92 => fX4_blendNow_95 B r92))) else (if v4 = (-1) then (fX4_blendNow_36 (fun m x0 x1 x2 x3 x4 => fX4_blendNow_6 n m x0 x1 x2 x3 x4) B v1 v2 v3 v4 v5) else (bi (fX4_size v5) fun r25 => bi (fX4_size v4) fun r30 => if r30 ≤ r25 then (fX4_blendNow_41 (fun m x0 x1 x2 x3 x4 => fX4_blendNow_6 n m x0 x1 x2 x3 x4) B v1 v2 v3 v4 v5 0) else (fX4_blendNow_36 (fun m x0 x1 x2 x3 x4 => fX4_blendNow_6 n m x0 x1 x2 x3 x4) B v1 v2 v3 v4 v5)))
set_option maxRecDepth 100000 in
theorem tX4_blendNow_6 {A : Me}  {rZ : Int32} {BZ : Me}  (C : Cx Γ p s m args meth c cX4_blendNow 7 (some .int) RX4 wsX4_blendNow)  (n : Nat) : ∀ (B : Me) (v1 : Int32) (v2 : Int32) (v3 : Int32) (v4 : Int32) (v5 : Int32) (H : Heap) (locs : List Loc) (ls : Array Slot), fX4_blendNow_6 n B v1 v2 v3 v4 v5 = some (rZ, BZ) → Wd Γ A B s.heap H locs → lv_has ls 7 [(0, .ref (Γ.2.2 58)), (1, .int v1), (2, .int v2), (3, .int v3), (4, .int v4), (5, .int v5)] → W p l e rmX4_blendNow s m args below meth c H locs 0 0 (MQ below (QI Γ A BZ rZ) args s 0 0 (rg Γ)) (F0 m 6 ls []) := by
  induction n with
  | zero =>
    intro _ _ _ _ _ _ H locs ls h
    exact nomatch (show (none : Option (Int32 × Me)) = some (rZ, BZ) from h)
  | succ n ih =>
    intro B v1 v2 v3 v4 v5 H locs ls h  hW hl
    rw [fX4_blendNow_6] at h
    refine lv_iload C.1 C.2.1 dX4_blendNow_6 (lv_at hl 5 rfl) ?_
    refine lv_iconst (v := 1) C.1 C.2.1 dX4_blendNow_8 (by decide) ?_
    refine lv_aload_n C.1 C.2.1 dX4_blendNow_9 rfl (lv_at hl 0 rfl) ?_
    refine gX4_2 C hW rfl iX4_blendNow_c4 wX4_blendNow_0 dX4_blendNow_10 ?_
    refine lv_ishl C.1 C.2.1 dX4_blendNow_13 ?_
    refine lv_icmp_ge (tgt := 74) C.1 C.2.1 dX4_blendNow_14 (by decide) (fun c_14 => ?_) (fun c_14 => ?_)
    · have h := if_y h c_14
      refine lv_iload C.1 C.2.1 dX4_blendNow_74 (lv_at hl 4 rfl) ?_
      refine lv_iconst (v := (-1)) C.1 C.2.1 dX4_blendNow_76 (by decide) ?_
      refine lv_icmp_eq (tgt := 85) C.1 C.2.1 dX4_blendNow_77 (by decide) (fun c_77 => ?_) (fun c_77 => ?_)
      · have h := if_y h c_77
        exact tX4_blendNow_85 C  h  hW (lv_sub hl [4] rfl)
      · have h := if_n h c_77
        refine lv_iload_n C.1 C.2.1 dX4_blendNow_80 rfl (lv_at hl 3 rfl) ?_
        refine lv_iconst (v := 1) C.1 C.2.1 dX4_blendNow_81 (by decide) ?_
        refine lv_icmp_ne (tgt := 90) C.1 C.2.1 dX4_blendNow_82 (by decide) (fun c_82 => ?_) (fun c_82 => ?_)
        · have h := if_n h c_82
          refine lv_iload C.1 C.2.1 dX4_blendNow_90 (lv_at hl 4 rfl) ?_
          obtain ⟨r92, hc92, h⟩ := bi_s h
          refine cSi C hW (As := [.int v4]) (rest := []) (mt_X4_size  hc92) (va_cwS 1 C.2.2.2.2.2.1 gX4_blendNow_X4_size rfl rfl rfl (by decide +kernel) ⟨Nat.le_of_ble_eq_true rfl, Nat.le_of_ble_eq_true rfl⟩) rfl hl.1 rfl (Nat.le_of_ble_eq_true rfl) dX4_blendNow_92 (Nat.zero_le _) (Nat.zero_le _) (fun H locs hW => ?_)
          exact tX4_blendNow_95 C  h  hW (lv_sub hl [] rfl)
        · have h := if_y h c_82
          exact tX4_blendNow_85 C  h  hW (lv_sub hl [4] rfl)
    · have h := if_n h c_14
      refine lv_iload C.1 C.2.1 dX4_blendNow_17 (lv_at hl 4 rfl) ?_
      refine lv_iconst (v := (-1)) C.1 C.2.1 dX4_blendNow_19 (by decide) ?_
      refine lv_icmp_eq (tgt := 36) C.1 C.2.1 dX4_blendNow_20 (by decide) (fun c_20 => ?_) (fun c_20 => ?_)
      · have h := if_y h c_20
        exact tX4_blendNow_36 C ih h  hW (lv_sub hl [0, 1, 2, 3, 4, 5] rfl)
      · have h := if_n h c_20
        refine lv_iload C.1 C.2.1 dX4_blendNow_23 (lv_at hl 5 rfl) ?_
        obtain ⟨r25, hc25, h⟩ := bi_s h
        refine cSi C hW (As := [.int v5]) (rest := []) (mt_X4_size  hc25) (va_cwS 1 C.2.2.2.2.2.1 gX4_blendNow_X4_size rfl rfl rfl (by decide +kernel) ⟨Nat.le_of_ble_eq_true rfl, Nat.le_of_ble_eq_true rfl⟩) rfl hl.1 rfl (Nat.le_of_ble_eq_true rfl) dX4_blendNow_25 (Nat.zero_le _) (Nat.zero_le _) (fun H locs hW => ?_)
        refine lv_iload C.1 C.2.1 dX4_blendNow_28 (lv_at hl 4 rfl) ?_
        obtain ⟨r30, hc30, h⟩ := bi_s h
        refine cSi C hW (As := [.int v4]) (rest := [.int r25]) (mt_X4_size  hc30) (va_cwS 1 C.2.2.2.2.2.1 gX4_blendNow_X4_size rfl rfl rfl (by decide +kernel) ⟨Nat.le_of_ble_eq_true rfl, Nat.le_of_ble_eq_true rfl⟩) rfl hl.1 rfl (Nat.le_of_ble_eq_true rfl) dX4_blendNow_30 (Nat.zero_le _) (Nat.zero_le _) (fun H locs hW => ?_)
        refine lv_icmp_ge (tgt := 40) C.1 C.2.1 dX4_blendNow_33 (by decide) (fun c_33 => ?_) (fun c_33 => ?_)
        · have h := if_y h c_33
          refine lv_iconst (v := 0) C.1 C.2.1 dX4_blendNow_40 (by decide) ?_
          exact tX4_blendNow_41 C ih h  hW (lv_sub hl [0, 1, 2, 3, 4, 5] rfl)
        · have h := if_n h c_33
          exact tX4_blendNow_36 C ih h  hW (lv_sub hl [0, 1, 2, 3, 4, 5] rfl)
def fX4_blendNow  (B : Me)  (v1 : Int32) (v2 : Int32) (v3 : Int32) : Option (Int32 × Me) := fX4_blendNow_6 FU B v1 v2 v3 (-1) 0
set_option maxRecDepth 100000 in
theorem tX4_blendNow_0 {A B : Me}  {H : Heap} {locs : List Loc} {ls : Array Slot} {v1 : Int32} {v2 : Int32} {v3 : Int32} {rZ : Int32} {BZ : Me}  (C : Cx Γ p s m args meth c cX4_blendNow 7 (some .int) RX4 wsX4_blendNow)  (h : fX4_blendNow B v1 v2 v3 = some (rZ, BZ))  (hW : Wd Γ A B s.heap H locs) (hl : lv_has ls 7 [(0, .ref (Γ.2.2 58)), (1, .int v1), (2, .int v2), (3, .int v3)]) : W p l e rmX4_blendNow s m args below meth c H locs 0 0 (MQ below (QI Γ A BZ rZ) args s 0 0 (rg Γ)) (F0 m 0 ls []) := by
  unfold fX4_blendNow at h
  refine lv_iconst (v := (-1)) C.1 C.2.1 dX4_blendNow_0 (by decide) ?_
  refine lv_istore (lv' := [(4, .int (-1)), (0, .ref (Γ.2.2 58)), (1, .int v1), (2, .int v2), (3, .int v3)]) C.1 C.2.1 dX4_blendNow_1 hl (by decide) rfl (fun ls hl => ?_)
  refine lv_iconst (v := 0) C.1 C.2.1 dX4_blendNow_3 (by decide) ?_
  refine lv_istore (lv' := [(5, .int 0), (4, .int (-1)), (0, .ref (Γ.2.2 58)), (1, .int v1), (2, .int v2), (3, .int v3)]) C.1 C.2.1 dX4_blendNow_4 hl (by decide) rfl (fun ls hl => ?_)
  exact tX4_blendNow_6 C  FU _ _ _ _ _ _ _ _ _ h  hW (lv_sub hl [2, 3, 4, 5, 1, 0] rfl)
theorem mt_X4_blendNow {l : Launch} {Γ : Gm} {A B : Me}  {v1 : Int32} {v2 : Int32} {v3 : Int32} {rZ : Int32} {BZ : Me}  (h : fX4_blendNow B v1 v2 v3 = some (rZ, BZ)) : Met l yX4_blendNow wsX4_blendNow rmX4_blendNow (PC Γ A B [.ref (Γ.2.2 58), .int v1, .int v2, .int v3]) (QI Γ A BZ rZ) 0 0 (rg Γ) :=
  met_of (by decide) rfl (Nat.le_of_ble_eq_true rfl) (fun p e s m below meth c ls C hW hl => tX4_blendNow_0 C  h  hW (lv_sub (l := [(0, .ref (Γ.2.2 58)), (1, .int v1), (2, .int v2), (3, .int v3)]) hl [0, 1, 2, 3] rfl))
abbrev rmX4_blend : Room := { frames := 6, cells := 0, slots := 0, locals := 144 }
set_option maxRecDepth 100000 in
theorem iX4_blend_c4 : ∀ w ∈ wsX40, w ∈ wsX4_blend := by decide +kernel
set_option maxRecDepth 100000 in
theorem wX4_blend_0 : Cond.fieldLink RX4 82 "WineByYearsModel" "casks" "I" ∈ wsX4_blend := by decide +kernel
def fX4_blend_27  (B : Me)   : Option (Int32 × Me) := some ((-102), B)
set_option maxRecDepth 100000 in
theorem tX4_blend_27 {A B : Me}  {H : Heap} {locs : List Loc} {ls : Array Slot}  {rZ : Int32} {BZ : Me}  (C : Cx Γ p s m args meth c cX4_blend 4 (some .int) RX4 wsX4_blend)  (h : fX4_blend_27 B = some (rZ, BZ))  (hW : Wd Γ A B s.heap H locs) (hl : lv_has ls 4 []) : W p l e rmX4_blend s m args below meth c H locs 0 0 (MQ below (QI Γ A BZ rZ) args s 0 0 (rg Γ)) (F0 m 27 ls []) := by
  unfold fX4_blend_27 at h
  refine lv_bipush (v := (-102)) C.1 C.2.1 dX4_blend_27 (by decide) ?_
  cases h
  exact z_iret C hW dX4_blend_29
def fX4_blend_49  (B : Me)  (t0 : Int32) : Option (Int32 × Me) := some (t0, B)
set_option maxRecDepth 100000 in
theorem tX4_blend_49 {A B : Me}  {H : Heap} {locs : List Loc} {ls : Array Slot} {t0 : Int32} {rZ : Int32} {BZ : Me}  (C : Cx Γ p s m args meth c cX4_blend 4 (some .int) RX4 wsX4_blend)  (h : fX4_blend_49 B t0 = some (rZ, BZ))  (hW : Wd Γ A B s.heap H locs) (hl : lv_has ls 4 []) : W p l e rmX4_blend s m args below meth c H locs 0 0 (MQ below (QI Γ A BZ rZ) args s 0 0 (rg Γ)) (F0 m 49 ls [.int t0]) := by
  unfold fX4_blend_49 at h
  cases h
  exact z_iret C hW dX4_blend_49
def fX4_blend  (B : Me)  (v1 : Int32) (v2 : Int32) (v3 : Int32) : Option (Int32 × Me) := bi (fX4_arePeople B v1) fun r2 => if r2 = 0 then (fX4_blend_27 B) else (bi (fX4_within v2 0 99) fun r12 => if r12 = 0 then (fX4_blend_27 B) else (bi (fX4_within v3 0 1) fun r21 => if r21 = 0 then (fX4_blend_27 B) else (if (B 58 2) = 0 then (fX4_blend_49 B (-103)) else (b2 (fX4_blendNow B v1 v2 v3) fun r46 B46 => fX4_blend_49 B46 r46))))
set_option maxRecDepth 100000 in
theorem tX4_blend_0 {A B : Me}  {H : Heap} {locs : List Loc} {ls : Array Slot} {v1 : Int32} {v2 : Int32} {v3 : Int32} {rZ : Int32} {BZ : Me}  (C : Cx Γ p s m args meth c cX4_blend 4 (some .int) RX4 wsX4_blend)  (h : fX4_blend B v1 v2 v3 = some (rZ, BZ))  (hW : Wd Γ A B s.heap H locs) (hl : lv_has ls 4 [(0, .ref (Γ.2.2 58)), (1, .int v1), (2, .int v2), (3, .int v3)]) : W p l e rmX4_blend s m args below meth c H locs 0 0 (MQ below (QI Γ A BZ rZ) args s 0 0 (rg Γ)) (F0 m 0 ls []) := by
  unfold fX4_blend at h
  refine lv_aload_n C.1 C.2.1 dX4_blend_0 rfl (lv_at hl 0 rfl) ?_
  refine lv_iload_n C.1 C.2.1 dX4_blend_1 rfl (lv_at hl 1 rfl) ?_
  obtain ⟨r2, hc2, h⟩ := bi_s h
  refine cVi C hW (As := [.int v1]) (rest := []) (mt_X4_arePeople  hc2) (cwV 1 C.2.2.2.2.2.1 gX4_blend_X4_arePeople rfl rfl rfl (by decide +kernel) ⟨Nat.le_of_ble_eq_true rfl, Nat.le_of_ble_eq_true rfl⟩) (rcv4 C hW (rfl : kd 58 = 4)) rfl hl.1 rfl (Nat.le_of_ble_eq_true rfl) dX4_blend_2 (Nat.zero_le _) (Nat.zero_le _) (fun H locs hW => ?_)
  refine lv_if_eq (tgt := 27) C.1 C.2.1 dX4_blend_5 (by decide) (fun c_5 => ?_) (fun c_5 => ?_)
  · have h := if_y h c_5
    exact tX4_blend_27 C  h  hW (lv_sub hl [] rfl)
  · have h := if_n h c_5
    refine lv_iload_n C.1 C.2.1 dX4_blend_8 rfl (lv_at hl 2 rfl) ?_
    refine lv_iconst (v := 0) C.1 C.2.1 dX4_blend_9 (by decide) ?_
    refine lv_bipush (v := 99) C.1 C.2.1 dX4_blend_10 (by decide) ?_
    obtain ⟨r12, hc12, h⟩ := bi_s h
    refine cSi C hW (As := [.int v2, .int 0, .int 99]) (rest := []) (mt_X4_within  hc12) (va_cwS 3 C.2.2.2.2.2.1 gX4_blend_X4_within rfl rfl rfl (by decide +kernel) ⟨Nat.le_of_ble_eq_true rfl, Nat.le_of_ble_eq_true rfl⟩) rfl hl.1 rfl (Nat.le_of_ble_eq_true rfl) dX4_blend_12 (Nat.zero_le _) (Nat.zero_le _) (fun H locs hW => ?_)
    refine lv_if_eq (tgt := 27) C.1 C.2.1 dX4_blend_15 (by decide) (fun c_15 => ?_) (fun c_15 => ?_)
    · have h := if_y h c_15
      exact tX4_blend_27 C  h  hW (lv_sub hl [] rfl)
    · have h := if_n h c_15
      refine lv_iload_n C.1 C.2.1 dX4_blend_18 rfl (lv_at hl 3 rfl) ?_
      refine lv_iconst (v := 0) C.1 C.2.1 dX4_blend_19 (by decide) ?_
      refine lv_iconst (v := 1) C.1 C.2.1 dX4_blend_20 (by decide) ?_
      obtain ⟨r21, hc21, h⟩ := bi_s h
      refine cSi C hW (As := [.int v3, .int 0, .int 1]) (rest := []) (mt_X4_within  hc21) (va_cwS 3 C.2.2.2.2.2.1 gX4_blend_X4_within rfl rfl rfl (by decide +kernel) ⟨Nat.le_of_ble_eq_true rfl, Nat.le_of_ble_eq_true rfl⟩) rfl hl.1 rfl (Nat.le_of_ble_eq_true rfl) dX4_blend_21 (Nat.zero_le _) (Nat.zero_le _) (fun H locs hW => ?_)
      refine lv_if_ne (tgt := 30) C.1 C.2.1 dX4_blend_24 (by decide) (fun c_24 => ?_) (fun c_24 => ?_)
      · have h := if_n h c_24
        refine lv_aload_n C.1 C.2.1 dX4_blend_30 rfl (lv_at hl 0 rfl) ?_
        refine gX4_2 C hW rfl iX4_blend_c4 wX4_blend_0 dX4_blend_31 ?_
        refine lv_if_ne (tgt := 42) C.1 C.2.1 dX4_blend_34 (by decide) (fun c_34 => ?_) (fun c_34 => ?_)
        · have h := if_n h c_34
          refine lv_aload_n C.1 C.2.1 dX4_blend_42 rfl (lv_at hl 0 rfl) ?_
          refine lv_iload_n C.1 C.2.1 dX4_blend_43 rfl (lv_at hl 1 rfl) ?_
          refine lv_iload_n C.1 C.2.1 dX4_blend_44 rfl (lv_at hl 2 rfl) ?_
          refine lv_iload_n C.1 C.2.1 dX4_blend_45 rfl (lv_at hl 3 rfl) ?_
          obtain ⟨r46, B46, hc46, h⟩ := b2_s h
          refine cVi C hW (As := [.int v1, .int v2, .int v3]) (rest := []) (mt_X4_blendNow  hc46) (cwV 3 C.2.2.2.2.2.1 gX4_blend_X4_blendNow rfl rfl rfl (by decide +kernel) ⟨Nat.le_of_ble_eq_true rfl, Nat.le_of_ble_eq_true rfl⟩) (rcv4 C hW (rfl : kd 58 = 4)) rfl hl.1 rfl (Nat.le_of_ble_eq_true rfl) dX4_blend_46 (Nat.zero_le _) (Nat.zero_le _) (fun H locs hW => ?_)
          exact tX4_blend_49 C  h  hW (lv_sub hl [] rfl)
        · have h := if_y h c_34
          refine lv_bipush (v := (-103)) C.1 C.2.1 dX4_blend_37 (by decide) ?_
          refine lv_goto (tgt := 49) C.1 C.2.1 dX4_blend_39 (by decide) ?_
          exact tX4_blend_49 C  h  hW (lv_sub hl [] rfl)
      · have h := if_y h c_24
        exact tX4_blend_27 C  h  hW (lv_sub hl [] rfl)
theorem mt_X4_blend {l : Launch} {Γ : Gm} {A B : Me}  {v1 : Int32} {v2 : Int32} {v3 : Int32} {rZ : Int32} {BZ : Me}  (h : fX4_blend B v1 v2 v3 = some (rZ, BZ)) : Met l yX4_blend wsX4_blend rmX4_blend (PC Γ A B [.ref (Γ.2.2 58), .int v1, .int v2, .int v3]) (QI Γ A BZ rZ) 0 0 (rg Γ) :=
  met_of (by decide) rfl (Nat.le_of_ble_eq_true rfl) (fun p e s m below meth c ls C hW hl => tX4_blend_0 C  h  hW (lv_sub (l := [(0, .ref (Γ.2.2 58)), (1, .int v1), (2, .int v2), (3, .int v3)]) hl [0, 1, 2, 3] rfl))
end
