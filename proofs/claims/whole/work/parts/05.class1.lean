section
variable {p : Program} {l : Launch} {e : Env} {s : State} {m : MethodId} {args : Array Value} {below : List Frame} {meth : Method} {c : Code} {Γ : Gm}
abbrev rmX3_letter : Room := { frames := 1, cells := 0, slots := 0, locals := 21 }
set_option maxRecDepth 100000 in
theorem iX3_letter_c2 : ∀ w ∈ wsX20, w ∈ wsX3_letter := by decide +kernel
set_option maxRecDepth 100000 in
theorem iX3_letter_c3 : ∀ w ∈ wsX30, w ∈ wsX3_letter := by decide +kernel
set_option maxRecDepth 100000 in
theorem wX3_letter_0 : Cond.fieldLink RX3 12 "WineByYears" "page" "LWineByYears$Page;" ∈ wsX3_letter := by decide +kernel
set_option maxRecDepth 100000 in
theorem wX3_letter_1 : Cond.fieldLink RX3 47 "WineByYears$Page" "length" "I" ∈ wsX3_letter := by decide +kernel
def fX3_letter_12  (A : Me)   : Option (Int32 × Me) := some ((-102), A)
set_option maxRecDepth 100000 in
theorem tX3_letter_12 {A B : Me}  {H : Heap} {locs : List Loc} {ls : Array Slot}  {rZ : Int32} {AZ : Me}  (C : Cx Γ p s m args meth c cX3_letter 2 (some .int) RX3 wsX3_letter)  (h : fX3_letter_12 A = some (rZ, AZ))  (hW : Wd Γ A B s.heap H locs) (hl : lv_has ls 2 []) : W p l e rmX3_letter s m args below meth c H locs 0 0 (MQ below (QI Γ AZ B rZ) args s 0 0 (rg Γ)) (F0 m 12 ls []) := by
  unfold fX3_letter_12 at h
  refine lv_bipush (v := (-102)) C.1 C.2.1 dX3_letter_12 (by decide) ?_
  cases h
  exact z_iret C hW dX3_letter_14
def fX3_letter  (A : Me)  (v1 : Int32) : Option (Int32 × Me) := if v1 < 32 then (fX3_letter_12 A) else (if v1 ≤ 126 then (if (A 1 1) < 18 then (b2 (fX2_append A 1 v1) fun r35 A35 => some (r35, A35)) else (some ((-104), A))) else (fX3_letter_12 A))
set_option maxRecDepth 100000 in
theorem tX3_letter_0 {A B : Me}  {H : Heap} {locs : List Loc} {ls : Array Slot} {v1 : Int32} {rZ : Int32} {AZ : Me}  (C : Cx Γ p s m args meth c cX3_letter 2 (some .int) RX3 wsX3_letter)  (h : fX3_letter A v1 = some (rZ, AZ))  (hW : Wd Γ A B s.heap H locs) (hl : lv_has ls 2 [(0, .ref (Γ.2.2 0)), (1, .int v1)]) : W p l e rmX3_letter s m args below meth c H locs 0 0 (MQ below (QI Γ AZ B rZ) args s 0 0 (rg Γ)) (F0 m 0 ls []) := by
  unfold fX3_letter at h
  refine lv_iload_n C.1 C.2.1 dX3_letter_0 rfl (lv_at hl 1 rfl) ?_
  refine lv_bipush (v := 32) C.1 C.2.1 dX3_letter_1 (by decide) ?_
  refine lv_icmp_lt (tgt := 12) C.1 C.2.1 dX3_letter_3 (by decide) (fun c_3 => ?_) (fun c_3 => ?_)
  · have h := if_y h c_3
    exact tX3_letter_12 C  h  hW (lv_sub hl [] rfl)
  · have h := if_n h c_3
    refine lv_iload_n C.1 C.2.1 dX3_letter_6 rfl (lv_at hl 1 rfl) ?_
    refine lv_bipush (v := 126) C.1 C.2.1 dX3_letter_7 (by decide) ?_
    refine lv_icmp_le (tgt := 15) C.1 C.2.1 dX3_letter_9 (by decide) (fun c_9 => ?_) (fun c_9 => ?_)
    · have h := if_y h c_9
      refine lv_aload_n C.1 C.2.1 dX3_letter_15 rfl (lv_at hl 0 rfl) ?_
      refine gX3_0 C hW rfl iX3_letter_c3 wX3_letter_0 dX3_letter_16 ?_
      refine gX2_1 C hW rfl iX3_letter_c2 wX3_letter_1 dX3_letter_19 ?_
      refine lv_bipush (v := 18) C.1 C.2.1 dX3_letter_22 (by decide) ?_
      refine lv_icmp_lt (tgt := 30) C.1 C.2.1 dX3_letter_24 (by decide) (fun c_24 => ?_) (fun c_24 => ?_)
      · have h := if_y h c_24
        refine lv_aload_n C.1 C.2.1 dX3_letter_30 rfl (lv_at hl 0 rfl) ?_
        refine gX3_0 C hW rfl iX3_letter_c3 wX3_letter_0 dX3_letter_31 ?_
        refine lv_iload_n C.1 C.2.1 dX3_letter_34 rfl (lv_at hl 1 rfl) ?_
        obtain ⟨r35, A35, hc35, h⟩ := b2_s h
        refine cVi C hW (As := [.int v1]) (rest := []) (mt_X2_append rfl hc35) (cwV 1 C.2.2.2.2.2.1 gX3_letter_X2_append rfl rfl rfl (by decide +kernel) ⟨Nat.le_of_ble_eq_true rfl, Nat.le_of_ble_eq_true rfl⟩) (rcv2 C hW (rfl : kd 1 = 2)) rfl hl.1 rfl (Nat.le_of_ble_eq_true rfl) dX3_letter_35 (Nat.zero_le _) (Nat.zero_le _) (fun H locs hW => ?_)
        cases h
        exact z_iret C hW dX3_letter_38
      · have h := if_n h c_24
        refine lv_bipush (v := (-104)) C.1 C.2.1 dX3_letter_27 (by decide) ?_
        cases h
        exact z_iret C hW dX3_letter_29
    · have h := if_n h c_9
      exact tX3_letter_12 C  h  hW (lv_sub hl [] rfl)
theorem mt_X3_letter {l : Launch} {Γ : Gm} {A B : Me}  {v1 : Int32} {rZ : Int32} {AZ : Me}  (h : fX3_letter A v1 = some (rZ, AZ)) : Met l yX3_letter wsX3_letter rmX3_letter (PC Γ A B [.ref (Γ.2.2 0), .int v1]) (QI Γ AZ B rZ) 0 0 (rg Γ) :=
  met_of (by decide) rfl (Nat.le_of_ble_eq_true rfl) (fun p e s m below meth c ls C hW hl => tX3_letter_0 C  h  hW (lv_sub (l := [(0, .ref (Γ.2.2 0)), (1, .int v1)]) hl [0, 1] rfl))
abbrev rmX3_blank : Room := { frames := 1, cells := 0, slots := 0, locals := 21 }
set_option maxRecDepth 100000 in
theorem iX3_blank_c3 : ∀ w ∈ wsX30, w ∈ wsX3_blank := by decide +kernel
set_option maxRecDepth 100000 in
theorem wX3_blank_0 : Cond.fieldLink RX3 12 "WineByYears" "page" "LWineByYears$Page;" ∈ wsX3_blank := by decide +kernel
def fX3_blank  (A : Me)   : Option (Int32 × Me) := b2 (fX2_clear A 1) fun r4 A4 => some (r4, A4)
set_option maxRecDepth 100000 in
theorem tX3_blank_0 {A B : Me}  {H : Heap} {locs : List Loc} {ls : Array Slot}  {rZ : Int32} {AZ : Me}  (C : Cx Γ p s m args meth c cX3_blank 1 (some .int) RX3 wsX3_blank)  (h : fX3_blank A = some (rZ, AZ))  (hW : Wd Γ A B s.heap H locs) (hl : lv_has ls 1 [(0, .ref (Γ.2.2 0))]) : W p l e rmX3_blank s m args below meth c H locs 0 0 (MQ below (QI Γ AZ B rZ) args s 0 0 (rg Γ)) (F0 m 0 ls []) := by
  unfold fX3_blank at h
  refine lv_aload_n C.1 C.2.1 dX3_blank_0 rfl (lv_at hl 0 rfl) ?_
  refine gX3_0 C hW rfl iX3_blank_c3 wX3_blank_0 dX3_blank_1 ?_
  obtain ⟨r4, A4, hc4, h⟩ := b2_s h
  refine cVi C hW (As := []) (rest := []) (mt_X2_clear rfl hc4) (cwV 0 C.2.2.2.2.2.1 gX3_blank_X2_clear rfl rfl rfl (by decide +kernel) ⟨Nat.le_of_ble_eq_true rfl, Nat.le_of_ble_eq_true rfl⟩) (rcv2 C hW (rfl : kd 1 = 2)) rfl hl.1 rfl (Nat.le_of_ble_eq_true rfl) dX3_blank_4 (Nat.zero_le _) (Nat.zero_le _) (fun H locs hW => ?_)
  cases h
  exact z_iret C hW dX3_blank_7
theorem mt_X3_blank {l : Launch} {Γ : Gm} {A B : Me}   {rZ : Int32} {AZ : Me}  (h : fX3_blank A = some (rZ, AZ)) : Met l yX3_blank wsX3_blank rmX3_blank (PC Γ A B [.ref (Γ.2.2 0)]) (QI Γ AZ B rZ) 0 0 (rg Γ) :=
  met_of (by decide) rfl (Nat.le_of_ble_eq_true rfl) (fun p e s m below meth c ls C hW hl => tX3_blank_0 C  h  hW (lv_sub (l := [(0, .ref (Γ.2.2 0))]) hl [0] rfl))
abbrev rmX3_fault : Room := { frames := 2, cells := 0, slots := 0, locals := 42 }
set_option maxRecDepth 100000 in
theorem iX3_fault_c3 : ∀ w ∈ wsX30, w ∈ wsX3_fault := by decide +kernel
set_option maxRecDepth 100000 in
theorem wX3_fault_0 : Cond.fieldLink RX3 12 "WineByYears" "page" "LWineByYears$Page;" ∈ wsX3_fault := by decide +kernel
def fX3_fault  (A : Me)   : Option (Int32) := bi (fX2_firstFault A 1) fun r4 => some r4
set_option maxRecDepth 100000 in
theorem tX3_fault_0 {A B : Me}  {H : Heap} {locs : List Loc} {ls : Array Slot}  {rZ : Int32}  (C : Cx Γ p s m args meth c cX3_fault 1 (some .int) RX3 wsX3_fault)  (h : fX3_fault A = some rZ)  (hW : Wd Γ A B s.heap H locs) (hl : lv_has ls 1 [(0, .ref (Γ.2.2 0))]) : W p l e rmX3_fault s m args below meth c H locs 0 0 (MQ below (QI Γ A B rZ) args s 0 0 (rg Γ)) (F0 m 0 ls []) := by
  unfold fX3_fault at h
  refine lv_aload_n C.1 C.2.1 dX3_fault_0 rfl (lv_at hl 0 rfl) ?_
  refine gX3_0 C hW rfl iX3_fault_c3 wX3_fault_0 dX3_fault_1 ?_
  obtain ⟨r4, hc4, h⟩ := bi_s h
  refine cVi C hW (As := []) (rest := []) (mt_X2_firstFault rfl hc4) (cwV 0 C.2.2.2.2.2.1 gX3_fault_X2_firstFault rfl rfl rfl (by decide +kernel) ⟨Nat.le_of_ble_eq_true rfl, Nat.le_of_ble_eq_true rfl⟩) (rcv2 C hW (rfl : kd 1 = 2)) rfl hl.1 rfl (Nat.le_of_ble_eq_true rfl) dX3_fault_4 (Nat.zero_le _) (Nat.zero_le _) (fun H locs hW => ?_)
  cases h
  exact z_iret C hW dX3_fault_7
theorem mt_X3_fault {l : Launch} {Γ : Gm} {A B : Me}   {rZ : Int32}  (h : fX3_fault A = some rZ) : Met l yX3_fault wsX3_fault rmX3_fault (PC Γ A B [.ref (Γ.2.2 0)]) (QI Γ A B rZ) 0 0 (rg Γ) :=
  met_of (by decide) rfl (Nat.le_of_ble_eq_true rfl) (fun p e s m below meth c ls C hW hl => tX3_fault_0 C  h  hW (lv_sub (l := [(0, .ref (Γ.2.2 0))]) hl [0] rfl))
abbrev rmX3_cellar : Room := { frames := 3, cells := 0, slots := 0, locals := 63 }
set_option maxRecDepth 100000 in
theorem iX3_cellar_c3 : ∀ w ∈ wsX30, w ∈ wsX3_cellar := by decide +kernel
set_option maxRecDepth 100000 in
theorem wX3_cellar_0 : Cond.fieldLink RX3 12 "WineByYears" "page" "LWineByYears$Page;" ∈ wsX3_cellar := by decide +kernel
set_option maxRecDepth 100000 in
theorem wX3_cellar_1 : Cond.fieldLink RX3 19 "WineByYears" "now" "LWineByYears$Cellar;" ∈ wsX3_cellar := by decide +kernel
set_option maxRecDepth 100000 in
theorem wX3_cellar_2 : Cond.fieldLink RX3 39 "WineByYears" "hasImage" "Z" ∈ wsX3_cellar := by decide +kernel
set_option maxRecDepth 100000 in
theorem wX3_cellar_3 : Cond.fieldLink RX3 43 "WineByYears" "timesRead" "I" ∈ wsX3_cellar := by decide +kernel
def fX3_cellar  (A : Me)   : Option (Int32 × Me) := bi (fX2_casksWritten A 1) fun r4 => if r4 = 0 then (some ((-103), A)) else (bi (fX1_readFrom A 3 1 r4) fun A24 => b2 (fX2_clear A24 1) fun r31 A31 => some (r4, (up2 (up2 A31 0 6 0) 0 7 (((up2 A31 0 6 0) 0 7) + 1))))
set_option maxRecDepth 100000 in
theorem tX3_cellar_0 {A B : Me}  {H : Heap} {locs : List Loc} {ls : Array Slot}  {rZ : Int32} {AZ : Me}  (C : Cx Γ p s m args meth c cX3_cellar 2 (some .int) RX3 wsX3_cellar)  (h : fX3_cellar A = some (rZ, AZ))  (hW : Wd Γ A B s.heap H locs) (hl : lv_has ls 2 [(0, .ref (Γ.2.2 0))]) : W p l e rmX3_cellar s m args below meth c H locs 0 0 (MQ below (QI Γ AZ B rZ) args s 0 0 (rg Γ)) (F0 m 0 ls []) := by
  unfold fX3_cellar at h
  refine lv_aload_n C.1 C.2.1 dX3_cellar_0 rfl (lv_at hl 0 rfl) ?_
  refine gX3_0 C hW rfl iX3_cellar_c3 wX3_cellar_0 dX3_cellar_1 ?_
  obtain ⟨r4, hc4, h⟩ := bi_s h
  refine cVi C hW (As := []) (rest := []) (mt_X2_casksWritten rfl hc4) (cwV 0 C.2.2.2.2.2.1 gX3_cellar_X2_casksWritten rfl rfl rfl (by decide +kernel) ⟨Nat.le_of_ble_eq_true rfl, Nat.le_of_ble_eq_true rfl⟩) (rcv2 C hW (rfl : kd 1 = 2)) rfl hl.1 rfl (Nat.le_of_ble_eq_true rfl) dX3_cellar_4 (Nat.zero_le _) (Nat.zero_le _) (fun H locs hW => ?_)
  refine lv_istore_n (lv' := [(1, .int r4), (0, .ref (Γ.2.2 0))]) C.1 C.2.1 dX3_cellar_7 rfl hl (by decide) rfl (fun ls hl => ?_)
  refine lv_iload_n C.1 C.2.1 dX3_cellar_8 rfl (lv_at hl 0 rfl) ?_
  refine lv_if_ne (tgt := 15) C.1 C.2.1 dX3_cellar_9 (by decide) (fun c_9 => ?_) (fun c_9 => ?_)
  · have h := if_n h c_9
    refine lv_aload_n C.1 C.2.1 dX3_cellar_15 rfl (lv_at hl 1 rfl) ?_
    refine gX3_1 C hW rfl iX3_cellar_c3 wX3_cellar_1 dX3_cellar_16 ?_
    refine lv_aload_n C.1 C.2.1 dX3_cellar_19 rfl (lv_at hl 1 rfl) ?_
    refine gX3_0 C hW rfl iX3_cellar_c3 wX3_cellar_0 dX3_cellar_20 ?_
    refine lv_iload_n C.1 C.2.1 dX3_cellar_23 rfl (lv_at hl 0 rfl) ?_
    obtain ⟨A24, hc24, h⟩ := bi_s h
    refine cVv C hW (As := [.ref (Γ.2.2 1), .int r4]) (rest := []) (mt_X1_readFrom rfl rfl hc24) (cwV 2 C.2.2.2.2.2.1 gX3_cellar_X1_readFrom rfl rfl rfl (by decide +kernel) ⟨Nat.le_of_ble_eq_true rfl, Nat.le_of_ble_eq_true rfl⟩) (rcv1 C hW (rfl : kd 3 = 1)) rfl hl.1 rfl (Nat.le_of_ble_eq_true rfl) dX3_cellar_24 (Nat.zero_le _) (Nat.zero_le _) (fun H locs hW => ?_)
    refine lv_aload_n C.1 C.2.1 dX3_cellar_27 rfl (lv_at hl 1 rfl) ?_
    refine gX3_0 C hW rfl iX3_cellar_c3 wX3_cellar_0 dX3_cellar_28 ?_
    obtain ⟨r31, A31, hc31, h⟩ := b2_s h
    refine cVi C hW (As := []) (rest := []) (mt_X2_clear rfl hc31) (cwV 0 C.2.2.2.2.2.1 gX3_cellar_X2_clear rfl rfl rfl (by decide +kernel) ⟨Nat.le_of_ble_eq_true rfl, Nat.le_of_ble_eq_true rfl⟩) (rcv2 C hW (rfl : kd 1 = 2)) rfl hl.1 rfl (Nat.le_of_ble_eq_true rfl) dX3_cellar_31 (Nat.zero_le _) (Nat.zero_le _) (fun H locs hW => ?_)
    refine lv_pop C.1 C.2.1 dX3_cellar_34 rfl ?_
    refine lv_aload_n C.1 C.2.1 dX3_cellar_35 rfl (lv_at hl 1 rfl) ?_
    refine lv_iconst (v := 0) C.1 C.2.1 dX3_cellar_36 (by decide) ?_
    refine pX3_6 C hW rfl (by decide) iX3_cellar_c3 wX3_cellar_2 dX3_cellar_37 (fun H locs hW => ?_)
    refine lv_aload_n C.1 C.2.1 dX3_cellar_40 rfl (lv_at hl 1 rfl) ?_
    refine lv_dup C.1 C.2.1 dX3_cellar_41 rfl ?_
    refine gX3_7 C hW rfl iX3_cellar_c3 wX3_cellar_3 dX3_cellar_42 ?_
    refine lv_iconst (v := 1) C.1 C.2.1 dX3_cellar_45 (by decide) ?_
    refine lv_iadd C.1 C.2.1 dX3_cellar_46 ?_
    refine pX3_7 C hW rfl iX3_cellar_c3 wX3_cellar_3 dX3_cellar_47 (fun H locs hW => ?_)
    refine lv_iload_n C.1 C.2.1 dX3_cellar_50 rfl (lv_at hl 0 rfl) ?_
    cases h
    exact z_iret C hW dX3_cellar_51
  · have h := if_y h c_9
    refine lv_bipush (v := (-103)) C.1 C.2.1 dX3_cellar_12 (by decide) ?_
    cases h
    exact z_iret C hW dX3_cellar_14
theorem mt_X3_cellar {l : Launch} {Γ : Gm} {A B : Me}   {rZ : Int32} {AZ : Me}  (h : fX3_cellar A = some (rZ, AZ)) : Met l yX3_cellar wsX3_cellar rmX3_cellar (PC Γ A B [.ref (Γ.2.2 0)]) (QI Γ AZ B rZ) 0 0 (rg Γ) :=
  met_of (by decide) rfl (Nat.le_of_ble_eq_true rfl) (fun p e s m below meth c ls C hW hl => tX3_cellar_0 C  h  hW (lv_sub (l := [(0, .ref (Γ.2.2 0))]) hl [0] rfl))
abbrev rmX3_cask : Room := { frames := 3, cells := 0, slots := 0, locals := 68 }
set_option maxRecDepth 100000 in
theorem iX3_cask_c0 : ∀ w ∈ wsX00, w ∈ wsX3_cask := by decide +kernel
set_option maxRecDepth 100000 in
theorem iX3_cask_c1 : ∀ w ∈ wsX10, w ∈ wsX3_cask := by decide +kernel
set_option maxRecDepth 100000 in
theorem iX3_cask_c3 : ∀ w ∈ wsX30, w ∈ wsX3_cask := by decide +kernel
set_option maxRecDepth 100000 in
theorem wX3_cask_0 : Cond.fieldLink RX3 19 "WineByYears" "now" "LWineByYears$Cellar;" ∈ wsX3_cask := by decide +kernel
set_option maxRecDepth 100000 in
theorem wX3_cask_1 : Cond.fieldLink RX3 72 "WineByYears$Cellar" "casks" "[LWineByYears$Cask;" ∈ wsX3_cask := by decide +kernel
set_option maxRecDepth 100000 in
theorem wX3_cask_2 : Cond.fieldLink RX3 76 "WineByYears$Cask" "ofYear" "[I" ∈ wsX3_cask := by decide +kernel
set_option maxRecDepth 100000 in
theorem wX3_cask_3 : Cond.fieldLink RX3 80 "WineByYears$Cask" "litres" "I" ∈ wsX3_cask := by decide +kernel
set_option maxRecDepth 100000 in
theorem wX3_cask_4 : Cond.fieldLink RX3 83 "WineByYears$Cellar" "law" "I" ∈ wsX3_cask := by decide +kernel
def fX3_cask_46  (A : Me)  (v2 : Int32) (k3 : Nat) : Option (Int32) := if v2 = 0 then (some (A k3 1)) else if v2 = 1 then (bi (fX0_age A k3 (A 3 6)) fun r89 => some r89) else if v2 = 2 then (bi (fX1_whoMay A 3 k3) fun r98 => some r98) else if v2 = 3 then (bi (fX0_yearBits A k3) fun r103 => some r103) else (some (-102))
set_option maxRecDepth 100000 in
theorem tX3_cask_46 {A B : Me}  {H : Heap} {locs : List Loc} {ls : Array Slot} {v2 : Int32} {k3 : Nat} {rZ : Int32}  (C : Cx Γ p s m args meth c cX3_cask 4 (some .int) RX3 wsX3_cask)  (h : fX3_cask_46 A v2 k3 = some rZ) (hk3 : kd k3 = 0) (hW : Wd Γ A B s.heap H locs) (hl : lv_has ls 4 [(0, .ref (Γ.2.2 0)), (2, .int v2), (3, .ref (Γ.2.2 k3))]) : W p l e rmX3_cask s m args below meth c H locs 0 0 (MQ below (QI Γ A B rZ) args s 0 0 (rg Γ)) (F0 m 46 ls []) := by
  unfold fX3_cask_46 at h
  refine lv_iload_n C.1 C.2.1 dX3_cask_46 rfl (lv_at hl 1 rfl) ?_
  by_cases e_0 : v2 = 0
  · have h := if_y h e_0
    refine lv_tableIn (off := 29) (tgt := 76) C.1 C.2.1 dX3_cask_47 (by rw [e_0]; decide) (by rw [e_0]; decide) (by rw [e_0]; decide) (by decide) ?_
    refine lv_aload_n C.1 C.2.1 dX3_cask_76 rfl (lv_at hl 2 rfl) ?_
    refine gX0_1 C hW hk3 iX3_cask_c0 wX3_cask_3 dX3_cask_77 ?_
    cases h
    exact z_iret C hW dX3_cask_80
  have h := if_n h e_0
  by_cases e_1 : v2 = 1
  · have h := if_y h e_1
    refine lv_tableIn (off := 34) (tgt := 81) C.1 C.2.1 dX3_cask_47 (by rw [e_1]; decide) (by rw [e_1]; decide) (by rw [e_1]; decide) (by decide) ?_
    refine lv_aload_n C.1 C.2.1 dX3_cask_81 rfl (lv_at hl 2 rfl) ?_
    refine lv_aload_n C.1 C.2.1 dX3_cask_82 rfl (lv_at hl 0 rfl) ?_
    refine gX3_1 C hW rfl iX3_cask_c3 wX3_cask_0 dX3_cask_83 ?_
    refine gX1_6 C hW rfl iX3_cask_c1 wX3_cask_4 dX3_cask_86 ?_
    obtain ⟨r89, hc89, h⟩ := bi_s h
    refine cVi C hW (As := [.int (A 3 6)]) (rest := []) (mt_X0_age hk3 hc89) (cwV 1 C.2.2.2.2.2.1 gX3_cask_X0_age rfl rfl rfl (by decide +kernel) ⟨Nat.le_of_ble_eq_true rfl, Nat.le_of_ble_eq_true rfl⟩) (rcv0 C hW hk3) rfl hl.1 rfl (Nat.le_of_ble_eq_true rfl) dX3_cask_89 (Nat.zero_le _) (Nat.zero_le _) (fun H locs hW => ?_)
    cases h
    exact z_iret C hW dX3_cask_92
  have h := if_n h e_1
  by_cases e_2 : v2 = 2
  · have h := if_y h e_2
    refine lv_tableIn (off := 46) (tgt := 93) C.1 C.2.1 dX3_cask_47 (by rw [e_2]; decide) (by rw [e_2]; decide) (by rw [e_2]; decide) (by decide) ?_
    refine lv_aload_n C.1 C.2.1 dX3_cask_93 rfl (lv_at hl 0 rfl) ?_
    refine gX3_1 C hW rfl iX3_cask_c3 wX3_cask_0 dX3_cask_94 ?_
    refine lv_aload_n C.1 C.2.1 dX3_cask_97 rfl (lv_at hl 2 rfl) ?_
    obtain ⟨r98, hc98, h⟩ := bi_s h
    refine cVi C hW (As := [.ref (Γ.2.2 k3)]) (rest := []) (mt_X1_whoMay rfl hk3 hc98) (cwV 1 C.2.2.2.2.2.1 gX3_cask_X1_whoMay rfl rfl rfl (by decide +kernel) ⟨Nat.le_of_ble_eq_true rfl, Nat.le_of_ble_eq_true rfl⟩) (rcv1 C hW (rfl : kd 3 = 1)) rfl hl.1 rfl (Nat.le_of_ble_eq_true rfl) dX3_cask_98 (Nat.zero_le _) (Nat.zero_le _) (fun H locs hW => ?_)
    cases h
    exact z_iret C hW dX3_cask_101
  have h := if_n h e_2
  by_cases e_3 : v2 = 3
  · have h := if_y h e_3
    refine lv_tableIn (off := 55) (tgt := 102) C.1 C.2.1 dX3_cask_47 (by rw [e_3]; decide) (by rw [e_3]; decide) (by rw [e_3]; decide) (by decide) ?_
    refine lv_aload_n C.1 C.2.1 dX3_cask_102 rfl (lv_at hl 2 rfl) ?_
    obtain ⟨r103, hc103, h⟩ := bi_s h
    refine cVi C hW (As := []) (rest := []) (mt_X0_yearBits hk3 hc103) (cwV 0 C.2.2.2.2.2.1 gX3_cask_X0_yearBits rfl rfl rfl (by decide +kernel) ⟨Nat.le_of_ble_eq_true rfl, Nat.le_of_ble_eq_true rfl⟩) (rcv0 C hW hk3) rfl hl.1 rfl (Nat.le_of_ble_eq_true rfl) dX3_cask_103 (Nat.zero_le _) (Nat.zero_le _) (fun H locs hW => ?_)
    cases h
    exact z_iret C hW dX3_cask_106
  have h := if_n h e_3
  refine lv_tableOut (tgt := 107) C.1 C.2.1 dX3_cask_47 ?_ (by decide) ?_
  · exact tsw0_3 e_0 e_1 e_2 e_3
  · refine lv_bipush (v := (-102)) C.1 C.2.1 dX3_cask_107 (by decide) ?_
    cases h
    exact z_iret C hW dX3_cask_109
def fX3_cask  (A : Me)  (v1 : Int32) (v2 : Int32) : Option (Int32) := bi (fX1_hasCask A 3 v1) fun r5 => if r5 = 0 then (some (-101)) else (ck (inb v1 5) <| if v2 < 10 then (fX3_cask_46 A v2 (4 + 6 + 2 * v1.toNatClampNeg)) else (if 20 ≤ v2 then (fX3_cask_46 A v2 (4 + 6 + 2 * v1.toNatClampNeg)) else (ck (inb (v2 - 10) 10) <| some (A (4 + 6 + 2 * v1.toNatClampNeg + 1) (v2 - 10).toNatClampNeg))))
set_option maxRecDepth 100000 in
theorem tX3_cask_0 {A B : Me}  {H : Heap} {locs : List Loc} {ls : Array Slot} {v1 : Int32} {v2 : Int32} {rZ : Int32}  (C : Cx Γ p s m args meth c cX3_cask 4 (some .int) RX3 wsX3_cask)  (h : fX3_cask A v1 v2 = some rZ)  (hW : Wd Γ A B s.heap H locs) (hl : lv_has ls 4 [(0, .ref (Γ.2.2 0)), (1, .int v1), (2, .int v2)]) : W p l e rmX3_cask s m args below meth c H locs 0 0 (MQ below (QI Γ A B rZ) args s 0 0 (rg Γ)) (F0 m 0 ls []) := by
  unfold fX3_cask at h
  refine lv_aload_n C.1 C.2.1 dX3_cask_0 rfl (lv_at hl 0 rfl) ?_
  refine gX3_1 C hW rfl iX3_cask_c3 wX3_cask_0 dX3_cask_1 ?_
  refine lv_iload_n C.1 C.2.1 dX3_cask_4 rfl (lv_at hl 1 rfl) ?_
  obtain ⟨r5, hc5, h⟩ := bi_s h
  refine cVi C hW (As := [.int v1]) (rest := []) (mt_X1_hasCask rfl hc5) (cwV 1 C.2.2.2.2.2.1 gX3_cask_X1_hasCask rfl rfl rfl (by decide +kernel) ⟨Nat.le_of_ble_eq_true rfl, Nat.le_of_ble_eq_true rfl⟩) (rcv1 C hW (rfl : kd 3 = 1)) rfl hl.1 rfl (Nat.le_of_ble_eq_true rfl) dX3_cask_5 (Nat.zero_le _) (Nat.zero_le _) (fun H locs hW => ?_)
  refine lv_if_ne (tgt := 14) C.1 C.2.1 dX3_cask_8 (by decide) (fun c_8 => ?_) (fun c_8 => ?_)
  · have h := if_n h c_8
    refine lv_aload_n C.1 C.2.1 dX3_cask_14 rfl (lv_at hl 0 rfl) ?_
    refine gX3_1 C hW rfl iX3_cask_c3 wX3_cask_0 dX3_cask_15 ?_
    refine gX1_0 C hW rfl iX3_cask_c1 wX3_cask_1 dX3_cask_18 ?_
    refine lv_iload_n C.1 C.2.1 dX3_cask_21 rfl (lv_at hl 1 rfl) ?_
    obtain ⟨hi22, h⟩ := ck_s h
    refine la7 C hW ⟨rfl, rfl⟩ hi22 dX3_cask_22 ?_
    refine lv_astore_n (lv' := [(3, .ref (Γ.2.2 (4 + 6 + 2 * v1.toNatClampNeg))), (0, .ref (Γ.2.2 0)), (1, .int v1), (2, .int v2)]) C.1 C.2.1 dX3_cask_23 rfl hl (by decide) rfl (fun ls hl => ?_)
    refine lv_iload_n C.1 C.2.1 dX3_cask_24 rfl (lv_at hl 3 rfl) ?_
    refine lv_bipush (v := 10) C.1 C.2.1 dX3_cask_25 (by decide) ?_
    refine lv_icmp_lt (tgt := 46) C.1 C.2.1 dX3_cask_27 (by decide) (fun c_27 => ?_) (fun c_27 => ?_)
    · have h := if_y h c_27
      exact tX3_cask_46 C  h (kd_7e (⟨rfl, rfl⟩ : kd 4 = 7 ∧ ln 4 = 5).1 (inb_s hi22) rfl) hW (lv_sub hl [1, 3, 0] rfl)
    · have h := if_n h c_27
      refine lv_iload_n C.1 C.2.1 dX3_cask_30 rfl (lv_at hl 3 rfl) ?_
      refine lv_bipush (v := 20) C.1 C.2.1 dX3_cask_31 (by decide) ?_
      refine lv_icmp_ge (tgt := 46) C.1 C.2.1 dX3_cask_33 (by decide) (fun c_33 => ?_) (fun c_33 => ?_)
      · have h := if_y h c_33
        exact tX3_cask_46 C  h (kd_7e (⟨rfl, rfl⟩ : kd 4 = 7 ∧ ln 4 = 5).1 (inb_s hi22) rfl) hW (lv_sub hl [1, 3, 0] rfl)
      · have h := if_n h c_33
        refine lv_aload_n C.1 C.2.1 dX3_cask_36 rfl (lv_at hl 0 rfl) ?_
        refine gX0_0 C hW (kd_7e (⟨rfl, rfl⟩ : kd 4 = 7 ∧ ln 4 = 5).1 (inb_s hi22) rfl) iX3_cask_c0 wX3_cask_2 dX3_cask_37 ?_
        refine lv_iload_n C.1 C.2.1 dX3_cask_40 rfl (lv_at hl 3 rfl) ?_
        refine lv_bipush (v := 10) C.1 C.2.1 dX3_cask_41 (by decide) ?_
        refine lv_isub C.1 C.2.1 dX3_cask_43 ?_
        obtain ⟨hi44, h⟩ := ck_s h
        refine la6 C hW (kd_0r (kd_7e (⟨rfl, rfl⟩ : kd 4 = 7 ∧ ln 4 = 5).1 (inb_s hi22) rfl)) hi44 dX3_cask_44 ?_
        cases h
        exact z_iret C hW dX3_cask_45
  · have h := if_y h c_8
    refine lv_bipush (v := (-101)) C.1 C.2.1 dX3_cask_11 (by decide) ?_
    cases h
    exact z_iret C hW dX3_cask_13
theorem mt_X3_cask {l : Launch} {Γ : Gm} {A B : Me}  {v1 : Int32} {v2 : Int32} {rZ : Int32}  (h : fX3_cask A v1 v2 = some rZ) : Met l yX3_cask wsX3_cask rmX3_cask (PC Γ A B [.ref (Γ.2.2 0), .int v1, .int v2]) (QI Γ A B rZ) 0 0 (rg Γ) :=
  met_of (by decide) rfl (Nat.le_of_ble_eq_true rfl) (fun p e s m below meth c ls C hW hl => tX3_cask_0 C  h  hW (lv_sub (l := [(0, .ref (Γ.2.2 0)), (1, .int v1), (2, .int v2)]) hl [0, 1, 2] rfl))
abbrev rmX3_isKind : Room := { frames := 0, cells := 0, slots := 0, locals := 0 }
def fX3_isKind_14    (t0 : Int32) : Option (Int32) := ck (zb t0) <| some t0
set_option maxRecDepth 100000 in
theorem tX3_isKind_14 {A B : Me}  {H : Heap} {locs : List Loc} {ls : Array Slot} {t0 : Int32} {rZ : Int32}  (C : Cx Γ p s m args meth c cX3_isKind 1 (some .boolean) RX3 wsX3_isKind)  (h : fX3_isKind_14 t0 = some rZ)  (hW : Wd Γ A B s.heap H locs) (hl : lv_has ls 1 []) : W p l e rmX3_isKind s m args below meth c H locs 0 0 (MQ below (QI Γ A B rZ) args s 0 0 (rg Γ)) (F0 m 14 ls [.int t0]) := by
  unfold fX3_isKind_14 at h
  obtain ⟨hz, h⟩ := ck_s h
  cases h
  exact z_zret C hW hz dX3_isKind_14
def fX3_isKind_13     : Option (Int32) := fX3_isKind_14 0
set_option maxRecDepth 100000 in
theorem tX3_isKind_13 {A B : Me}  {H : Heap} {locs : List Loc} {ls : Array Slot}  {rZ : Int32}  (C : Cx Γ p s m args meth c cX3_isKind 1 (some .boolean) RX3 wsX3_isKind)  (h : fX3_isKind_13 = some rZ)  (hW : Wd Γ A B s.heap H locs) (hl : lv_has ls 1 []) : W p l e rmX3_isKind s m args below meth c H locs 0 0 (MQ below (QI Γ A B rZ) args s 0 0 (rg Γ)) (F0 m 13 ls []) := by
  unfold fX3_isKind_13 at h
  refine lv_iconst (v := 0) C.1 C.2.1 dX3_isKind_13 (by decide) ?_
  exact tX3_isKind_14 C  h  hW (lv_sub hl [] rfl)
def fX3_isKind    (v0 : Int32) : Option (Int32) := if v0 < 0 then (fX3_isKind_13) else (if 5 ≤ v0 then (fX3_isKind_13) else (fX3_isKind_14 1))
set_option maxRecDepth 100000 in
theorem tX3_isKind_0 {A B : Me}  {H : Heap} {locs : List Loc} {ls : Array Slot} {v0 : Int32} {rZ : Int32}  (C : Cx Γ p s m args meth c cX3_isKind 1 (some .boolean) RX3 wsX3_isKind)  (h : fX3_isKind v0 = some rZ)  (hW : Wd Γ A B s.heap H locs) (hl : lv_has ls 1 [(0, .int v0)]) : W p l e rmX3_isKind s m args below meth c H locs 0 0 (MQ below (QI Γ A B rZ) args s 0 0 (rg Γ)) (F0 m 0 ls []) := by
  unfold fX3_isKind at h
  refine lv_iload_n C.1 C.2.1 dX3_isKind_0 rfl (lv_at hl 0 rfl) ?_
  refine lv_if_lt (tgt := 13) C.1 C.2.1 dX3_isKind_1 (by decide) (fun c_1 => ?_) (fun c_1 => ?_)
  · have h := if_y h c_1
    exact tX3_isKind_13 C  h  hW (lv_sub hl [] rfl)
  · have h := if_n h c_1
    refine lv_iload_n C.1 C.2.1 dX3_isKind_4 rfl (lv_at hl 0 rfl) ?_
    refine lv_iconst (v := 5) C.1 C.2.1 dX3_isKind_5 (by decide) ?_
    refine lv_icmp_ge (tgt := 13) C.1 C.2.1 dX3_isKind_6 (by decide) (fun c_6 => ?_) (fun c_6 => ?_)
    · have h := if_y h c_6
      exact tX3_isKind_13 C  h  hW (lv_sub hl [] rfl)
    · have h := if_n h c_6
      refine lv_iconst (v := 1) C.1 C.2.1 dX3_isKind_9 (by decide) ?_
      refine lv_goto (tgt := 14) C.1 C.2.1 dX3_isKind_10 (by decide) ?_
      exact tX3_isKind_14 C  h  hW (lv_sub hl [] rfl)
theorem mt_X3_isKind {l : Launch} {Γ : Gm} {A B : Me}  {v0 : Int32} {rZ : Int32}  (h : fX3_isKind v0 = some rZ) : Met l yX3_isKind wsX3_isKind rmX3_isKind (PC Γ A B [.int v0]) (QI Γ A B rZ) 0 0 (rg Γ) :=
  met_of (by decide) rfl (Nat.le_of_ble_eq_true rfl) (fun p e s m below meth c ls C hW hl => tX3_isKind_0 C  h  hW (lv_sub (l := [(0, .int v0)]) hl [0] rfl))
abbrev rmX3_person : Room := { frames := 1, cells := 0, slots := 0, locals := 23 }
set_option maxRecDepth 100000 in
theorem iX3_person_c1 : ∀ w ∈ wsX10, w ∈ wsX3_person := by decide +kernel
set_option maxRecDepth 100000 in
theorem iX3_person_c3 : ∀ w ∈ wsX30, w ∈ wsX3_person := by decide +kernel
set_option maxRecDepth 100000 in
theorem wX3_person_0 : Cond.fieldLink RX3 19 "WineByYears" "now" "LWineByYears$Cellar;" ∈ wsX3_person := by decide +kernel
set_option maxRecDepth 100000 in
theorem wX3_person_1 : Cond.fieldLink RX3 103 "WineByYears$Cellar" "peopleCount" "I" ∈ wsX3_person := by decide +kernel
def fX3_person_17  (A : Me)   : Option (Int32 × Me) := some ((-102), A)
set_option maxRecDepth 100000 in
theorem tX3_person_17 {A B : Me}  {H : Heap} {locs : List Loc} {ls : Array Slot}  {rZ : Int32} {AZ : Me}  (C : Cx Γ p s m args meth c cX3_person 3 (some .int) RX3 wsX3_person)  (h : fX3_person_17 A = some (rZ, AZ))  (hW : Wd Γ A B s.heap H locs) (hl : lv_has ls 3 []) : W p l e rmX3_person s m args below meth c H locs 0 0 (MQ below (QI Γ AZ B rZ) args s 0 0 (rg Γ)) (F0 m 17 ls []) := by
  unfold fX3_person_17 at h
  refine lv_bipush (v := (-102)) C.1 C.2.1 dX3_person_17 (by decide) ?_
  cases h
  exact z_iret C hW dX3_person_19
def fX3_person  (A : Me)  (v1 : Int32) (v2 : Int32) : Option (Int32 × Me) := bi (fX3_isKind v1) fun r1 => if r1 = 0 then (fX3_person_17 A) else (if v2 < 0 then (fX3_person_17 A) else (if v2 < 10 then (bi (fX1_isThere A 3) fun r24 => if r24 = 0 then (some ((-103), A)) else (if (A 3 8) < 5 then (b2 (fX1_welcome A 3 v1 v2) fun r53 A53 => some (r53, A53)) else (some ((-104), A)))) else (fX3_person_17 A)))
set_option maxRecDepth 100000 in
theorem tX3_person_0 {A B : Me}  {H : Heap} {locs : List Loc} {ls : Array Slot} {v1 : Int32} {v2 : Int32} {rZ : Int32} {AZ : Me}  (C : Cx Γ p s m args meth c cX3_person 3 (some .int) RX3 wsX3_person)  (h : fX3_person A v1 v2 = some (rZ, AZ))  (hW : Wd Γ A B s.heap H locs) (hl : lv_has ls 3 [(0, .ref (Γ.2.2 0)), (1, .int v1), (2, .int v2)]) : W p l e rmX3_person s m args below meth c H locs 0 0 (MQ below (QI Γ AZ B rZ) args s 0 0 (rg Γ)) (F0 m 0 ls []) := by
  unfold fX3_person at h
  refine lv_iload_n C.1 C.2.1 dX3_person_0 rfl (lv_at hl 1 rfl) ?_
  obtain ⟨r1, hc1, h⟩ := bi_s h
  refine cSi C hW (As := [.int v1]) (rest := []) (mt_X3_isKind  hc1) (va_cwS 1 C.2.2.2.2.2.1 gX3_person_X3_isKind rfl rfl rfl (by decide +kernel) ⟨Nat.le_of_ble_eq_true rfl, Nat.le_of_ble_eq_true rfl⟩) rfl hl.1 rfl (Nat.le_of_ble_eq_true rfl) dX3_person_1 (Nat.zero_le _) (Nat.zero_le _) (fun H locs hW => ?_)
  refine lv_if_eq (tgt := 17) C.1 C.2.1 dX3_person_4 (by decide) (fun c_4 => ?_) (fun c_4 => ?_)
  · have h := if_y h c_4
    exact tX3_person_17 C  h  hW (lv_sub hl [] rfl)
  · have h := if_n h c_4
    refine lv_iload_n C.1 C.2.1 dX3_person_7 rfl (lv_at hl 2 rfl) ?_
    refine lv_if_lt (tgt := 17) C.1 C.2.1 dX3_person_8 (by decide) (fun c_8 => ?_) (fun c_8 => ?_)
    · have h := if_y h c_8
      exact tX3_person_17 C  h  hW (lv_sub hl [] rfl)
    · have h := if_n h c_8
      refine lv_iload_n C.1 C.2.1 dX3_person_11 rfl (lv_at hl 2 rfl) ?_
      refine lv_bipush (v := 10) C.1 C.2.1 dX3_person_12 (by decide) ?_
      refine lv_icmp_lt (tgt := 20) C.1 C.2.1 dX3_person_14 (by decide) (fun c_14 => ?_) (fun c_14 => ?_)
      · have h := if_y h c_14
        refine lv_aload_n C.1 C.2.1 dX3_person_20 rfl (lv_at hl 0 rfl) ?_
        refine gX3_1 C hW rfl iX3_person_c3 wX3_person_0 dX3_person_21 ?_
        obtain ⟨r24, hc24, h⟩ := bi_s h
        refine cVi C hW (As := []) (rest := []) (mt_X1_isThere rfl hc24) (cwV 0 C.2.2.2.2.2.1 gX3_person_X1_isThere rfl rfl rfl (by decide +kernel) ⟨Nat.le_of_ble_eq_true rfl, Nat.le_of_ble_eq_true rfl⟩) (rcv1 C hW (rfl : kd 3 = 1)) rfl hl.1 rfl (Nat.le_of_ble_eq_true rfl) dX3_person_24 (Nat.zero_le _) (Nat.zero_le _) (fun H locs hW => ?_)
        refine lv_if_ne (tgt := 33) C.1 C.2.1 dX3_person_27 (by decide) (fun c_27 => ?_) (fun c_27 => ?_)
        · have h := if_n h c_27
          refine lv_aload_n C.1 C.2.1 dX3_person_33 rfl (lv_at hl 0 rfl) ?_
          refine gX3_1 C hW rfl iX3_person_c3 wX3_person_0 dX3_person_34 ?_
          refine gX1_8 C hW rfl iX3_person_c1 wX3_person_1 dX3_person_37 ?_
          refine lv_iconst (v := 5) C.1 C.2.1 dX3_person_40 (by decide) ?_
          refine lv_icmp_lt (tgt := 47) C.1 C.2.1 dX3_person_41 (by decide) (fun c_41 => ?_) (fun c_41 => ?_)
          · have h := if_y h c_41
            refine lv_aload_n C.1 C.2.1 dX3_person_47 rfl (lv_at hl 0 rfl) ?_
            refine gX3_1 C hW rfl iX3_person_c3 wX3_person_0 dX3_person_48 ?_
            refine lv_iload_n C.1 C.2.1 dX3_person_51 rfl (lv_at hl 1 rfl) ?_
            refine lv_iload_n C.1 C.2.1 dX3_person_52 rfl (lv_at hl 2 rfl) ?_
            obtain ⟨r53, A53, hc53, h⟩ := b2_s h
            refine cVi C hW (As := [.int v1, .int v2]) (rest := []) (mt_X1_welcome rfl hc53) (cwV 2 C.2.2.2.2.2.1 gX3_person_X1_welcome rfl rfl rfl (by decide +kernel) ⟨Nat.le_of_ble_eq_true rfl, Nat.le_of_ble_eq_true rfl⟩) (rcv1 C hW (rfl : kd 3 = 1)) rfl hl.1 rfl (Nat.le_of_ble_eq_true rfl) dX3_person_53 (Nat.zero_le _) (Nat.zero_le _) (fun H locs hW => ?_)
            cases h
            exact z_iret C hW dX3_person_56
          · have h := if_n h c_41
            refine lv_bipush (v := (-104)) C.1 C.2.1 dX3_person_44 (by decide) ?_
            cases h
            exact z_iret C hW dX3_person_46
        · have h := if_y h c_27
          refine lv_bipush (v := (-103)) C.1 C.2.1 dX3_person_30 (by decide) ?_
          cases h
          exact z_iret C hW dX3_person_32
      · have h := if_n h c_14
        exact tX3_person_17 C  h  hW (lv_sub hl [] rfl)
theorem mt_X3_person {l : Launch} {Γ : Gm} {A B : Me}  {v1 : Int32} {v2 : Int32} {rZ : Int32} {AZ : Me}  (h : fX3_person A v1 v2 = some (rZ, AZ)) : Met l yX3_person wsX3_person rmX3_person (PC Γ A B [.ref (Γ.2.2 0), .int v1, .int v2]) (QI Γ AZ B rZ) 0 0 (rg Γ) :=
  met_of (by decide) rfl (Nat.le_of_ble_eq_true rfl) (fun p e s m below meth c ls C hW hl => tX3_person_0 C  h  hW (lv_sub (l := [(0, .ref (Γ.2.2 0)), (1, .int v1), (2, .int v2)]) hl [0, 1, 2] rfl))
abbrev rmX3_about : Room := { frames := 5, cells := 0, slots := 0, locals := 113 }
set_option maxRecDepth 100000 in
theorem iX3_about_c1 : ∀ w ∈ wsX10, w ∈ wsX3_about := by decide +kernel
set_option maxRecDepth 100000 in
theorem iX3_about_c3 : ∀ w ∈ wsX30, w ∈ wsX3_about := by decide +kernel
set_option maxRecDepth 100000 in
theorem wX3_about_0 : Cond.fieldLink RX3 19 "WineByYears" "now" "LWineByYears$Cellar;" ∈ wsX3_about := by decide +kernel
set_option maxRecDepth 100000 in
theorem wX3_about_1 : Cond.fieldLink RX3 113 "WineByYears$Cellar" "kinds" "[I" ∈ wsX3_about := by decide +kernel
set_option maxRecDepth 100000 in
theorem wX3_about_2 : Cond.fieldLink RX3 116 "WineByYears$Cellar" "borns" "[I" ∈ wsX3_about := by decide +kernel
set_option maxRecDepth 100000 in
theorem wX3_about_3 : Cond.fieldLink RX3 122 "WineByYears$Cellar" "ills" "[I" ∈ wsX3_about := by decide +kernel
def fX3_about  (A : Me)  (v1 : Int32) (v2 : Int32) : Option (Int32) := bi (fX1_hasPerson A 3 v1) fun r5 => if r5 = 0 then (some (-101)) else (if v2 = 0 then (ck (inb v1 5) <| some (A 5 v1.toNatClampNeg)) else if v2 = 1 then (ck (inb v1 5) <| some (A 6 v1.toNatClampNeg)) else if v2 = 2 then (bi (fX1_casksFor A 3 v1) fun r69 => some r69) else if v2 = 3 then (ck (inb v1 5) <| some (A 7 v1.toNatClampNeg)) else (some (-102)))
set_option maxRecDepth 100000 in
theorem tX3_about_0 {A B : Me}  {H : Heap} {locs : List Loc} {ls : Array Slot} {v1 : Int32} {v2 : Int32} {rZ : Int32}  (C : Cx Γ p s m args meth c cX3_about 3 (some .int) RX3 wsX3_about)  (h : fX3_about A v1 v2 = some rZ)  (hW : Wd Γ A B s.heap H locs) (hl : lv_has ls 3 [(0, .ref (Γ.2.2 0)), (1, .int v1), (2, .int v2)]) : W p l e rmX3_about s m args below meth c H locs 0 0 (MQ below (QI Γ A B rZ) args s 0 0 (rg Γ)) (F0 m 0 ls []) := by
  unfold fX3_about at h
  refine lv_aload_n C.1 C.2.1 dX3_about_0 rfl (lv_at hl 0 rfl) ?_
  refine gX3_1 C hW rfl iX3_about_c3 wX3_about_0 dX3_about_1 ?_
  refine lv_iload_n C.1 C.2.1 dX3_about_4 rfl (lv_at hl 1 rfl) ?_
  obtain ⟨r5, hc5, h⟩ := bi_s h
  refine cVi C hW (As := [.int v1]) (rest := []) (mt_X1_hasPerson rfl hc5) (cwV 1 C.2.2.2.2.2.1 gX3_about_X1_hasPerson rfl rfl rfl (by decide +kernel) ⟨Nat.le_of_ble_eq_true rfl, Nat.le_of_ble_eq_true rfl⟩) (rcv1 C hW (rfl : kd 3 = 1)) rfl hl.1 rfl (Nat.le_of_ble_eq_true rfl) dX3_about_5 (Nat.zero_le _) (Nat.zero_le _) (fun H locs hW => ?_)
  refine lv_if_ne (tgt := 14) C.1 C.2.1 dX3_about_8 (by decide) (fun c_8 => ?_) (fun c_8 => ?_)
  · have h := if_n h c_8
    refine lv_iload_n C.1 C.2.1 dX3_about_14 rfl (lv_at hl 2 rfl) ?_
    by_cases e_0 : v2 = 0
    · have h := if_y h e_0
      refine lv_tableIn (off := 29) (tgt := 44) C.1 C.2.1 dX3_about_15 (by rw [e_0]; decide) (by rw [e_0]; decide) (by rw [e_0]; decide) (by decide) ?_
      refine lv_aload_n C.1 C.2.1 dX3_about_44 rfl (lv_at hl 0 rfl) ?_
      refine gX3_1 C hW rfl iX3_about_c3 wX3_about_0 dX3_about_45 ?_
      refine gX1_1 C hW rfl iX3_about_c1 wX3_about_1 dX3_about_48 ?_
      refine lv_iload_n C.1 C.2.1 dX3_about_51 rfl (lv_at hl 1 rfl) ?_
      obtain ⟨hi52, h⟩ := ck_s h
      refine la6 C hW ⟨rfl, rfl⟩ hi52 dX3_about_52 ?_
      cases h
      exact z_iret C hW dX3_about_53
    have h := if_n h e_0
    by_cases e_1 : v2 = 1
    · have h := if_y h e_1
      refine lv_tableIn (off := 39) (tgt := 54) C.1 C.2.1 dX3_about_15 (by rw [e_1]; decide) (by rw [e_1]; decide) (by rw [e_1]; decide) (by decide) ?_
      refine lv_aload_n C.1 C.2.1 dX3_about_54 rfl (lv_at hl 0 rfl) ?_
      refine gX3_1 C hW rfl iX3_about_c3 wX3_about_0 dX3_about_55 ?_
      refine gX1_2 C hW rfl iX3_about_c1 wX3_about_2 dX3_about_58 ?_
      refine lv_iload_n C.1 C.2.1 dX3_about_61 rfl (lv_at hl 1 rfl) ?_
      obtain ⟨hi62, h⟩ := ck_s h
      refine la6 C hW ⟨rfl, rfl⟩ hi62 dX3_about_62 ?_
      cases h
      exact z_iret C hW dX3_about_63
    have h := if_n h e_1
    by_cases e_2 : v2 = 2
    · have h := if_y h e_2
      refine lv_tableIn (off := 49) (tgt := 64) C.1 C.2.1 dX3_about_15 (by rw [e_2]; decide) (by rw [e_2]; decide) (by rw [e_2]; decide) (by decide) ?_
      refine lv_aload_n C.1 C.2.1 dX3_about_64 rfl (lv_at hl 0 rfl) ?_
      refine gX3_1 C hW rfl iX3_about_c3 wX3_about_0 dX3_about_65 ?_
      refine lv_iload_n C.1 C.2.1 dX3_about_68 rfl (lv_at hl 1 rfl) ?_
      obtain ⟨r69, hc69, h⟩ := bi_s h
      refine cVi C hW (As := [.int v1]) (rest := []) (mt_X1_casksFor rfl hc69) (cwV 1 C.2.2.2.2.2.1 gX3_about_X1_casksFor rfl rfl rfl (by decide +kernel) ⟨Nat.le_of_ble_eq_true rfl, Nat.le_of_ble_eq_true rfl⟩) (rcv1 C hW (rfl : kd 3 = 1)) rfl hl.1 rfl (Nat.le_of_ble_eq_true rfl) dX3_about_69 (Nat.zero_le _) (Nat.zero_le _) (fun H locs hW => ?_)
      cases h
      exact z_iret C hW dX3_about_72
    have h := if_n h e_2
    by_cases e_3 : v2 = 3
    · have h := if_y h e_3
      refine lv_tableIn (off := 58) (tgt := 73) C.1 C.2.1 dX3_about_15 (by rw [e_3]; decide) (by rw [e_3]; decide) (by rw [e_3]; decide) (by decide) ?_
      refine lv_aload_n C.1 C.2.1 dX3_about_73 rfl (lv_at hl 0 rfl) ?_
      refine gX3_1 C hW rfl iX3_about_c3 wX3_about_0 dX3_about_74 ?_
      refine gX1_3 C hW rfl iX3_about_c1 wX3_about_3 dX3_about_77 ?_
      refine lv_iload_n C.1 C.2.1 dX3_about_80 rfl (lv_at hl 1 rfl) ?_
      obtain ⟨hi81, h⟩ := ck_s h
      refine la6 C hW ⟨rfl, rfl⟩ hi81 dX3_about_81 ?_
      cases h
      exact z_iret C hW dX3_about_82
    have h := if_n h e_3
    refine lv_tableOut (tgt := 83) C.1 C.2.1 dX3_about_15 ?_ (by decide) ?_
    · exact tsw0_3 e_0 e_1 e_2 e_3
    · refine lv_bipush (v := (-102)) C.1 C.2.1 dX3_about_83 (by decide) ?_
      cases h
      exact z_iret C hW dX3_about_85
  · have h := if_y h c_8
    refine lv_bipush (v := (-101)) C.1 C.2.1 dX3_about_11 (by decide) ?_
    cases h
    exact z_iret C hW dX3_about_13
theorem mt_X3_about {l : Launch} {Γ : Gm} {A B : Me}  {v1 : Int32} {v2 : Int32} {rZ : Int32}  (h : fX3_about A v1 v2 = some rZ) : Met l yX3_about wsX3_about rmX3_about (PC Γ A B [.ref (Γ.2.2 0), .int v1, .int v2]) (QI Γ A B rZ) 0 0 (rg Γ) :=
  met_of (by decide) rfl (Nat.le_of_ble_eq_true rfl) (fun p e s m below meth c ls C hW hl => tX3_about_0 C  h  hW (lv_sub (l := [(0, .ref (Γ.2.2 0)), (1, .int v1), (2, .int v2)]) hl [0, 1, 2] rfl))
abbrev rmX3_isOfKind : Room := { frames := 0, cells := 0, slots := 0, locals := 0 }
def fX3_isOfKind_24    (t0 : Int32) : Option (Int32) := ck (zb t0) <| some t0
set_option maxRecDepth 100000 in
theorem tX3_isOfKind_24 {A B : Me}  {H : Heap} {locs : List Loc} {ls : Array Slot} {t0 : Int32} {rZ : Int32}  (C : Cx Γ p s m args meth c cX3_isOfKind 2 (some .boolean) RX3 wsX3_isOfKind)  (h : fX3_isOfKind_24 t0 = some rZ)  (hW : Wd Γ A B s.heap H locs) (hl : lv_has ls 2 []) : W p l e rmX3_isOfKind s m args below meth c H locs 0 0 (MQ below (QI Γ A B rZ) args s 0 0 (rg Γ)) (F0 m 24 ls [.int t0]) := by
  unfold fX3_isOfKind_24 at h
  obtain ⟨hz, h⟩ := ck_s h
  cases h
  exact z_zret C hW hz dX3_isOfKind_24
def fX3_isOfKind_19     : Option (Int32) := fX3_isOfKind_24 1
set_option maxRecDepth 100000 in
theorem tX3_isOfKind_19 {A B : Me}  {H : Heap} {locs : List Loc} {ls : Array Slot}  {rZ : Int32}  (C : Cx Γ p s m args meth c cX3_isOfKind 2 (some .boolean) RX3 wsX3_isOfKind)  (h : fX3_isOfKind_19 = some rZ)  (hW : Wd Γ A B s.heap H locs) (hl : lv_has ls 2 []) : W p l e rmX3_isOfKind s m args below meth c H locs 0 0 (MQ below (QI Γ A B rZ) args s 0 0 (rg Γ)) (F0 m 19 ls []) := by
  unfold fX3_isOfKind_19 at h
  refine lv_iconst (v := 1) C.1 C.2.1 dX3_isOfKind_19 (by decide) ?_
  refine lv_goto (tgt := 24) C.1 C.2.1 dX3_isOfKind_20 (by decide) ?_
  exact tX3_isOfKind_24 C  h  hW (lv_sub hl [] rfl)
def fX3_isOfKind_23     : Option (Int32) := fX3_isOfKind_24 0
set_option maxRecDepth 100000 in
theorem tX3_isOfKind_23 {A B : Me}  {H : Heap} {locs : List Loc} {ls : Array Slot}  {rZ : Int32}  (C : Cx Γ p s m args meth c cX3_isOfKind 2 (some .boolean) RX3 wsX3_isOfKind)  (h : fX3_isOfKind_23 = some rZ)  (hW : Wd Γ A B s.heap H locs) (hl : lv_has ls 2 []) : W p l e rmX3_isOfKind s m args below meth c H locs 0 0 (MQ below (QI Γ A B rZ) args s 0 0 (rg Γ)) (F0 m 23 ls []) := by
  unfold fX3_isOfKind_23 at h
  refine lv_iconst (v := 0) C.1 C.2.1 dX3_isOfKind_23 (by decide) ?_
  exact tX3_isOfKind_24 C  h  hW (lv_sub hl [] rfl)
def fX3_isOfKind    (v0 : Int32) (v1 : Int32) : Option (Int32) := if v1 = 0 then (fX3_isOfKind_19) else (if v1 = v0 then (fX3_isOfKind_19) else (if v1 = 1 then (if v0 = 4 then (fX3_isOfKind_19) else (fX3_isOfKind_23)) else (fX3_isOfKind_23)))
set_option maxRecDepth 100000 in
theorem tX3_isOfKind_0 {A B : Me}  {H : Heap} {locs : List Loc} {ls : Array Slot} {v0 : Int32} {v1 : Int32} {rZ : Int32}  (C : Cx Γ p s m args meth c cX3_isOfKind 2 (some .boolean) RX3 wsX3_isOfKind)  (h : fX3_isOfKind v0 v1 = some rZ)  (hW : Wd Γ A B s.heap H locs) (hl : lv_has ls 2 [(0, .int v0), (1, .int v1)]) : W p l e rmX3_isOfKind s m args below meth c H locs 0 0 (MQ below (QI Γ A B rZ) args s 0 0 (rg Γ)) (F0 m 0 ls []) := by
  unfold fX3_isOfKind at h
  refine lv_iload_n C.1 C.2.1 dX3_isOfKind_0 rfl (lv_at hl 1 rfl) ?_
  refine lv_if_eq (tgt := 19) C.1 C.2.1 dX3_isOfKind_1 (by decide) (fun c_1 => ?_) (fun c_1 => ?_)
  · have h := if_y h c_1
    exact tX3_isOfKind_19 C  h  hW (lv_sub hl [] rfl)
  · have h := if_n h c_1
    refine lv_iload_n C.1 C.2.1 dX3_isOfKind_4 rfl (lv_at hl 1 rfl) ?_
    refine lv_iload_n C.1 C.2.1 dX3_isOfKind_5 rfl (lv_at hl 0 rfl) ?_
    refine lv_icmp_eq (tgt := 19) C.1 C.2.1 dX3_isOfKind_6 (by decide) (fun c_6 => ?_) (fun c_6 => ?_)
    · have h := if_y h c_6
      exact tX3_isOfKind_19 C  h  hW (lv_sub hl [] rfl)
    · have h := if_n h c_6
      refine lv_iload_n C.1 C.2.1 dX3_isOfKind_9 rfl (lv_at hl 1 rfl) ?_
      refine lv_iconst (v := 1) C.1 C.2.1 dX3_isOfKind_10 (by decide) ?_
      refine lv_icmp_ne (tgt := 23) C.1 C.2.1 dX3_isOfKind_11 (by decide) (fun c_11 => ?_) (fun c_11 => ?_)
      · have h := if_n h c_11
        exact tX3_isOfKind_23 C  h  hW (lv_sub hl [] rfl)
      · have h := if_y h c_11
        refine lv_iload_n C.1 C.2.1 dX3_isOfKind_14 rfl (lv_at hl 0 rfl) ?_
        refine lv_iconst (v := 4) C.1 C.2.1 dX3_isOfKind_15 (by decide) ?_
        refine lv_icmp_ne (tgt := 23) C.1 C.2.1 dX3_isOfKind_16 (by decide) (fun c_16 => ?_) (fun c_16 => ?_)
        · have h := if_n h c_16
          exact tX3_isOfKind_23 C  h  hW (lv_sub hl [] rfl)
        · have h := if_y h c_16
          exact tX3_isOfKind_19 C  h  hW (lv_sub hl [] rfl)
theorem mt_X3_isOfKind {l : Launch} {Γ : Gm} {A B : Me}  {v0 : Int32} {v1 : Int32} {rZ : Int32}  (h : fX3_isOfKind v0 v1 = some rZ) : Met l yX3_isOfKind wsX3_isOfKind rmX3_isOfKind (PC Γ A B [.int v0, .int v1]) (QI Γ A B rZ) 0 0 (rg Γ) :=
  met_of (by decide) rfl (Nat.le_of_ble_eq_true rfl) (fun p e s m below meth c ls C hW hl => tX3_isOfKind_0 C  h  hW (lv_sub (l := [(0, .int v0), (1, .int v1)]) hl [0, 1] rfl))
abbrev rmX3_as : Room := { frames := 1, cells := 0, slots := 0, locals := 21 }
set_option maxRecDepth 100000 in
theorem iX3_as_c1 : ∀ w ∈ wsX10, w ∈ wsX3_as := by decide +kernel
set_option maxRecDepth 100000 in
theorem iX3_as_c3 : ∀ w ∈ wsX30, w ∈ wsX3_as := by decide +kernel
set_option maxRecDepth 100000 in
theorem wX3_as_0 : Cond.fieldLink RX3 19 "WineByYears" "now" "LWineByYears$Cellar;" ∈ wsX3_as := by decide +kernel
set_option maxRecDepth 100000 in
theorem wX3_as_1 : Cond.fieldLink RX3 113 "WineByYears$Cellar" "kinds" "[I" ∈ wsX3_as := by decide +kernel
def fX3_as_45  (A : Me)  (t0 : Int32) : Option (Int32) := some t0
set_option maxRecDepth 100000 in
theorem tX3_as_45 {A B : Me}  {H : Heap} {locs : List Loc} {ls : Array Slot} {t0 : Int32} {rZ : Int32}  (C : Cx Γ p s m args meth c cX3_as 3 (some .int) RX3 wsX3_as)  (h : fX3_as_45 A t0 = some rZ)  (hW : Wd Γ A B s.heap H locs) (hl : lv_has ls 3 []) : W p l e rmX3_as s m args below meth c H locs 0 0 (MQ below (QI Γ A B rZ) args s 0 0 (rg Γ)) (F0 m 45 ls [.int t0]) := by
  unfold fX3_as_45 at h
  cases h
  exact z_iret C hW dX3_as_45
def fX3_as  (A : Me)  (v1 : Int32) (v2 : Int32) : Option (Int32) := bi (fX1_hasPerson A 3 v1) fun r5 => if r5 = 0 then (some (-101)) else (bi (fX3_isKind v2) fun r15 => if r15 = 0 then (some (-102)) else (ck (inb v1 5) <| bi (fX3_isOfKind (A 5 v1.toNatClampNeg) v2) fun r34 => if r34 = 0 then (fX3_as_45 A (-1)) else (fX3_as_45 A v1)))
set_option maxRecDepth 100000 in
theorem tX3_as_0 {A B : Me}  {H : Heap} {locs : List Loc} {ls : Array Slot} {v1 : Int32} {v2 : Int32} {rZ : Int32}  (C : Cx Γ p s m args meth c cX3_as 3 (some .int) RX3 wsX3_as)  (h : fX3_as A v1 v2 = some rZ)  (hW : Wd Γ A B s.heap H locs) (hl : lv_has ls 3 [(0, .ref (Γ.2.2 0)), (1, .int v1), (2, .int v2)]) : W p l e rmX3_as s m args below meth c H locs 0 0 (MQ below (QI Γ A B rZ) args s 0 0 (rg Γ)) (F0 m 0 ls []) := by
  unfold fX3_as at h
  refine lv_aload_n C.1 C.2.1 dX3_as_0 rfl (lv_at hl 0 rfl) ?_
  refine gX3_1 C hW rfl iX3_as_c3 wX3_as_0 dX3_as_1 ?_
  refine lv_iload_n C.1 C.2.1 dX3_as_4 rfl (lv_at hl 1 rfl) ?_
  obtain ⟨r5, hc5, h⟩ := bi_s h
  refine cVi C hW (As := [.int v1]) (rest := []) (mt_X1_hasPerson rfl hc5) (cwV 1 C.2.2.2.2.2.1 gX3_as_X1_hasPerson rfl rfl rfl (by decide +kernel) ⟨Nat.le_of_ble_eq_true rfl, Nat.le_of_ble_eq_true rfl⟩) (rcv1 C hW (rfl : kd 3 = 1)) rfl hl.1 rfl (Nat.le_of_ble_eq_true rfl) dX3_as_5 (Nat.zero_le _) (Nat.zero_le _) (fun H locs hW => ?_)
  refine lv_if_ne (tgt := 14) C.1 C.2.1 dX3_as_8 (by decide) (fun c_8 => ?_) (fun c_8 => ?_)
  · have h := if_n h c_8
    refine lv_iload_n C.1 C.2.1 dX3_as_14 rfl (lv_at hl 2 rfl) ?_
    obtain ⟨r15, hc15, h⟩ := bi_s h
    refine cSi C hW (As := [.int v2]) (rest := []) (mt_X3_isKind  hc15) (va_cwS 1 C.2.2.2.2.2.1 gX3_as_X3_isKind rfl rfl rfl (by decide +kernel) ⟨Nat.le_of_ble_eq_true rfl, Nat.le_of_ble_eq_true rfl⟩) rfl hl.1 rfl (Nat.le_of_ble_eq_true rfl) dX3_as_15 (Nat.zero_le _) (Nat.zero_le _) (fun H locs hW => ?_)
    refine lv_if_ne (tgt := 24) C.1 C.2.1 dX3_as_18 (by decide) (fun c_18 => ?_) (fun c_18 => ?_)
    · have h := if_n h c_18
      refine lv_aload_n C.1 C.2.1 dX3_as_24 rfl (lv_at hl 0 rfl) ?_
      refine gX3_1 C hW rfl iX3_as_c3 wX3_as_0 dX3_as_25 ?_
      refine gX1_1 C hW rfl iX3_as_c1 wX3_as_1 dX3_as_28 ?_
      refine lv_iload_n C.1 C.2.1 dX3_as_31 rfl (lv_at hl 1 rfl) ?_
      obtain ⟨hi32, h⟩ := ck_s h
      refine la6 C hW ⟨rfl, rfl⟩ hi32 dX3_as_32 ?_
      refine lv_iload_n C.1 C.2.1 dX3_as_33 rfl (lv_at hl 2 rfl) ?_
      obtain ⟨r34, hc34, h⟩ := bi_s h
      refine cSi C hW (As := [.int (A 5 v1.toNatClampNeg), .int v2]) (rest := []) (mt_X3_isOfKind  hc34) (va_cwS 2 C.2.2.2.2.2.1 gX3_as_X3_isOfKind rfl rfl rfl (by decide +kernel) ⟨Nat.le_of_ble_eq_true rfl, Nat.le_of_ble_eq_true rfl⟩) rfl hl.1 rfl (Nat.le_of_ble_eq_true rfl) dX3_as_34 (Nat.zero_le _) (Nat.zero_le _) (fun H locs hW => ?_)
      refine lv_if_eq (tgt := 44) C.1 C.2.1 dX3_as_37 (by decide) (fun c_37 => ?_) (fun c_37 => ?_)
      · have h := if_y h c_37
        refine lv_iconst (v := (-1)) C.1 C.2.1 dX3_as_44 (by decide) ?_
        exact tX3_as_45 C  h  hW (lv_sub hl [] rfl)
      · have h := if_n h c_37
        refine lv_iload_n C.1 C.2.1 dX3_as_40 rfl (lv_at hl 1 rfl) ?_
        refine lv_goto (tgt := 45) C.1 C.2.1 dX3_as_41 (by decide) ?_
        exact tX3_as_45 C  h  hW (lv_sub hl [] rfl)
    · have h := if_y h c_18
      refine lv_bipush (v := (-102)) C.1 C.2.1 dX3_as_21 (by decide) ?_
      cases h
      exact z_iret C hW dX3_as_23
  · have h := if_y h c_8
    refine lv_bipush (v := (-101)) C.1 C.2.1 dX3_as_11 (by decide) ?_
    cases h
    exact z_iret C hW dX3_as_13
theorem mt_X3_as {l : Launch} {Γ : Gm} {A B : Me}  {v1 : Int32} {v2 : Int32} {rZ : Int32}  (h : fX3_as A v1 v2 = some rZ) : Met l yX3_as wsX3_as rmX3_as (PC Γ A B [.ref (Γ.2.2 0), .int v1, .int v2]) (QI Γ A B rZ) 0 0 (rg Γ) :=
  met_of (by decide) rfl (Nat.le_of_ble_eq_true rfl) (fun p e s m below meth c ls C hW hl => tX3_as_0 C  h  hW (lv_sub (l := [(0, .ref (Γ.2.2 0)), (1, .int v1), (2, .int v2)]) hl [0, 1, 2] rfl))
abbrev rmX3_drink : Room := { frames := 5, cells := 0, slots := 0, locals := 113 }
set_option maxRecDepth 100000 in
theorem iX3_drink_c0 : ∀ w ∈ wsX00, w ∈ wsX3_drink := by decide +kernel
set_option maxRecDepth 100000 in
theorem iX3_drink_c1 : ∀ w ∈ wsX10, w ∈ wsX3_drink := by decide +kernel
set_option maxRecDepth 100000 in
theorem iX3_drink_c3 : ∀ w ∈ wsX30, w ∈ wsX3_drink := by decide +kernel
set_option maxRecDepth 100000 in
theorem wX3_drink_0 : Cond.fieldLink RX3 19 "WineByYears" "now" "LWineByYears$Cellar;" ∈ wsX3_drink := by decide +kernel
set_option maxRecDepth 100000 in
theorem wX3_drink_1 : Cond.fieldLink RX3 72 "WineByYears$Cellar" "casks" "[LWineByYears$Cask;" ∈ wsX3_drink := by decide +kernel
set_option maxRecDepth 100000 in
theorem wX3_drink_2 : Cond.fieldLink RX3 80 "WineByYears$Cask" "litres" "I" ∈ wsX3_drink := by decide +kernel
def fX3_drink_22  (A : Me)   : Option (Int32 × Me) := some ((-101), A)
set_option maxRecDepth 100000 in
theorem tX3_drink_22 {A B : Me}  {H : Heap} {locs : List Loc} {ls : Array Slot}  {rZ : Int32} {AZ : Me}  (C : Cx Γ p s m args meth c cX3_drink 3 (some .int) RX3 wsX3_drink)  (h : fX3_drink_22 A = some (rZ, AZ))  (hW : Wd Γ A B s.heap H locs) (hl : lv_has ls 3 []) : W p l e rmX3_drink s m args below meth c H locs 0 0 (MQ below (QI Γ AZ B rZ) args s 0 0 (rg Γ)) (F0 m 22 ls []) := by
  unfold fX3_drink_22 at h
  refine lv_bipush (v := (-101)) C.1 C.2.1 dX3_drink_22 (by decide) ?_
  cases h
  exact z_iret C hW dX3_drink_24
def fX3_drink  (A : Me)  (v1 : Int32) (v2 : Int32) : Option (Int32 × Me) := bi (fX1_hasPerson A 3 v1) fun r5 => if r5 = 0 then (fX3_drink_22 A) else (bi (fX1_hasCask A 3 v2) fun r16 => if r16 = 0 then (fX3_drink_22 A) else (ck (inb v2 5) <| if (A (4 + 6 + 2 * v2.toNatClampNeg) 1) = 0 then (some ((-103), A)) else (b2 (fX1_sip A 3 v1 v2) fun r49 A49 => some (r49, A49))))
set_option maxRecDepth 100000 in
theorem tX3_drink_0 {A B : Me}  {H : Heap} {locs : List Loc} {ls : Array Slot} {v1 : Int32} {v2 : Int32} {rZ : Int32} {AZ : Me}  (C : Cx Γ p s m args meth c cX3_drink 3 (some .int) RX3 wsX3_drink)  (h : fX3_drink A v1 v2 = some (rZ, AZ))  (hW : Wd Γ A B s.heap H locs) (hl : lv_has ls 3 [(0, .ref (Γ.2.2 0)), (1, .int v1), (2, .int v2)]) : W p l e rmX3_drink s m args below meth c H locs 0 0 (MQ below (QI Γ AZ B rZ) args s 0 0 (rg Γ)) (F0 m 0 ls []) := by
  unfold fX3_drink at h
  refine lv_aload_n C.1 C.2.1 dX3_drink_0 rfl (lv_at hl 0 rfl) ?_
  refine gX3_1 C hW rfl iX3_drink_c3 wX3_drink_0 dX3_drink_1 ?_
  refine lv_iload_n C.1 C.2.1 dX3_drink_4 rfl (lv_at hl 1 rfl) ?_
  obtain ⟨r5, hc5, h⟩ := bi_s h
  refine cVi C hW (As := [.int v1]) (rest := []) (mt_X1_hasPerson rfl hc5) (cwV 1 C.2.2.2.2.2.1 gX3_drink_X1_hasPerson rfl rfl rfl (by decide +kernel) ⟨Nat.le_of_ble_eq_true rfl, Nat.le_of_ble_eq_true rfl⟩) (rcv1 C hW (rfl : kd 3 = 1)) rfl hl.1 rfl (Nat.le_of_ble_eq_true rfl) dX3_drink_5 (Nat.zero_le _) (Nat.zero_le _) (fun H locs hW => ?_)
  refine lv_if_eq (tgt := 22) C.1 C.2.1 dX3_drink_8 (by decide) (fun c_8 => ?_) (fun c_8 => ?_)
  · have h := if_y h c_8
    exact tX3_drink_22 C  h  hW (lv_sub hl [] rfl)
  · have h := if_n h c_8
    refine lv_aload_n C.1 C.2.1 dX3_drink_11 rfl (lv_at hl 0 rfl) ?_
    refine gX3_1 C hW rfl iX3_drink_c3 wX3_drink_0 dX3_drink_12 ?_
    refine lv_iload_n C.1 C.2.1 dX3_drink_15 rfl (lv_at hl 2 rfl) ?_
    obtain ⟨r16, hc16, h⟩ := bi_s h
    refine cVi C hW (As := [.int v2]) (rest := []) (mt_X1_hasCask rfl hc16) (cwV 1 C.2.2.2.2.2.1 gX3_drink_X1_hasCask rfl rfl rfl (by decide +kernel) ⟨Nat.le_of_ble_eq_true rfl, Nat.le_of_ble_eq_true rfl⟩) (rcv1 C hW (rfl : kd 3 = 1)) rfl hl.1 rfl (Nat.le_of_ble_eq_true rfl) dX3_drink_16 (Nat.zero_le _) (Nat.zero_le _) (fun H locs hW => ?_)
    refine lv_if_ne (tgt := 25) C.1 C.2.1 dX3_drink_19 (by decide) (fun c_19 => ?_) (fun c_19 => ?_)
    · have h := if_n h c_19
      refine lv_aload_n C.1 C.2.1 dX3_drink_25 rfl (lv_at hl 0 rfl) ?_
      refine gX3_1 C hW rfl iX3_drink_c3 wX3_drink_0 dX3_drink_26 ?_
      refine gX1_0 C hW rfl iX3_drink_c1 wX3_drink_1 dX3_drink_29 ?_
      refine lv_iload_n C.1 C.2.1 dX3_drink_32 rfl (lv_at hl 2 rfl) ?_
      obtain ⟨hi33, h⟩ := ck_s h
      refine la7 C hW ⟨rfl, rfl⟩ hi33 dX3_drink_33 ?_
      refine gX0_1 C hW (kd_7e (⟨rfl, rfl⟩ : kd 4 = 7 ∧ ln 4 = 5).1 (inb_s hi33) rfl) iX3_drink_c0 wX3_drink_2 dX3_drink_34 ?_
      refine lv_if_ne (tgt := 43) C.1 C.2.1 dX3_drink_37 (by decide) (fun c_37 => ?_) (fun c_37 => ?_)
      · have h := if_n h c_37
        refine lv_aload_n C.1 C.2.1 dX3_drink_43 rfl (lv_at hl 0 rfl) ?_
        refine gX3_1 C hW rfl iX3_drink_c3 wX3_drink_0 dX3_drink_44 ?_
        refine lv_iload_n C.1 C.2.1 dX3_drink_47 rfl (lv_at hl 1 rfl) ?_
        refine lv_iload_n C.1 C.2.1 dX3_drink_48 rfl (lv_at hl 2 rfl) ?_
        obtain ⟨r49, A49, hc49, h⟩ := b2_s h
        refine cVi C hW (As := [.int v1, .int v2]) (rest := []) (mt_X1_sip rfl hc49) (cwV 2 C.2.2.2.2.2.1 gX3_drink_X1_sip rfl rfl rfl (by decide +kernel) ⟨Nat.le_of_ble_eq_true rfl, Nat.le_of_ble_eq_true rfl⟩) (rcv1 C hW (rfl : kd 3 = 1)) rfl hl.1 rfl (Nat.le_of_ble_eq_true rfl) dX3_drink_49 (Nat.zero_le _) (Nat.zero_le _) (fun H locs hW => ?_)
        cases h
        exact z_iret C hW dX3_drink_52
      · have h := if_y h c_37
        refine lv_bipush (v := (-103)) C.1 C.2.1 dX3_drink_40 (by decide) ?_
        cases h
        exact z_iret C hW dX3_drink_42
    · have h := if_y h c_19
      exact tX3_drink_22 C  h  hW (lv_sub hl [] rfl)
theorem mt_X3_drink {l : Launch} {Γ : Gm} {A B : Me}  {v1 : Int32} {v2 : Int32} {rZ : Int32} {AZ : Me}  (h : fX3_drink A v1 v2 = some (rZ, AZ)) : Met l yX3_drink wsX3_drink rmX3_drink (PC Γ A B [.ref (Γ.2.2 0), .int v1, .int v2]) (QI Γ AZ B rZ) 0 0 (rg Γ) :=
  met_of (by decide) rfl (Nat.le_of_ble_eq_true rfl) (fun p e s m below meth c ls C hW hl => tX3_drink_0 C  h  hW (lv_sub (l := [(0, .ref (Γ.2.2 0)), (1, .int v1), (2, .int v2)]) hl [0, 1, 2] rfl))
abbrev rmX3_pour : Room := { frames := 2, cells := 0, slots := 0, locals := 43 }
set_option maxRecDepth 100000 in
theorem iX3_pour_c0 : ∀ w ∈ wsX00, w ∈ wsX3_pour := by decide +kernel
set_option maxRecDepth 100000 in
theorem iX3_pour_c1 : ∀ w ∈ wsX10, w ∈ wsX3_pour := by decide +kernel
set_option maxRecDepth 100000 in
theorem iX3_pour_c3 : ∀ w ∈ wsX30, w ∈ wsX3_pour := by decide +kernel
set_option maxRecDepth 100000 in
theorem wX3_pour_0 : Cond.fieldLink RX3 19 "WineByYears" "now" "LWineByYears$Cellar;" ∈ wsX3_pour := by decide +kernel
set_option maxRecDepth 100000 in
theorem wX3_pour_1 : Cond.fieldLink RX3 72 "WineByYears$Cellar" "casks" "[LWineByYears$Cask;" ∈ wsX3_pour := by decide +kernel
set_option maxRecDepth 100000 in
theorem wX3_pour_2 : Cond.fieldLink RX3 80 "WineByYears$Cask" "litres" "I" ∈ wsX3_pour := by decide +kernel
def fX3_pour_27  (A : Me)   : Option (Int32 × Me) := some ((-101), A)
set_option maxRecDepth 100000 in
theorem tX3_pour_27 {A B : Me}  {H : Heap} {locs : List Loc} {ls : Array Slot}  {rZ : Int32} {AZ : Me}  (C : Cx Γ p s m args meth c cX3_pour 7 (some .int) RX3 wsX3_pour)  (h : fX3_pour_27 A = some (rZ, AZ))  (hW : Wd Γ A B s.heap H locs) (hl : lv_has ls 7 []) : W p l e rmX3_pour s m args below meth c H locs 0 0 (MQ below (QI Γ AZ B rZ) args s 0 0 (rg Γ)) (F0 m 27 ls []) := by
  unfold fX3_pour_27 at h
  refine lv_bipush (v := (-101)) C.1 C.2.1 dX3_pour_27 (by decide) ?_
  cases h
  exact z_iret C hW dX3_pour_29
def fX3_pour_41  (A : Me)   : Option (Int32 × Me) := some ((-102), A)
set_option maxRecDepth 100000 in
theorem tX3_pour_41 {A B : Me}  {H : Heap} {locs : List Loc} {ls : Array Slot}  {rZ : Int32} {AZ : Me}  (C : Cx Γ p s m args meth c cX3_pour 7 (some .int) RX3 wsX3_pour)  (h : fX3_pour_41 A = some (rZ, AZ))  (hW : Wd Γ A B s.heap H locs) (hl : lv_has ls 7 []) : W p l e rmX3_pour s m args below meth c H locs 0 0 (MQ below (QI Γ AZ B rZ) args s 0 0 (rg Γ)) (F0 m 41 ls []) := by
  unfold fX3_pour_41 at h
  refine lv_bipush (v := (-102)) C.1 C.2.1 dX3_pour_41 (by decide) ?_
  cases h
  exact z_iret C hW dX3_pour_43
def fX3_pour_84  (A : Me)   : Option (Int32 × Me) := some ((-103), A)
set_option maxRecDepth 100000 in
theorem tX3_pour_84 {A B : Me}  {H : Heap} {locs : List Loc} {ls : Array Slot}  {rZ : Int32} {AZ : Me}  (C : Cx Γ p s m args meth c cX3_pour 7 (some .int) RX3 wsX3_pour)  (h : fX3_pour_84 A = some (rZ, AZ))  (hW : Wd Γ A B s.heap H locs) (hl : lv_has ls 7 []) : W p l e rmX3_pour s m args below meth c H locs 0 0 (MQ below (QI Γ AZ B rZ) args s 0 0 (rg Γ)) (F0 m 84 ls []) := by
  unfold fX3_pour_84 at h
  refine lv_bipush (v := (-103)) C.1 C.2.1 dX3_pour_84 (by decide) ?_
  cases h
  exact z_iret C hW dX3_pour_86
def fX3_pour_90   : Nat → Me → Int32 → Nat → Nat → Int32 → Option (Int32 × Me)
  | 0, _, _, _, _, _ => none
  | n + 1, A, v3, k4, k5, v6 => if v3 ≤ v6 then (some ((A k5 1), A)) else (b2 (fX0_takeLatest A k4) fun r100 A100 => bi (fX0_put A100 k5 r100 1) fun A104 => fX3_pour_90 n A104 v3 k4 k5 (v6 + 1))
set_option maxRecDepth 100000 in
theorem tX3_pour_90 {B : Me}  {rZ : Int32} {AZ : Me}  (C : Cx Γ p s m args meth c cX3_pour 7 (some .int) RX3 wsX3_pour)  (n : Nat) : ∀ (A : Me) (v3 : Int32) (k4 : Nat) (k5 : Nat) (v6 : Int32) (H : Heap) (locs : List Loc) (ls : Array Slot), fX3_pour_90 n A v3 k4 k5 v6 = some (rZ, AZ) → kd k4 = 0 → kd k5 = 0 → Wd Γ A B s.heap H locs → lv_has ls 7 [(3, .int v3), (4, .ref (Γ.2.2 k4)), (5, .ref (Γ.2.2 k5)), (6, .int v6)] → W p l e rmX3_pour s m args below meth c H locs 0 0 (MQ below (QI Γ AZ B rZ) args s 0 0 (rg Γ)) (F0 m 90 ls []) := by
  induction n with
  | zero =>
    intro _ _ _ _ _ H locs ls h
    exact nomatch (show (none : Option (Int32 × Me)) = some (rZ, AZ) from h)
  | succ n ih =>
    intro A v3 k4 k5 v6 H locs ls h hk4 hk5 hW hl
    rw [fX3_pour_90] at h
    refine lv_iload C.1 C.2.1 dX3_pour_90 (lv_at hl 3 rfl) ?_
    refine lv_iload_n C.1 C.2.1 dX3_pour_92 rfl (lv_at hl 0 rfl) ?_
    refine lv_icmp_ge (tgt := 113) C.1 C.2.1 dX3_pour_93 (by decide) (fun c_93 => ?_) (fun c_93 => ?_)
    · have h := if_y h c_93
      refine lv_aload C.1 C.2.1 dX3_pour_113 (lv_at hl 2 rfl) ?_
      refine gX0_1 C hW hk5 iX3_pour_c0 wX3_pour_2 dX3_pour_115 ?_
      cases h
      exact z_iret C hW dX3_pour_118
    · have h := if_n h c_93
      refine lv_aload C.1 C.2.1 dX3_pour_96 (lv_at hl 2 rfl) ?_
      refine lv_aload C.1 C.2.1 dX3_pour_98 (lv_at hl 1 rfl) ?_
      obtain ⟨r100, A100, hc100, h⟩ := b2_s h
      refine cVi C hW (As := []) (rest := [.ref (Γ.2.2 k5)]) (mt_X0_takeLatest hk4 hc100) (cwV 0 C.2.2.2.2.2.1 gX3_pour_X0_takeLatest rfl rfl rfl (by decide +kernel) ⟨Nat.le_of_ble_eq_true rfl, Nat.le_of_ble_eq_true rfl⟩) (rcv0 C hW hk4) rfl hl.1 rfl (Nat.le_of_ble_eq_true rfl) dX3_pour_100 (Nat.zero_le _) (Nat.zero_le _) (fun H locs hW => ?_)
      refine lv_iconst (v := 1) C.1 C.2.1 dX3_pour_103 (by decide) ?_
      obtain ⟨A104, hc104, h⟩ := bi_s h
      refine cVv C hW (As := [.int r100, .int 1]) (rest := []) (mt_X0_put hk5 hc104) (cwV 2 C.2.2.2.2.2.1 gX3_pour_X0_put rfl rfl rfl (by decide +kernel) ⟨Nat.le_of_ble_eq_true rfl, Nat.le_of_ble_eq_true rfl⟩) (rcv0 C hW hk5) rfl hl.1 rfl (Nat.le_of_ble_eq_true rfl) dX3_pour_104 (Nat.zero_le _) (Nat.zero_le _) (fun H locs hW => ?_)
      refine lv_iinc (v := (v6 + 1)) (lv' := [(6, .int (v6 + 1)), (3, .int v3), (4, .ref (Γ.2.2 k4)), (5, .ref (Γ.2.2 k5))]) C.1 C.2.1 dX3_pour_107 hl (k := 3) rfl rfl (by decide) rfl (fun ls hl => ?_)
      refine lv_goto (tgt := 90) C.1 C.2.1 dX3_pour_110 (by decide) ?_
      exact ih _ _ _ _ _ _ _ _ h hk4 hk5 hW (lv_sub hl [1, 2, 3, 0] rfl)
def fX3_pour  (A : Me)  (v1 : Int32) (v2 : Int32) (v3 : Int32) : Option (Int32 × Me) := bi (fX1_hasCask A 3 v1) fun r5 => if r5 = 0 then (fX3_pour_27 A) else (bi (fX1_hasCask A 3 v2) fun r16 => if r16 = 0 then (fX3_pour_27 A) else (if v1 = v2 then (fX3_pour_27 A) else (if v3 < 1 then (fX3_pour_41 A) else (if v3 ≤ 9 then (ck (inb v1 5) <| ck (inb v2 5) <| if (A (4 + 6 + 2 * v1.toNatClampNeg) 1) < v3 then (fX3_pour_84 A) else (bi (fX0_room A (4 + 6 + 2 * v2.toNatClampNeg)) fun r78 => if v3 ≤ r78 then (fX3_pour_90 FU A v3 (4 + 6 + 2 * v1.toNatClampNeg) (4 + 6 + 2 * v2.toNatClampNeg) 0) else (fX3_pour_84 A))) else (fX3_pour_41 A)))))
set_option maxRecDepth 100000 in
theorem tX3_pour_0 {A B : Me}  {H : Heap} {locs : List Loc} {ls : Array Slot} {v1 : Int32} {v2 : Int32} {v3 : Int32} {rZ : Int32} {AZ : Me}  (C : Cx Γ p s m args meth c cX3_pour 7 (some .int) RX3 wsX3_pour)  (h : fX3_pour A v1 v2 v3 = some (rZ, AZ))  (hW : Wd Γ A B s.heap H locs) (hl : lv_has ls 7 [(0, .ref (Γ.2.2 0)), (1, .int v1), (2, .int v2), (3, .int v3)]) : W p l e rmX3_pour s m args below meth c H locs 0 0 (MQ below (QI Γ AZ B rZ) args s 0 0 (rg Γ)) (F0 m 0 ls []) := by
  unfold fX3_pour at h
  refine lv_aload_n C.1 C.2.1 dX3_pour_0 rfl (lv_at hl 0 rfl) ?_
  refine gX3_1 C hW rfl iX3_pour_c3 wX3_pour_0 dX3_pour_1 ?_
  refine lv_iload_n C.1 C.2.1 dX3_pour_4 rfl (lv_at hl 1 rfl) ?_
  obtain ⟨r5, hc5, h⟩ := bi_s h
  refine cVi C hW (As := [.int v1]) (rest := []) (mt_X1_hasCask rfl hc5) (cwV 1 C.2.2.2.2.2.1 gX3_pour_X1_hasCask rfl rfl rfl (by decide +kernel) ⟨Nat.le_of_ble_eq_true rfl, Nat.le_of_ble_eq_true rfl⟩) (rcv1 C hW (rfl : kd 3 = 1)) rfl hl.1 rfl (Nat.le_of_ble_eq_true rfl) dX3_pour_5 (Nat.zero_le _) (Nat.zero_le _) (fun H locs hW => ?_)
  refine lv_if_eq (tgt := 27) C.1 C.2.1 dX3_pour_8 (by decide) (fun c_8 => ?_) (fun c_8 => ?_)
  · have h := if_y h c_8
    exact tX3_pour_27 C  h  hW (lv_sub hl [] rfl)
  · have h := if_n h c_8
    refine lv_aload_n C.1 C.2.1 dX3_pour_11 rfl (lv_at hl 0 rfl) ?_
    refine gX3_1 C hW rfl iX3_pour_c3 wX3_pour_0 dX3_pour_12 ?_
    refine lv_iload_n C.1 C.2.1 dX3_pour_15 rfl (lv_at hl 2 rfl) ?_
    obtain ⟨r16, hc16, h⟩ := bi_s h
    refine cVi C hW (As := [.int v2]) (rest := []) (mt_X1_hasCask rfl hc16) (cwV 1 C.2.2.2.2.2.1 gX3_pour_X1_hasCask rfl rfl rfl (by decide +kernel) ⟨Nat.le_of_ble_eq_true rfl, Nat.le_of_ble_eq_true rfl⟩) (rcv1 C hW (rfl : kd 3 = 1)) rfl hl.1 rfl (Nat.le_of_ble_eq_true rfl) dX3_pour_16 (Nat.zero_le _) (Nat.zero_le _) (fun H locs hW => ?_)
    refine lv_if_eq (tgt := 27) C.1 C.2.1 dX3_pour_19 (by decide) (fun c_19 => ?_) (fun c_19 => ?_)
    · have h := if_y h c_19
      exact tX3_pour_27 C  h  hW (lv_sub hl [] rfl)
    · have h := if_n h c_19
      refine lv_iload_n C.1 C.2.1 dX3_pour_22 rfl (lv_at hl 1 rfl) ?_
      refine lv_iload_n C.1 C.2.1 dX3_pour_23 rfl (lv_at hl 2 rfl) ?_
      refine lv_icmp_ne (tgt := 30) C.1 C.2.1 dX3_pour_24 (by decide) (fun c_24 => ?_) (fun c_24 => ?_)
      · have h := if_n h c_24
        refine lv_iload_n C.1 C.2.1 dX3_pour_30 rfl (lv_at hl 3 rfl) ?_
        refine lv_iconst (v := 1) C.1 C.2.1 dX3_pour_31 (by decide) ?_
        refine lv_icmp_lt (tgt := 41) C.1 C.2.1 dX3_pour_32 (by decide) (fun c_32 => ?_) (fun c_32 => ?_)
        · have h := if_y h c_32
          exact tX3_pour_41 C  h  hW (lv_sub hl [] rfl)
        · have h := if_n h c_32
          refine lv_iload_n C.1 C.2.1 dX3_pour_35 rfl (lv_at hl 3 rfl) ?_
          refine lv_bipush (v := 9) C.1 C.2.1 dX3_pour_36 (by decide) ?_
          refine lv_icmp_le (tgt := 44) C.1 C.2.1 dX3_pour_38 (by decide) (fun c_38 => ?_) (fun c_38 => ?_)
          · have h := if_y h c_38
            refine lv_aload_n C.1 C.2.1 dX3_pour_44 rfl (lv_at hl 0 rfl) ?_
            refine gX3_1 C hW rfl iX3_pour_c3 wX3_pour_0 dX3_pour_45 ?_
            refine gX1_0 C hW rfl iX3_pour_c1 wX3_pour_1 dX3_pour_48 ?_
            refine lv_iload_n C.1 C.2.1 dX3_pour_51 rfl (lv_at hl 1 rfl) ?_
            obtain ⟨hi52, h⟩ := ck_s h
            refine la7 C hW ⟨rfl, rfl⟩ hi52 dX3_pour_52 ?_
            refine lv_astore (lv' := [(4, .ref (Γ.2.2 (4 + 6 + 2 * v1.toNatClampNeg))), (0, .ref (Γ.2.2 0)), (1, .int v1), (2, .int v2), (3, .int v3)]) C.1 C.2.1 dX3_pour_53 hl (by decide) rfl (fun ls hl => ?_)
            refine lv_aload_n C.1 C.2.1 dX3_pour_55 rfl (lv_at hl 1 rfl) ?_
            refine gX3_1 C hW rfl iX3_pour_c3 wX3_pour_0 dX3_pour_56 ?_
            refine gX1_0 C hW rfl iX3_pour_c1 wX3_pour_1 dX3_pour_59 ?_
            refine lv_iload_n C.1 C.2.1 dX3_pour_62 rfl (lv_at hl 3 rfl) ?_
            obtain ⟨hi63, h⟩ := ck_s h
            refine la7 C hW ⟨rfl, rfl⟩ hi63 dX3_pour_63 ?_
            refine lv_astore (lv' := [(5, .ref (Γ.2.2 (4 + 6 + 2 * v2.toNatClampNeg))), (4, .ref (Γ.2.2 (4 + 6 + 2 * v1.toNatClampNeg))), (0, .ref (Γ.2.2 0)), (1, .int v1), (2, .int v2), (3, .int v3)]) C.1 C.2.1 dX3_pour_64 hl (by decide) rfl (fun ls hl => ?_)
            refine lv_iload_n C.1 C.2.1 dX3_pour_66 rfl (lv_at hl 5 rfl) ?_
            refine lv_aload C.1 C.2.1 dX3_pour_67 (lv_at hl 1 rfl) ?_
            refine gX0_1 C hW (kd_7e (⟨rfl, rfl⟩ : kd 4 = 7 ∧ ln 4 = 5).1 (inb_s hi52) rfl) iX3_pour_c0 wX3_pour_2 dX3_pour_69 ?_
            refine lv_icmp_gt (tgt := 84) C.1 C.2.1 dX3_pour_72 (by decide) (fun c_72 => ?_) (fun c_72 => ?_)
            · have h := if_y h c_72
              exact tX3_pour_84 C  h  hW (lv_sub hl [] rfl)
            · have h := if_n h c_72
              refine lv_iload_n C.1 C.2.1 dX3_pour_75 rfl (lv_at hl 5 rfl) ?_
              refine lv_aload C.1 C.2.1 dX3_pour_76 (lv_at hl 0 rfl) ?_
              obtain ⟨r78, hc78, h⟩ := bi_s h
              refine cVi C hW (As := []) (rest := [.int v3]) (mt_X0_room (kd_7e (⟨rfl, rfl⟩ : kd 4 = 7 ∧ ln 4 = 5).1 (inb_s hi63) rfl) hc78) (cwV 0 C.2.2.2.2.2.1 gX3_pour_X0_room rfl rfl rfl (by decide +kernel) ⟨Nat.le_of_ble_eq_true rfl, Nat.le_of_ble_eq_true rfl⟩) (rcv0 C hW (kd_7e (⟨rfl, rfl⟩ : kd 4 = 7 ∧ ln 4 = 5).1 (inb_s hi63) rfl)) rfl hl.1 rfl (Nat.le_of_ble_eq_true rfl) dX3_pour_78 (Nat.zero_le _) (Nat.zero_le _) (fun H locs hW => ?_)
              refine lv_icmp_le (tgt := 87) C.1 C.2.1 dX3_pour_81 (by decide) (fun c_81 => ?_) (fun c_81 => ?_)
              · have h := if_y h c_81
                refine lv_iconst (v := 0) C.1 C.2.1 dX3_pour_87 (by decide) ?_
                refine lv_istore (lv' := [(6, .int 0), (5, .ref (Γ.2.2 (4 + 6 + 2 * v2.toNatClampNeg))), (4, .ref (Γ.2.2 (4 + 6 + 2 * v1.toNatClampNeg))), (0, .ref (Γ.2.2 0)), (1, .int v1), (2, .int v2), (3, .int v3)]) C.1 C.2.1 dX3_pour_88 hl (by decide) rfl (fun ls hl => ?_)
                exact tX3_pour_90 C  FU _ _ _ _ _ _ _ _ h (kd_7e (⟨rfl, rfl⟩ : kd 4 = 7 ∧ ln 4 = 5).1 (inb_s hi52) rfl) (kd_7e (⟨rfl, rfl⟩ : kd 4 = 7 ∧ ln 4 = 5).1 (inb_s hi63) rfl) hW (lv_sub hl [6, 2, 1, 0] rfl)
              · have h := if_n h c_81
                exact tX3_pour_84 C  h  hW (lv_sub hl [] rfl)
          · have h := if_n h c_38
            exact tX3_pour_41 C  h  hW (lv_sub hl [] rfl)
      · have h := if_y h c_24
        exact tX3_pour_27 C  h  hW (lv_sub hl [] rfl)
theorem mt_X3_pour {l : Launch} {Γ : Gm} {A B : Me}  {v1 : Int32} {v2 : Int32} {v3 : Int32} {rZ : Int32} {AZ : Me}  (h : fX3_pour A v1 v2 v3 = some (rZ, AZ)) : Met l yX3_pour wsX3_pour rmX3_pour (PC Γ A B [.ref (Γ.2.2 0), .int v1, .int v2, .int v3]) (QI Γ AZ B rZ) 0 0 (rg Γ) :=
  met_of (by decide) rfl (Nat.le_of_ble_eq_true rfl) (fun p e s m below meth c ls C hW hl => tX3_pour_0 C  h  hW (lv_sub (l := [(0, .ref (Γ.2.2 0)), (1, .int v1), (2, .int v2), (3, .int v3)]) hl [0, 1, 2, 3] rfl))
abbrev rmX3_table : Room := { frames := 4, cells := 0, slots := 0, locals := 91 }
set_option maxRecDepth 100000 in
theorem iX3_table_c3 : ∀ w ∈ wsX30, w ∈ wsX3_table := by decide +kernel
set_option maxRecDepth 100000 in
theorem wX3_table_0 : Cond.fieldLink RX3 19 "WineByYears" "now" "LWineByYears$Cellar;" ∈ wsX3_table := by decide +kernel
def fX3_table  (A : Me)  (v1 : Int32) : Option (Int32 × Me) := bi (fX1_arePeople A 3 v1) fun r5 => if r5 = 0 then (some ((-102), A)) else (bi (fX1_isThere A 3) fun r18 => if r18 = 0 then (some ((-103), A)) else (b2 (fX1_seated A 3 v1) fun r32 A32 => some (r32, A32)))
set_option maxRecDepth 100000 in
theorem tX3_table_0 {A B : Me}  {H : Heap} {locs : List Loc} {ls : Array Slot} {v1 : Int32} {rZ : Int32} {AZ : Me}  (C : Cx Γ p s m args meth c cX3_table 2 (some .int) RX3 wsX3_table)  (h : fX3_table A v1 = some (rZ, AZ))  (hW : Wd Γ A B s.heap H locs) (hl : lv_has ls 2 [(0, .ref (Γ.2.2 0)), (1, .int v1)]) : W p l e rmX3_table s m args below meth c H locs 0 0 (MQ below (QI Γ AZ B rZ) args s 0 0 (rg Γ)) (F0 m 0 ls []) := by
  unfold fX3_table at h
  refine lv_aload_n C.1 C.2.1 dX3_table_0 rfl (lv_at hl 0 rfl) ?_
  refine gX3_1 C hW rfl iX3_table_c3 wX3_table_0 dX3_table_1 ?_
  refine lv_iload_n C.1 C.2.1 dX3_table_4 rfl (lv_at hl 1 rfl) ?_
  obtain ⟨r5, hc5, h⟩ := bi_s h
  refine cVi C hW (As := [.int v1]) (rest := []) (mt_X1_arePeople rfl hc5) (cwV 1 C.2.2.2.2.2.1 gX3_table_X1_arePeople rfl rfl rfl (by decide +kernel) ⟨Nat.le_of_ble_eq_true rfl, Nat.le_of_ble_eq_true rfl⟩) (rcv1 C hW (rfl : kd 3 = 1)) rfl hl.1 rfl (Nat.le_of_ble_eq_true rfl) dX3_table_5 (Nat.zero_le _) (Nat.zero_le _) (fun H locs hW => ?_)
  refine lv_if_ne (tgt := 14) C.1 C.2.1 dX3_table_8 (by decide) (fun c_8 => ?_) (fun c_8 => ?_)
  · have h := if_n h c_8
    refine lv_aload_n C.1 C.2.1 dX3_table_14 rfl (lv_at hl 0 rfl) ?_
    refine gX3_1 C hW rfl iX3_table_c3 wX3_table_0 dX3_table_15 ?_
    obtain ⟨r18, hc18, h⟩ := bi_s h
    refine cVi C hW (As := []) (rest := []) (mt_X1_isThere rfl hc18) (cwV 0 C.2.2.2.2.2.1 gX3_table_X1_isThere rfl rfl rfl (by decide +kernel) ⟨Nat.le_of_ble_eq_true rfl, Nat.le_of_ble_eq_true rfl⟩) (rcv1 C hW (rfl : kd 3 = 1)) rfl hl.1 rfl (Nat.le_of_ble_eq_true rfl) dX3_table_18 (Nat.zero_le _) (Nat.zero_le _) (fun H locs hW => ?_)
    refine lv_if_ne (tgt := 27) C.1 C.2.1 dX3_table_21 (by decide) (fun c_21 => ?_) (fun c_21 => ?_)
    · have h := if_n h c_21
      refine lv_aload_n C.1 C.2.1 dX3_table_27 rfl (lv_at hl 0 rfl) ?_
      refine gX3_1 C hW rfl iX3_table_c3 wX3_table_0 dX3_table_28 ?_
      refine lv_iload_n C.1 C.2.1 dX3_table_31 rfl (lv_at hl 1 rfl) ?_
      obtain ⟨r32, A32, hc32, h⟩ := b2_s h
      refine cVi C hW (As := [.int v1]) (rest := []) (mt_X1_seated rfl hc32) (cwV 1 C.2.2.2.2.2.1 gX3_table_X1_seated rfl rfl rfl (by decide +kernel) ⟨Nat.le_of_ble_eq_true rfl, Nat.le_of_ble_eq_true rfl⟩) (rcv1 C hW (rfl : kd 3 = 1)) rfl hl.1 rfl (Nat.le_of_ble_eq_true rfl) dX3_table_32 (Nat.zero_le _) (Nat.zero_le _) (fun H locs hW => ?_)
      cases h
      exact z_iret C hW dX3_table_35
    · have h := if_y h c_21
      refine lv_bipush (v := (-103)) C.1 C.2.1 dX3_table_24 (by decide) ?_
      cases h
      exact z_iret C hW dX3_table_26
  · have h := if_y h c_8
    refine lv_bipush (v := (-102)) C.1 C.2.1 dX3_table_11 (by decide) ?_
    cases h
    exact z_iret C hW dX3_table_13
theorem mt_X3_table {l : Launch} {Γ : Gm} {A B : Me}  {v1 : Int32} {rZ : Int32} {AZ : Me}  (h : fX3_table A v1 = some (rZ, AZ)) : Met l yX3_table wsX3_table rmX3_table (PC Γ A B [.ref (Γ.2.2 0), .int v1]) (QI Γ AZ B rZ) 0 0 (rg Γ) :=
  met_of (by decide) rfl (Nat.le_of_ble_eq_true rfl) (fun p e s m below meth c ls C hW hl => tX3_table_0 C  h  hW (lv_sub (l := [(0, .ref (Γ.2.2 0)), (1, .int v1)]) hl [0, 1] rfl))
abbrev rmX3_casksIn : Room := { frames := 1, cells := 0, slots := 0, locals := 20 }
def fX3_casksIn_13    (t0 : Int32) : Option (Int32) := some t0
set_option maxRecDepth 100000 in
theorem tX3_casksIn_13 {A B : Me}  {H : Heap} {locs : List Loc} {ls : Array Slot} {t0 : Int32} {rZ : Int32}  (C : Cx Γ p s m args meth c cX3_casksIn 1 (some .int) RX3 wsX3_casksIn)  (h : fX3_casksIn_13 t0 = some rZ)  (hW : Wd Γ A B s.heap H locs) (hl : lv_has ls 1 []) : W p l e rmX3_casksIn s m args below meth c H locs 0 0 (MQ below (QI Γ A B rZ) args s 0 0 (rg Γ)) (F0 m 13 ls [.int t0]) := by
  unfold fX3_casksIn_13 at h
  cases h
  exact z_iret C hW dX3_casksIn_13
def fX3_casksIn    (v0 : Int32) : Option (Int32) := if v0 = (-1) then (fX3_casksIn_13 (-1)) else (bi (fJ6_bitCount_0f7a4 v0) fun r10 => fX3_casksIn_13 r10)
set_option maxRecDepth 100000 in
theorem tX3_casksIn_0 {A B : Me}  {H : Heap} {locs : List Loc} {ls : Array Slot} {v0 : Int32} {rZ : Int32}  (C : Cx Γ p s m args meth c cX3_casksIn 1 (some .int) RX3 wsX3_casksIn)  (h : fX3_casksIn v0 = some rZ)  (hW : Wd Γ A B s.heap H locs) (hl : lv_has ls 1 [(0, .int v0)]) : W p l e rmX3_casksIn s m args below meth c H locs 0 0 (MQ below (QI Γ A B rZ) args s 0 0 (rg Γ)) (F0 m 0 ls []) := by
  unfold fX3_casksIn at h
  refine lv_iload_n C.1 C.2.1 dX3_casksIn_0 rfl (lv_at hl 0 rfl) ?_
  refine lv_iconst (v := (-1)) C.1 C.2.1 dX3_casksIn_1 (by decide) ?_
  refine lv_icmp_ne (tgt := 9) C.1 C.2.1 dX3_casksIn_2 (by decide) (fun c_2 => ?_) (fun c_2 => ?_)
  · have h := if_n h c_2
    refine lv_iload_n C.1 C.2.1 dX3_casksIn_9 rfl (lv_at hl 0 rfl) ?_
    obtain ⟨r10, hc10, h⟩ := bi_s h
    refine cSi C hW (As := [.int v0]) (rest := []) (mt_J6_bitCount_0f7a4  hc10) (va_cwS 1 C.2.2.2.2.2.1 gX3_casksIn_J6_bitCount_0f7a4 rfl rfl rfl (by decide +kernel) ⟨Nat.le_of_ble_eq_true rfl, Nat.le_of_ble_eq_true rfl⟩) rfl hl.1 rfl (Nat.le_of_ble_eq_true rfl) dX3_casksIn_10 (Nat.zero_le _) (Nat.zero_le _) (fun H locs hW => ?_)
    exact tX3_casksIn_13 C  h  hW (lv_sub hl [] rfl)
  · have h := if_y h c_2
    refine lv_iconst (v := (-1)) C.1 C.2.1 dX3_casksIn_5 (by decide) ?_
    refine lv_goto (tgt := 13) C.1 C.2.1 dX3_casksIn_6 (by decide) ?_
    exact tX3_casksIn_13 C  h  hW (lv_sub hl [] rfl)
theorem mt_X3_casksIn {l : Launch} {Γ : Gm} {A B : Me}  {v0 : Int32} {rZ : Int32}  (h : fX3_casksIn v0 = some rZ) : Met l yX3_casksIn wsX3_casksIn rmX3_casksIn (PC Γ A B [.int v0]) (QI Γ A B rZ) 0 0 (rg Γ) :=
  met_of (by decide) rfl (Nat.le_of_ble_eq_true rfl) (fun p e s m below meth c ls C hW hl => tX3_casksIn_0 C  h  hW (lv_sub (l := [(0, .int v0)]) hl [0] rfl))
abbrev rmX3_isZeroOrOne : Room := { frames := 0, cells := 0, slots := 0, locals := 0 }
def fX3_isZeroOrOne_14    (t0 : Int32) : Option (Int32) := ck (zb t0) <| some t0
set_option maxRecDepth 100000 in
theorem tX3_isZeroOrOne_14 {A B : Me}  {H : Heap} {locs : List Loc} {ls : Array Slot} {t0 : Int32} {rZ : Int32}  (C : Cx Γ p s m args meth c cX3_isZeroOrOne 1 (some .boolean) RX3 wsX3_isZeroOrOne)  (h : fX3_isZeroOrOne_14 t0 = some rZ)  (hW : Wd Γ A B s.heap H locs) (hl : lv_has ls 1 []) : W p l e rmX3_isZeroOrOne s m args below meth c H locs 0 0 (MQ below (QI Γ A B rZ) args s 0 0 (rg Γ)) (F0 m 14 ls [.int t0]) := by
  unfold fX3_isZeroOrOne_14 at h
  obtain ⟨hz, h⟩ := ck_s h
  cases h
  exact z_zret C hW hz dX3_isZeroOrOne_14
def fX3_isZeroOrOne_9     : Option (Int32) := fX3_isZeroOrOne_14 1
set_option maxRecDepth 100000 in
theorem tX3_isZeroOrOne_9 {A B : Me}  {H : Heap} {locs : List Loc} {ls : Array Slot}  {rZ : Int32}  (C : Cx Γ p s m args meth c cX3_isZeroOrOne 1 (some .boolean) RX3 wsX3_isZeroOrOne)  (h : fX3_isZeroOrOne_9 = some rZ)  (hW : Wd Γ A B s.heap H locs) (hl : lv_has ls 1 []) : W p l e rmX3_isZeroOrOne s m args below meth c H locs 0 0 (MQ below (QI Γ A B rZ) args s 0 0 (rg Γ)) (F0 m 9 ls []) := by
  unfold fX3_isZeroOrOne_9 at h
  refine lv_iconst (v := 1) C.1 C.2.1 dX3_isZeroOrOne_9 (by decide) ?_
  refine lv_goto (tgt := 14) C.1 C.2.1 dX3_isZeroOrOne_10 (by decide) ?_
  exact tX3_isZeroOrOne_14 C  h  hW (lv_sub hl [] rfl)
def fX3_isZeroOrOne    (v0 : Int32) : Option (Int32) := if v0 = 0 then (fX3_isZeroOrOne_9) else (if v0 = 1 then (fX3_isZeroOrOne_9) else (fX3_isZeroOrOne_14 0))
set_option maxRecDepth 100000 in
theorem tX3_isZeroOrOne_0 {A B : Me}  {H : Heap} {locs : List Loc} {ls : Array Slot} {v0 : Int32} {rZ : Int32}  (C : Cx Γ p s m args meth c cX3_isZeroOrOne 1 (some .boolean) RX3 wsX3_isZeroOrOne)  (h : fX3_isZeroOrOne v0 = some rZ)  (hW : Wd Γ A B s.heap H locs) (hl : lv_has ls 1 [(0, .int v0)]) : W p l e rmX3_isZeroOrOne s m args below meth c H locs 0 0 (MQ below (QI Γ A B rZ) args s 0 0 (rg Γ)) (F0 m 0 ls []) := by
  unfold fX3_isZeroOrOne at h
  refine lv_iload_n C.1 C.2.1 dX3_isZeroOrOne_0 rfl (lv_at hl 0 rfl) ?_
  refine lv_if_eq (tgt := 9) C.1 C.2.1 dX3_isZeroOrOne_1 (by decide) (fun c_1 => ?_) (fun c_1 => ?_)
  · have h := if_y h c_1
    exact tX3_isZeroOrOne_9 C  h  hW (lv_sub hl [] rfl)
  · have h := if_n h c_1
    refine lv_iload_n C.1 C.2.1 dX3_isZeroOrOne_4 rfl (lv_at hl 0 rfl) ?_
    refine lv_iconst (v := 1) C.1 C.2.1 dX3_isZeroOrOne_5 (by decide) ?_
    refine lv_icmp_ne (tgt := 13) C.1 C.2.1 dX3_isZeroOrOne_6 (by decide) (fun c_6 => ?_) (fun c_6 => ?_)
    · have h := if_n h c_6
      refine lv_iconst (v := 0) C.1 C.2.1 dX3_isZeroOrOne_13 (by decide) ?_
      exact tX3_isZeroOrOne_14 C  h  hW (lv_sub hl [] rfl)
    · have h := if_y h c_6
      exact tX3_isZeroOrOne_9 C  h  hW (lv_sub hl [] rfl)
theorem mt_X3_isZeroOrOne {l : Launch} {Γ : Gm} {A B : Me}  {v0 : Int32} {rZ : Int32}  (h : fX3_isZeroOrOne v0 = some rZ) : Met l yX3_isZeroOrOne wsX3_isZeroOrOne rmX3_isZeroOrOne (PC Γ A B [.int v0]) (QI Γ A B rZ) 0 0 (rg Γ) :=
  met_of (by decide) rfl (Nat.le_of_ble_eq_true rfl) (fun p e s m below meth c ls C hW hl => tX3_isZeroOrOne_0 C  h  hW (lv_sub (l := [(0, .int v0)]) hl [0] rfl))
abbrev rmX3_mix : Room := { frames := 2, cells := 0, slots := 0, locals := 44 }
set_option maxRecDepth 100000 in
theorem iX3_mix_c0 : ∀ w ∈ wsX00, w ∈ wsX3_mix := by decide +kernel
set_option maxRecDepth 100000 in
theorem iX3_mix_c1 : ∀ w ∈ wsX10, w ∈ wsX3_mix := by decide +kernel
set_option maxRecDepth 100000 in
theorem iX3_mix_c3 : ∀ w ∈ wsX30, w ∈ wsX3_mix := by decide +kernel
set_option maxRecDepth 100000 in
theorem wX3_mix_0 : Cond.fieldLink RX3 32 "WineByYears" "mixed" "LWineByYears$Cask;" ∈ wsX3_mix := by decide +kernel
set_option maxRecDepth 100000 in
theorem wX3_mix_1 : Cond.fieldLink RX3 19 "WineByYears" "now" "LWineByYears$Cellar;" ∈ wsX3_mix := by decide +kernel
set_option maxRecDepth 100000 in
theorem wX3_mix_2 : Cond.fieldLink RX3 161 "WineByYears$Cellar" "caskCount" "I" ∈ wsX3_mix := by decide +kernel
set_option maxRecDepth 100000 in
theorem wX3_mix_3 : Cond.fieldLink RX3 72 "WineByYears$Cellar" "casks" "[LWineByYears$Cask;" ∈ wsX3_mix := by decide +kernel
set_option maxRecDepth 100000 in
theorem wX3_mix_4 : Cond.fieldLink RX3 80 "WineByYears$Cask" "litres" "I" ∈ wsX3_mix := by decide +kernel
def fX3_mix_61 (j9 : Me → Int32 → Int32 → Option (Int32 × Me)) (A : Me)  (v1 : Int32) (v2 : Int32) : Option (Int32 × Me) := j9 A v1 (v2 + 1)
set_option maxRecDepth 100000 in
theorem tX3_mix_61 {A B : Me}  {H : Heap} {locs : List Loc} {ls : Array Slot} {v1 : Int32} {v2 : Int32} {rZ : Int32} {AZ : Me} {j9 : Me → Int32 → Int32 → Option (Int32 × Me)} (C : Cx Γ p s m args meth c cX3_mix 3 (some .boolean) RX3 wsX3_mix) (hr9 : ∀ (A : Me) (v1 : Int32) (v2 : Int32) (H : Heap) (locs : List Loc) (ls : Array Slot), j9 A v1 v2 = some (rZ, AZ) → Wd Γ A B s.heap H locs → lv_has ls 3 [(0, .ref (Γ.2.2 0)), (1, .int v1), (2, .int v2)] → W p l e rmX3_mix s m args below meth c H locs 0 0 (MQ below (QI Γ AZ B rZ) args s 0 0 (rg Γ)) (F0 m 9 ls [])) (h : fX3_mix_61 j9 A v1 v2 = some (rZ, AZ))  (hW : Wd Γ A B s.heap H locs) (hl : lv_has ls 3 [(0, .ref (Γ.2.2 0)), (1, .int v1), (2, .int v2)]) : W p l e rmX3_mix s m args below meth c H locs 0 0 (MQ below (QI Γ AZ B rZ) args s 0 0 (rg Γ)) (F0 m 61 ls []) := by
  unfold fX3_mix_61 at h
  refine lv_iinc (v := (v2 + 1)) (lv' := [(2, .int (v2 + 1)), (0, .ref (Γ.2.2 0)), (1, .int v1)]) C.1 C.2.1 dX3_mix_61 hl (k := 2) rfl rfl (by decide) rfl (fun ls hl => ?_)
  refine lv_goto (tgt := 9) C.1 C.2.1 dX3_mix_64 (by decide) ?_
  exact hr9 _ _ _ _ _ _ h  hW (lv_sub hl [1, 2, 0] rfl)
def fX3_mix_9   : Nat → Me → Int32 → Int32 → Option (Int32 × Me)
  | 0, _, _, _ => none
  | n + 1, A, v1, v2 => if (A 3 7) ≤ v2 then (some (1, A)) else (if (v1 &&& (1 <<< (v2 &&& 31))) = 0 then (fX3_mix_61 (fun m x0 x1 => fX3_mix_9 n m x0 x1) A v1 v2) else (ck (inb v2 5) <| if (A (4 + 6 + 2 * v2.toNatClampNeg) 1) = 0 then (some (0, A)) else (ck (inb v2 5) <| bi (fX0_putAllOf A 54 (4 + 6 + 2 * v2.toNatClampNeg)) fun A58 => fX3_mix_61 (fun m x0 x1 => fX3_mix_9 n m x0 x1) A58 v1 v2)))
set_option maxRecDepth 100000 in
theorem tX3_mix_9 {B : Me}  {rZ : Int32} {AZ : Me}  (C : Cx Γ p s m args meth c cX3_mix 3 (some .boolean) RX3 wsX3_mix)  (n : Nat) : ∀ (A : Me) (v1 : Int32) (v2 : Int32) (H : Heap) (locs : List Loc) (ls : Array Slot), fX3_mix_9 n A v1 v2 = some (rZ, AZ) → Wd Γ A B s.heap H locs → lv_has ls 3 [(0, .ref (Γ.2.2 0)), (1, .int v1), (2, .int v2)] → W p l e rmX3_mix s m args below meth c H locs 0 0 (MQ below (QI Γ AZ B rZ) args s 0 0 (rg Γ)) (F0 m 9 ls []) := by
  induction n with
  | zero =>
    intro _ _ _ H locs ls h
    exact nomatch (show (none : Option (Int32 × Me)) = some (rZ, AZ) from h)
  | succ n ih =>
    intro A v1 v2 H locs ls h  hW hl
    rw [fX3_mix_9] at h
    refine lv_iload_n C.1 C.2.1 dX3_mix_9 rfl (lv_at hl 2 rfl) ?_
    refine lv_aload_n C.1 C.2.1 dX3_mix_10 rfl (lv_at hl 0 rfl) ?_
    refine gX3_1 C hW rfl iX3_mix_c3 wX3_mix_1 dX3_mix_11 ?_
    refine gX1_7 C hW rfl iX3_mix_c1 wX3_mix_2 dX3_mix_14 ?_
    refine lv_icmp_ge (tgt := 67) C.1 C.2.1 dX3_mix_17 (by decide) (fun c_17 => ?_) (fun c_17 => ?_)
    · have h := if_y h c_17
      refine lv_iconst (v := 1) C.1 C.2.1 dX3_mix_67 (by decide) ?_
      cases h
      exact z_zret C hW (by decide) dX3_mix_68
    · have h := if_n h c_17
      refine lv_iload_n C.1 C.2.1 dX3_mix_20 rfl (lv_at hl 1 rfl) ?_
      refine lv_iconst (v := 1) C.1 C.2.1 dX3_mix_21 (by decide) ?_
      refine lv_iload_n C.1 C.2.1 dX3_mix_22 rfl (lv_at hl 2 rfl) ?_
      refine lv_ishl C.1 C.2.1 dX3_mix_23 ?_
      refine lv_iand C.1 C.2.1 dX3_mix_24 ?_
      refine lv_if_eq (tgt := 61) C.1 C.2.1 dX3_mix_25 (by decide) (fun c_25 => ?_) (fun c_25 => ?_)
      · have h := if_y h c_25
        exact tX3_mix_61 C ih h  hW (lv_sub hl [0, 1, 2] rfl)
      · have h := if_n h c_25
        refine lv_aload_n C.1 C.2.1 dX3_mix_28 rfl (lv_at hl 0 rfl) ?_
        refine gX3_1 C hW rfl iX3_mix_c3 wX3_mix_1 dX3_mix_29 ?_
        refine gX1_0 C hW rfl iX3_mix_c1 wX3_mix_3 dX3_mix_32 ?_
        refine lv_iload_n C.1 C.2.1 dX3_mix_35 rfl (lv_at hl 2 rfl) ?_
        obtain ⟨hi36, h⟩ := ck_s h
        refine la7 C hW ⟨rfl, rfl⟩ hi36 dX3_mix_36 ?_
        refine gX0_1 C hW (kd_7e (⟨rfl, rfl⟩ : kd 4 = 7 ∧ ln 4 = 5).1 (inb_s hi36) rfl) iX3_mix_c0 wX3_mix_4 dX3_mix_37 ?_
        refine lv_if_ne (tgt := 45) C.1 C.2.1 dX3_mix_40 (by decide) (fun c_40 => ?_) (fun c_40 => ?_)
        · have h := if_n h c_40
          refine lv_aload_n C.1 C.2.1 dX3_mix_45 rfl (lv_at hl 0 rfl) ?_
          refine gX3_4 C hW rfl iX3_mix_c3 wX3_mix_0 dX3_mix_46 ?_
          refine lv_aload_n C.1 C.2.1 dX3_mix_49 rfl (lv_at hl 0 rfl) ?_
          refine gX3_1 C hW rfl iX3_mix_c3 wX3_mix_1 dX3_mix_50 ?_
          refine gX1_0 C hW rfl iX3_mix_c1 wX3_mix_3 dX3_mix_53 ?_
          refine lv_iload_n C.1 C.2.1 dX3_mix_56 rfl (lv_at hl 2 rfl) ?_
          obtain ⟨hi57, h⟩ := ck_s h
          refine la7 C hW ⟨rfl, rfl⟩ hi57 dX3_mix_57 ?_
          obtain ⟨A58, hc58, h⟩ := bi_s h
          refine cVv C hW (As := [.ref (Γ.2.2 (4 + 6 + 2 * v2.toNatClampNeg))]) (rest := []) (mt_X0_putAllOf rfl (kd_7e (⟨rfl, rfl⟩ : kd 4 = 7 ∧ ln 4 = 5).1 (inb_s hi57) rfl) hc58) (cwV 1 C.2.2.2.2.2.1 gX3_mix_X0_putAllOf rfl rfl rfl (by decide +kernel) ⟨Nat.le_of_ble_eq_true rfl, Nat.le_of_ble_eq_true rfl⟩) (rcv0 C hW (rfl : kd 54 = 0)) rfl hl.1 rfl (Nat.le_of_ble_eq_true rfl) dX3_mix_58 (Nat.zero_le _) (Nat.zero_le _) (fun H locs hW => ?_)
          exact tX3_mix_61 C ih h  hW (lv_sub hl [0, 1, 2] rfl)
        · have h := if_y h c_40
          refine lv_iconst (v := 0) C.1 C.2.1 dX3_mix_43 (by decide) ?_
          cases h
          exact z_zret C hW (by decide) dX3_mix_44
def fX3_mix  (A : Me)  (v1 : Int32) : Option (Int32 × Me) := bi (fX0_drain A 54) fun A4 => fX3_mix_9 FU A4 v1 0
set_option maxRecDepth 100000 in
theorem tX3_mix_0 {A B : Me}  {H : Heap} {locs : List Loc} {ls : Array Slot} {v1 : Int32} {rZ : Int32} {AZ : Me}  (C : Cx Γ p s m args meth c cX3_mix 3 (some .boolean) RX3 wsX3_mix)  (h : fX3_mix A v1 = some (rZ, AZ))  (hW : Wd Γ A B s.heap H locs) (hl : lv_has ls 3 [(0, .ref (Γ.2.2 0)), (1, .int v1)]) : W p l e rmX3_mix s m args below meth c H locs 0 0 (MQ below (QI Γ AZ B rZ) args s 0 0 (rg Γ)) (F0 m 0 ls []) := by
  unfold fX3_mix at h
  refine lv_aload_n C.1 C.2.1 dX3_mix_0 rfl (lv_at hl 0 rfl) ?_
  refine gX3_4 C hW rfl iX3_mix_c3 wX3_mix_0 dX3_mix_1 ?_
  obtain ⟨A4, hc4, h⟩ := bi_s h
  refine cVv C hW (As := []) (rest := []) (mt_X0_drain rfl hc4) (cwV 0 C.2.2.2.2.2.1 gX3_mix_X0_drain rfl rfl rfl (by decide +kernel) ⟨Nat.le_of_ble_eq_true rfl, Nat.le_of_ble_eq_true rfl⟩) (rcv0 C hW (rfl : kd 54 = 0)) rfl hl.1 rfl (Nat.le_of_ble_eq_true rfl) dX3_mix_4 (Nat.zero_le _) (Nat.zero_le _) (fun H locs hW => ?_)
  refine lv_iconst (v := 0) C.1 C.2.1 dX3_mix_7 (by decide) ?_
  refine lv_istore_n (lv' := [(2, .int 0), (0, .ref (Γ.2.2 0)), (1, .int v1)]) C.1 C.2.1 dX3_mix_8 rfl hl (by decide) rfl (fun ls hl => ?_)
  exact tX3_mix_9 C  FU _ _ _ _ _ _ h  hW (lv_sub hl [1, 2, 0] rfl)
theorem mt_X3_mix {l : Launch} {Γ : Gm} {A B : Me}  {v1 : Int32} {rZ : Int32} {AZ : Me}  (h : fX3_mix A v1 = some (rZ, AZ)) : Met l yX3_mix wsX3_mix rmX3_mix (PC Γ A B [.ref (Γ.2.2 0), .int v1]) (QI Γ AZ B rZ) 0 0 (rg Γ) :=
  met_of (by decide) rfl (Nat.le_of_ble_eq_true rfl) (fun p e s m below meth c ls C hW hl => tX3_mix_0 C  h  hW (lv_sub (l := [(0, .ref (Γ.2.2 0)), (1, .int v1)]) hl [0, 1] rfl))
abbrev rmX3_leastBlend : Room := { frames := 4, cells := 0, slots := 0, locals := 90 }
set_option maxRecDepth 100000 in
theorem iX3_leastBlend_c0 : ∀ w ∈ wsX00, w ∈ wsX3_leastBlend := by decide +kernel
set_option maxRecDepth 100000 in
theorem iX3_leastBlend_c1 : ∀ w ∈ wsX10, w ∈ wsX3_leastBlend := by decide +kernel
set_option maxRecDepth 100000 in
theorem iX3_leastBlend_c3 : ∀ w ∈ wsX30, w ∈ wsX3_leastBlend := by decide +kernel
set_option maxRecDepth 100000 in
theorem wX3_leastBlend_0 : Cond.fieldLink RX3 19 "WineByYears" "now" "LWineByYears$Cellar;" ∈ wsX3_leastBlend := by decide +kernel
set_option maxRecDepth 100000 in
theorem wX3_leastBlend_1 : Cond.fieldLink RX3 161 "WineByYears$Cellar" "caskCount" "I" ∈ wsX3_leastBlend := by decide +kernel
set_option maxRecDepth 100000 in
theorem wX3_leastBlend_2 : Cond.fieldLink RX3 32 "WineByYears" "mixed" "LWineByYears$Cask;" ∈ wsX3_leastBlend := by decide +kernel
set_option maxRecDepth 100000 in
theorem wX3_leastBlend_3 : Cond.fieldLink RX3 80 "WineByYears$Cask" "litres" "I" ∈ wsX3_leastBlend := by decide +kernel
def fX3_leastBlend_86 (j5 : Me → Int32 → Int32 → Int32 → Int32 → Option (Int32 × Me)) (A : Me)  (v1 : Int32) (v2 : Int32) (v3 : Int32) (v4 : Int32) : Option (Int32 × Me) := j5 A v1 v2 v3 (v4 + 1)
set_option maxRecDepth 100000 in
theorem tX3_leastBlend_86 {A B : Me}  {H : Heap} {locs : List Loc} {ls : Array Slot} {v1 : Int32} {v2 : Int32} {v3 : Int32} {v4 : Int32} {rZ : Int32} {AZ : Me} {j5 : Me → Int32 → Int32 → Int32 → Int32 → Option (Int32 × Me)} (C : Cx Γ p s m args meth c cX3_leastBlend 6 (some .int) RX3 wsX3_leastBlend) (hr5 : ∀ (A : Me) (v1 : Int32) (v2 : Int32) (v3 : Int32) (v4 : Int32) (H : Heap) (locs : List Loc) (ls : Array Slot), j5 A v1 v2 v3 v4 = some (rZ, AZ) → Wd Γ A B s.heap H locs → lv_has ls 6 [(0, .ref (Γ.2.2 0)), (1, .int v1), (2, .int v2), (3, .int v3), (4, .int v4)] → W p l e rmX3_leastBlend s m args below meth c H locs 0 0 (MQ below (QI Γ AZ B rZ) args s 0 0 (rg Γ)) (F0 m 5 ls [])) (h : fX3_leastBlend_86 j5 A v1 v2 v3 v4 = some (rZ, AZ))  (hW : Wd Γ A B s.heap H locs) (hl : lv_has ls 6 [(0, .ref (Γ.2.2 0)), (1, .int v1), (2, .int v2), (3, .int v3), (4, .int v4)]) : W p l e rmX3_leastBlend s m args below meth c H locs 0 0 (MQ below (QI Γ AZ B rZ) args s 0 0 (rg Γ)) (F0 m 86 ls []) := by
  unfold fX3_leastBlend_86 at h
  refine lv_iinc (v := (v4 + 1)) (lv' := [(4, .int (v4 + 1)), (0, .ref (Γ.2.2 0)), (1, .int v1), (2, .int v2), (3, .int v3)]) C.1 C.2.1 dX3_leastBlend_86 hl (k := 4) rfl rfl (by decide) rfl (fun ls hl => ?_)
  refine lv_goto (tgt := 5) C.1 C.2.1 dX3_leastBlend_89 (by decide) ?_
  exact hr5 _ _ _ _ _ _ _ _ h  hW (lv_sub hl [1, 2, 3, 4, 0] rfl)
def fX3_leastBlend_41 (j5 : Me → Int32 → Int32 → Int32 → Int32 → Option (Int32 × Me)) (A : Me)  (v1 : Int32) (v2 : Int32) (v3 : Int32) (v4 : Int32) (t0 : Int32) : Option (Int32 × Me) := if t0 = 0 then (fX3_leastBlend_86 j5 A v1 v2 v3 v4) else (b2 (fX3_mix A v4) fun r51 A51 => if r51 = 0 then (fX3_leastBlend_86 j5 A51 v1 v2 v3 v4) else (if (A51 54 1) < v2 then (fX3_leastBlend_86 j5 A51 v1 v2 v3 v4) else (bi (fX1_allMay A51 3 v1 54) fun r77 => if r77 = 0 then (fX3_leastBlend_86 j5 A51 v1 v2 v3 v4) else (fX3_leastBlend_86 j5 A51 v1 v2 v4 v4))))
set_option maxRecDepth 100000 in
theorem tX3_leastBlend_41 {A B : Me}  {H : Heap} {locs : List Loc} {ls : Array Slot} {v1 : Int32} {v2 : Int32} {v3 : Int32} {v4 : Int32} {t0 : Int32} {rZ : Int32} {AZ : Me} {j5 : Me → Int32 → Int32 → Int32 → Int32 → Option (Int32 × Me)} (C : Cx Γ p s m args meth c cX3_leastBlend 6 (some .int) RX3 wsX3_leastBlend) (hr5 : ∀ (A : Me) (v1 : Int32) (v2 : Int32) (v3 : Int32) (v4 : Int32) (H : Heap) (locs : List Loc) (ls : Array Slot), j5 A v1 v2 v3 v4 = some (rZ, AZ) → Wd Γ A B s.heap H locs → lv_has ls 6 [(0, .ref (Γ.2.2 0)), (1, .int v1), (2, .int v2), (3, .int v3), (4, .int v4)] → W p l e rmX3_leastBlend s m args below meth c H locs 0 0 (MQ below (QI Γ AZ B rZ) args s 0 0 (rg Γ)) (F0 m 5 ls [])) (h : fX3_leastBlend_41 j5 A v1 v2 v3 v4 t0 = some (rZ, AZ))  (hW : Wd Γ A B s.heap H locs) (hl : lv_has ls 6 [(0, .ref (Γ.2.2 0)), (1, .int v1), (2, .int v2), (3, .int v3), (4, .int v4)]) : W p l e rmX3_leastBlend s m args below meth c H locs 0 0 (MQ below (QI Γ AZ B rZ) args s 0 0 (rg Γ)) (F0 m 41 ls [.int t0]) := by
  unfold fX3_leastBlend_41 at h
  refine lv_istore (lv' := [(5, .int t0), (0, .ref (Γ.2.2 0)), (1, .int v1), (2, .int v2), (3, .int v3), (4, .int v4)]) C.1 C.2.1 dX3_leastBlend_41 hl (by decide) rfl (fun ls hl => ?_)
  refine lv_iload C.1 C.2.1 dX3_leastBlend_43 (lv_at hl 0 rfl) ?_
  refine lv_if_eq (tgt := 86) C.1 C.2.1 dX3_leastBlend_45 (by decide) (fun c_45 => ?_) (fun c_45 => ?_)
  · have h := if_y h c_45
    exact tX3_leastBlend_86 C hr5 h  hW (lv_sub hl [1, 2, 3, 4, 5] rfl)
  · have h := if_n h c_45
    refine lv_aload_n C.1 C.2.1 dX3_leastBlend_48 rfl (lv_at hl 1 rfl) ?_
    refine lv_iload C.1 C.2.1 dX3_leastBlend_49 (lv_at hl 5 rfl) ?_
    obtain ⟨r51, A51, hc51, h⟩ := b2_s h
    refine cVi C hW (As := [.int v4]) (rest := []) (mt_X3_mix  hc51) (cwV 1 C.2.2.2.2.2.1 gX3_leastBlend_X3_mix rfl rfl rfl (by decide +kernel) ⟨Nat.le_of_ble_eq_true rfl, Nat.le_of_ble_eq_true rfl⟩) (rcv3 C hW (rfl : kd 0 = 3)) rfl hl.1 rfl (Nat.le_of_ble_eq_true rfl) dX3_leastBlend_51 (Nat.zero_le _) (Nat.zero_le _) (fun H locs hW => ?_)
    refine lv_if_eq (tgt := 86) C.1 C.2.1 dX3_leastBlend_54 (by decide) (fun c_54 => ?_) (fun c_54 => ?_)
    · have h := if_y h c_54
      exact tX3_leastBlend_86 C hr5 h  hW (lv_sub hl [1, 2, 3, 4, 5] rfl)
    · have h := if_n h c_54
      refine lv_aload_n C.1 C.2.1 dX3_leastBlend_57 rfl (lv_at hl 1 rfl) ?_
      refine gX3_4 C hW rfl iX3_leastBlend_c3 wX3_leastBlend_2 dX3_leastBlend_58 ?_
      refine gX0_1 C hW rfl iX3_leastBlend_c0 wX3_leastBlend_3 dX3_leastBlend_61 ?_
      refine lv_iload_n C.1 C.2.1 dX3_leastBlend_64 rfl (lv_at hl 3 rfl) ?_
      refine lv_icmp_lt (tgt := 86) C.1 C.2.1 dX3_leastBlend_65 (by decide) (fun c_65 => ?_) (fun c_65 => ?_)
      · have h := if_y h c_65
        exact tX3_leastBlend_86 C hr5 h  hW (lv_sub hl [1, 2, 3, 4, 5] rfl)
      · have h := if_n h c_65
        refine lv_aload_n C.1 C.2.1 dX3_leastBlend_68 rfl (lv_at hl 1 rfl) ?_
        refine gX3_1 C hW rfl iX3_leastBlend_c3 wX3_leastBlend_0 dX3_leastBlend_69 ?_
        refine lv_iload_n C.1 C.2.1 dX3_leastBlend_72 rfl (lv_at hl 2 rfl) ?_
        refine lv_aload_n C.1 C.2.1 dX3_leastBlend_73 rfl (lv_at hl 1 rfl) ?_
        refine gX3_4 C hW rfl iX3_leastBlend_c3 wX3_leastBlend_2 dX3_leastBlend_74 ?_
        obtain ⟨r77, hc77, h⟩ := bi_s h
        refine cVi C hW (As := [.int v1, .ref (Γ.2.2 54)]) (rest := []) (mt_X1_allMay rfl rfl hc77) (cwV 2 C.2.2.2.2.2.1 gX3_leastBlend_X1_allMay rfl rfl rfl (by decide +kernel) ⟨Nat.le_of_ble_eq_true rfl, Nat.le_of_ble_eq_true rfl⟩) (rcv1 C hW (rfl : kd 3 = 1)) rfl hl.1 rfl (Nat.le_of_ble_eq_true rfl) dX3_leastBlend_77 (Nat.zero_le _) (Nat.zero_le _) (fun H locs hW => ?_)
        refine lv_if_eq (tgt := 86) C.1 C.2.1 dX3_leastBlend_80 (by decide) (fun c_80 => ?_) (fun c_80 => ?_)
        · have h := if_y h c_80
          exact tX3_leastBlend_86 C hr5 h  hW (lv_sub hl [1, 2, 3, 4, 5] rfl)
        · have h := if_n h c_80
          refine lv_iload C.1 C.2.1 dX3_leastBlend_83 (lv_at hl 5 rfl) ?_
          refine lv_istore_n (lv' := [(3, .int v4), (5, .int t0), (0, .ref (Γ.2.2 0)), (1, .int v1), (2, .int v2), (4, .int v4)]) C.1 C.2.1 dX3_leastBlend_85 rfl hl (by decide) rfl (fun ls hl => ?_)
          exact tX3_leastBlend_86 C hr5 h  hW (lv_sub hl [2, 3, 4, 0, 5] rfl)
def fX3_leastBlend_36 (j5 : Me → Int32 → Int32 → Int32 → Int32 → Option (Int32 × Me)) (A : Me)  (v1 : Int32) (v2 : Int32) (v3 : Int32) (v4 : Int32) : Option (Int32 × Me) := fX3_leastBlend_41 j5 A v1 v2 v3 v4 1
set_option maxRecDepth 100000 in
theorem tX3_leastBlend_36 {A B : Me}  {H : Heap} {locs : List Loc} {ls : Array Slot} {v1 : Int32} {v2 : Int32} {v3 : Int32} {v4 : Int32} {rZ : Int32} {AZ : Me} {j5 : Me → Int32 → Int32 → Int32 → Int32 → Option (Int32 × Me)} (C : Cx Γ p s m args meth c cX3_leastBlend 6 (some .int) RX3 wsX3_leastBlend) (hr5 : ∀ (A : Me) (v1 : Int32) (v2 : Int32) (v3 : Int32) (v4 : Int32) (H : Heap) (locs : List Loc) (ls : Array Slot), j5 A v1 v2 v3 v4 = some (rZ, AZ) → Wd Γ A B s.heap H locs → lv_has ls 6 [(0, .ref (Γ.2.2 0)), (1, .int v1), (2, .int v2), (3, .int v3), (4, .int v4)] → W p l e rmX3_leastBlend s m args below meth c H locs 0 0 (MQ below (QI Γ AZ B rZ) args s 0 0 (rg Γ)) (F0 m 5 ls [])) (h : fX3_leastBlend_36 j5 A v1 v2 v3 v4 = some (rZ, AZ))  (hW : Wd Γ A B s.heap H locs) (hl : lv_has ls 6 [(0, .ref (Γ.2.2 0)), (1, .int v1), (2, .int v2), (3, .int v3), (4, .int v4)]) : W p l e rmX3_leastBlend s m args below meth c H locs 0 0 (MQ below (QI Γ AZ B rZ) args s 0 0 (rg Γ)) (F0 m 36 ls []) := by
  unfold fX3_leastBlend_36 at h
  refine lv_iconst (v := 1) C.1 C.2.1 dX3_leastBlend_36 (by decide) ?_
  refine lv_goto (tgt := 41) C.1 C.2.1 dX3_leastBlend_37 (by decide) ?_
  exact tX3_leastBlend_41 C hr5 h  hW (lv_sub hl [0, 1, 2, 3, 4] rfl)
def fX3_leastBlend_5   : Nat → Me → Int32 → Int32 → Int32 → Int32 → Option (Int32 × Me)
  | 0, _, _, _, _, _ => none
  | n + 1, A, v1, v2, v3, v4 => if (1 <<< ((A 3 7) &&& 31)) ≤ v4 then (some (v3, A)) else (if v3 = (-1) then (fX3_leastBlend_36 (fun m x0 x1 x2 x3 => fX3_leastBlend_5 n m x0 x1 x2 x3) A v1 v2 v3 v4) else (bi (fJ6_bitCount_0f7a4 v4) fun r26 => bi (fJ6_bitCount_0f7a4 v3) fun r30 => if r30 ≤ r26 then (fX3_leastBlend_41 (fun m x0 x1 x2 x3 => fX3_leastBlend_5 n m x0 x1 x2 x3) A v1 v2 v3 v4 0) else (fX3_leastBlend_36 (fun m x0 x1 x2 x3 => fX3_leastBlend_5 n m x0 x1 x2 x3) A v1 v2 v3 v4)))
set_option maxRecDepth 100000 in
theorem tX3_leastBlend_5 {B : Me}  {rZ : Int32} {AZ : Me}  (C : Cx Γ p s m args meth c cX3_leastBlend 6 (some .int) RX3 wsX3_leastBlend)  (n : Nat) : ∀ (A : Me) (v1 : Int32) (v2 : Int32) (v3 : Int32) (v4 : Int32) (H : Heap) (locs : List Loc) (ls : Array Slot), fX3_leastBlend_5 n A v1 v2 v3 v4 = some (rZ, AZ) → Wd Γ A B s.heap H locs → lv_has ls 6 [(0, .ref (Γ.2.2 0)), (1, .int v1), (2, .int v2), (3, .int v3), (4, .int v4)] → W p l e rmX3_leastBlend s m args below meth c H locs 0 0 (MQ below (QI Γ AZ B rZ) args s 0 0 (rg Γ)) (F0 m 5 ls []) := by
  induction n with
  | zero =>
    intro _ _ _ _ _ H locs ls h
    exact nomatch (show (none : Option (Int32 × Me)) = some (rZ, AZ) from h)
  | succ n ih =>
    intro A v1 v2 v3 v4 H locs ls h  hW hl
    rw [fX3_leastBlend_5] at h
    refine lv_iload C.1 C.2.1 dX3_leastBlend_5 (lv_at hl 4 rfl) ?_
    refine lv_iconst (v := 1) C.1 C.2.1 dX3_leastBlend_7 (by decide) ?_
    refine lv_aload_n C.1 C.2.1 dX3_leastBlend_8 rfl (lv_at hl 0 rfl) ?_
    refine gX3_1 C hW rfl iX3_leastBlend_c3 wX3_leastBlend_0 dX3_leastBlend_9 ?_
    refine gX1_7 C hW rfl iX3_leastBlend_c1 wX3_leastBlend_1 dX3_leastBlend_12 ?_
    refine lv_ishl C.1 C.2.1 dX3_leastBlend_15 ?_
    refine lv_icmp_ge (tgt := 92) C.1 C.2.1 dX3_leastBlend_16 (by decide) (fun c_16 => ?_) (fun c_16 => ?_)
    · have h := if_y h c_16
      refine lv_iload_n C.1 C.2.1 dX3_leastBlend_92 rfl (lv_at hl 3 rfl) ?_
      cases h
      exact z_iret C hW dX3_leastBlend_93
    · have h := if_n h c_16
      refine lv_iload_n C.1 C.2.1 dX3_leastBlend_19 rfl (lv_at hl 3 rfl) ?_
      refine lv_iconst (v := (-1)) C.1 C.2.1 dX3_leastBlend_20 (by decide) ?_
      refine lv_icmp_eq (tgt := 36) C.1 C.2.1 dX3_leastBlend_21 (by decide) (fun c_21 => ?_) (fun c_21 => ?_)
      · have h := if_y h c_21
        exact tX3_leastBlend_36 C ih h  hW (lv_sub hl [0, 1, 2, 3, 4] rfl)
      · have h := if_n h c_21
        refine lv_iload C.1 C.2.1 dX3_leastBlend_24 (lv_at hl 4 rfl) ?_
        obtain ⟨r26, hc26, h⟩ := bi_s h
        refine cSi C hW (As := [.int v4]) (rest := []) (mt_J6_bitCount_0f7a4  hc26) (va_cwS 1 C.2.2.2.2.2.1 gX3_leastBlend_J6_bitCount_0f7a4 rfl rfl rfl (by decide +kernel) ⟨Nat.le_of_ble_eq_true rfl, Nat.le_of_ble_eq_true rfl⟩) rfl hl.1 rfl (Nat.le_of_ble_eq_true rfl) dX3_leastBlend_26 (Nat.zero_le _) (Nat.zero_le _) (fun H locs hW => ?_)
        refine lv_iload_n C.1 C.2.1 dX3_leastBlend_29 rfl (lv_at hl 3 rfl) ?_
        obtain ⟨r30, hc30, h⟩ := bi_s h
        refine cSi C hW (As := [.int v3]) (rest := [.int r26]) (mt_J6_bitCount_0f7a4  hc30) (va_cwS 1 C.2.2.2.2.2.1 gX3_leastBlend_J6_bitCount_0f7a4 rfl rfl rfl (by decide +kernel) ⟨Nat.le_of_ble_eq_true rfl, Nat.le_of_ble_eq_true rfl⟩) rfl hl.1 rfl (Nat.le_of_ble_eq_true rfl) dX3_leastBlend_30 (Nat.zero_le _) (Nat.zero_le _) (fun H locs hW => ?_)
        refine lv_icmp_ge (tgt := 40) C.1 C.2.1 dX3_leastBlend_33 (by decide) (fun c_33 => ?_) (fun c_33 => ?_)
        · have h := if_y h c_33
          refine lv_iconst (v := 0) C.1 C.2.1 dX3_leastBlend_40 (by decide) ?_
          exact tX3_leastBlend_41 C ih h  hW (lv_sub hl [0, 1, 2, 3, 4] rfl)
        · have h := if_n h c_33
          exact tX3_leastBlend_36 C ih h  hW (lv_sub hl [0, 1, 2, 3, 4] rfl)
def fX3_leastBlend  (A : Me)  (v1 : Int32) (v2 : Int32) : Option (Int32 × Me) := fX3_leastBlend_5 FU A v1 v2 (-1) 0
set_option maxRecDepth 100000 in
theorem tX3_leastBlend_0 {A B : Me}  {H : Heap} {locs : List Loc} {ls : Array Slot} {v1 : Int32} {v2 : Int32} {rZ : Int32} {AZ : Me}  (C : Cx Γ p s m args meth c cX3_leastBlend 6 (some .int) RX3 wsX3_leastBlend)  (h : fX3_leastBlend A v1 v2 = some (rZ, AZ))  (hW : Wd Γ A B s.heap H locs) (hl : lv_has ls 6 [(0, .ref (Γ.2.2 0)), (1, .int v1), (2, .int v2)]) : W p l e rmX3_leastBlend s m args below meth c H locs 0 0 (MQ below (QI Γ AZ B rZ) args s 0 0 (rg Γ)) (F0 m 0 ls []) := by
  unfold fX3_leastBlend at h
  refine lv_iconst (v := (-1)) C.1 C.2.1 dX3_leastBlend_0 (by decide) ?_
  refine lv_istore_n (lv' := [(3, .int (-1)), (0, .ref (Γ.2.2 0)), (1, .int v1), (2, .int v2)]) C.1 C.2.1 dX3_leastBlend_1 rfl hl (by decide) rfl (fun ls hl => ?_)
  refine lv_iconst (v := 0) C.1 C.2.1 dX3_leastBlend_2 (by decide) ?_
  refine lv_istore (lv' := [(4, .int 0), (3, .int (-1)), (0, .ref (Γ.2.2 0)), (1, .int v1), (2, .int v2)]) C.1 C.2.1 dX3_leastBlend_3 hl (by decide) rfl (fun ls hl => ?_)
  exact tX3_leastBlend_5 C  FU _ _ _ _ _ _ _ _ h  hW (lv_sub hl [2, 3, 4, 1, 0] rfl)
theorem mt_X3_leastBlend {l : Launch} {Γ : Gm} {A B : Me}  {v1 : Int32} {v2 : Int32} {rZ : Int32} {AZ : Me}  (h : fX3_leastBlend A v1 v2 = some (rZ, AZ)) : Met l yX3_leastBlend wsX3_leastBlend rmX3_leastBlend (PC Γ A B [.ref (Γ.2.2 0), .int v1, .int v2]) (QI Γ AZ B rZ) 0 0 (rg Γ) :=
  met_of (by decide) rfl (Nat.le_of_ble_eq_true rfl) (fun p e s m below meth c ls C hW hl => tX3_leastBlend_0 C  h  hW (lv_sub (l := [(0, .ref (Γ.2.2 0)), (1, .int v1), (2, .int v2)]) hl [0, 1, 2] rfl))
abbrev rmX3_blend : Room := { frames := 5, cells := 0, slots := 0, locals := 115 }
set_option maxRecDepth 100000 in
theorem iX3_blend_c3 : ∀ w ∈ wsX30, w ∈ wsX3_blend := by decide +kernel
set_option maxRecDepth 100000 in
theorem wX3_blend_0 : Cond.fieldLink RX3 19 "WineByYears" "now" "LWineByYears$Cellar;" ∈ wsX3_blend := by decide +kernel
def fX3_blend_28  (A : Me)   : Option (Int32 × Me) := some ((-102), A)
set_option maxRecDepth 100000 in
theorem tX3_blend_28 {A B : Me}  {H : Heap} {locs : List Loc} {ls : Array Slot}  {rZ : Int32} {AZ : Me}  (C : Cx Γ p s m args meth c cX3_blend 5 (some .int) RX3 wsX3_blend)  (h : fX3_blend_28 A = some (rZ, AZ))  (hW : Wd Γ A B s.heap H locs) (hl : lv_has ls 5 []) : W p l e rmX3_blend s m args below meth c H locs 0 0 (MQ below (QI Γ AZ B rZ) args s 0 0 (rg Γ)) (F0 m 28 ls []) := by
  unfold fX3_blend_28 at h
  refine lv_bipush (v := (-102)) C.1 C.2.1 dX3_blend_28 (by decide) ?_
  cases h
  exact z_iret C hW dX3_blend_30
def fX3_blend_66  (A : Me)  (t0 : Int32) : Option (Int32 × Me) := some (t0, A)
set_option maxRecDepth 100000 in
theorem tX3_blend_66 {A B : Me}  {H : Heap} {locs : List Loc} {ls : Array Slot} {t0 : Int32} {rZ : Int32} {AZ : Me}  (C : Cx Γ p s m args meth c cX3_blend 5 (some .int) RX3 wsX3_blend)  (h : fX3_blend_66 A t0 = some (rZ, AZ))  (hW : Wd Γ A B s.heap H locs) (hl : lv_has ls 5 []) : W p l e rmX3_blend s m args below meth c H locs 0 0 (MQ below (QI Γ AZ B rZ) args s 0 0 (rg Γ)) (F0 m 66 ls [.int t0]) := by
  unfold fX3_blend_66 at h
  cases h
  exact z_iret C hW dX3_blend_66
def fX3_blend  (A : Me)  (v1 : Int32) (v2 : Int32) (v3 : Int32) : Option (Int32 × Me) := bi (fX1_arePeople A 3 v1) fun r5 => if r5 = 0 then (fX3_blend_28 A) else (if v2 < 0 then (fX3_blend_28 A) else (if 99 < v2 then (fX3_blend_28 A) else (bi (fX3_isZeroOrOne v3) fun r22 => if r22 = 0 then (fX3_blend_28 A) else (bi (fX1_isThere A 3) fun r35 => if r35 = 0 then (some ((-103), A)) else (b2 (fX3_leastBlend A v1 v2) fun r47 A47 => if v3 = 0 then (bi (fX3_casksIn r47) fun r58 => fX3_blend_66 A47 r58) else (fX3_blend_66 A47 r47))))))
set_option maxRecDepth 100000 in
theorem tX3_blend_0 {A B : Me}  {H : Heap} {locs : List Loc} {ls : Array Slot} {v1 : Int32} {v2 : Int32} {v3 : Int32} {rZ : Int32} {AZ : Me}  (C : Cx Γ p s m args meth c cX3_blend 5 (some .int) RX3 wsX3_blend)  (h : fX3_blend A v1 v2 v3 = some (rZ, AZ))  (hW : Wd Γ A B s.heap H locs) (hl : lv_has ls 5 [(0, .ref (Γ.2.2 0)), (1, .int v1), (2, .int v2), (3, .int v3)]) : W p l e rmX3_blend s m args below meth c H locs 0 0 (MQ below (QI Γ AZ B rZ) args s 0 0 (rg Γ)) (F0 m 0 ls []) := by
  unfold fX3_blend at h
  refine lv_aload_n C.1 C.2.1 dX3_blend_0 rfl (lv_at hl 0 rfl) ?_
  refine gX3_1 C hW rfl iX3_blend_c3 wX3_blend_0 dX3_blend_1 ?_
  refine lv_iload_n C.1 C.2.1 dX3_blend_4 rfl (lv_at hl 1 rfl) ?_
  obtain ⟨r5, hc5, h⟩ := bi_s h
  refine cVi C hW (As := [.int v1]) (rest := []) (mt_X1_arePeople rfl hc5) (cwV 1 C.2.2.2.2.2.1 gX3_blend_X1_arePeople rfl rfl rfl (by decide +kernel) ⟨Nat.le_of_ble_eq_true rfl, Nat.le_of_ble_eq_true rfl⟩) (rcv1 C hW (rfl : kd 3 = 1)) rfl hl.1 rfl (Nat.le_of_ble_eq_true rfl) dX3_blend_5 (Nat.zero_le _) (Nat.zero_le _) (fun H locs hW => ?_)
  refine lv_if_eq (tgt := 28) C.1 C.2.1 dX3_blend_8 (by decide) (fun c_8 => ?_) (fun c_8 => ?_)
  · have h := if_y h c_8
    exact tX3_blend_28 C  h  hW (lv_sub hl [] rfl)
  · have h := if_n h c_8
    refine lv_iload_n C.1 C.2.1 dX3_blend_11 rfl (lv_at hl 2 rfl) ?_
    refine lv_if_lt (tgt := 28) C.1 C.2.1 dX3_blend_12 (by decide) (fun c_12 => ?_) (fun c_12 => ?_)
    · have h := if_y h c_12
      exact tX3_blend_28 C  h  hW (lv_sub hl [] rfl)
    · have h := if_n h c_12
      refine lv_iload_n C.1 C.2.1 dX3_blend_15 rfl (lv_at hl 2 rfl) ?_
      refine lv_bipush (v := 99) C.1 C.2.1 dX3_blend_16 (by decide) ?_
      refine lv_icmp_gt (tgt := 28) C.1 C.2.1 dX3_blend_18 (by decide) (fun c_18 => ?_) (fun c_18 => ?_)
      · have h := if_y h c_18
        exact tX3_blend_28 C  h  hW (lv_sub hl [] rfl)
      · have h := if_n h c_18
        refine lv_iload_n C.1 C.2.1 dX3_blend_21 rfl (lv_at hl 3 rfl) ?_
        obtain ⟨r22, hc22, h⟩ := bi_s h
        refine cSi C hW (As := [.int v3]) (rest := []) (mt_X3_isZeroOrOne  hc22) (va_cwS 1 C.2.2.2.2.2.1 gX3_blend_X3_isZeroOrOne rfl rfl rfl (by decide +kernel) ⟨Nat.le_of_ble_eq_true rfl, Nat.le_of_ble_eq_true rfl⟩) rfl hl.1 rfl (Nat.le_of_ble_eq_true rfl) dX3_blend_22 (Nat.zero_le _) (Nat.zero_le _) (fun H locs hW => ?_)
        refine lv_if_ne (tgt := 31) C.1 C.2.1 dX3_blend_25 (by decide) (fun c_25 => ?_) (fun c_25 => ?_)
        · have h := if_n h c_25
          refine lv_aload_n C.1 C.2.1 dX3_blend_31 rfl (lv_at hl 0 rfl) ?_
          refine gX3_1 C hW rfl iX3_blend_c3 wX3_blend_0 dX3_blend_32 ?_
          obtain ⟨r35, hc35, h⟩ := bi_s h
          refine cVi C hW (As := []) (rest := []) (mt_X1_isThere rfl hc35) (cwV 0 C.2.2.2.2.2.1 gX3_blend_X1_isThere rfl rfl rfl (by decide +kernel) ⟨Nat.le_of_ble_eq_true rfl, Nat.le_of_ble_eq_true rfl⟩) (rcv1 C hW (rfl : kd 3 = 1)) rfl hl.1 rfl (Nat.le_of_ble_eq_true rfl) dX3_blend_35 (Nat.zero_le _) (Nat.zero_le _) (fun H locs hW => ?_)
          refine lv_if_ne (tgt := 44) C.1 C.2.1 dX3_blend_38 (by decide) (fun c_38 => ?_) (fun c_38 => ?_)
          · have h := if_n h c_38
            refine lv_aload_n C.1 C.2.1 dX3_blend_44 rfl (lv_at hl 0 rfl) ?_
            refine lv_iload_n C.1 C.2.1 dX3_blend_45 rfl (lv_at hl 1 rfl) ?_
            refine lv_iload_n C.1 C.2.1 dX3_blend_46 rfl (lv_at hl 2 rfl) ?_
            obtain ⟨r47, A47, hc47, h⟩ := b2_s h
            refine cVi C hW (As := [.int v1, .int v2]) (rest := []) (mt_X3_leastBlend  hc47) (cwV 2 C.2.2.2.2.2.1 gX3_blend_X3_leastBlend rfl rfl rfl (by decide +kernel) ⟨Nat.le_of_ble_eq_true rfl, Nat.le_of_ble_eq_true rfl⟩) (rcv3 C hW (rfl : kd 0 = 3)) rfl hl.1 rfl (Nat.le_of_ble_eq_true rfl) dX3_blend_47 (Nat.zero_le _) (Nat.zero_le _) (fun H locs hW => ?_)
            refine lv_istore (lv' := [(4, .int r47), (0, .ref (Γ.2.2 0)), (1, .int v1), (2, .int v2), (3, .int v3)]) C.1 C.2.1 dX3_blend_50 hl (by decide) rfl (fun ls hl => ?_)
            refine lv_iload_n C.1 C.2.1 dX3_blend_52 rfl (lv_at hl 4 rfl) ?_
            refine lv_if_ne (tgt := 64) C.1 C.2.1 dX3_blend_53 (by decide) (fun c_53 => ?_) (fun c_53 => ?_)
            · have h := if_n h c_53
              refine lv_iload C.1 C.2.1 dX3_blend_64 (lv_at hl 0 rfl) ?_
              exact tX3_blend_66 C  h  hW (lv_sub hl [] rfl)
            · have h := if_y h c_53
              refine lv_iload C.1 C.2.1 dX3_blend_56 (lv_at hl 0 rfl) ?_
              obtain ⟨r58, hc58, h⟩ := bi_s h
              refine cSi C hW (As := [.int r47]) (rest := []) (mt_X3_casksIn  hc58) (va_cwS 1 C.2.2.2.2.2.1 gX3_blend_X3_casksIn rfl rfl rfl (by decide +kernel) ⟨Nat.le_of_ble_eq_true rfl, Nat.le_of_ble_eq_true rfl⟩) rfl hl.1 rfl (Nat.le_of_ble_eq_true rfl) dX3_blend_58 (Nat.zero_le _) (Nat.zero_le _) (fun H locs hW => ?_)
              refine lv_goto (tgt := 66) C.1 C.2.1 dX3_blend_61 (by decide) ?_
              exact tX3_blend_66 C  h  hW (lv_sub hl [] rfl)
          · have h := if_y h c_38
            refine lv_bipush (v := (-103)) C.1 C.2.1 dX3_blend_41 (by decide) ?_
            cases h
            exact z_iret C hW dX3_blend_43
        · have h := if_y h c_25
          exact tX3_blend_28 C  h  hW (lv_sub hl [] rfl)
theorem mt_X3_blend {l : Launch} {Γ : Gm} {A B : Me}  {v1 : Int32} {v2 : Int32} {v3 : Int32} {rZ : Int32} {AZ : Me}  (h : fX3_blend A v1 v2 v3 = some (rZ, AZ)) : Met l yX3_blend wsX3_blend rmX3_blend (PC Γ A B [.ref (Γ.2.2 0), .int v1, .int v2, .int v3]) (QI Γ AZ B rZ) 0 0 (rg Γ) :=
  met_of (by decide) rfl (Nat.le_of_ble_eq_true rfl) (fun p e s m below meth c ls C hW hl => tX3_blend_0 C  h  hW (lv_sub (l := [(0, .ref (Γ.2.2 0)), (1, .int v1), (2, .int v2), (3, .int v3)]) hl [0, 1, 2, 3] rfl))
end
