section
variable {p : Program} {l : Launch} {e : Env} {s : State} {m : MethodId} {args : Array Value} {below : List Frame} {meth : Method} {c : Code} {Γ : Gm}
abbrev rmX4_within : Room := { frames := 0, cells := 0, slots := 0, locals := 0 }
def fX4_within_15    (t0 : Int32) : Option (Int32) := ck (zb t0) <| some t0
set_option maxRecDepth 100000 in
theorem tX4_within_15 {A B : Me}  {H : Heap} {locs : List Loc} {ls : Array Slot} {t0 : Int32} {rZ : Int32}  (C : Cx Γ p s m args meth c cX4_within 3 (some .boolean) RX4 wsX4_within)  (h : fX4_within_15 t0 = some rZ)  (hW : Wd Γ A B s.heap H locs) (hl : lv_has ls 3 []) : W p l e rmX4_within s m args below meth c H locs 0 0 (MQ below (QI Γ A B rZ) args s 0 0 (rg Γ)) (F0 m 15 ls [.int t0]) := by
  unfold fX4_within_15 at h
  obtain ⟨hz, h⟩ := ck_s h
  cases h
  exact z_zret C hW hz dX4_within_15
def fX4_within_14     : Option (Int32) := fX4_within_15 0
set_option maxRecDepth 100000 in
theorem tX4_within_14 {A B : Me}  {H : Heap} {locs : List Loc} {ls : Array Slot}  {rZ : Int32}  (C : Cx Γ p s m args meth c cX4_within 3 (some .boolean) RX4 wsX4_within)  (h : fX4_within_14 = some rZ)  (hW : Wd Γ A B s.heap H locs) (hl : lv_has ls 3 []) : W p l e rmX4_within s m args below meth c H locs 0 0 (MQ below (QI Γ A B rZ) args s 0 0 (rg Γ)) (F0 m 14 ls []) := by
  unfold fX4_within_14 at h
  refine lv_iconst (v := 0) C.1 C.2.1 dX4_within_14 (by decide) ?_
  exact tX4_within_15 C  h  hW (lv_sub hl [] rfl)
def fX4_within    (v0 : Int32) (v1 : Int32) (v2 : Int32) : Option (Int32) := if v0 < v1 then (fX4_within_14) else (if v2 < v0 then (fX4_within_14) else (fX4_within_15 1))
set_option maxRecDepth 100000 in
theorem tX4_within_0 {A B : Me}  {H : Heap} {locs : List Loc} {ls : Array Slot} {v0 : Int32} {v1 : Int32} {v2 : Int32} {rZ : Int32}  (C : Cx Γ p s m args meth c cX4_within 3 (some .boolean) RX4 wsX4_within)  (h : fX4_within v0 v1 v2 = some rZ)  (hW : Wd Γ A B s.heap H locs) (hl : lv_has ls 3 [(0, .int v0), (1, .int v1), (2, .int v2)]) : W p l e rmX4_within s m args below meth c H locs 0 0 (MQ below (QI Γ A B rZ) args s 0 0 (rg Γ)) (F0 m 0 ls []) := by
  unfold fX4_within at h
  refine lv_iload_n C.1 C.2.1 dX4_within_0 rfl (lv_at hl 0 rfl) ?_
  refine lv_iload_n C.1 C.2.1 dX4_within_1 rfl (lv_at hl 1 rfl) ?_
  refine lv_icmp_lt (tgt := 14) C.1 C.2.1 dX4_within_2 (by decide) (fun c_2 => ?_) (fun c_2 => ?_)
  · have h := if_y h c_2
    exact tX4_within_14 C  h  hW (lv_sub hl [] rfl)
  · have h := if_n h c_2
    refine lv_iload_n C.1 C.2.1 dX4_within_5 rfl (lv_at hl 0 rfl) ?_
    refine lv_iload_n C.1 C.2.1 dX4_within_6 rfl (lv_at hl 2 rfl) ?_
    refine lv_icmp_gt (tgt := 14) C.1 C.2.1 dX4_within_7 (by decide) (fun c_7 => ?_) (fun c_7 => ?_)
    · have h := if_y h c_7
      exact tX4_within_14 C  h  hW (lv_sub hl [] rfl)
    · have h := if_n h c_7
      refine lv_iconst (v := 1) C.1 C.2.1 dX4_within_10 (by decide) ?_
      refine lv_goto (tgt := 15) C.1 C.2.1 dX4_within_11 (by decide) ?_
      exact tX4_within_15 C  h  hW (lv_sub hl [] rfl)
theorem mt_X4_within {l : Launch} {Γ : Gm} {A B : Me}  {v0 : Int32} {v1 : Int32} {v2 : Int32} {rZ : Int32}  (h : fX4_within v0 v1 v2 = some rZ) : Met l yX4_within wsX4_within rmX4_within (PC Γ A B [.int v0, .int v1, .int v2]) (QI Γ A B rZ) 0 0 (rg Γ) :=
  met_of (by decide) rfl (Nat.le_of_ble_eq_true rfl) (fun p e s m below meth c ls C hW hl => tX4_within_0 C  h  hW (lv_sub (l := [(0, .int v0), (1, .int v1), (2, .int v2)]) hl [0, 1, 2] rfl))
abbrev rmX4_has : Room := { frames := 0, cells := 0, slots := 0, locals := 0 }
def fX4_has_14    (t0 : Int32) : Option (Int32) := ck (zb t0) <| some t0
set_option maxRecDepth 100000 in
theorem tX4_has_14 {A B : Me}  {H : Heap} {locs : List Loc} {ls : Array Slot} {t0 : Int32} {rZ : Int32}  (C : Cx Γ p s m args meth c cX4_has 2 (some .boolean) RX4 wsX4_has)  (h : fX4_has_14 t0 = some rZ)  (hW : Wd Γ A B s.heap H locs) (hl : lv_has ls 2 []) : W p l e rmX4_has s m args below meth c H locs 0 0 (MQ below (QI Γ A B rZ) args s 0 0 (rg Γ)) (F0 m 14 ls [.int t0]) := by
  unfold fX4_has_14 at h
  obtain ⟨hz, h⟩ := ck_s h
  cases h
  exact z_zret C hW hz dX4_has_14
def fX4_has    (v0 : Int32) (v1 : Int32) : Option (Int32) := if ((v0 >>> (v1 &&& 31)) &&& 1) = 1 then (fX4_has_14 1) else (fX4_has_14 0)
set_option maxRecDepth 100000 in
theorem tX4_has_0 {A B : Me}  {H : Heap} {locs : List Loc} {ls : Array Slot} {v0 : Int32} {v1 : Int32} {rZ : Int32}  (C : Cx Γ p s m args meth c cX4_has 2 (some .boolean) RX4 wsX4_has)  (h : fX4_has v0 v1 = some rZ)  (hW : Wd Γ A B s.heap H locs) (hl : lv_has ls 2 [(0, .int v0), (1, .int v1)]) : W p l e rmX4_has s m args below meth c H locs 0 0 (MQ below (QI Γ A B rZ) args s 0 0 (rg Γ)) (F0 m 0 ls []) := by
  unfold fX4_has at h
  refine lv_iload_n C.1 C.2.1 dX4_has_0 rfl (lv_at hl 0 rfl) ?_
  refine lv_iload_n C.1 C.2.1 dX4_has_1 rfl (lv_at hl 1 rfl) ?_
  refine lv_ishr C.1 C.2.1 dX4_has_2 ?_
  refine lv_iconst (v := 1) C.1 C.2.1 dX4_has_3 (by decide) ?_
  refine lv_iand C.1 C.2.1 dX4_has_4 ?_
  refine lv_iconst (v := 1) C.1 C.2.1 dX4_has_5 (by decide) ?_
  refine lv_icmp_ne (tgt := 13) C.1 C.2.1 dX4_has_6 (by decide) (fun c_6 => ?_) (fun c_6 => ?_)
  · have h := if_n h c_6
    refine lv_iconst (v := 0) C.1 C.2.1 dX4_has_13 (by decide) ?_
    exact tX4_has_14 C  h  hW (lv_sub hl [] rfl)
  · have h := if_y h c_6
    refine lv_iconst (v := 1) C.1 C.2.1 dX4_has_9 (by decide) ?_
    refine lv_goto (tgt := 14) C.1 C.2.1 dX4_has_10 (by decide) ?_
    exact tX4_has_14 C  h  hW (lv_sub hl [] rfl)
theorem mt_X4_has {l : Launch} {Γ : Gm} {A B : Me}  {v0 : Int32} {v1 : Int32} {rZ : Int32}  (h : fX4_has v0 v1 = some rZ) : Met l yX4_has wsX4_has rmX4_has (PC Γ A B [.int v0, .int v1]) (QI Γ A B rZ) 0 0 (rg Γ) :=
  met_of (by decide) rfl (Nat.le_of_ble_eq_true rfl) (fun p e s m below meth c ls C hW hl => tX4_has_0 C  h  hW (lv_sub (l := [(0, .int v0), (1, .int v1)]) hl [0, 1] rfl))
abbrev rmX4_size : Room := { frames := 0, cells := 0, slots := 0, locals := 0 }
def fX4_size_4   : Nat → Int32 → Int32 → Int32 → Option (Int32)
  | 0, _, _, _ => none
  | n + 1, v0, v1, v2 => if 10 ≤ v2 then (some v1) else (fX4_size_4 n v0 (v1 + ((v0 >>> (v2 &&& 31)) &&& 1)) (v2 + 1))
set_option maxRecDepth 100000 in
theorem tX4_size_4 {A B : Me}  {rZ : Int32}  (C : Cx Γ p s m args meth c cX4_size 3 (some .int) RX4 wsX4_size)  (n : Nat) : ∀ (v0 : Int32) (v1 : Int32) (v2 : Int32) (H : Heap) (locs : List Loc) (ls : Array Slot), fX4_size_4 n v0 v1 v2 = some rZ → Wd Γ A B s.heap H locs → lv_has ls 3 [(0, .int v0), (1, .int v1), (2, .int v2)] → W p l e rmX4_size s m args below meth c H locs 0 0 (MQ below (QI Γ A B rZ) args s 0 0 (rg Γ)) (F0 m 4 ls []) := by
  induction n with
  | zero =>
    intro _ _ _ H locs ls h
    exact nomatch (show (none : Option (Int32)) = some rZ from h)
  | succ n ih =>
    intro v0 v1 v2 H locs ls h  hW hl
    rw [fX4_size_4] at h
    refine lv_iload_n C.1 C.2.1 dX4_size_4 rfl (lv_at hl 2 rfl) ?_
    refine lv_bipush (v := 10) C.1 C.2.1 dX4_size_5 (by decide) ?_
    refine lv_icmp_ge (tgt := 24) C.1 C.2.1 dX4_size_7 (by decide) (fun c_7 => ?_) (fun c_7 => ?_)
    · have h := if_y h c_7
      refine lv_iload_n C.1 C.2.1 dX4_size_24 rfl (lv_at hl 1 rfl) ?_
      cases h
      exact z_iret C hW dX4_size_25
    · have h := if_n h c_7
      refine lv_iload_n C.1 C.2.1 dX4_size_10 rfl (lv_at hl 1 rfl) ?_
      refine lv_iload_n C.1 C.2.1 dX4_size_11 rfl (lv_at hl 0 rfl) ?_
      refine lv_iload_n C.1 C.2.1 dX4_size_12 rfl (lv_at hl 2 rfl) ?_
      refine lv_ishr C.1 C.2.1 dX4_size_13 ?_
      refine lv_iconst (v := 1) C.1 C.2.1 dX4_size_14 (by decide) ?_
      refine lv_iand C.1 C.2.1 dX4_size_15 ?_
      refine lv_iadd C.1 C.2.1 dX4_size_16 ?_
      refine lv_istore_n (lv' := [(1, .int (v1 + ((v0 >>> (v2 &&& 31)) &&& 1))), (0, .int v0), (2, .int v2)]) C.1 C.2.1 dX4_size_17 rfl hl (by decide) rfl (fun ls hl => ?_)
      refine lv_iinc (v := (v2 + 1)) (lv' := [(2, .int (v2 + 1)), (1, .int (v1 + ((v0 >>> (v2 &&& 31)) &&& 1))), (0, .int v0)]) C.1 C.2.1 dX4_size_18 hl (k := 2) rfl rfl (by decide) rfl (fun ls hl => ?_)
      refine lv_goto (tgt := 4) C.1 C.2.1 dX4_size_21 (by decide) ?_
      exact ih _ _ _ _ _ _ h  hW (lv_sub hl [2, 1, 0] rfl)
def fX4_size    (v0 : Int32) : Option (Int32) := fX4_size_4 FU v0 0 0
set_option maxRecDepth 100000 in
theorem tX4_size_0 {A B : Me}  {H : Heap} {locs : List Loc} {ls : Array Slot} {v0 : Int32} {rZ : Int32}  (C : Cx Γ p s m args meth c cX4_size 3 (some .int) RX4 wsX4_size)  (h : fX4_size v0 = some rZ)  (hW : Wd Γ A B s.heap H locs) (hl : lv_has ls 3 [(0, .int v0)]) : W p l e rmX4_size s m args below meth c H locs 0 0 (MQ below (QI Γ A B rZ) args s 0 0 (rg Γ)) (F0 m 0 ls []) := by
  unfold fX4_size at h
  refine lv_iconst (v := 0) C.1 C.2.1 dX4_size_0 (by decide) ?_
  refine lv_istore_n (lv' := [(1, .int 0), (0, .int v0)]) C.1 C.2.1 dX4_size_1 rfl hl (by decide) rfl (fun ls hl => ?_)
  refine lv_iconst (v := 0) C.1 C.2.1 dX4_size_2 (by decide) ?_
  refine lv_istore_n (lv' := [(2, .int 0), (1, .int 0), (0, .int v0)]) C.1 C.2.1 dX4_size_3 rfl hl (by decide) rfl (fun ls hl => ?_)
  exact tX4_size_4 C  FU _ _ _ _ _ _ h  hW (lv_sub hl [2, 1, 0] rfl)
theorem mt_X4_size {l : Launch} {Γ : Gm} {A B : Me}  {v0 : Int32} {rZ : Int32}  (h : fX4_size v0 = some rZ) : Met l yX4_size wsX4_size rmX4_size (PC Γ A B [.int v0]) (QI Γ A B rZ) 0 0 (rg Γ) :=
  met_of (by decide) rfl (Nat.le_of_ble_eq_true rfl) (fun p e s m below meth c ls C hW hl => tX4_size_0 C  h  hW (lv_sub (l := [(0, .int v0)]) hl [0] rfl))
abbrev rmX4_letter : Room := { frames := 1, cells := 0, slots := 0, locals := 22 }
set_option maxRecDepth 100000 in
theorem iX4_letter_c4 : ∀ w ∈ wsX40, w ∈ wsX4_letter := by decide +kernel
set_option maxRecDepth 100000 in
theorem wX4_letter_0 : Cond.fieldLink RX4 60 "WineByYearsModel" "pageLength" "I" ∈ wsX4_letter := by decide +kernel
set_option maxRecDepth 100000 in
theorem wX4_letter_1 : Cond.fieldLink RX4 31 "WineByYearsModel" "page" "[B" ∈ wsX4_letter := by decide +kernel
def fX4_letter  (B : Me)  (v1 : Int32) : Option (Int32 × Me) := bi (fX4_within v1 32 126) fun r5 => if r5 = 0 then (some ((-102), B)) else (if (B 58 12) = 18 then (some ((-104), B)) else (ck (inb (B 58 12) 18) <| some (((up2 (up2 B 66 (B 58 12).toNatClampNeg (vp_nar .byte v1.toInt8.toInt32)) 58 12 (((up2 B 66 (B 58 12).toNatClampNeg (vp_nar .byte v1.toInt8.toInt32)) 58 12) + 1)) 58 12), (up2 (up2 B 66 (B 58 12).toNatClampNeg (vp_nar .byte v1.toInt8.toInt32)) 58 12 (((up2 B 66 (B 58 12).toNatClampNeg (vp_nar .byte v1.toInt8.toInt32)) 58 12) + 1)))))
set_option maxRecDepth 100000 in
theorem tX4_letter_0 {A B : Me}  {H : Heap} {locs : List Loc} {ls : Array Slot} {v1 : Int32} {rZ : Int32} {BZ : Me}  (C : Cx Γ p s m args meth c cX4_letter 2 (some .int) RX4 wsX4_letter)  (h : fX4_letter B v1 = some (rZ, BZ))  (hW : Wd Γ A B s.heap H locs) (hl : lv_has ls 2 [(0, .ref (Γ.2.2 58)), (1, .int v1)]) : W p l e rmX4_letter s m args below meth c H locs 0 0 (MQ below (QI Γ A BZ rZ) args s 0 0 (rg Γ)) (F0 m 0 ls []) := by
  unfold fX4_letter at h
  refine lv_iload_n C.1 C.2.1 dX4_letter_0 rfl (lv_at hl 1 rfl) ?_
  refine lv_bipush (v := 32) C.1 C.2.1 dX4_letter_1 (by decide) ?_
  refine lv_bipush (v := 126) C.1 C.2.1 dX4_letter_3 (by decide) ?_
  obtain ⟨r5, hc5, h⟩ := bi_s h
  refine cSi C hW (As := [.int v1, .int 32, .int 126]) (rest := []) (mt_X4_within  hc5) (va_cwS 3 C.2.2.2.2.2.1 gX4_letter_X4_within rfl rfl rfl (by decide +kernel) ⟨Nat.le_of_ble_eq_true rfl, Nat.le_of_ble_eq_true rfl⟩) rfl hl.1 rfl (Nat.le_of_ble_eq_true rfl) dX4_letter_5 (Nat.zero_le _) (Nat.zero_le _) (fun H locs hW => ?_)
  refine lv_if_ne (tgt := 14) C.1 C.2.1 dX4_letter_8 (by decide) (fun c_8 => ?_) (fun c_8 => ?_)
  · have h := if_n h c_8
    refine lv_aload_n C.1 C.2.1 dX4_letter_14 rfl (lv_at hl 0 rfl) ?_
    refine gX4_12 C hW rfl iX4_letter_c4 wX4_letter_0 dX4_letter_15 ?_
    refine lv_bipush (v := 18) C.1 C.2.1 dX4_letter_18 (by decide) ?_
    refine lv_icmp_ne (tgt := 26) C.1 C.2.1 dX4_letter_20 (by decide) (fun c_20 => ?_) (fun c_20 => ?_)
    · have h := if_n h c_20
      refine lv_aload_n C.1 C.2.1 dX4_letter_26 rfl (lv_at hl 0 rfl) ?_
      refine gX4_13 C hW rfl iX4_letter_c4 wX4_letter_1 dX4_letter_27 ?_
      refine lv_aload_n C.1 C.2.1 dX4_letter_30 rfl (lv_at hl 0 rfl) ?_
      refine gX4_12 C hW rfl iX4_letter_c4 wX4_letter_0 dX4_letter_31 ?_
      refine lv_iload_n C.1 C.2.1 dX4_letter_34 rfl (lv_at hl 1 rfl) ?_
      refine lv_i2b C.1 C.2.1 dX4_letter_35 rfl ?_
      obtain ⟨hi36, h⟩ := ck_s h
      refine sa5 C hW ⟨rfl, rfl⟩ hi36 dX4_letter_36 (fun H locs hW => ?_)
      refine lv_aload_n C.1 C.2.1 dX4_letter_37 rfl (lv_at hl 0 rfl) ?_
      refine lv_dup C.1 C.2.1 dX4_letter_38 rfl ?_
      refine gX4_12 C hW rfl iX4_letter_c4 wX4_letter_0 dX4_letter_39 ?_
      refine lv_iconst (v := 1) C.1 C.2.1 dX4_letter_42 (by decide) ?_
      refine lv_iadd C.1 C.2.1 dX4_letter_43 ?_
      refine pX4_12 C hW rfl iX4_letter_c4 wX4_letter_0 dX4_letter_44 (fun H locs hW => ?_)
      refine lv_aload_n C.1 C.2.1 dX4_letter_47 rfl (lv_at hl 0 rfl) ?_
      refine gX4_12 C hW rfl iX4_letter_c4 wX4_letter_0 dX4_letter_48 ?_
      cases h
      exact z_iret C hW dX4_letter_51
    · have h := if_y h c_20
      refine lv_bipush (v := (-104)) C.1 C.2.1 dX4_letter_23 (by decide) ?_
      cases h
      exact z_iret C hW dX4_letter_25
  · have h := if_y h c_8
    refine lv_bipush (v := (-102)) C.1 C.2.1 dX4_letter_11 (by decide) ?_
    cases h
    exact z_iret C hW dX4_letter_13
theorem mt_X4_letter {l : Launch} {Γ : Gm} {A B : Me}  {v1 : Int32} {rZ : Int32} {BZ : Me}  (h : fX4_letter B v1 = some (rZ, BZ)) : Met l yX4_letter wsX4_letter rmX4_letter (PC Γ A B [.ref (Γ.2.2 58), .int v1]) (QI Γ A BZ rZ) 0 0 (rg Γ) :=
  met_of (by decide) rfl (Nat.le_of_ble_eq_true rfl) (fun p e s m below meth c ls C hW hl => tX4_letter_0 C  h  hW (lv_sub (l := [(0, .ref (Γ.2.2 58)), (1, .int v1)]) hl [0, 1] rfl))
abbrev rmX4_blank : Room := { frames := 0, cells := 0, slots := 0, locals := 0 }
set_option maxRecDepth 100000 in
theorem iX4_blank_c4 : ∀ w ∈ wsX40, w ∈ wsX4_blank := by decide +kernel
set_option maxRecDepth 100000 in
theorem wX4_blank_0 : Cond.fieldLink RX4 60 "WineByYearsModel" "pageLength" "I" ∈ wsX4_blank := by decide +kernel
def fX4_blank  (B : Me)   : Option (Int32 × Me) := some ((B 58 12), (up2 B 58 12 0))
set_option maxRecDepth 100000 in
theorem tX4_blank_0 {A B : Me}  {H : Heap} {locs : List Loc} {ls : Array Slot}  {rZ : Int32} {BZ : Me}  (C : Cx Γ p s m args meth c cX4_blank 2 (some .int) RX4 wsX4_blank)  (h : fX4_blank B = some (rZ, BZ))  (hW : Wd Γ A B s.heap H locs) (hl : lv_has ls 2 [(0, .ref (Γ.2.2 58))]) : W p l e rmX4_blank s m args below meth c H locs 0 0 (MQ below (QI Γ A BZ rZ) args s 0 0 (rg Γ)) (F0 m 0 ls []) := by
  unfold fX4_blank at h
  refine lv_aload_n C.1 C.2.1 dX4_blank_0 rfl (lv_at hl 0 rfl) ?_
  refine gX4_12 C hW rfl iX4_blank_c4 wX4_blank_0 dX4_blank_1 ?_
  refine lv_istore_n (lv' := [(1, .int (B 58 12)), (0, .ref (Γ.2.2 58))]) C.1 C.2.1 dX4_blank_4 rfl hl (by decide) rfl (fun ls hl => ?_)
  refine lv_aload_n C.1 C.2.1 dX4_blank_5 rfl (lv_at hl 1 rfl) ?_
  refine lv_iconst (v := 0) C.1 C.2.1 dX4_blank_6 (by decide) ?_
  refine pX4_12 C hW rfl iX4_blank_c4 wX4_blank_0 dX4_blank_7 (fun H locs hW => ?_)
  refine lv_iload_n C.1 C.2.1 dX4_blank_10 rfl (lv_at hl 0 rfl) ?_
  cases h
  exact z_iret C hW dX4_blank_11
theorem mt_X4_blank {l : Launch} {Γ : Gm} {A B : Me}   {rZ : Int32} {BZ : Me}  (h : fX4_blank B = some (rZ, BZ)) : Met l yX4_blank wsX4_blank rmX4_blank (PC Γ A B [.ref (Γ.2.2 58)]) (QI Γ A BZ rZ) 0 0 (rg Γ) :=
  met_of (by decide) rfl (Nat.le_of_ble_eq_true rfl) (fun p e s m below meth c ls C hW hl => tX4_blank_0 C  h  hW (lv_sub (l := [(0, .ref (Γ.2.2 58))]) hl [0] rfl))
abbrev rmX4_isFigure : Room := { frames := 1, cells := 0, slots := 0, locals := 22 }
set_option maxRecDepth 100000 in
theorem iX4_isFigure_c4 : ∀ w ∈ wsX40, w ∈ wsX4_isFigure := by decide +kernel
set_option maxRecDepth 100000 in
theorem wX4_isFigure_0 : Cond.fieldLink RX4 60 "WineByYearsModel" "pageLength" "I" ∈ wsX4_isFigure := by decide +kernel
set_option maxRecDepth 100000 in
theorem wX4_isFigure_1 : Cond.fieldLink RX4 31 "WineByYearsModel" "page" "[B" ∈ wsX4_isFigure := by decide +kernel
def fX4_isFigure_30  (B : Me)  (t0 : Int32) : Option (Int32) := ck (zb t0) <| some t0
set_option maxRecDepth 100000 in
theorem tX4_isFigure_30 {A B : Me}  {H : Heap} {locs : List Loc} {ls : Array Slot} {t0 : Int32} {rZ : Int32}  (C : Cx Γ p s m args meth c cX4_isFigure 3 (some .boolean) RX4 wsX4_isFigure)  (h : fX4_isFigure_30 B t0 = some rZ)  (hW : Wd Γ A B s.heap H locs) (hl : lv_has ls 3 []) : W p l e rmX4_isFigure s m args below meth c H locs 0 0 (MQ below (QI Γ A B rZ) args s 0 0 (rg Γ)) (F0 m 30 ls [.int t0]) := by
  unfold fX4_isFigure_30 at h
  obtain ⟨hz, h⟩ := ck_s h
  cases h
  exact z_zret C hW hz dX4_isFigure_30
def fX4_isFigure_29  (B : Me)   : Option (Int32) := fX4_isFigure_30 B 0
set_option maxRecDepth 100000 in
theorem tX4_isFigure_29 {A B : Me}  {H : Heap} {locs : List Loc} {ls : Array Slot}  {rZ : Int32}  (C : Cx Γ p s m args meth c cX4_isFigure 3 (some .boolean) RX4 wsX4_isFigure)  (h : fX4_isFigure_29 B = some rZ)  (hW : Wd Γ A B s.heap H locs) (hl : lv_has ls 3 []) : W p l e rmX4_isFigure s m args below meth c H locs 0 0 (MQ below (QI Γ A B rZ) args s 0 0 (rg Γ)) (F0 m 29 ls []) := by
  unfold fX4_isFigure_29 at h
  refine lv_iconst (v := 0) C.1 C.2.1 dX4_isFigure_29 (by decide) ?_
  exact tX4_isFigure_30 C  h  hW (lv_sub hl [] rfl)
def fX4_isFigure  (B : Me)  (v1 : Int32) (v2 : Int32) : Option (Int32) := if (B 58 12) ≤ v1 then (fX4_isFigure_29 B) else (ck (inb v1 18) <| bi (fX4_within ((B 66 v1.toNatClampNeg) - 48) 0 v2) fun r19 => if r19 = 0 then (fX4_isFigure_29 B) else (fX4_isFigure_30 B 1))
set_option maxRecDepth 100000 in
theorem tX4_isFigure_0 {A B : Me}  {H : Heap} {locs : List Loc} {ls : Array Slot} {v1 : Int32} {v2 : Int32} {rZ : Int32}  (C : Cx Γ p s m args meth c cX4_isFigure 3 (some .boolean) RX4 wsX4_isFigure)  (h : fX4_isFigure B v1 v2 = some rZ)  (hW : Wd Γ A B s.heap H locs) (hl : lv_has ls 3 [(0, .ref (Γ.2.2 58)), (1, .int v1), (2, .int v2)]) : W p l e rmX4_isFigure s m args below meth c H locs 0 0 (MQ below (QI Γ A B rZ) args s 0 0 (rg Γ)) (F0 m 0 ls []) := by
  unfold fX4_isFigure at h
  refine lv_iload_n C.1 C.2.1 dX4_isFigure_0 rfl (lv_at hl 1 rfl) ?_
  refine lv_aload_n C.1 C.2.1 dX4_isFigure_1 rfl (lv_at hl 0 rfl) ?_
  refine gX4_12 C hW rfl iX4_isFigure_c4 wX4_isFigure_0 dX4_isFigure_2 ?_
  refine lv_icmp_ge (tgt := 29) C.1 C.2.1 dX4_isFigure_5 (by decide) (fun c_5 => ?_) (fun c_5 => ?_)
  · have h := if_y h c_5
    exact tX4_isFigure_29 C  h  hW (lv_sub hl [] rfl)
  · have h := if_n h c_5
    refine lv_aload_n C.1 C.2.1 dX4_isFigure_8 rfl (lv_at hl 0 rfl) ?_
    refine gX4_13 C hW rfl iX4_isFigure_c4 wX4_isFigure_1 dX4_isFigure_9 ?_
    refine lv_iload_n C.1 C.2.1 dX4_isFigure_12 rfl (lv_at hl 1 rfl) ?_
    obtain ⟨hi13, h⟩ := ck_s h
    refine la5 C hW ⟨rfl, rfl⟩ hi13 dX4_isFigure_13 ?_
    refine lv_bipush (v := 48) C.1 C.2.1 dX4_isFigure_14 (by decide) ?_
    refine lv_isub C.1 C.2.1 dX4_isFigure_16 ?_
    refine lv_iconst (v := 0) C.1 C.2.1 dX4_isFigure_17 (by decide) ?_
    refine lv_iload_n C.1 C.2.1 dX4_isFigure_18 rfl (lv_at hl 2 rfl) ?_
    obtain ⟨r19, hc19, h⟩ := bi_s h
    refine cSi C hW (As := [.int ((B 66 v1.toNatClampNeg) - 48), .int 0, .int v2]) (rest := []) (mt_X4_within  hc19) (va_cwS 3 C.2.2.2.2.2.1 gX4_isFigure_X4_within rfl rfl rfl (by decide +kernel) ⟨Nat.le_of_ble_eq_true rfl, Nat.le_of_ble_eq_true rfl⟩) rfl hl.1 rfl (Nat.le_of_ble_eq_true rfl) dX4_isFigure_19 (Nat.zero_le _) (Nat.zero_le _) (fun H locs hW => ?_)
    refine lv_if_eq (tgt := 29) C.1 C.2.1 dX4_isFigure_22 (by decide) (fun c_22 => ?_) (fun c_22 => ?_)
    · have h := if_y h c_22
      exact tX4_isFigure_29 C  h  hW (lv_sub hl [] rfl)
    · have h := if_n h c_22
      refine lv_iconst (v := 1) C.1 C.2.1 dX4_isFigure_25 (by decide) ?_
      refine lv_goto (tgt := 30) C.1 C.2.1 dX4_isFigure_26 (by decide) ?_
      exact tX4_isFigure_30 C  h  hW (lv_sub hl [] rfl)
theorem mt_X4_isFigure {l : Launch} {Γ : Gm} {A B : Me}  {v1 : Int32} {v2 : Int32} {rZ : Int32}  (h : fX4_isFigure B v1 v2 = some rZ) : Met l yX4_isFigure wsX4_isFigure rmX4_isFigure (PC Γ A B [.ref (Γ.2.2 58), .int v1, .int v2]) (QI Γ A B rZ) 0 0 (rg Γ) :=
  met_of (by decide) rfl (Nat.le_of_ble_eq_true rfl) (fun p e s m below meth c ls C hW hl => tX4_isFigure_0 C  h  hW (lv_sub (l := [(0, .ref (Γ.2.2 58)), (1, .int v1), (2, .int v2)]) hl [0, 1, 2] rfl))
abbrev rmX4_read : Room := { frames := 2, cells := 0, slots := 0, locals := 44 }
set_option maxRecDepth 100000 in
theorem iX4_read_c4 : ∀ w ∈ wsX40, w ∈ wsX4_read := by decide +kernel
set_option maxRecDepth 100000 in
theorem wX4_read_0 : Cond.fieldLink RX4 64 "WineByYearsModel" "isWhole" "Z" ∈ wsX4_read := by decide +kernel
set_option maxRecDepth 100000 in
theorem wX4_read_1 : Cond.fieldLink RX4 68 "WineByYearsModel" "newMany" "I" ∈ wsX4_read := by decide +kernel
set_option maxRecDepth 100000 in
theorem wX4_read_2 : Cond.fieldLink RX4 60 "WineByYearsModel" "pageLength" "I" ∈ wsX4_read := by decide +kernel
set_option maxRecDepth 100000 in
theorem wX4_read_3 : Cond.fieldLink RX4 31 "WineByYearsModel" "page" "[B" ∈ wsX4_read := by decide +kernel
def fX4_read_40  (B : Me)   : Option (Int32 × Me) := some (1, B)
set_option maxRecDepth 100000 in
theorem tX4_read_40 {A B : Me}  {H : Heap} {locs : List Loc} {ls : Array Slot}  {rZ : Int32} {BZ : Me}  (C : Cx Γ p s m args meth c cX4_read 2 (some .int) RX4 wsX4_read)  (h : fX4_read_40 B = some (rZ, BZ))  (hW : Wd Γ A B s.heap H locs) (hl : lv_has ls 2 []) : W p l e rmX4_read s m args below meth c H locs 0 0 (MQ below (QI Γ A BZ rZ) args s 0 0 (rg Γ)) (F0 m 40 ls []) := by
  unfold fX4_read_40 at h
  refine lv_iconst (v := 1) C.1 C.2.1 dX4_read_40 (by decide) ?_
  cases h
  exact z_iret C hW dX4_read_41
def fX4_read_142 (j44 : Me → Int32 → Option (Int32 × Me)) (B : Me)  (v1 : Int32) (t1 : Int32) : Option (Int32 × Me) := ck (zb t1) <| some (v1, (up2 B 58 14 t1))
set_option maxRecDepth 100000 in
theorem tX4_read_142 {A B : Me}  {H : Heap} {locs : List Loc} {ls : Array Slot} {v1 : Int32} {t1 : Int32} {rZ : Int32} {BZ : Me} {j44 : Me → Int32 → Option (Int32 × Me)} (C : Cx Γ p s m args meth c cX4_read 2 (some .int) RX4 wsX4_read) (hr44 : ∀ (B : Me) (v1 : Int32) (H : Heap) (locs : List Loc) (ls : Array Slot), j44 B v1 = some (rZ, BZ) → Wd Γ A B s.heap H locs → lv_has ls 2 [(0, .ref (Γ.2.2 58)), (1, .int v1)] → W p l e rmX4_read s m args below meth c H locs 0 0 (MQ below (QI Γ A BZ rZ) args s 0 0 (rg Γ)) (F0 m 44 ls [])) (h : fX4_read_142 j44 B v1 t1 = some (rZ, BZ))  (hW : Wd Γ A B s.heap H locs) (hl : lv_has ls 2 [(1, .int v1)]) : W p l e rmX4_read s m args below meth c H locs 0 0 (MQ below (QI Γ A BZ rZ) args s 0 0 (rg Γ)) (F0 m 142 ls [.int t1, .ref (Γ.2.2 58)]) := by
  unfold fX4_read_142 at h
  obtain ⟨hz, h⟩ := ck_s h
  refine pX4_14 C hW rfl hz iX4_read_c4 wX4_read_0 dX4_read_142 (fun H locs hW => ?_)
  refine lv_iload_n C.1 C.2.1 dX4_read_145 rfl (lv_at hl 0 rfl) ?_
  cases h
  exact z_iret C hW dX4_read_146
def fX4_read_141 (j44 : Me → Int32 → Option (Int32 × Me)) (B : Me)  (v1 : Int32) : Option (Int32 × Me) := fX4_read_142 j44 B v1 0
set_option maxRecDepth 100000 in
theorem tX4_read_141 {A B : Me}  {H : Heap} {locs : List Loc} {ls : Array Slot} {v1 : Int32} {rZ : Int32} {BZ : Me} {j44 : Me → Int32 → Option (Int32 × Me)} (C : Cx Γ p s m args meth c cX4_read 2 (some .int) RX4 wsX4_read) (hr44 : ∀ (B : Me) (v1 : Int32) (H : Heap) (locs : List Loc) (ls : Array Slot), j44 B v1 = some (rZ, BZ) → Wd Γ A B s.heap H locs → lv_has ls 2 [(0, .ref (Γ.2.2 58)), (1, .int v1)] → W p l e rmX4_read s m args below meth c H locs 0 0 (MQ below (QI Γ A BZ rZ) args s 0 0 (rg Γ)) (F0 m 44 ls [])) (h : fX4_read_141 j44 B v1 = some (rZ, BZ))  (hW : Wd Γ A B s.heap H locs) (hl : lv_has ls 2 [(1, .int v1)]) : W p l e rmX4_read s m args below meth c H locs 0 0 (MQ below (QI Γ A BZ rZ) args s 0 0 (rg Γ)) (F0 m 141 ls [.ref (Γ.2.2 58)]) := by
  unfold fX4_read_141 at h
  refine lv_iconst (v := 0) C.1 C.2.1 dX4_read_141 (by decide) ?_
  exact tX4_read_142 C hr44 h  hW (lv_sub hl [0] rfl)
def fX4_read_120 (j44 : Me → Int32 → Option (Int32 × Me)) (B : Me)  (v1 : Int32) : Option (Int32 × Me) := if v1 = (B 58 12) then (if (B 58 15) ≤ 1 then (fX4_read_141 j44 B v1) else (fX4_read_142 j44 B v1 1)) else (fX4_read_141 j44 B v1)
set_option maxRecDepth 100000 in
theorem tX4_read_120 {A B : Me}  {H : Heap} {locs : List Loc} {ls : Array Slot} {v1 : Int32} {rZ : Int32} {BZ : Me} {j44 : Me → Int32 → Option (Int32 × Me)} (C : Cx Γ p s m args meth c cX4_read 2 (some .int) RX4 wsX4_read) (hr44 : ∀ (B : Me) (v1 : Int32) (H : Heap) (locs : List Loc) (ls : Array Slot), j44 B v1 = some (rZ, BZ) → Wd Γ A B s.heap H locs → lv_has ls 2 [(0, .ref (Γ.2.2 58)), (1, .int v1)] → W p l e rmX4_read s m args below meth c H locs 0 0 (MQ below (QI Γ A BZ rZ) args s 0 0 (rg Γ)) (F0 m 44 ls [])) (h : fX4_read_120 j44 B v1 = some (rZ, BZ))  (hW : Wd Γ A B s.heap H locs) (hl : lv_has ls 2 [(0, .ref (Γ.2.2 58)), (1, .int v1)]) : W p l e rmX4_read s m args below meth c H locs 0 0 (MQ below (QI Γ A BZ rZ) args s 0 0 (rg Γ)) (F0 m 120 ls []) := by
  unfold fX4_read_120 at h
  refine lv_aload_n C.1 C.2.1 dX4_read_120 rfl (lv_at hl 0 rfl) ?_
  refine lv_iload_n C.1 C.2.1 dX4_read_121 rfl (lv_at hl 1 rfl) ?_
  refine lv_aload_n C.1 C.2.1 dX4_read_122 rfl (lv_at hl 0 rfl) ?_
  refine gX4_12 C hW rfl iX4_read_c4 wX4_read_2 dX4_read_123 ?_
  refine lv_icmp_ne (tgt := 141) C.1 C.2.1 dX4_read_126 (by decide) (fun c_126 => ?_) (fun c_126 => ?_)
  · have h := if_n h c_126
    exact tX4_read_141 C hr44 h  hW (lv_sub hl [1] rfl)
  · have h := if_y h c_126
    refine lv_aload_n C.1 C.2.1 dX4_read_129 rfl (lv_at hl 0 rfl) ?_
    refine gX4_15 C hW rfl iX4_read_c4 wX4_read_1 dX4_read_130 ?_
    refine lv_iconst (v := 1) C.1 C.2.1 dX4_read_133 (by decide) ?_
    refine lv_icmp_le (tgt := 141) C.1 C.2.1 dX4_read_134 (by decide) (fun c_134 => ?_) (fun c_134 => ?_)
    · have h := if_y h c_134
      exact tX4_read_141 C hr44 h  hW (lv_sub hl [1] rfl)
    · have h := if_n h c_134
      refine lv_iconst (v := 1) C.1 C.2.1 dX4_read_137 (by decide) ?_
      refine lv_goto (tgt := 142) C.1 C.2.1 dX4_read_138 (by decide) ?_
      exact tX4_read_142 C hr44 h  hW (lv_sub hl [1] rfl)
def fX4_read_44   : Nat → Me → Int32 → Option (Int32 × Me)
  | 0, _, _ => none
  | n + 1, B, v1 => if 5 ≤ (B 58 15) then (some (v1, B)) else (bi (fX4_isFigure B v1 9) fun r56 => if r56 = 0 then (some (v1, B)) else (bi (fX4_isFigure B (v1 + 1) 9) fun r70 => if r70 = 0 then (some ((v1 + 1), B)) else (if (v1 + 2) = ((up2 B 58 15 ((B 58 15) + 1)) 58 12) then (fX4_read_120 (fun m x0 => fX4_read_44 n m x0) (up2 B 58 15 ((B 58 15) + 1)) (v1 + 2)) else (if ((up2 B 58 15 ((B 58 15) + 1)) 58 15) = 5 then (fX4_read_120 (fun m x0 => fX4_read_44 n m x0) (up2 B 58 15 ((B 58 15) + 1)) (v1 + 2)) else (ck (inb (v1 + 2) 18) <| if ((up2 B 58 15 ((B 58 15) + 1)) 66 (v1 + 2).toNatClampNeg) = 44 then (fX4_read_44 n (up2 B 58 15 ((B 58 15) + 1)) ((v1 + 2) + 1)) else (fX4_read_120 (fun m x0 => fX4_read_44 n m x0) (up2 B 58 15 ((B 58 15) + 1)) (v1 + 2)))))))
set_option maxRecDepth 100000 in
theorem tX4_read_44 {A : Me}  {rZ : Int32} {BZ : Me}  (C : Cx Γ p s m args meth c cX4_read 2 (some .int) RX4 wsX4_read)  (n : Nat) : ∀ (B : Me) (v1 : Int32) (H : Heap) (locs : List Loc) (ls : Array Slot), fX4_read_44 n B v1 = some (rZ, BZ) → Wd Γ A B s.heap H locs → lv_has ls 2 [(0, .ref (Γ.2.2 58)), (1, .int v1)] → W p l e rmX4_read s m args below meth c H locs 0 0 (MQ below (QI Γ A BZ rZ) args s 0 0 (rg Γ)) (F0 m 44 ls []) := by
  induction n with
  | zero =>
    intro _ _ H locs ls h
    exact nomatch (show (none : Option (Int32 × Me)) = some (rZ, BZ) from h)
  | succ n ih =>
    intro B v1 H locs ls h  hW hl
    rw [fX4_read_44] at h
    refine lv_aload_n C.1 C.2.1 dX4_read_44 rfl (lv_at hl 0 rfl) ?_
    refine gX4_15 C hW rfl iX4_read_c4 wX4_read_1 dX4_read_45 ?_
    refine lv_iconst (v := 5) C.1 C.2.1 dX4_read_48 (by decide) ?_
    refine lv_icmp_ge (tgt := 153) C.1 C.2.1 dX4_read_49 (by decide) (fun c_49 => ?_) (fun c_49 => ?_)
    · have h := if_y h c_49
      refine lv_iload_n C.1 C.2.1 dX4_read_153 rfl (lv_at hl 1 rfl) ?_
      cases h
      exact z_iret C hW dX4_read_154
    · have h := if_n h c_49
      refine lv_aload_n C.1 C.2.1 dX4_read_52 rfl (lv_at hl 0 rfl) ?_
      refine lv_iload_n C.1 C.2.1 dX4_read_53 rfl (lv_at hl 1 rfl) ?_
      refine lv_bipush (v := 9) C.1 C.2.1 dX4_read_54 (by decide) ?_
      obtain ⟨r56, hc56, h⟩ := bi_s h
      refine cVi C hW (As := [.int v1, .int 9]) (rest := []) (mt_X4_isFigure  hc56) (cwV 2 C.2.2.2.2.2.1 gX4_read_X4_isFigure rfl rfl rfl (by decide +kernel) ⟨Nat.le_of_ble_eq_true rfl, Nat.le_of_ble_eq_true rfl⟩) (rcv4 C hW (rfl : kd 58 = 4)) rfl hl.1 rfl (Nat.le_of_ble_eq_true rfl) dX4_read_56 (Nat.zero_le _) (Nat.zero_le _) (fun H locs hW => ?_)
      refine lv_if_ne (tgt := 64) C.1 C.2.1 dX4_read_59 (by decide) (fun c_59 => ?_) (fun c_59 => ?_)
      · have h := if_n h c_59
        refine lv_aload_n C.1 C.2.1 dX4_read_64 rfl (lv_at hl 0 rfl) ?_
        refine lv_iload_n C.1 C.2.1 dX4_read_65 rfl (lv_at hl 1 rfl) ?_
        refine lv_iconst (v := 1) C.1 C.2.1 dX4_read_66 (by decide) ?_
        refine lv_iadd C.1 C.2.1 dX4_read_67 ?_
        refine lv_bipush (v := 9) C.1 C.2.1 dX4_read_68 (by decide) ?_
        obtain ⟨r70, hc70, h⟩ := bi_s h
        refine cVi C hW (As := [.int (v1 + 1), .int 9]) (rest := []) (mt_X4_isFigure  hc70) (cwV 2 C.2.2.2.2.2.1 gX4_read_X4_isFigure rfl rfl rfl (by decide +kernel) ⟨Nat.le_of_ble_eq_true rfl, Nat.le_of_ble_eq_true rfl⟩) (rcv4 C hW (rfl : kd 58 = 4)) rfl hl.1 rfl (Nat.le_of_ble_eq_true rfl) dX4_read_70 (Nat.zero_le _) (Nat.zero_le _) (fun H locs hW => ?_)
        refine lv_if_ne (tgt := 80) C.1 C.2.1 dX4_read_73 (by decide) (fun c_73 => ?_) (fun c_73 => ?_)
        · have h := if_n h c_73
          refine lv_aload_n C.1 C.2.1 dX4_read_80 rfl (lv_at hl 0 rfl) ?_
          refine lv_dup C.1 C.2.1 dX4_read_81 rfl ?_
          refine gX4_15 C hW rfl iX4_read_c4 wX4_read_1 dX4_read_82 ?_
          refine lv_iconst (v := 1) C.1 C.2.1 dX4_read_85 (by decide) ?_
          refine lv_iadd C.1 C.2.1 dX4_read_86 ?_
          refine pX4_15 C hW rfl iX4_read_c4 wX4_read_1 dX4_read_87 (fun H locs hW => ?_)
          refine lv_iinc (v := (v1 + 2)) (lv' := [(1, .int (v1 + 2)), (0, .ref (Γ.2.2 58))]) C.1 C.2.1 dX4_read_90 hl (k := 1) rfl rfl (by decide) rfl (fun ls hl => ?_)
          refine lv_iload_n C.1 C.2.1 dX4_read_93 rfl (lv_at hl 0 rfl) ?_
          refine lv_aload_n C.1 C.2.1 dX4_read_94 rfl (lv_at hl 1 rfl) ?_
          refine gX4_12 C hW rfl iX4_read_c4 wX4_read_2 dX4_read_95 ?_
          refine lv_icmp_eq (tgt := 120) C.1 C.2.1 dX4_read_98 (by decide) (fun c_98 => ?_) (fun c_98 => ?_)
          · have h := if_y h c_98
            exact tX4_read_120 C ih h  hW (lv_sub hl [1, 0] rfl)
          · have h := if_n h c_98
            refine lv_aload_n C.1 C.2.1 dX4_read_101 rfl (lv_at hl 1 rfl) ?_
            refine gX4_15 C hW rfl iX4_read_c4 wX4_read_1 dX4_read_102 ?_
            refine lv_iconst (v := 5) C.1 C.2.1 dX4_read_105 (by decide) ?_
            refine lv_icmp_eq (tgt := 120) C.1 C.2.1 dX4_read_106 (by decide) (fun c_106 => ?_) (fun c_106 => ?_)
            · have h := if_y h c_106
              exact tX4_read_120 C ih h  hW (lv_sub hl [1, 0] rfl)
            · have h := if_n h c_106
              refine lv_aload_n C.1 C.2.1 dX4_read_109 rfl (lv_at hl 1 rfl) ?_
              refine gX4_13 C hW rfl iX4_read_c4 wX4_read_3 dX4_read_110 ?_
              refine lv_iload_n C.1 C.2.1 dX4_read_113 rfl (lv_at hl 0 rfl) ?_
              obtain ⟨hi114, h⟩ := ck_s h
              refine la5 C hW ⟨rfl, rfl⟩ hi114 dX4_read_114 ?_
              refine lv_bipush (v := 44) C.1 C.2.1 dX4_read_115 (by decide) ?_
              refine lv_icmp_eq (tgt := 147) C.1 C.2.1 dX4_read_117 (by decide) (fun c_117 => ?_) (fun c_117 => ?_)
              · have h := if_y h c_117
                refine lv_iinc (v := ((v1 + 2) + 1)) (lv' := [(1, .int ((v1 + 2) + 1)), (0, .ref (Γ.2.2 58))]) C.1 C.2.1 dX4_read_147 hl (k := 0) rfl rfl (by decide) rfl (fun ls hl => ?_)
                refine lv_goto (tgt := 44) C.1 C.2.1 dX4_read_150 (by decide) ?_
                exact ih _ _ _ _ _ h  hW (lv_sub hl [1, 0] rfl)
              · have h := if_n h c_117
                exact tX4_read_120 C ih h  hW (lv_sub hl [1, 0] rfl)
        · have h := if_y h c_73
          refine lv_iload_n C.1 C.2.1 dX4_read_76 rfl (lv_at hl 1 rfl) ?_
          refine lv_iconst (v := 1) C.1 C.2.1 dX4_read_77 (by decide) ?_
          refine lv_iadd C.1 C.2.1 dX4_read_78 ?_
          cases h
          exact z_iret C hW dX4_read_79
      · have h := if_y h c_59
        refine lv_iload_n C.1 C.2.1 dX4_read_62 rfl (lv_at hl 1 rfl) ?_
        cases h
        exact z_iret C hW dX4_read_63
def fX4_read  (B : Me)   : Option (Int32 × Me) := bi (fX4_isFigure (up2 (up2 B 58 14 0) 58 15 0) 0 3) fun r13 => if r13 = 0 then (some (0, (up2 (up2 B 58 14 0) 58 15 0))) else (if ((up2 (up2 B 58 14 0) 58 15 0) 58 12) < 2 then (fX4_read_40 (up2 (up2 B 58 14 0) 58 15 0)) else (if ((up2 (up2 B 58 14 0) 58 15 0) 66 (1 : Int32).toNatClampNeg) = 59 then (fX4_read_44 FU (up2 (up2 B 58 14 0) 58 15 0) 2) else (fX4_read_40 (up2 (up2 B 58 14 0) 58 15 0))))
set_option maxRecDepth 100000 in
theorem tX4_read_0 {A B : Me}  {H : Heap} {locs : List Loc} {ls : Array Slot}  {rZ : Int32} {BZ : Me}  (C : Cx Γ p s m args meth c cX4_read 2 (some .int) RX4 wsX4_read)  (h : fX4_read B = some (rZ, BZ))  (hW : Wd Γ A B s.heap H locs) (hl : lv_has ls 2 [(0, .ref (Γ.2.2 58))]) : W p l e rmX4_read s m args below meth c H locs 0 0 (MQ below (QI Γ A BZ rZ) args s 0 0 (rg Γ)) (F0 m 0 ls []) := by
  unfold fX4_read at h
  refine lv_aload_n C.1 C.2.1 dX4_read_0 rfl (lv_at hl 0 rfl) ?_
  refine lv_iconst (v := 0) C.1 C.2.1 dX4_read_1 (by decide) ?_
  refine pX4_14 C hW rfl (by decide) iX4_read_c4 wX4_read_0 dX4_read_2 (fun H locs hW => ?_)
  refine lv_aload_n C.1 C.2.1 dX4_read_5 rfl (lv_at hl 0 rfl) ?_
  refine lv_iconst (v := 0) C.1 C.2.1 dX4_read_6 (by decide) ?_
  refine pX4_15 C hW rfl iX4_read_c4 wX4_read_1 dX4_read_7 (fun H locs hW => ?_)
  refine lv_aload_n C.1 C.2.1 dX4_read_10 rfl (lv_at hl 0 rfl) ?_
  refine lv_iconst (v := 0) C.1 C.2.1 dX4_read_11 (by decide) ?_
  refine lv_iconst (v := 3) C.1 C.2.1 dX4_read_12 (by decide) ?_
  obtain ⟨r13, hc13, h⟩ := bi_s h
  refine cVi C hW (As := [.int 0, .int 3]) (rest := []) (mt_X4_isFigure  hc13) (cwV 2 C.2.2.2.2.2.1 gX4_read_X4_isFigure rfl rfl rfl (by decide +kernel) ⟨Nat.le_of_ble_eq_true rfl, Nat.le_of_ble_eq_true rfl⟩) (rcv4 C hW (rfl : kd 58 = 4)) rfl hl.1 rfl (Nat.le_of_ble_eq_true rfl) dX4_read_13 (Nat.zero_le _) (Nat.zero_le _) (fun H locs hW => ?_)
  refine lv_if_ne (tgt := 21) C.1 C.2.1 dX4_read_16 (by decide) (fun c_16 => ?_) (fun c_16 => ?_)
  · have h := if_n h c_16
    refine lv_aload_n C.1 C.2.1 dX4_read_21 rfl (lv_at hl 0 rfl) ?_
    refine gX4_12 C hW rfl iX4_read_c4 wX4_read_2 dX4_read_22 ?_
    refine lv_iconst (v := 2) C.1 C.2.1 dX4_read_25 (by decide) ?_
    refine lv_icmp_lt (tgt := 40) C.1 C.2.1 dX4_read_26 (by decide) (fun c_26 => ?_) (fun c_26 => ?_)
    · have h := if_y h c_26
      exact tX4_read_40 C  h  hW (lv_sub hl [] rfl)
    · have h := if_n h c_26
      refine lv_aload_n C.1 C.2.1 dX4_read_29 rfl (lv_at hl 0 rfl) ?_
      refine gX4_13 C hW rfl iX4_read_c4 wX4_read_3 dX4_read_30 ?_
      refine lv_iconst (v := 1) C.1 C.2.1 dX4_read_33 (by decide) ?_
      refine la5 C hW ⟨rfl, rfl⟩ (by decide) dX4_read_34 ?_
      refine lv_bipush (v := 59) C.1 C.2.1 dX4_read_35 (by decide) ?_
      refine lv_icmp_eq (tgt := 42) C.1 C.2.1 dX4_read_37 (by decide) (fun c_37 => ?_) (fun c_37 => ?_)
      · have h := if_y h c_37
        refine lv_iconst (v := 2) C.1 C.2.1 dX4_read_42 (by decide) ?_
        refine lv_istore_n (lv' := [(1, .int 2), (0, .ref (Γ.2.2 58))]) C.1 C.2.1 dX4_read_43 rfl hl (by decide) rfl (fun ls hl => ?_)
        exact tX4_read_44 C  FU _ _ _ _ _ h  hW (lv_sub hl [1, 0] rfl)
      · have h := if_n h c_37
        exact tX4_read_40 C  h  hW (lv_sub hl [] rfl)
  · have h := if_y h c_16
    refine lv_iconst (v := 0) C.1 C.2.1 dX4_read_19 (by decide) ?_
    cases h
    exact z_iret C hW dX4_read_20
theorem mt_X4_read {l : Launch} {Γ : Gm} {A B : Me}   {rZ : Int32} {BZ : Me}  (h : fX4_read B = some (rZ, BZ)) : Met l yX4_read wsX4_read rmX4_read (PC Γ A B [.ref (Γ.2.2 58)]) (QI Γ A BZ rZ) 0 0 (rg Γ) :=
  met_of (by decide) rfl (Nat.le_of_ble_eq_true rfl) (fun p e s m below meth c ls C hW hl => tX4_read_0 C  h  hW (lv_sub (l := [(0, .ref (Γ.2.2 58))]) hl [0] rfl))
abbrev rmX4_fault : Room := { frames := 3, cells := 0, slots := 0, locals := 65 }
def fX4_fault  (B : Me)   : Option (Int32 × Me) := b2 (fX4_read B) fun r1 B1 => some (r1, B1)
set_option maxRecDepth 100000 in
theorem tX4_fault_0 {A B : Me}  {H : Heap} {locs : List Loc} {ls : Array Slot}  {rZ : Int32} {BZ : Me}  (C : Cx Γ p s m args meth c cX4_fault 1 (some .int) RX4 wsX4_fault)  (h : fX4_fault B = some (rZ, BZ))  (hW : Wd Γ A B s.heap H locs) (hl : lv_has ls 1 [(0, .ref (Γ.2.2 58))]) : W p l e rmX4_fault s m args below meth c H locs 0 0 (MQ below (QI Γ A BZ rZ) args s 0 0 (rg Γ)) (F0 m 0 ls []) := by
  unfold fX4_fault at h
  refine lv_aload_n C.1 C.2.1 dX4_fault_0 rfl (lv_at hl 0 rfl) ?_
  obtain ⟨r1, B1, hc1, h⟩ := b2_s h
  refine cVi C hW (As := []) (rest := []) (mt_X4_read  hc1) (cwV 0 C.2.2.2.2.2.1 gX4_fault_X4_read rfl rfl rfl (by decide +kernel) ⟨Nat.le_of_ble_eq_true rfl, Nat.le_of_ble_eq_true rfl⟩) (rcv4 C hW (rfl : kd 58 = 4)) rfl hl.1 rfl (Nat.le_of_ble_eq_true rfl) dX4_fault_1 (Nat.zero_le _) (Nat.zero_le _) (fun H locs hW => ?_)
  cases h
  exact z_iret C hW dX4_fault_4
theorem mt_X4_fault {l : Launch} {Γ : Gm} {A B : Me}   {rZ : Int32} {BZ : Me}  (h : fX4_fault B = some (rZ, BZ)) : Met l yX4_fault wsX4_fault rmX4_fault (PC Γ A B [.ref (Γ.2.2 58)]) (QI Γ A BZ rZ) 0 0 (rg Γ) :=
  met_of (by decide) rfl (Nat.le_of_ble_eq_true rfl) (fun p e s m below meth c ls C hW hl => tX4_fault_0 C  h  hW (lv_sub (l := [(0, .ref (Γ.2.2 58))]) hl [0] rfl))
abbrev rmX4_cellar : Room := { frames := 3, cells := 0, slots := 0, locals := 65 }
set_option maxRecDepth 100000 in
theorem iX4_cellar_c4 : ∀ w ∈ wsX40, w ∈ wsX4_cellar := by decide +kernel
set_option maxRecDepth 100000 in
theorem wX4_cellar_0 : Cond.fieldLink RX4 64 "WineByYearsModel" "isWhole" "Z" ∈ wsX4_cellar := by decide +kernel
set_option maxRecDepth 100000 in
theorem wX4_cellar_1 : Cond.fieldLink RX4 31 "WineByYearsModel" "page" "[B" ∈ wsX4_cellar := by decide +kernel
set_option maxRecDepth 100000 in
theorem wX4_cellar_2 : Cond.fieldLink RX4 79 "WineByYearsModel" "law" "I" ∈ wsX4_cellar := by decide +kernel
set_option maxRecDepth 100000 in
theorem wX4_cellar_3 : Cond.fieldLink RX4 68 "WineByYearsModel" "newMany" "I" ∈ wsX4_cellar := by decide +kernel
set_option maxRecDepth 100000 in
theorem wX4_cellar_4 : Cond.fieldLink RX4 82 "WineByYearsModel" "casks" "I" ∈ wsX4_cellar := by decide +kernel
set_option maxRecDepth 100000 in
theorem wX4_cellar_5 : Cond.fieldLink RX4 7 "WineByYearsModel" "litresOf" "[I" ∈ wsX4_cellar := by decide +kernel
set_option maxRecDepth 100000 in
theorem wX4_cellar_6 : Cond.fieldLink RX4 85 "WineByYearsModel" "cellars" "I" ∈ wsX4_cellar := by decide +kernel
set_option maxRecDepth 100000 in
theorem wX4_cellar_7 : Cond.fieldLink RX4 88 "WineByYearsModel" "people" "I" ∈ wsX4_cellar := by decide +kernel
set_option maxRecDepth 100000 in
theorem wX4_cellar_8 : Cond.fieldLink RX4 91 "WineByYearsModel" "trials" "I" ∈ wsX4_cellar := by decide +kernel
set_option maxRecDepth 100000 in
theorem wX4_cellar_9 : Cond.fieldLink RX4 60 "WineByYearsModel" "pageLength" "I" ∈ wsX4_cellar := by decide +kernel
def fX4_cellar_59   : Nat → Me → Int32 → Option (Int32 × Me)
  | 0, _, _ => none
  | n + 1, B, v1 => if (B 58 2) ≤ v1 then (some (((up2 (up2 (up2 (up2 B 58 0 ((B 58 0) + 1)) 58 5 0) 58 9 0) 58 12 0) 58 2), (up2 (up2 (up2 (up2 B 58 0 ((B 58 0) + 1)) 58 5 0) 58 9 0) 58 12 0))) else (ck (inb (2 + (3 * v1)) 18) <| ck (inb (3 + (3 * v1)) 18) <| ck (inb (((10 * v1) + (B 66 (2 + (3 * v1)).toNatClampNeg)) - 48) 50) <| fX4_cellar_59 n (up2 B 59 (((10 * v1) + (B 66 (2 + (3 * v1)).toNatClampNeg)) - 48).toNatClampNeg ((B 66 (3 + (3 * v1)).toNatClampNeg) - 48)) (v1 + 1))
set_option maxRecDepth 100000 in
theorem tX4_cellar_59 {A : Me}  {rZ : Int32} {BZ : Me}  (C : Cx Γ p s m args meth c cX4_cellar 2 (some .int) RX4 wsX4_cellar)  (n : Nat) : ∀ (B : Me) (v1 : Int32) (H : Heap) (locs : List Loc) (ls : Array Slot), fX4_cellar_59 n B v1 = some (rZ, BZ) → Wd Γ A B s.heap H locs → lv_has ls 2 [(0, .ref (Γ.2.2 58)), (1, .int v1)] → W p l e rmX4_cellar s m args below meth c H locs 0 0 (MQ below (QI Γ A BZ rZ) args s 0 0 (rg Γ)) (F0 m 59 ls []) := by
  induction n with
  | zero =>
    intro _ _ H locs ls h
    exact nomatch (show (none : Option (Int32 × Me)) = some (rZ, BZ) from h)
  | succ n ih =>
    intro B v1 H locs ls h  hW hl
    rw [fX4_cellar_59] at h
    refine lv_iload_n C.1 C.2.1 dX4_cellar_59 rfl (lv_at hl 1 rfl) ?_
    refine lv_aload_n C.1 C.2.1 dX4_cellar_60 rfl (lv_at hl 0 rfl) ?_
    refine gX4_2 C hW rfl iX4_cellar_c4 wX4_cellar_4 dX4_cellar_61 ?_
    refine lv_icmp_ge (tgt := 109) C.1 C.2.1 dX4_cellar_64 (by decide) (fun c_64 => ?_) (fun c_64 => ?_)
    · have h := if_y h c_64
      refine lv_aload_n C.1 C.2.1 dX4_cellar_109 rfl (lv_at hl 0 rfl) ?_
      refine lv_dup C.1 C.2.1 dX4_cellar_110 rfl ?_
      refine gX4_0 C hW rfl iX4_cellar_c4 wX4_cellar_6 dX4_cellar_111 ?_
      refine lv_iconst (v := 1) C.1 C.2.1 dX4_cellar_114 (by decide) ?_
      refine lv_iadd C.1 C.2.1 dX4_cellar_115 ?_
      refine pX4_0 C hW rfl iX4_cellar_c4 wX4_cellar_6 dX4_cellar_116 (fun H locs hW => ?_)
      refine lv_aload_n C.1 C.2.1 dX4_cellar_119 rfl (lv_at hl 0 rfl) ?_
      refine lv_iconst (v := 0) C.1 C.2.1 dX4_cellar_120 (by decide) ?_
      refine pX4_5 C hW rfl iX4_cellar_c4 wX4_cellar_7 dX4_cellar_121 (fun H locs hW => ?_)
      refine lv_aload_n C.1 C.2.1 dX4_cellar_124 rfl (lv_at hl 0 rfl) ?_
      refine lv_iconst (v := 0) C.1 C.2.1 dX4_cellar_125 (by decide) ?_
      refine pX4_9 C hW rfl iX4_cellar_c4 wX4_cellar_8 dX4_cellar_126 (fun H locs hW => ?_)
      refine lv_aload_n C.1 C.2.1 dX4_cellar_129 rfl (lv_at hl 0 rfl) ?_
      refine lv_iconst (v := 0) C.1 C.2.1 dX4_cellar_130 (by decide) ?_
      refine pX4_12 C hW rfl iX4_cellar_c4 wX4_cellar_9 dX4_cellar_131 (fun H locs hW => ?_)
      refine lv_aload_n C.1 C.2.1 dX4_cellar_134 rfl (lv_at hl 0 rfl) ?_
      refine gX4_2 C hW rfl iX4_cellar_c4 wX4_cellar_4 dX4_cellar_135 ?_
      cases h
      exact z_iret C hW dX4_cellar_138
    · have h := if_n h c_64
      refine lv_aload_n C.1 C.2.1 dX4_cellar_67 rfl (lv_at hl 0 rfl) ?_
      refine gX4_3 C hW rfl iX4_cellar_c4 wX4_cellar_5 dX4_cellar_68 ?_
      refine lv_bipush (v := 10) C.1 C.2.1 dX4_cellar_71 (by decide) ?_
      refine lv_iload_n C.1 C.2.1 dX4_cellar_73 rfl (lv_at hl 1 rfl) ?_
      refine lv_imul C.1 C.2.1 dX4_cellar_74 ?_
      refine lv_aload_n C.1 C.2.1 dX4_cellar_75 rfl (lv_at hl 0 rfl) ?_
      refine gX4_13 C hW rfl iX4_cellar_c4 wX4_cellar_1 dX4_cellar_76 ?_
      refine lv_iconst (v := 2) C.1 C.2.1 dX4_cellar_79 (by decide) ?_
      refine lv_iconst (v := 3) C.1 C.2.1 dX4_cellar_80 (by decide) ?_
      refine lv_iload_n C.1 C.2.1 dX4_cellar_81 rfl (lv_at hl 1 rfl) ?_
      refine lv_imul C.1 C.2.1 dX4_cellar_82 ?_
      refine lv_iadd C.1 C.2.1 dX4_cellar_83 ?_
      obtain ⟨hi84, h⟩ := ck_s h
      refine la5 C hW ⟨rfl, rfl⟩ hi84 dX4_cellar_84 ?_
      refine lv_iadd C.1 C.2.1 dX4_cellar_85 ?_
      refine lv_bipush (v := 48) C.1 C.2.1 dX4_cellar_86 (by decide) ?_
      refine lv_isub C.1 C.2.1 dX4_cellar_88 ?_
      refine lv_aload_n C.1 C.2.1 dX4_cellar_89 rfl (lv_at hl 0 rfl) ?_
      refine gX4_13 C hW rfl iX4_cellar_c4 wX4_cellar_1 dX4_cellar_90 ?_
      refine lv_iconst (v := 3) C.1 C.2.1 dX4_cellar_93 (by decide) ?_
      refine lv_iconst (v := 3) C.1 C.2.1 dX4_cellar_94 (by decide) ?_
      refine lv_iload_n C.1 C.2.1 dX4_cellar_95 rfl (lv_at hl 1 rfl) ?_
      refine lv_imul C.1 C.2.1 dX4_cellar_96 ?_
      refine lv_iadd C.1 C.2.1 dX4_cellar_97 ?_
      obtain ⟨hi98, h⟩ := ck_s h
      refine la5 C hW ⟨rfl, rfl⟩ hi98 dX4_cellar_98 ?_
      refine lv_bipush (v := 48) C.1 C.2.1 dX4_cellar_99 (by decide) ?_
      refine lv_isub C.1 C.2.1 dX4_cellar_101 ?_
      obtain ⟨hi102, h⟩ := ck_s h
      refine sa9 C hW ⟨rfl, rfl⟩ hi102 dX4_cellar_102 (fun H locs hW => ?_)
      refine lv_iinc (v := (v1 + 1)) (lv' := [(1, .int (v1 + 1)), (0, .ref (Γ.2.2 58))]) C.1 C.2.1 dX4_cellar_103 hl (k := 1) rfl rfl (by decide) rfl (fun ls hl => ?_)
      refine lv_goto (tgt := 59) C.1 C.2.1 dX4_cellar_106 (by decide) ?_
      exact ih _ _ _ _ _ h  hW (lv_sub hl [1, 0] rfl)
def fX4_cellar_17   : Nat → Me → Int32 → Option (Int32 × Me)
  | 0, _, _ => none
  | n + 1, B, v1 => if 50 ≤ v1 then (fX4_cellar_59 FU (up2 (up2 B 58 1 ((B 66 (0 : Int32).toNatClampNeg) - 48)) 58 2 ((up2 B 58 1 ((B 66 (0 : Int32).toNatClampNeg) - 48)) 58 15)) 0) else (ck (inb v1 50) <| fX4_cellar_17 n (up2 B 59 v1.toNatClampNeg 0) (v1 + 1))
set_option maxRecDepth 100000 in
theorem tX4_cellar_17 {A : Me}  {rZ : Int32} {BZ : Me}  (C : Cx Γ p s m args meth c cX4_cellar 2 (some .int) RX4 wsX4_cellar)  (n : Nat) : ∀ (B : Me) (v1 : Int32) (H : Heap) (locs : List Loc) (ls : Array Slot), fX4_cellar_17 n B v1 = some (rZ, BZ) → Wd Γ A B s.heap H locs → lv_has ls 2 [(0, .ref (Γ.2.2 58)), (1, .int v1)] → W p l e rmX4_cellar s m args below meth c H locs 0 0 (MQ below (QI Γ A BZ rZ) args s 0 0 (rg Γ)) (F0 m 17 ls []) := by
  induction n with
  | zero =>
    intro _ _ H locs ls h
    exact nomatch (show (none : Option (Int32 × Me)) = some (rZ, BZ) from h)
  | succ n ih =>
    intro B v1 H locs ls h  hW hl
    rw [fX4_cellar_17] at h
    refine lv_iload_n C.1 C.2.1 dX4_cellar_17 rfl (lv_at hl 1 rfl) ?_
    refine lv_bipush (v := 50) C.1 C.2.1 dX4_cellar_18 (by decide) ?_
    refine lv_icmp_ge (tgt := 36) C.1 C.2.1 dX4_cellar_20 (by decide) (fun c_20 => ?_) (fun c_20 => ?_)
    · have h := if_y h c_20
      refine lv_aload_n C.1 C.2.1 dX4_cellar_36 rfl (lv_at hl 0 rfl) ?_
      refine lv_aload_n C.1 C.2.1 dX4_cellar_37 rfl (lv_at hl 0 rfl) ?_
      refine gX4_13 C hW rfl iX4_cellar_c4 wX4_cellar_1 dX4_cellar_38 ?_
      refine lv_iconst (v := 0) C.1 C.2.1 dX4_cellar_41 (by decide) ?_
      refine la5 C hW ⟨rfl, rfl⟩ (by decide) dX4_cellar_42 ?_
      refine lv_bipush (v := 48) C.1 C.2.1 dX4_cellar_43 (by decide) ?_
      refine lv_isub C.1 C.2.1 dX4_cellar_45 ?_
      refine pX4_1 C hW rfl iX4_cellar_c4 wX4_cellar_2 dX4_cellar_46 (fun H locs hW => ?_)
      refine lv_aload_n C.1 C.2.1 dX4_cellar_49 rfl (lv_at hl 0 rfl) ?_
      refine lv_aload_n C.1 C.2.1 dX4_cellar_50 rfl (lv_at hl 0 rfl) ?_
      refine gX4_15 C hW rfl iX4_cellar_c4 wX4_cellar_3 dX4_cellar_51 ?_
      refine pX4_2 C hW rfl iX4_cellar_c4 wX4_cellar_4 dX4_cellar_54 (fun H locs hW => ?_)
      refine lv_iconst (v := 0) C.1 C.2.1 dX4_cellar_57 (by decide) ?_
      refine lv_istore_n (lv' := [(1, .int 0), (0, .ref (Γ.2.2 58))]) C.1 C.2.1 dX4_cellar_58 rfl hl (by decide) rfl (fun ls hl => ?_)
      exact tX4_cellar_59 C  FU _ _ _ _ _ h  hW (lv_sub hl [1, 0] rfl)
    · have h := if_n h c_20
      refine lv_aload_n C.1 C.2.1 dX4_cellar_23 rfl (lv_at hl 0 rfl) ?_
      refine gX4_3 C hW rfl iX4_cellar_c4 wX4_cellar_5 dX4_cellar_24 ?_
      refine lv_iload_n C.1 C.2.1 dX4_cellar_27 rfl (lv_at hl 1 rfl) ?_
      refine lv_iconst (v := 0) C.1 C.2.1 dX4_cellar_28 (by decide) ?_
      obtain ⟨hi29, h⟩ := ck_s h
      refine sa9 C hW ⟨rfl, rfl⟩ hi29 dX4_cellar_29 (fun H locs hW => ?_)
      refine lv_iinc (v := (v1 + 1)) (lv' := [(1, .int (v1 + 1)), (0, .ref (Γ.2.2 58))]) C.1 C.2.1 dX4_cellar_30 hl (k := 1) rfl rfl (by decide) rfl (fun ls hl => ?_)
      refine lv_goto (tgt := 17) C.1 C.2.1 dX4_cellar_33 (by decide) ?_
      exact ih _ _ _ _ _ h  hW (lv_sub hl [1, 0] rfl)
def fX4_cellar  (B : Me)   : Option (Int32 × Me) := b2 (fX4_read B) fun r1 B1 => if (B1 58 14) = 0 then (some ((-103), B1)) else (fX4_cellar_17 FU B1 0)
set_option maxRecDepth 100000 in
theorem tX4_cellar_0 {A B : Me}  {H : Heap} {locs : List Loc} {ls : Array Slot}  {rZ : Int32} {BZ : Me}  (C : Cx Γ p s m args meth c cX4_cellar 2 (some .int) RX4 wsX4_cellar)  (h : fX4_cellar B = some (rZ, BZ))  (hW : Wd Γ A B s.heap H locs) (hl : lv_has ls 2 [(0, .ref (Γ.2.2 58))]) : W p l e rmX4_cellar s m args below meth c H locs 0 0 (MQ below (QI Γ A BZ rZ) args s 0 0 (rg Γ)) (F0 m 0 ls []) := by
  unfold fX4_cellar at h
  refine lv_aload_n C.1 C.2.1 dX4_cellar_0 rfl (lv_at hl 0 rfl) ?_
  obtain ⟨r1, B1, hc1, h⟩ := b2_s h
  refine cVi C hW (As := []) (rest := []) (mt_X4_read  hc1) (cwV 0 C.2.2.2.2.2.1 gX4_cellar_X4_read rfl rfl rfl (by decide +kernel) ⟨Nat.le_of_ble_eq_true rfl, Nat.le_of_ble_eq_true rfl⟩) (rcv4 C hW (rfl : kd 58 = 4)) rfl hl.1 rfl (Nat.le_of_ble_eq_true rfl) dX4_cellar_1 (Nat.zero_le _) (Nat.zero_le _) (fun H locs hW => ?_)
  refine lv_pop C.1 C.2.1 dX4_cellar_4 rfl ?_
  refine lv_aload_n C.1 C.2.1 dX4_cellar_5 rfl (lv_at hl 0 rfl) ?_
  refine gX4_14 C hW rfl iX4_cellar_c4 wX4_cellar_0 dX4_cellar_6 ?_
  refine lv_if_ne (tgt := 15) C.1 C.2.1 dX4_cellar_9 (by decide) (fun c_9 => ?_) (fun c_9 => ?_)
  · have h := if_n h c_9
    refine lv_iconst (v := 0) C.1 C.2.1 dX4_cellar_15 (by decide) ?_
    refine lv_istore_n (lv' := [(1, .int 0), (0, .ref (Γ.2.2 58))]) C.1 C.2.1 dX4_cellar_16 rfl hl (by decide) rfl (fun ls hl => ?_)
    exact tX4_cellar_17 C  FU _ _ _ _ _ h  hW (lv_sub hl [1, 0] rfl)
  · have h := if_y h c_9
    refine lv_bipush (v := (-103)) C.1 C.2.1 dX4_cellar_12 (by decide) ?_
    cases h
    exact z_iret C hW dX4_cellar_14
theorem mt_X4_cellar {l : Launch} {Γ : Gm} {A B : Me}   {rZ : Int32} {BZ : Me}  (h : fX4_cellar B = some (rZ, BZ)) : Met l yX4_cellar wsX4_cellar rmX4_cellar (PC Γ A B [.ref (Γ.2.2 58)]) (QI Γ A BZ rZ) 0 0 (rg Γ) :=
  met_of (by decide) rfl (Nat.le_of_ble_eq_true rfl) (fun p e s m below meth c ls C hW hl => tX4_cellar_0 C  h  hW (lv_sub (l := [(0, .ref (Γ.2.2 58))]) hl [0] rfl))
abbrev rmX4_isCask : Room := { frames := 1, cells := 0, slots := 0, locals := 22 }
set_option maxRecDepth 100000 in
theorem iX4_isCask_c4 : ∀ w ∈ wsX40, w ∈ wsX4_isCask := by decide +kernel
set_option maxRecDepth 100000 in
theorem wX4_isCask_0 : Cond.fieldLink RX4 82 "WineByYearsModel" "casks" "I" ∈ wsX4_isCask := by decide +kernel
def fX4_isCask  (B : Me)  (v1 : Int32) : Option (Int32) := bi (fX4_within v1 0 ((B 58 2) - 1)) fun r8 => ck (zb r8) <| some r8
set_option maxRecDepth 100000 in
theorem tX4_isCask_0 {A B : Me}  {H : Heap} {locs : List Loc} {ls : Array Slot} {v1 : Int32} {rZ : Int32}  (C : Cx Γ p s m args meth c cX4_isCask 2 (some .boolean) RX4 wsX4_isCask)  (h : fX4_isCask B v1 = some rZ)  (hW : Wd Γ A B s.heap H locs) (hl : lv_has ls 2 [(0, .ref (Γ.2.2 58)), (1, .int v1)]) : W p l e rmX4_isCask s m args below meth c H locs 0 0 (MQ below (QI Γ A B rZ) args s 0 0 (rg Γ)) (F0 m 0 ls []) := by
  unfold fX4_isCask at h
  refine lv_iload_n C.1 C.2.1 dX4_isCask_0 rfl (lv_at hl 1 rfl) ?_
  refine lv_iconst (v := 0) C.1 C.2.1 dX4_isCask_1 (by decide) ?_
  refine lv_aload_n C.1 C.2.1 dX4_isCask_2 rfl (lv_at hl 0 rfl) ?_
  refine gX4_2 C hW rfl iX4_isCask_c4 wX4_isCask_0 dX4_isCask_3 ?_
  refine lv_iconst (v := 1) C.1 C.2.1 dX4_isCask_6 (by decide) ?_
  refine lv_isub C.1 C.2.1 dX4_isCask_7 ?_
  obtain ⟨r8, hc8, h⟩ := bi_s h
  refine cSi C hW (As := [.int v1, .int 0, .int ((B 58 2) - 1)]) (rest := []) (mt_X4_within  hc8) (va_cwS 3 C.2.2.2.2.2.1 gX4_isCask_X4_within rfl rfl rfl (by decide +kernel) ⟨Nat.le_of_ble_eq_true rfl, Nat.le_of_ble_eq_true rfl⟩) rfl hl.1 rfl (Nat.le_of_ble_eq_true rfl) dX4_isCask_8 (Nat.zero_le _) (Nat.zero_le _) (fun H locs hW => ?_)
  obtain ⟨hz, h⟩ := ck_s h
  cases h
  exact z_zret C hW hz dX4_isCask_11
theorem mt_X4_isCask {l : Launch} {Γ : Gm} {A B : Me}  {v1 : Int32} {rZ : Int32}  (h : fX4_isCask B v1 = some rZ) : Met l yX4_isCask wsX4_isCask rmX4_isCask (PC Γ A B [.ref (Γ.2.2 58), .int v1]) (QI Γ A B rZ) 0 0 (rg Γ) :=
  met_of (by decide) rfl (Nat.le_of_ble_eq_true rfl) (fun p e s m below meth c ls C hW hl => tX4_isCask_0 C  h  hW (lv_sub (l := [(0, .ref (Γ.2.2 58)), (1, .int v1)]) hl [0, 1] rfl))
abbrev rmX4_clear : Room := { frames := 0, cells := 0, slots := 0, locals := 0 }
set_option maxRecDepth 100000 in
theorem iX4_clear_c4 : ∀ w ∈ wsX40, w ∈ wsX4_clear := by decide +kernel
set_option maxRecDepth 100000 in
theorem wX4_clear_0 : Cond.fieldLink RX4 13 "WineByYearsModel" "thought" "[I" ∈ wsX4_clear := by decide +kernel
def fX4_clear_2   : Nat → Me → Int32 → Option (Me)
  | 0, _, _ => none
  | n + 1, B, v1 => if 10 ≤ v1 then (some B) else (ck (inb v1 10) <| fX4_clear_2 n (up2 B 60 v1.toNatClampNeg 0) (v1 + 1))
set_option maxRecDepth 100000 in
theorem tX4_clear_2 {A : Me}  {BZ : Me}  (C : Cx Γ p s m args meth c cX4_clear 2 none RX4 wsX4_clear)  (n : Nat) : ∀ (B : Me) (v1 : Int32) (H : Heap) (locs : List Loc) (ls : Array Slot), fX4_clear_2 n B v1 = some BZ → Wd Γ A B s.heap H locs → lv_has ls 2 [(0, .ref (Γ.2.2 58)), (1, .int v1)] → W p l e rmX4_clear s m args below meth c H locs 0 0 (MQ below (QV Γ A BZ) args s 0 0 (rg Γ)) (F0 m 2 ls []) := by
  induction n with
  | zero =>
    intro _ _ H locs ls h
    exact nomatch (show (none : Option (Me)) = some BZ from h)
  | succ n ih =>
    intro B v1 H locs ls h  hW hl
    rw [fX4_clear_2] at h
    refine lv_iload_n C.1 C.2.1 dX4_clear_2 rfl (lv_at hl 1 rfl) ?_
    refine lv_bipush (v := 10) C.1 C.2.1 dX4_clear_3 (by decide) ?_
    refine lv_icmp_ge (tgt := 21) C.1 C.2.1 dX4_clear_5 (by decide) (fun c_5 => ?_) (fun c_5 => ?_)
    · have h := if_y h c_5
      cases h
      exact z_vret C hW dX4_clear_21
    · have h := if_n h c_5
      refine lv_aload_n C.1 C.2.1 dX4_clear_8 rfl (lv_at hl 0 rfl) ?_
      refine gX4_4 C hW rfl iX4_clear_c4 wX4_clear_0 dX4_clear_9 ?_
      refine lv_iload_n C.1 C.2.1 dX4_clear_12 rfl (lv_at hl 1 rfl) ?_
      refine lv_iconst (v := 0) C.1 C.2.1 dX4_clear_13 (by decide) ?_
      obtain ⟨hi14, h⟩ := ck_s h
      refine sa9 C hW ⟨rfl, rfl⟩ hi14 dX4_clear_14 (fun H locs hW => ?_)
      refine lv_iinc (v := (v1 + 1)) (lv' := [(1, .int (v1 + 1)), (0, .ref (Γ.2.2 58))]) C.1 C.2.1 dX4_clear_15 hl (k := 1) rfl rfl (by decide) rfl (fun ls hl => ?_)
      refine lv_goto (tgt := 2) C.1 C.2.1 dX4_clear_18 (by decide) ?_
      exact ih _ _ _ _ _ h  hW (lv_sub hl [1, 0] rfl)
def fX4_clear  (B : Me)   : Option (Me) := fX4_clear_2 FU B 0
set_option maxRecDepth 100000 in
theorem tX4_clear_0 {A B : Me}  {H : Heap} {locs : List Loc} {ls : Array Slot}  {BZ : Me}  (C : Cx Γ p s m args meth c cX4_clear 2 none RX4 wsX4_clear)  (h : fX4_clear B = some BZ)  (hW : Wd Γ A B s.heap H locs) (hl : lv_has ls 2 [(0, .ref (Γ.2.2 58))]) : W p l e rmX4_clear s m args below meth c H locs 0 0 (MQ below (QV Γ A BZ) args s 0 0 (rg Γ)) (F0 m 0 ls []) := by
  unfold fX4_clear at h
  refine lv_iconst (v := 0) C.1 C.2.1 dX4_clear_0 (by decide) ?_
  refine lv_istore_n (lv' := [(1, .int 0), (0, .ref (Γ.2.2 58))]) C.1 C.2.1 dX4_clear_1 rfl hl (by decide) rfl (fun ls hl => ?_)
  exact tX4_clear_2 C  FU _ _ _ _ _ h  hW (lv_sub hl [1, 0] rfl)
theorem mt_X4_clear {l : Launch} {Γ : Gm} {A B : Me}   {BZ : Me}  (h : fX4_clear B = some BZ) : Met l yX4_clear wsX4_clear rmX4_clear (PC Γ A B [.ref (Γ.2.2 58)]) (QV Γ A BZ) 0 0 (rg Γ) :=
  met_of (by decide) rfl (Nat.le_of_ble_eq_true rfl) (fun p e s m below meth c ls C hW hl => tX4_clear_0 C  h  hW (lv_sub (l := [(0, .ref (Γ.2.2 58))]) hl [0] rfl))
abbrev rmX4_add : Room := { frames := 0, cells := 0, slots := 0, locals := 0 }
set_option maxRecDepth 100000 in
theorem iX4_add_c4 : ∀ w ∈ wsX40, w ∈ wsX4_add := by decide +kernel
set_option maxRecDepth 100000 in
theorem wX4_add_0 : Cond.fieldLink RX4 13 "WineByYearsModel" "thought" "[I" ∈ wsX4_add := by decide +kernel
set_option maxRecDepth 100000 in
theorem wX4_add_1 : Cond.fieldLink RX4 7 "WineByYearsModel" "litresOf" "[I" ∈ wsX4_add := by decide +kernel
def fX4_add_2   : Nat → Me → Int32 → Int32 → Option (Me)
  | 0, _, _, _ => none
  | n + 1, B, v1, v2 => if 10 ≤ v2 then (some B) else (ck (inb v2 10) <| ck (inb ((10 * v1) + v2) 50) <| ck (inb v2 10) <| fX4_add_2 n (up2 B 60 v2.toNatClampNeg ((B 60 v2.toNatClampNeg) + (B 59 ((10 * v1) + v2).toNatClampNeg))) v1 (v2 + 1))
set_option maxRecDepth 100000 in
theorem tX4_add_2 {A : Me}  {BZ : Me}  (C : Cx Γ p s m args meth c cX4_add 3 none RX4 wsX4_add)  (n : Nat) : ∀ (B : Me) (v1 : Int32) (v2 : Int32) (H : Heap) (locs : List Loc) (ls : Array Slot), fX4_add_2 n B v1 v2 = some BZ → Wd Γ A B s.heap H locs → lv_has ls 3 [(0, .ref (Γ.2.2 58)), (1, .int v1), (2, .int v2)] → W p l e rmX4_add s m args below meth c H locs 0 0 (MQ below (QV Γ A BZ) args s 0 0 (rg Γ)) (F0 m 2 ls []) := by
  induction n with
  | zero =>
    intro _ _ _ H locs ls h
    exact nomatch (show (none : Option (Me)) = some BZ from h)
  | succ n ih =>
    intro B v1 v2 H locs ls h  hW hl
    rw [fX4_add_2] at h
    refine lv_iload_n C.1 C.2.1 dX4_add_2 rfl (lv_at hl 2 rfl) ?_
    refine lv_bipush (v := 10) C.1 C.2.1 dX4_add_3 (by decide) ?_
    refine lv_icmp_ge (tgt := 34) C.1 C.2.1 dX4_add_5 (by decide) (fun c_5 => ?_) (fun c_5 => ?_)
    · have h := if_y h c_5
      cases h
      exact z_vret C hW dX4_add_34
    · have h := if_n h c_5
      refine lv_aload_n C.1 C.2.1 dX4_add_8 rfl (lv_at hl 0 rfl) ?_
      refine gX4_4 C hW rfl iX4_add_c4 wX4_add_0 dX4_add_9 ?_
      refine lv_iload_n C.1 C.2.1 dX4_add_12 rfl (lv_at hl 2 rfl) ?_
      refine lv_dup2_11 C.1 C.2.1 dX4_add_13 rfl rfl ?_
      obtain ⟨hi14, h⟩ := ck_s h
      refine la9 C hW ⟨rfl, rfl⟩ hi14 dX4_add_14 ?_
      refine lv_aload_n C.1 C.2.1 dX4_add_15 rfl (lv_at hl 0 rfl) ?_
      refine gX4_3 C hW rfl iX4_add_c4 wX4_add_1 dX4_add_16 ?_
      refine lv_bipush (v := 10) C.1 C.2.1 dX4_add_19 (by decide) ?_
      refine lv_iload_n C.1 C.2.1 dX4_add_21 rfl (lv_at hl 1 rfl) ?_
      refine lv_imul C.1 C.2.1 dX4_add_22 ?_
      refine lv_iload_n C.1 C.2.1 dX4_add_23 rfl (lv_at hl 2 rfl) ?_
      refine lv_iadd C.1 C.2.1 dX4_add_24 ?_
      obtain ⟨hi25, h⟩ := ck_s h
      refine la9 C hW ⟨rfl, rfl⟩ hi25 dX4_add_25 ?_
      refine lv_iadd C.1 C.2.1 dX4_add_26 ?_
      obtain ⟨hi27, h⟩ := ck_s h
      refine sa9 C hW ⟨rfl, rfl⟩ hi27 dX4_add_27 (fun H locs hW => ?_)
      refine lv_iinc (v := (v2 + 1)) (lv' := [(2, .int (v2 + 1)), (0, .ref (Γ.2.2 58)), (1, .int v1)]) C.1 C.2.1 dX4_add_28 hl (k := 2) rfl rfl (by decide) rfl (fun ls hl => ?_)
      refine lv_goto (tgt := 2) C.1 C.2.1 dX4_add_31 (by decide) ?_
      exact ih _ _ _ _ _ _ h  hW (lv_sub hl [1, 2, 0] rfl)
def fX4_add  (B : Me)  (v1 : Int32) : Option (Me) := fX4_add_2 FU B v1 0
set_option maxRecDepth 100000 in
theorem tX4_add_0 {A B : Me}  {H : Heap} {locs : List Loc} {ls : Array Slot} {v1 : Int32} {BZ : Me}  (C : Cx Γ p s m args meth c cX4_add 3 none RX4 wsX4_add)  (h : fX4_add B v1 = some BZ)  (hW : Wd Γ A B s.heap H locs) (hl : lv_has ls 3 [(0, .ref (Γ.2.2 58)), (1, .int v1)]) : W p l e rmX4_add s m args below meth c H locs 0 0 (MQ below (QV Γ A BZ) args s 0 0 (rg Γ)) (F0 m 0 ls []) := by
  unfold fX4_add at h
  refine lv_iconst (v := 0) C.1 C.2.1 dX4_add_0 (by decide) ?_
  refine lv_istore_n (lv' := [(2, .int 0), (0, .ref (Γ.2.2 58)), (1, .int v1)]) C.1 C.2.1 dX4_add_1 rfl hl (by decide) rfl (fun ls hl => ?_)
  exact tX4_add_2 C  FU _ _ _ _ _ _ h  hW (lv_sub hl [1, 2, 0] rfl)
theorem mt_X4_add {l : Launch} {Γ : Gm} {A B : Me}  {v1 : Int32} {BZ : Me}  (h : fX4_add B v1 = some BZ) : Met l yX4_add wsX4_add rmX4_add (PC Γ A B [.ref (Γ.2.2 58), .int v1]) (QV Γ A BZ) 0 0 (rg Γ) :=
  met_of (by decide) rfl (Nat.le_of_ble_eq_true rfl) (fun p e s m below meth c ls C hW hl => tX4_add_0 C  h  hW (lv_sub (l := [(0, .ref (Γ.2.2 58)), (1, .int v1)]) hl [0, 1] rfl))
abbrev rmX4_think : Room := { frames := 1, cells := 0, slots := 0, locals := 22 }
def fX4_think  (B : Me)  (v1 : Int32) : Option (Me) := bi (fX4_clear B) fun B1 => bi (fX4_add B1 v1) fun B6 => some B6
set_option maxRecDepth 100000 in
theorem tX4_think_0 {A B : Me}  {H : Heap} {locs : List Loc} {ls : Array Slot} {v1 : Int32} {BZ : Me}  (C : Cx Γ p s m args meth c cX4_think 2 none RX4 wsX4_think)  (h : fX4_think B v1 = some BZ)  (hW : Wd Γ A B s.heap H locs) (hl : lv_has ls 2 [(0, .ref (Γ.2.2 58)), (1, .int v1)]) : W p l e rmX4_think s m args below meth c H locs 0 0 (MQ below (QV Γ A BZ) args s 0 0 (rg Γ)) (F0 m 0 ls []) := by
  unfold fX4_think at h
  refine lv_aload_n C.1 C.2.1 dX4_think_0 rfl (lv_at hl 0 rfl) ?_
  obtain ⟨B1, hc1, h⟩ := bi_s h
  refine cVv C hW (As := []) (rest := []) (mt_X4_clear  hc1) (cwV 0 C.2.2.2.2.2.1 gX4_think_X4_clear rfl rfl rfl (by decide +kernel) ⟨Nat.le_of_ble_eq_true rfl, Nat.le_of_ble_eq_true rfl⟩) (rcv4 C hW (rfl : kd 58 = 4)) rfl hl.1 rfl (Nat.le_of_ble_eq_true rfl) dX4_think_1 (Nat.zero_le _) (Nat.zero_le _) (fun H locs hW => ?_)
  refine lv_aload_n C.1 C.2.1 dX4_think_4 rfl (lv_at hl 0 rfl) ?_
  refine lv_iload_n C.1 C.2.1 dX4_think_5 rfl (lv_at hl 1 rfl) ?_
  obtain ⟨B6, hc6, h⟩ := bi_s h
  refine cVv C hW (As := [.int v1]) (rest := []) (mt_X4_add  hc6) (cwV 1 C.2.2.2.2.2.1 gX4_think_X4_add rfl rfl rfl (by decide +kernel) ⟨Nat.le_of_ble_eq_true rfl, Nat.le_of_ble_eq_true rfl⟩) (rcv4 C hW (rfl : kd 58 = 4)) rfl hl.1 rfl (Nat.le_of_ble_eq_true rfl) dX4_think_6 (Nat.zero_le _) (Nat.zero_le _) (fun H locs hW => ?_)
  cases h
  exact z_vret C hW dX4_think_9
theorem mt_X4_think {l : Launch} {Γ : Gm} {A B : Me}  {v1 : Int32} {BZ : Me}  (h : fX4_think B v1 = some BZ) : Met l yX4_think wsX4_think rmX4_think (PC Γ A B [.ref (Γ.2.2 58), .int v1]) (QV Γ A BZ) 0 0 (rg Γ) :=
  met_of (by decide) rfl (Nat.le_of_ble_eq_true rfl) (fun p e s m below meth c ls C hW hl => tX4_think_0 C  h  hW (lv_sub (l := [(0, .ref (Γ.2.2 58)), (1, .int v1)]) hl [0, 1] rfl))
abbrev rmX4_litresThought : Room := { frames := 0, cells := 0, slots := 0, locals := 0 }
set_option maxRecDepth 100000 in
theorem iX4_litresThought_c4 : ∀ w ∈ wsX40, w ∈ wsX4_litresThought := by decide +kernel
set_option maxRecDepth 100000 in
theorem wX4_litresThought_0 : Cond.fieldLink RX4 13 "WineByYearsModel" "thought" "[I" ∈ wsX4_litresThought := by decide +kernel
def fX4_litresThought_4  (B : Me) : Nat → Int32 → Int32 → Option (Int32)
  | 0, _, _ => none
  | n + 1, v1, v2 => if 10 ≤ v2 then (some v1) else (ck (inb v2 10) <| fX4_litresThought_4 B n (v1 + (B 60 v2.toNatClampNeg)) (v2 + 1))
set_option maxRecDepth 100000 in
theorem tX4_litresThought_4 {A B : Me}  {rZ : Int32}  (C : Cx Γ p s m args meth c cX4_litresThought 3 (some .int) RX4 wsX4_litresThought)  (n : Nat) : ∀ (v1 : Int32) (v2 : Int32) (H : Heap) (locs : List Loc) (ls : Array Slot), fX4_litresThought_4 B n v1 v2 = some rZ → Wd Γ A B s.heap H locs → lv_has ls 3 [(0, .ref (Γ.2.2 58)), (1, .int v1), (2, .int v2)] → W p l e rmX4_litresThought s m args below meth c H locs 0 0 (MQ below (QI Γ A B rZ) args s 0 0 (rg Γ)) (F0 m 4 ls []) := by
  induction n with
  | zero =>
    intro _ _ H locs ls h
    exact nomatch (show (none : Option (Int32)) = some rZ from h)
  | succ n ih =>
    intro v1 v2 H locs ls h  hW hl
    rw [fX4_litresThought_4] at h
    refine lv_iload_n C.1 C.2.1 dX4_litresThought_4 rfl (lv_at hl 2 rfl) ?_
    refine lv_bipush (v := 10) C.1 C.2.1 dX4_litresThought_5 (by decide) ?_
    refine lv_icmp_ge (tgt := 25) C.1 C.2.1 dX4_litresThought_7 (by decide) (fun c_7 => ?_) (fun c_7 => ?_)
    · have h := if_y h c_7
      refine lv_iload_n C.1 C.2.1 dX4_litresThought_25 rfl (lv_at hl 1 rfl) ?_
      cases h
      exact z_iret C hW dX4_litresThought_26
    · have h := if_n h c_7
      refine lv_iload_n C.1 C.2.1 dX4_litresThought_10 rfl (lv_at hl 1 rfl) ?_
      refine lv_aload_n C.1 C.2.1 dX4_litresThought_11 rfl (lv_at hl 0 rfl) ?_
      refine gX4_4 C hW rfl iX4_litresThought_c4 wX4_litresThought_0 dX4_litresThought_12 ?_
      refine lv_iload_n C.1 C.2.1 dX4_litresThought_15 rfl (lv_at hl 2 rfl) ?_
      obtain ⟨hi16, h⟩ := ck_s h
      refine la9 C hW ⟨rfl, rfl⟩ hi16 dX4_litresThought_16 ?_
      refine lv_iadd C.1 C.2.1 dX4_litresThought_17 ?_
      refine lv_istore_n (lv' := [(1, .int (v1 + (B 60 v2.toNatClampNeg))), (0, .ref (Γ.2.2 58)), (2, .int v2)]) C.1 C.2.1 dX4_litresThought_18 rfl hl (by decide) rfl (fun ls hl => ?_)
      refine lv_iinc (v := (v2 + 1)) (lv' := [(2, .int (v2 + 1)), (1, .int (v1 + (B 60 v2.toNatClampNeg))), (0, .ref (Γ.2.2 58))]) C.1 C.2.1 dX4_litresThought_19 hl (k := 2) rfl rfl (by decide) rfl (fun ls hl => ?_)
      refine lv_goto (tgt := 4) C.1 C.2.1 dX4_litresThought_22 (by decide) ?_
      exact ih _ _ _ _ _ h  hW (lv_sub hl [2, 1, 0] rfl)
def fX4_litresThought  (B : Me)   : Option (Int32) := fX4_litresThought_4 B FU 0 0
set_option maxRecDepth 100000 in
theorem tX4_litresThought_0 {A B : Me}  {H : Heap} {locs : List Loc} {ls : Array Slot}  {rZ : Int32}  (C : Cx Γ p s m args meth c cX4_litresThought 3 (some .int) RX4 wsX4_litresThought)  (h : fX4_litresThought B = some rZ)  (hW : Wd Γ A B s.heap H locs) (hl : lv_has ls 3 [(0, .ref (Γ.2.2 58))]) : W p l e rmX4_litresThought s m args below meth c H locs 0 0 (MQ below (QI Γ A B rZ) args s 0 0 (rg Γ)) (F0 m 0 ls []) := by
  unfold fX4_litresThought at h
  refine lv_iconst (v := 0) C.1 C.2.1 dX4_litresThought_0 (by decide) ?_
  refine lv_istore_n (lv' := [(1, .int 0), (0, .ref (Γ.2.2 58))]) C.1 C.2.1 dX4_litresThought_1 rfl hl (by decide) rfl (fun ls hl => ?_)
  refine lv_iconst (v := 0) C.1 C.2.1 dX4_litresThought_2 (by decide) ?_
  refine lv_istore_n (lv' := [(2, .int 0), (1, .int 0), (0, .ref (Γ.2.2 58))]) C.1 C.2.1 dX4_litresThought_3 rfl hl (by decide) rfl (fun ls hl => ?_)
  exact tX4_litresThought_4 C  FU _ _ _ _ _ h  hW (lv_sub hl [2, 1, 0] rfl)
theorem mt_X4_litresThought {l : Launch} {Γ : Gm} {A B : Me}   {rZ : Int32}  (h : fX4_litresThought B = some rZ) : Met l yX4_litresThought wsX4_litresThought rmX4_litresThought (PC Γ A B [.ref (Γ.2.2 58)]) (QI Γ A B rZ) 0 0 (rg Γ) :=
  met_of (by decide) rfl (Nat.le_of_ble_eq_true rfl) (fun p e s m below meth c ls C hW hl => tX4_litresThought_0 C  h  hW (lv_sub (l := [(0, .ref (Γ.2.2 58))]) hl [0] rfl))
abbrev rmX4_yearsThought : Room := { frames := 0, cells := 0, slots := 0, locals := 0 }
set_option maxRecDepth 100000 in
theorem iX4_yearsThought_c4 : ∀ w ∈ wsX40, w ∈ wsX4_yearsThought := by decide +kernel
set_option maxRecDepth 100000 in
theorem wX4_yearsThought_0 : Cond.fieldLink RX4 13 "WineByYearsModel" "thought" "[I" ∈ wsX4_yearsThought := by decide +kernel
def fX4_yearsThought_27 (j4 : Int32 → Int32 → Option (Int32)) (B : Me)  (v2 : Int32) (t0 : Int32) (t1 : Int32) : Option (Int32) := j4 (t0 ||| t1) (v2 + 1)
set_option maxRecDepth 100000 in
theorem tX4_yearsThought_27 {A B : Me}  {H : Heap} {locs : List Loc} {ls : Array Slot} {v2 : Int32} {t0 : Int32} {t1 : Int32} {rZ : Int32} {j4 : Int32 → Int32 → Option (Int32)} (C : Cx Γ p s m args meth c cX4_yearsThought 3 (some .int) RX4 wsX4_yearsThought) (hr4 : ∀ (v1 : Int32) (v2 : Int32) (H : Heap) (locs : List Loc) (ls : Array Slot), j4 v1 v2 = some rZ → Wd Γ A B s.heap H locs → lv_has ls 3 [(0, .ref (Γ.2.2 58)), (1, .int v1), (2, .int v2)] → W p l e rmX4_yearsThought s m args below meth c H locs 0 0 (MQ below (QI Γ A B rZ) args s 0 0 (rg Γ)) (F0 m 4 ls [])) (h : fX4_yearsThought_27 j4 B v2 t0 t1 = some rZ)  (hW : Wd Γ A B s.heap H locs) (hl : lv_has ls 3 [(0, .ref (Γ.2.2 58)), (2, .int v2)]) : W p l e rmX4_yearsThought s m args below meth c H locs 0 0 (MQ below (QI Γ A B rZ) args s 0 0 (rg Γ)) (F0 m 27 ls [.int t1, .int t0]) := by
  unfold fX4_yearsThought_27 at h
  refine lv_ior C.1 C.2.1 dX4_yearsThought_27 ?_
  refine lv_istore_n (lv' := [(1, .int (t0 ||| t1)), (0, .ref (Γ.2.2 58)), (2, .int v2)]) C.1 C.2.1 dX4_yearsThought_28 rfl hl (by decide) rfl (fun ls hl => ?_)
  refine lv_iinc (v := (v2 + 1)) (lv' := [(2, .int (v2 + 1)), (1, .int (t0 ||| t1)), (0, .ref (Γ.2.2 58))]) C.1 C.2.1 dX4_yearsThought_29 hl (k := 2) rfl rfl (by decide) rfl (fun ls hl => ?_)
  refine lv_goto (tgt := 4) C.1 C.2.1 dX4_yearsThought_32 (by decide) ?_
  exact hr4 _ _ _ _ _ h  hW (lv_sub hl [2, 1, 0] rfl)
def fX4_yearsThought_4  (B : Me) : Nat → Int32 → Int32 → Option (Int32)
  | 0, _, _ => none
  | n + 1, v1, v2 => if 10 ≤ v2 then (some v1) else (ck (inb v2 10) <| if (B 60 v2.toNatClampNeg) ≤ 0 then (fX4_yearsThought_27 (fun x0 x1 => fX4_yearsThought_4 B n x0 x1) B v2 v1 0) else (fX4_yearsThought_27 (fun x0 x1 => fX4_yearsThought_4 B n x0 x1) B v2 v1 (1 <<< (v2 &&& 31))))
set_option maxRecDepth 100000 in
theorem tX4_yearsThought_4 {A B : Me}  {rZ : Int32}  (C : Cx Γ p s m args meth c cX4_yearsThought 3 (some .int) RX4 wsX4_yearsThought)  (n : Nat) : ∀ (v1 : Int32) (v2 : Int32) (H : Heap) (locs : List Loc) (ls : Array Slot), fX4_yearsThought_4 B n v1 v2 = some rZ → Wd Γ A B s.heap H locs → lv_has ls 3 [(0, .ref (Γ.2.2 58)), (1, .int v1), (2, .int v2)] → W p l e rmX4_yearsThought s m args below meth c H locs 0 0 (MQ below (QI Γ A B rZ) args s 0 0 (rg Γ)) (F0 m 4 ls []) := by
  induction n with
  | zero =>
    intro _ _ H locs ls h
    exact nomatch (show (none : Option (Int32)) = some rZ from h)
  | succ n ih =>
    intro v1 v2 H locs ls h  hW hl
    rw [fX4_yearsThought_4] at h
    refine lv_iload_n C.1 C.2.1 dX4_yearsThought_4 rfl (lv_at hl 2 rfl) ?_
    refine lv_bipush (v := 10) C.1 C.2.1 dX4_yearsThought_5 (by decide) ?_
    refine lv_icmp_ge (tgt := 35) C.1 C.2.1 dX4_yearsThought_7 (by decide) (fun c_7 => ?_) (fun c_7 => ?_)
    · have h := if_y h c_7
      refine lv_iload_n C.1 C.2.1 dX4_yearsThought_35 rfl (lv_at hl 1 rfl) ?_
      cases h
      exact z_iret C hW dX4_yearsThought_36
    · have h := if_n h c_7
      refine lv_iload_n C.1 C.2.1 dX4_yearsThought_10 rfl (lv_at hl 1 rfl) ?_
      refine lv_aload_n C.1 C.2.1 dX4_yearsThought_11 rfl (lv_at hl 0 rfl) ?_
      refine gX4_4 C hW rfl iX4_yearsThought_c4 wX4_yearsThought_0 dX4_yearsThought_12 ?_
      refine lv_iload_n C.1 C.2.1 dX4_yearsThought_15 rfl (lv_at hl 2 rfl) ?_
      obtain ⟨hi16, h⟩ := ck_s h
      refine la9 C hW ⟨rfl, rfl⟩ hi16 dX4_yearsThought_16 ?_
      refine lv_if_le (tgt := 26) C.1 C.2.1 dX4_yearsThought_17 (by decide) (fun c_17 => ?_) (fun c_17 => ?_)
      · have h := if_y h c_17
        refine lv_iconst (v := 0) C.1 C.2.1 dX4_yearsThought_26 (by decide) ?_
        exact tX4_yearsThought_27 C ih h  hW (lv_sub hl [0, 2] rfl)
      · have h := if_n h c_17
        refine lv_iconst (v := 1) C.1 C.2.1 dX4_yearsThought_20 (by decide) ?_
        refine lv_iload_n C.1 C.2.1 dX4_yearsThought_21 rfl (lv_at hl 2 rfl) ?_
        refine lv_ishl C.1 C.2.1 dX4_yearsThought_22 ?_
        refine lv_goto (tgt := 27) C.1 C.2.1 dX4_yearsThought_23 (by decide) ?_
        exact tX4_yearsThought_27 C ih h  hW (lv_sub hl [0, 2] rfl)
def fX4_yearsThought  (B : Me)   : Option (Int32) := fX4_yearsThought_4 B FU 0 0
set_option maxRecDepth 100000 in
theorem tX4_yearsThought_0 {A B : Me}  {H : Heap} {locs : List Loc} {ls : Array Slot}  {rZ : Int32}  (C : Cx Γ p s m args meth c cX4_yearsThought 3 (some .int) RX4 wsX4_yearsThought)  (h : fX4_yearsThought B = some rZ)  (hW : Wd Γ A B s.heap H locs) (hl : lv_has ls 3 [(0, .ref (Γ.2.2 58))]) : W p l e rmX4_yearsThought s m args below meth c H locs 0 0 (MQ below (QI Γ A B rZ) args s 0 0 (rg Γ)) (F0 m 0 ls []) := by
  unfold fX4_yearsThought at h
  refine lv_iconst (v := 0) C.1 C.2.1 dX4_yearsThought_0 (by decide) ?_
  refine lv_istore_n (lv' := [(1, .int 0), (0, .ref (Γ.2.2 58))]) C.1 C.2.1 dX4_yearsThought_1 rfl hl (by decide) rfl (fun ls hl => ?_)
  refine lv_iconst (v := 0) C.1 C.2.1 dX4_yearsThought_2 (by decide) ?_
  refine lv_istore_n (lv' := [(2, .int 0), (1, .int 0), (0, .ref (Γ.2.2 58))]) C.1 C.2.1 dX4_yearsThought_3 rfl hl (by decide) rfl (fun ls hl => ?_)
  exact tX4_yearsThought_4 C  FU _ _ _ _ _ h  hW (lv_sub hl [2, 1, 0] rfl)
theorem mt_X4_yearsThought {l : Launch} {Γ : Gm} {A B : Me}   {rZ : Int32}  (h : fX4_yearsThought B = some rZ) : Met l yX4_yearsThought wsX4_yearsThought rmX4_yearsThought (PC Γ A B [.ref (Γ.2.2 58)]) (QI Γ A B rZ) 0 0 (rg Γ) :=
  met_of (by decide) rfl (Nat.le_of_ble_eq_true rfl) (fun p e s m below meth c ls C hW hl => tX4_yearsThought_0 C  h  hW (lv_sub (l := [(0, .ref (Γ.2.2 58))]) hl [0] rfl))
abbrev rmX4_latestThought : Room := { frames := 0, cells := 0, slots := 0, locals := 0 }
set_option maxRecDepth 100000 in
theorem iX4_latestThought_c4 : ∀ w ∈ wsX40, w ∈ wsX4_latestThought := by decide +kernel
set_option maxRecDepth 100000 in
theorem wX4_latestThought_0 : Cond.fieldLink RX4 13 "WineByYearsModel" "thought" "[I" ∈ wsX4_latestThought := by decide +kernel
def fX4_latestThought_24 (j4 : Int32 → Int32 → Option (Int32)) (B : Me)  (v2 : Int32) (t0 : Int32) : Option (Int32) := j4 t0 (v2 + 1)
set_option maxRecDepth 100000 in
theorem tX4_latestThought_24 {A B : Me}  {H : Heap} {locs : List Loc} {ls : Array Slot} {v2 : Int32} {t0 : Int32} {rZ : Int32} {j4 : Int32 → Int32 → Option (Int32)} (C : Cx Γ p s m args meth c cX4_latestThought 3 (some .int) RX4 wsX4_latestThought) (hr4 : ∀ (v1 : Int32) (v2 : Int32) (H : Heap) (locs : List Loc) (ls : Array Slot), j4 v1 v2 = some rZ → Wd Γ A B s.heap H locs → lv_has ls 3 [(0, .ref (Γ.2.2 58)), (1, .int v1), (2, .int v2)] → W p l e rmX4_latestThought s m args below meth c H locs 0 0 (MQ below (QI Γ A B rZ) args s 0 0 (rg Γ)) (F0 m 4 ls [])) (h : fX4_latestThought_24 j4 B v2 t0 = some rZ)  (hW : Wd Γ A B s.heap H locs) (hl : lv_has ls 3 [(0, .ref (Γ.2.2 58)), (2, .int v2)]) : W p l e rmX4_latestThought s m args below meth c H locs 0 0 (MQ below (QI Γ A B rZ) args s 0 0 (rg Γ)) (F0 m 24 ls [.int t0]) := by
  unfold fX4_latestThought_24 at h
  refine lv_istore_n (lv' := [(1, .int t0), (0, .ref (Γ.2.2 58)), (2, .int v2)]) C.1 C.2.1 dX4_latestThought_24 rfl hl (by decide) rfl (fun ls hl => ?_)
  refine lv_iinc (v := (v2 + 1)) (lv' := [(2, .int (v2 + 1)), (1, .int t0), (0, .ref (Γ.2.2 58))]) C.1 C.2.1 dX4_latestThought_25 hl (k := 2) rfl rfl (by decide) rfl (fun ls hl => ?_)
  refine lv_goto (tgt := 4) C.1 C.2.1 dX4_latestThought_28 (by decide) ?_
  exact hr4 _ _ _ _ _ h  hW (lv_sub hl [2, 1, 0] rfl)
def fX4_latestThought_4  (B : Me) : Nat → Int32 → Int32 → Option (Int32)
  | 0, _, _ => none
  | n + 1, v1, v2 => if 10 ≤ v2 then (some v1) else (ck (inb v2 10) <| if (B 60 v2.toNatClampNeg) ≤ 0 then (fX4_latestThought_24 (fun x0 x1 => fX4_latestThought_4 B n x0 x1) B v2 v1) else (fX4_latestThought_24 (fun x0 x1 => fX4_latestThought_4 B n x0 x1) B v2 v2))
set_option maxRecDepth 100000 in
theorem tX4_latestThought_4 {A B : Me}  {rZ : Int32}  (C : Cx Γ p s m args meth c cX4_latestThought 3 (some .int) RX4 wsX4_latestThought)  (n : Nat) : ∀ (v1 : Int32) (v2 : Int32) (H : Heap) (locs : List Loc) (ls : Array Slot), fX4_latestThought_4 B n v1 v2 = some rZ → Wd Γ A B s.heap H locs → lv_has ls 3 [(0, .ref (Γ.2.2 58)), (1, .int v1), (2, .int v2)] → W p l e rmX4_latestThought s m args below meth c H locs 0 0 (MQ below (QI Γ A B rZ) args s 0 0 (rg Γ)) (F0 m 4 ls []) := by
  induction n with
  | zero =>
    intro _ _ H locs ls h
    exact nomatch (show (none : Option (Int32)) = some rZ from h)
  | succ n ih =>
    intro v1 v2 H locs ls h  hW hl
    rw [fX4_latestThought_4] at h
    refine lv_iload_n C.1 C.2.1 dX4_latestThought_4 rfl (lv_at hl 2 rfl) ?_
    refine lv_bipush (v := 10) C.1 C.2.1 dX4_latestThought_5 (by decide) ?_
    refine lv_icmp_ge (tgt := 31) C.1 C.2.1 dX4_latestThought_7 (by decide) (fun c_7 => ?_) (fun c_7 => ?_)
    · have h := if_y h c_7
      refine lv_iload_n C.1 C.2.1 dX4_latestThought_31 rfl (lv_at hl 1 rfl) ?_
      cases h
      exact z_iret C hW dX4_latestThought_32
    · have h := if_n h c_7
      refine lv_aload_n C.1 C.2.1 dX4_latestThought_10 rfl (lv_at hl 0 rfl) ?_
      refine gX4_4 C hW rfl iX4_latestThought_c4 wX4_latestThought_0 dX4_latestThought_11 ?_
      refine lv_iload_n C.1 C.2.1 dX4_latestThought_14 rfl (lv_at hl 2 rfl) ?_
      obtain ⟨hi15, h⟩ := ck_s h
      refine la9 C hW ⟨rfl, rfl⟩ hi15 dX4_latestThought_15 ?_
      refine lv_if_le (tgt := 23) C.1 C.2.1 dX4_latestThought_16 (by decide) (fun c_16 => ?_) (fun c_16 => ?_)
      · have h := if_y h c_16
        refine lv_iload_n C.1 C.2.1 dX4_latestThought_23 rfl (lv_at hl 1 rfl) ?_
        exact tX4_latestThought_24 C ih h  hW (lv_sub hl [0, 2] rfl)
      · have h := if_n h c_16
        refine lv_iload_n C.1 C.2.1 dX4_latestThought_19 rfl (lv_at hl 2 rfl) ?_
        refine lv_goto (tgt := 24) C.1 C.2.1 dX4_latestThought_20 (by decide) ?_
        exact tX4_latestThought_24 C ih h  hW (lv_sub hl [0, 2] rfl)
def fX4_latestThought  (B : Me)   : Option (Int32) := fX4_latestThought_4 B FU (-1) 0
set_option maxRecDepth 100000 in
theorem tX4_latestThought_0 {A B : Me}  {H : Heap} {locs : List Loc} {ls : Array Slot}  {rZ : Int32}  (C : Cx Γ p s m args meth c cX4_latestThought 3 (some .int) RX4 wsX4_latestThought)  (h : fX4_latestThought B = some rZ)  (hW : Wd Γ A B s.heap H locs) (hl : lv_has ls 3 [(0, .ref (Γ.2.2 58))]) : W p l e rmX4_latestThought s m args below meth c H locs 0 0 (MQ below (QI Γ A B rZ) args s 0 0 (rg Γ)) (F0 m 0 ls []) := by
  unfold fX4_latestThought at h
  refine lv_iconst (v := (-1)) C.1 C.2.1 dX4_latestThought_0 (by decide) ?_
  refine lv_istore_n (lv' := [(1, .int (-1)), (0, .ref (Γ.2.2 58))]) C.1 C.2.1 dX4_latestThought_1 rfl hl (by decide) rfl (fun ls hl => ?_)
  refine lv_iconst (v := 0) C.1 C.2.1 dX4_latestThought_2 (by decide) ?_
  refine lv_istore_n (lv' := [(2, .int 0), (1, .int (-1)), (0, .ref (Γ.2.2 58))]) C.1 C.2.1 dX4_latestThought_3 rfl hl (by decide) rfl (fun ls hl => ?_)
  exact tX4_latestThought_4 C  FU _ _ _ _ _ h  hW (lv_sub hl [2, 1, 0] rfl)
theorem mt_X4_latestThought {l : Launch} {Γ : Gm} {A B : Me}   {rZ : Int32}  (h : fX4_latestThought B = some rZ) : Met l yX4_latestThought wsX4_latestThought rmX4_latestThought (PC Γ A B [.ref (Γ.2.2 58)]) (QI Γ A B rZ) 0 0 (rg Γ) :=
  met_of (by decide) rfl (Nat.le_of_ble_eq_true rfl) (fun p e s m below meth c ls C hW hl => tX4_latestThought_0 C  h  hW (lv_sub (l := [(0, .ref (Γ.2.2 58))]) hl [0] rfl))
abbrev rmX4_ageThought : Room := { frames := 1, cells := 0, slots := 0, locals := 22 }
set_option maxRecDepth 100000 in
theorem iX4_ageThought_c4 : ∀ w ∈ wsX40, w ∈ wsX4_ageThought := by decide +kernel
set_option maxRecDepth 100000 in
theorem wX4_ageThought_0 : Cond.fieldLink RX4 79 "WineByYearsModel" "law" "I" ∈ wsX4_ageThought := by decide +kernel
set_option maxRecDepth 100000 in
theorem wX4_ageThought_1 : Cond.fieldLink RX4 13 "WineByYearsModel" "thought" "[I" ∈ wsX4_ageThought := by decide +kernel
def fX4_ageThought_81 (j15 : Int32 → Int32 → Int32 → Int32 → Int32 → Option (Int32)) (B : Me)  (v1 : Int32) (v2 : Int32) (v4 : Int32) (v5 : Int32) (t0 : Int32) : Option (Int32) := ck (inb v5 10) <| j15 v1 v2 t0 (v4 + (v5 * (B 60 v5.toNatClampNeg))) (v5 + 1)
set_option maxRecDepth 100000 in
theorem tX4_ageThought_81 {A B : Me}  {H : Heap} {locs : List Loc} {ls : Array Slot} {v1 : Int32} {v2 : Int32} {v4 : Int32} {v5 : Int32} {t0 : Int32} {rZ : Int32} {j15 : Int32 → Int32 → Int32 → Int32 → Int32 → Option (Int32)} (C : Cx Γ p s m args meth c cX4_ageThought 6 (some .int) RX4 wsX4_ageThought) (hr15 : ∀ (v1 : Int32) (v2 : Int32) (v3 : Int32) (v4 : Int32) (v5 : Int32) (H : Heap) (locs : List Loc) (ls : Array Slot), j15 v1 v2 v3 v4 v5 = some rZ → Wd Γ A B s.heap H locs → lv_has ls 6 [(0, .ref (Γ.2.2 58)), (1, .int v1), (2, .int v2), (3, .int v3), (4, .int v4), (5, .int v5)] → W p l e rmX4_ageThought s m args below meth c H locs 0 0 (MQ below (QI Γ A B rZ) args s 0 0 (rg Γ)) (F0 m 15 ls [])) (h : fX4_ageThought_81 j15 B v1 v2 v4 v5 t0 = some rZ)  (hW : Wd Γ A B s.heap H locs) (hl : lv_has ls 6 [(0, .ref (Γ.2.2 58)), (1, .int v1), (2, .int v2), (4, .int v4), (5, .int v5)]) : W p l e rmX4_ageThought s m args below meth c H locs 0 0 (MQ below (QI Γ A B rZ) args s 0 0 (rg Γ)) (F0 m 81 ls [.int t0]) := by
  unfold fX4_ageThought_81 at h
  refine lv_istore_n (lv' := [(3, .int t0), (0, .ref (Γ.2.2 58)), (1, .int v1), (2, .int v2), (4, .int v4), (5, .int v5)]) C.1 C.2.1 dX4_ageThought_81 rfl hl (by decide) rfl (fun ls hl => ?_)
  refine lv_iload C.1 C.2.1 dX4_ageThought_82 (lv_at hl 4 rfl) ?_
  refine lv_iload C.1 C.2.1 dX4_ageThought_84 (lv_at hl 5 rfl) ?_
  refine lv_aload_n C.1 C.2.1 dX4_ageThought_86 rfl (lv_at hl 1 rfl) ?_
  refine gX4_4 C hW rfl iX4_ageThought_c4 wX4_ageThought_1 dX4_ageThought_87 ?_
  refine lv_iload C.1 C.2.1 dX4_ageThought_90 (lv_at hl 5 rfl) ?_
  obtain ⟨hi92, h⟩ := ck_s h
  refine la9 C hW ⟨rfl, rfl⟩ hi92 dX4_ageThought_92 ?_
  refine lv_imul C.1 C.2.1 dX4_ageThought_93 ?_
  refine lv_iadd C.1 C.2.1 dX4_ageThought_94 ?_
  refine lv_istore (lv' := [(4, .int (v4 + (v5 * (B 60 v5.toNatClampNeg)))), (3, .int t0), (0, .ref (Γ.2.2 58)), (1, .int v1), (2, .int v2), (5, .int v5)]) C.1 C.2.1 dX4_ageThought_95 hl (by decide) rfl (fun ls hl => ?_)
  refine lv_iinc (v := (v5 + 1)) (lv' := [(5, .int (v5 + 1)), (4, .int (v4 + (v5 * (B 60 v5.toNatClampNeg)))), (3, .int t0), (0, .ref (Γ.2.2 58)), (1, .int v1), (2, .int v2)]) C.1 C.2.1 dX4_ageThought_97 hl (k := 5) rfl rfl (by decide) rfl (fun ls hl => ?_)
  refine lv_goto (tgt := 15) C.1 C.2.1 dX4_ageThought_100 (by decide) ?_
  exact hr15 _ _ _ _ _ _ _ _ h  hW (lv_sub hl [3, 4, 5, 2, 1, 0] rfl)
def fX4_ageThought_75 (j15 : Int32 → Int32 → Int32 → Int32 → Int32 → Option (Int32)) (B : Me)  (v1 : Int32) (v2 : Int32) (v4 : Int32) (v5 : Int32) : Option (Int32) := fX4_ageThought_81 j15 B v1 v2 v4 v5 v5
set_option maxRecDepth 100000 in
theorem tX4_ageThought_75 {A B : Me}  {H : Heap} {locs : List Loc} {ls : Array Slot} {v1 : Int32} {v2 : Int32} {v4 : Int32} {v5 : Int32} {rZ : Int32} {j15 : Int32 → Int32 → Int32 → Int32 → Int32 → Option (Int32)} (C : Cx Γ p s m args meth c cX4_ageThought 6 (some .int) RX4 wsX4_ageThought) (hr15 : ∀ (v1 : Int32) (v2 : Int32) (v3 : Int32) (v4 : Int32) (v5 : Int32) (H : Heap) (locs : List Loc) (ls : Array Slot), j15 v1 v2 v3 v4 v5 = some rZ → Wd Γ A B s.heap H locs → lv_has ls 6 [(0, .ref (Γ.2.2 58)), (1, .int v1), (2, .int v2), (3, .int v3), (4, .int v4), (5, .int v5)] → W p l e rmX4_ageThought s m args below meth c H locs 0 0 (MQ below (QI Γ A B rZ) args s 0 0 (rg Γ)) (F0 m 15 ls [])) (h : fX4_ageThought_75 j15 B v1 v2 v4 v5 = some rZ)  (hW : Wd Γ A B s.heap H locs) (hl : lv_has ls 6 [(0, .ref (Γ.2.2 58)), (1, .int v1), (2, .int v2), (4, .int v4), (5, .int v5)]) : W p l e rmX4_ageThought s m args below meth c H locs 0 0 (MQ below (QI Γ A B rZ) args s 0 0 (rg Γ)) (F0 m 75 ls []) := by
  unfold fX4_ageThought_75 at h
  refine lv_iload C.1 C.2.1 dX4_ageThought_75 (lv_at hl 4 rfl) ?_
  refine lv_goto (tgt := 81) C.1 C.2.1 dX4_ageThought_77 (by decide) ?_
  exact tX4_ageThought_81 C hr15 h  hW (lv_sub hl [0, 1, 2, 3, 4] rfl)
def fX4_ageThought_80 (j15 : Int32 → Int32 → Int32 → Int32 → Int32 → Option (Int32)) (B : Me)  (v1 : Int32) (v2 : Int32) (v3 : Int32) (v4 : Int32) (v5 : Int32) : Option (Int32) := fX4_ageThought_81 j15 B v1 v2 v4 v5 v3
set_option maxRecDepth 100000 in
theorem tX4_ageThought_80 {A B : Me}  {H : Heap} {locs : List Loc} {ls : Array Slot} {v1 : Int32} {v2 : Int32} {v3 : Int32} {v4 : Int32} {v5 : Int32} {rZ : Int32} {j15 : Int32 → Int32 → Int32 → Int32 → Int32 → Option (Int32)} (C : Cx Γ p s m args meth c cX4_ageThought 6 (some .int) RX4 wsX4_ageThought) (hr15 : ∀ (v1 : Int32) (v2 : Int32) (v3 : Int32) (v4 : Int32) (v5 : Int32) (H : Heap) (locs : List Loc) (ls : Array Slot), j15 v1 v2 v3 v4 v5 = some rZ → Wd Γ A B s.heap H locs → lv_has ls 6 [(0, .ref (Γ.2.2 58)), (1, .int v1), (2, .int v2), (3, .int v3), (4, .int v4), (5, .int v5)] → W p l e rmX4_ageThought s m args below meth c H locs 0 0 (MQ below (QI Γ A B rZ) args s 0 0 (rg Γ)) (F0 m 15 ls [])) (h : fX4_ageThought_80 j15 B v1 v2 v3 v4 v5 = some rZ)  (hW : Wd Γ A B s.heap H locs) (hl : lv_has ls 6 [(0, .ref (Γ.2.2 58)), (1, .int v1), (2, .int v2), (3, .int v3), (4, .int v4), (5, .int v5)]) : W p l e rmX4_ageThought s m args below meth c H locs 0 0 (MQ below (QI Γ A B rZ) args s 0 0 (rg Γ)) (F0 m 80 ls []) := by
  unfold fX4_ageThought_80 at h
  refine lv_iload_n C.1 C.2.1 dX4_ageThought_80 rfl (lv_at hl 3 rfl) ?_
  exact tX4_ageThought_81 C hr15 h  hW (lv_sub hl [0, 1, 2, 4, 5] rfl)
def fX4_ageThought_43 (j15 : Int32 → Int32 → Int32 → Int32 → Int32 → Option (Int32)) (B : Me)  (v1 : Int32) (v3 : Int32) (v4 : Int32) (v5 : Int32) (t0 : Int32) : Option (Int32) := ck (inb v5 10) <| if (B 60 v5.toNatClampNeg) ≤ 0 then (fX4_ageThought_80 j15 B v1 t0 v3 v4 v5) else (if v3 = (-1) then (fX4_ageThought_75 j15 B v1 t0 v4 v5) else (ck (inb v5 10) <| ck (inb v3 10) <| if (B 60 v5.toNatClampNeg) < (B 60 v3.toNatClampNeg) then (fX4_ageThought_80 j15 B v1 t0 v3 v4 v5) else (fX4_ageThought_75 j15 B v1 t0 v4 v5)))
set_option maxRecDepth 100000 in
theorem tX4_ageThought_43 {A B : Me}  {H : Heap} {locs : List Loc} {ls : Array Slot} {v1 : Int32} {v3 : Int32} {v4 : Int32} {v5 : Int32} {t0 : Int32} {rZ : Int32} {j15 : Int32 → Int32 → Int32 → Int32 → Int32 → Option (Int32)} (C : Cx Γ p s m args meth c cX4_ageThought 6 (some .int) RX4 wsX4_ageThought) (hr15 : ∀ (v1 : Int32) (v2 : Int32) (v3 : Int32) (v4 : Int32) (v5 : Int32) (H : Heap) (locs : List Loc) (ls : Array Slot), j15 v1 v2 v3 v4 v5 = some rZ → Wd Γ A B s.heap H locs → lv_has ls 6 [(0, .ref (Γ.2.2 58)), (1, .int v1), (2, .int v2), (3, .int v3), (4, .int v4), (5, .int v5)] → W p l e rmX4_ageThought s m args below meth c H locs 0 0 (MQ below (QI Γ A B rZ) args s 0 0 (rg Γ)) (F0 m 15 ls [])) (h : fX4_ageThought_43 j15 B v1 v3 v4 v5 t0 = some rZ)  (hW : Wd Γ A B s.heap H locs) (hl : lv_has ls 6 [(0, .ref (Γ.2.2 58)), (1, .int v1), (3, .int v3), (4, .int v4), (5, .int v5)]) : W p l e rmX4_ageThought s m args below meth c H locs 0 0 (MQ below (QI Γ A B rZ) args s 0 0 (rg Γ)) (F0 m 43 ls [.int t0]) := by
  unfold fX4_ageThought_43 at h
  refine lv_istore_n (lv' := [(2, .int t0), (0, .ref (Γ.2.2 58)), (1, .int v1), (3, .int v3), (4, .int v4), (5, .int v5)]) C.1 C.2.1 dX4_ageThought_43 rfl hl (by decide) rfl (fun ls hl => ?_)
  refine lv_aload_n C.1 C.2.1 dX4_ageThought_44 rfl (lv_at hl 1 rfl) ?_
  refine gX4_4 C hW rfl iX4_ageThought_c4 wX4_ageThought_1 dX4_ageThought_45 ?_
  refine lv_iload C.1 C.2.1 dX4_ageThought_48 (lv_at hl 5 rfl) ?_
  obtain ⟨hi50, h⟩ := ck_s h
  refine la9 C hW ⟨rfl, rfl⟩ hi50 dX4_ageThought_50 ?_
  refine lv_if_le (tgt := 80) C.1 C.2.1 dX4_ageThought_51 (by decide) (fun c_51 => ?_) (fun c_51 => ?_)
  · have h := if_y h c_51
    exact tX4_ageThought_80 C hr15 h  hW (lv_sub hl [1, 2, 0, 3, 4, 5] rfl)
  · have h := if_n h c_51
    refine lv_iload_n C.1 C.2.1 dX4_ageThought_54 rfl (lv_at hl 3 rfl) ?_
    refine lv_iconst (v := (-1)) C.1 C.2.1 dX4_ageThought_55 (by decide) ?_
    refine lv_icmp_eq (tgt := 75) C.1 C.2.1 dX4_ageThought_56 (by decide) (fun c_56 => ?_) (fun c_56 => ?_)
    · have h := if_y h c_56
      exact tX4_ageThought_75 C hr15 h  hW (lv_sub hl [1, 2, 0, 4, 5] rfl)
    · have h := if_n h c_56
      refine lv_aload_n C.1 C.2.1 dX4_ageThought_59 rfl (lv_at hl 1 rfl) ?_
      refine gX4_4 C hW rfl iX4_ageThought_c4 wX4_ageThought_1 dX4_ageThought_60 ?_
      refine lv_iload C.1 C.2.1 dX4_ageThought_63 (lv_at hl 5 rfl) ?_
      obtain ⟨hi65, h⟩ := ck_s h
      refine la9 C hW ⟨rfl, rfl⟩ hi65 dX4_ageThought_65 ?_
      refine lv_aload_n C.1 C.2.1 dX4_ageThought_66 rfl (lv_at hl 1 rfl) ?_
      refine gX4_4 C hW rfl iX4_ageThought_c4 wX4_ageThought_1 dX4_ageThought_67 ?_
      refine lv_iload_n C.1 C.2.1 dX4_ageThought_70 rfl (lv_at hl 3 rfl) ?_
      obtain ⟨hi71, h⟩ := ck_s h
      refine la9 C hW ⟨rfl, rfl⟩ hi71 dX4_ageThought_71 ?_
      refine lv_icmp_lt (tgt := 80) C.1 C.2.1 dX4_ageThought_72 (by decide) (fun c_72 => ?_) (fun c_72 => ?_)
      · have h := if_y h c_72
        exact tX4_ageThought_80 C hr15 h  hW (lv_sub hl [1, 2, 0, 3, 4, 5] rfl)
      · have h := if_n h c_72
        exact tX4_ageThought_75 C hr15 h  hW (lv_sub hl [1, 2, 0, 4, 5] rfl)
def fX4_ageThought_42 (j15 : Int32 → Int32 → Int32 → Int32 → Int32 → Option (Int32)) (B : Me)  (v1 : Int32) (v2 : Int32) (v3 : Int32) (v4 : Int32) (v5 : Int32) : Option (Int32) := fX4_ageThought_43 j15 B v1 v3 v4 v5 v2
set_option maxRecDepth 100000 in
theorem tX4_ageThought_42 {A B : Me}  {H : Heap} {locs : List Loc} {ls : Array Slot} {v1 : Int32} {v2 : Int32} {v3 : Int32} {v4 : Int32} {v5 : Int32} {rZ : Int32} {j15 : Int32 → Int32 → Int32 → Int32 → Int32 → Option (Int32)} (C : Cx Γ p s m args meth c cX4_ageThought 6 (some .int) RX4 wsX4_ageThought) (hr15 : ∀ (v1 : Int32) (v2 : Int32) (v3 : Int32) (v4 : Int32) (v5 : Int32) (H : Heap) (locs : List Loc) (ls : Array Slot), j15 v1 v2 v3 v4 v5 = some rZ → Wd Γ A B s.heap H locs → lv_has ls 6 [(0, .ref (Γ.2.2 58)), (1, .int v1), (2, .int v2), (3, .int v3), (4, .int v4), (5, .int v5)] → W p l e rmX4_ageThought s m args below meth c H locs 0 0 (MQ below (QI Γ A B rZ) args s 0 0 (rg Γ)) (F0 m 15 ls [])) (h : fX4_ageThought_42 j15 B v1 v2 v3 v4 v5 = some rZ)  (hW : Wd Γ A B s.heap H locs) (hl : lv_has ls 6 [(0, .ref (Γ.2.2 58)), (1, .int v1), (2, .int v2), (3, .int v3), (4, .int v4), (5, .int v5)]) : W p l e rmX4_ageThought s m args below meth c H locs 0 0 (MQ below (QI Γ A B rZ) args s 0 0 (rg Γ)) (F0 m 42 ls []) := by
  unfold fX4_ageThought_42 at h
  refine lv_iload_n C.1 C.2.1 dX4_ageThought_42 rfl (lv_at hl 2 rfl) ?_
  exact tX4_ageThought_43 C hr15 h  hW (lv_sub hl [0, 1, 3, 4, 5] rfl)
def fX4_ageThought_151  (B : Me)  (t0 : Int32) : Option (Int32) := some t0
set_option maxRecDepth 100000 in
theorem tX4_ageThought_151 {A B : Me}  {H : Heap} {locs : List Loc} {ls : Array Slot} {t0 : Int32} {rZ : Int32}  (C : Cx Γ p s m args meth c cX4_ageThought 6 (some .int) RX4 wsX4_ageThought)  (h : fX4_ageThought_151 B t0 = some rZ)  (hW : Wd Γ A B s.heap H locs) (hl : lv_has ls 6 []) : W p l e rmX4_ageThought s m args below meth c H locs 0 0 (MQ below (QI Γ A B rZ) args s 0 0 (rg Γ)) (F0 m 151 ls [.int t0]) := by
  unfold fX4_ageThought_151 at h
  cases h
  exact z_iret C hW dX4_ageThought_151
def fX4_ageThought_15  (B : Me) : Nat → Int32 → Int32 → Int32 → Int32 → Int32 → Option (Int32)
  | 0, _, _, _, _, _ => none
  | n + 1, v1, v2, v3, v4, v5 => if 10 ≤ v5 then (if v1 = 0 then (some (-1)) else (if (B 58 1) = 0 then (bi (fX4_latestThought B) fun r117 => fX4_ageThought_151 B r117) else (if (B 58 1) = 1 then (fX4_ageThought_151 B v2) else (if (B 58 1) = 2 then (fX4_ageThought_151 B v3) else (ck (nz v1) <| fX4_ageThought_151 B (v4 / v1)))))) else (if v2 = (-1) then (ck (inb v5 10) <| if (B 60 v5.toNatClampNeg) ≤ 0 then (fX4_ageThought_42 (fun x0 x1 x2 x3 x4 => fX4_ageThought_15 B n x0 x1 x2 x3 x4) B v1 v2 v3 v4 v5) else (fX4_ageThought_43 (fun x0 x1 x2 x3 x4 => fX4_ageThought_15 B n x0 x1 x2 x3 x4) B v1 v3 v4 v5 v5)) else (fX4_ageThought_42 (fun x0 x1 x2 x3 x4 => fX4_ageThought_15 B n x0 x1 x2 x3 x4) B v1 v2 v3 v4 v5))
set_option maxRecDepth 100000 in
theorem tX4_ageThought_15 {A B : Me}  {rZ : Int32}  (C : Cx Γ p s m args meth c cX4_ageThought 6 (some .int) RX4 wsX4_ageThought)  (n : Nat) : ∀ (v1 : Int32) (v2 : Int32) (v3 : Int32) (v4 : Int32) (v5 : Int32) (H : Heap) (locs : List Loc) (ls : Array Slot), fX4_ageThought_15 B n v1 v2 v3 v4 v5 = some rZ → Wd Γ A B s.heap H locs → lv_has ls 6 [(0, .ref (Γ.2.2 58)), (1, .int v1), (2, .int v2), (3, .int v3), (4, .int v4), (5, .int v5)] → W p l e rmX4_ageThought s m args below meth c H locs 0 0 (MQ below (QI Γ A B rZ) args s 0 0 (rg Γ)) (F0 m 15 ls []) := by
  induction n with
  | zero =>
    intro _ _ _ _ _ H locs ls h
    exact nomatch (show (none : Option (Int32)) = some rZ from h)
  | succ n ih =>
    intro v1 v2 v3 v4 v5 H locs ls h  hW hl
    rw [fX4_ageThought_15] at h
    refine lv_iload C.1 C.2.1 dX4_ageThought_15 (lv_at hl 5 rfl) ?_
    refine lv_bipush (v := 10) C.1 C.2.1 dX4_ageThought_17 (by decide) ?_
    refine lv_icmp_ge (tgt := 103) C.1 C.2.1 dX4_ageThought_19 (by decide) (fun c_19 => ?_) (fun c_19 => ?_)
    · have h := if_y h c_19
      refine lv_iload_n C.1 C.2.1 dX4_ageThought_103 rfl (lv_at hl 1 rfl) ?_
      refine lv_if_ne (tgt := 109) C.1 C.2.1 dX4_ageThought_104 (by decide) (fun c_104 => ?_) (fun c_104 => ?_)
      · have h := if_n h c_104
        refine lv_aload_n C.1 C.2.1 dX4_ageThought_109 rfl (lv_at hl 0 rfl) ?_
        refine gX4_1 C hW rfl iX4_ageThought_c4 wX4_ageThought_0 dX4_ageThought_110 ?_
        refine lv_if_ne (tgt := 123) C.1 C.2.1 dX4_ageThought_113 (by decide) (fun c_113 => ?_) (fun c_113 => ?_)
        · have h := if_n h c_113
          refine lv_aload_n C.1 C.2.1 dX4_ageThought_123 rfl (lv_at hl 0 rfl) ?_
          refine gX4_1 C hW rfl iX4_ageThought_c4 wX4_ageThought_0 dX4_ageThought_124 ?_
          refine lv_iconst (v := 1) C.1 C.2.1 dX4_ageThought_127 (by decide) ?_
          refine lv_icmp_ne (tgt := 135) C.1 C.2.1 dX4_ageThought_128 (by decide) (fun c_128 => ?_) (fun c_128 => ?_)
          · have h := if_n h c_128
            refine lv_aload_n C.1 C.2.1 dX4_ageThought_135 rfl (lv_at hl 0 rfl) ?_
            refine gX4_1 C hW rfl iX4_ageThought_c4 wX4_ageThought_0 dX4_ageThought_136 ?_
            refine lv_iconst (v := 2) C.1 C.2.1 dX4_ageThought_139 (by decide) ?_
            refine lv_icmp_ne (tgt := 147) C.1 C.2.1 dX4_ageThought_140 (by decide) (fun c_140 => ?_) (fun c_140 => ?_)
            · have h := if_n h c_140
              refine lv_iload C.1 C.2.1 dX4_ageThought_147 (lv_at hl 4 rfl) ?_
              refine lv_iload_n C.1 C.2.1 dX4_ageThought_149 rfl (lv_at hl 1 rfl) ?_
              obtain ⟨hz, h⟩ := ck_s h
              refine lv_idiv C.1 C.2.1 dX4_ageThought_150 (nz_s hz) ?_
              exact tX4_ageThought_151 C  h  hW (lv_sub hl [] rfl)
            · have h := if_y h c_140
              refine lv_iload_n C.1 C.2.1 dX4_ageThought_143 rfl (lv_at hl 3 rfl) ?_
              refine lv_goto (tgt := 151) C.1 C.2.1 dX4_ageThought_144 (by decide) ?_
              exact tX4_ageThought_151 C  h  hW (lv_sub hl [] rfl)
          · have h := if_y h c_128
            refine lv_iload_n C.1 C.2.1 dX4_ageThought_131 rfl (lv_at hl 2 rfl) ?_
            refine lv_goto (tgt := 151) C.1 C.2.1 dX4_ageThought_132 (by decide) ?_
            exact tX4_ageThought_151 C  h  hW (lv_sub hl [] rfl)
        · have h := if_y h c_113
          refine lv_aload_n C.1 C.2.1 dX4_ageThought_116 rfl (lv_at hl 0 rfl) ?_
          obtain ⟨r117, hc117, h⟩ := bi_s h
          refine cVi C hW (As := []) (rest := []) (mt_X4_latestThought  hc117) (cwV 0 C.2.2.2.2.2.1 gX4_ageThought_X4_latestThought rfl rfl rfl (by decide +kernel) ⟨Nat.le_of_ble_eq_true rfl, Nat.le_of_ble_eq_true rfl⟩) (rcv4 C hW (rfl : kd 58 = 4)) rfl hl.1 rfl (Nat.le_of_ble_eq_true rfl) dX4_ageThought_117 (Nat.zero_le _) (Nat.zero_le _) (fun H locs hW => ?_)
          refine lv_goto (tgt := 151) C.1 C.2.1 dX4_ageThought_120 (by decide) ?_
          exact tX4_ageThought_151 C  h  hW (lv_sub hl [] rfl)
      · have h := if_y h c_104
        refine lv_iconst (v := (-1)) C.1 C.2.1 dX4_ageThought_107 (by decide) ?_
        cases h
        exact z_iret C hW dX4_ageThought_108
    · have h := if_n h c_19
      refine lv_iload_n C.1 C.2.1 dX4_ageThought_22 rfl (lv_at hl 2 rfl) ?_
      refine lv_iconst (v := (-1)) C.1 C.2.1 dX4_ageThought_23 (by decide) ?_
      refine lv_icmp_ne (tgt := 42) C.1 C.2.1 dX4_ageThought_24 (by decide) (fun c_24 => ?_) (fun c_24 => ?_)
      · have h := if_n h c_24
        exact tX4_ageThought_42 C ih h  hW (lv_sub hl [0, 1, 2, 3, 4, 5] rfl)
      · have h := if_y h c_24
        refine lv_aload_n C.1 C.2.1 dX4_ageThought_27 rfl (lv_at hl 0 rfl) ?_
        refine gX4_4 C hW rfl iX4_ageThought_c4 wX4_ageThought_1 dX4_ageThought_28 ?_
        refine lv_iload C.1 C.2.1 dX4_ageThought_31 (lv_at hl 5 rfl) ?_
        obtain ⟨hi33, h⟩ := ck_s h
        refine la9 C hW ⟨rfl, rfl⟩ hi33 dX4_ageThought_33 ?_
        refine lv_if_le (tgt := 42) C.1 C.2.1 dX4_ageThought_34 (by decide) (fun c_34 => ?_) (fun c_34 => ?_)
        · have h := if_y h c_34
          exact tX4_ageThought_42 C ih h  hW (lv_sub hl [0, 1, 2, 3, 4, 5] rfl)
        · have h := if_n h c_34
          refine lv_iload C.1 C.2.1 dX4_ageThought_37 (lv_at hl 5 rfl) ?_
          refine lv_goto (tgt := 43) C.1 C.2.1 dX4_ageThought_39 (by decide) ?_
          exact tX4_ageThought_43 C ih h  hW (lv_sub hl [0, 1, 3, 4, 5] rfl)
def fX4_ageThought  (B : Me)   : Option (Int32) := bi (fX4_litresThought B) fun r1 => fX4_ageThought_15 B FU r1 (-1) (-1) 0 0
set_option maxRecDepth 100000 in
theorem tX4_ageThought_0 {A B : Me}  {H : Heap} {locs : List Loc} {ls : Array Slot}  {rZ : Int32}  (C : Cx Γ p s m args meth c cX4_ageThought 6 (some .int) RX4 wsX4_ageThought)  (h : fX4_ageThought B = some rZ)  (hW : Wd Γ A B s.heap H locs) (hl : lv_has ls 6 [(0, .ref (Γ.2.2 58))]) : W p l e rmX4_ageThought s m args below meth c H locs 0 0 (MQ below (QI Γ A B rZ) args s 0 0 (rg Γ)) (F0 m 0 ls []) := by
  unfold fX4_ageThought at h
  refine lv_aload_n C.1 C.2.1 dX4_ageThought_0 rfl (lv_at hl 0 rfl) ?_
  obtain ⟨r1, hc1, h⟩ := bi_s h
  refine cVi C hW (As := []) (rest := []) (mt_X4_litresThought  hc1) (cwV 0 C.2.2.2.2.2.1 gX4_ageThought_X4_litresThought rfl rfl rfl (by decide +kernel) ⟨Nat.le_of_ble_eq_true rfl, Nat.le_of_ble_eq_true rfl⟩) (rcv4 C hW (rfl : kd 58 = 4)) rfl hl.1 rfl (Nat.le_of_ble_eq_true rfl) dX4_ageThought_1 (Nat.zero_le _) (Nat.zero_le _) (fun H locs hW => ?_)
  refine lv_istore_n (lv' := [(1, .int r1), (0, .ref (Γ.2.2 58))]) C.1 C.2.1 dX4_ageThought_4 rfl hl (by decide) rfl (fun ls hl => ?_)
  refine lv_iconst (v := (-1)) C.1 C.2.1 dX4_ageThought_5 (by decide) ?_
  refine lv_istore_n (lv' := [(2, .int (-1)), (1, .int r1), (0, .ref (Γ.2.2 58))]) C.1 C.2.1 dX4_ageThought_6 rfl hl (by decide) rfl (fun ls hl => ?_)
  refine lv_iconst (v := (-1)) C.1 C.2.1 dX4_ageThought_7 (by decide) ?_
  refine lv_istore_n (lv' := [(3, .int (-1)), (2, .int (-1)), (1, .int r1), (0, .ref (Γ.2.2 58))]) C.1 C.2.1 dX4_ageThought_8 rfl hl (by decide) rfl (fun ls hl => ?_)
  refine lv_iconst (v := 0) C.1 C.2.1 dX4_ageThought_9 (by decide) ?_
  refine lv_istore (lv' := [(4, .int 0), (3, .int (-1)), (2, .int (-1)), (1, .int r1), (0, .ref (Γ.2.2 58))]) C.1 C.2.1 dX4_ageThought_10 hl (by decide) rfl (fun ls hl => ?_)
  refine lv_iconst (v := 0) C.1 C.2.1 dX4_ageThought_12 (by decide) ?_
  refine lv_istore (lv' := [(5, .int 0), (4, .int 0), (3, .int (-1)), (2, .int (-1)), (1, .int r1), (0, .ref (Γ.2.2 58))]) C.1 C.2.1 dX4_ageThought_13 hl (by decide) rfl (fun ls hl => ?_)
  exact tX4_ageThought_15 C  FU _ _ _ _ _ _ _ _ h  hW (lv_sub hl [5, 4, 3, 2, 1, 0] rfl)
theorem mt_X4_ageThought {l : Launch} {Γ : Gm} {A B : Me}   {rZ : Int32}  (h : fX4_ageThought B = some rZ) : Met l yX4_ageThought wsX4_ageThought rmX4_ageThought (PC Γ A B [.ref (Γ.2.2 58)]) (QI Γ A B rZ) 0 0 (rg Γ) :=
  met_of (by decide) rfl (Nat.le_of_ble_eq_true rfl) (fun p e s m below meth c ls C hW hl => tX4_ageThought_0 C  h  hW (lv_sub (l := [(0, .ref (Γ.2.2 58))]) hl [0] rfl))
abbrev rmX4_mayThought : Room := { frames := 2, cells := 0, slots := 0, locals := 47 }
def fX4_mayThought_54  (B : Me)  (t0 : Int32) : Option (Int32) := ck (zb t0) <| some t0
set_option maxRecDepth 100000 in
theorem tX4_mayThought_54 {A B : Me}  {H : Heap} {locs : List Loc} {ls : Array Slot} {t0 : Int32} {rZ : Int32}  (C : Cx Γ p s m args meth c cX4_mayThought 4 (some .boolean) RX4 wsX4_mayThought)  (h : fX4_mayThought_54 B t0 = some rZ)  (hW : Wd Γ A B s.heap H locs) (hl : lv_has ls 4 []) : W p l e rmX4_mayThought s m args below meth c H locs 0 0 (MQ below (QI Γ A B rZ) args s 0 0 (rg Γ)) (F0 m 54 ls [.int t0]) := by
  unfold fX4_mayThought_54 at h
  obtain ⟨hz, h⟩ := ck_s h
  cases h
  exact z_zret C hW hz dX4_mayThought_54
def fX4_mayThought_67  (B : Me)  (t0 : Int32) : Option (Int32) := ck (zb t0) <| some t0
set_option maxRecDepth 100000 in
theorem tX4_mayThought_67 {A B : Me}  {H : Heap} {locs : List Loc} {ls : Array Slot} {t0 : Int32} {rZ : Int32}  (C : Cx Γ p s m args meth c cX4_mayThought 4 (some .boolean) RX4 wsX4_mayThought)  (h : fX4_mayThought_67 B t0 = some rZ)  (hW : Wd Γ A B s.heap H locs) (hl : lv_has ls 4 []) : W p l e rmX4_mayThought s m args below meth c H locs 0 0 (MQ below (QI Γ A B rZ) args s 0 0 (rg Γ)) (F0 m 67 ls [.int t0]) := by
  unfold fX4_mayThought_67 at h
  obtain ⟨hz, h⟩ := ck_s h
  cases h
  exact z_zret C hW hz dX4_mayThought_67
def fX4_mayThought_91  (B : Me)  (t0 : Int32) : Option (Int32) := ck (zb t0) <| some t0
set_option maxRecDepth 100000 in
theorem tX4_mayThought_91 {A B : Me}  {H : Heap} {locs : List Loc} {ls : Array Slot} {t0 : Int32} {rZ : Int32}  (C : Cx Γ p s m args meth c cX4_mayThought 4 (some .boolean) RX4 wsX4_mayThought)  (h : fX4_mayThought_91 B t0 = some rZ)  (hW : Wd Γ A B s.heap H locs) (hl : lv_has ls 4 []) : W p l e rmX4_mayThought s m args below meth c H locs 0 0 (MQ below (QI Γ A B rZ) args s 0 0 (rg Γ)) (F0 m 91 ls [.int t0]) := by
  unfold fX4_mayThought_91 at h
  obtain ⟨hz, h⟩ := ck_s h
  cases h
  exact z_zret C hW hz dX4_mayThought_91
def fX4_mayThought_90  (B : Me)   : Option (Int32) := fX4_mayThought_91 B 0
set_option maxRecDepth 100000 in
theorem tX4_mayThought_90 {A B : Me}  {H : Heap} {locs : List Loc} {ls : Array Slot}  {rZ : Int32}  (C : Cx Γ p s m args meth c cX4_mayThought 4 (some .boolean) RX4 wsX4_mayThought)  (h : fX4_mayThought_90 B = some rZ)  (hW : Wd Γ A B s.heap H locs) (hl : lv_has ls 4 []) : W p l e rmX4_mayThought s m args below meth c H locs 0 0 (MQ below (QI Γ A B rZ) args s 0 0 (rg Γ)) (F0 m 90 ls []) := by
  unfold fX4_mayThought_90 at h
  refine lv_iconst (v := 0) C.1 C.2.1 dX4_mayThought_90 (by decide) ?_
  exact tX4_mayThought_91 C  h  hW (lv_sub hl [] rfl)
def fX4_mayThought_102  (B : Me)  (t0 : Int32) : Option (Int32) := ck (zb t0) <| some t0
set_option maxRecDepth 100000 in
theorem tX4_mayThought_102 {A B : Me}  {H : Heap} {locs : List Loc} {ls : Array Slot} {t0 : Int32} {rZ : Int32}  (C : Cx Γ p s m args meth c cX4_mayThought 4 (some .boolean) RX4 wsX4_mayThought)  (h : fX4_mayThought_102 B t0 = some rZ)  (hW : Wd Γ A B s.heap H locs) (hl : lv_has ls 4 []) : W p l e rmX4_mayThought s m args below meth c H locs 0 0 (MQ below (QI Γ A B rZ) args s 0 0 (rg Γ)) (F0 m 102 ls [.int t0]) := by
  unfold fX4_mayThought_102 at h
  obtain ⟨hz, h⟩ := ck_s h
  cases h
  exact z_zret C hW hz dX4_mayThought_102
def fX4_mayThought  (B : Me)  (v1 : Int32) (v2 : Int32) : Option (Int32) := bi (fX4_ageThought B) fun r1 => if r1 = (-1) then (some 0) else (if v1 = 1 then (if r1 < v2 then (fX4_mayThought_54 B 0) else (fX4_mayThought_54 B 1)) else if v1 = 2 then (if r1 < (v2 + 2) then (fX4_mayThought_67 B 0) else (fX4_mayThought_67 B 1)) else if v1 = 3 then (some 1) else if v1 = 4 then (if r1 < v2 then (fX4_mayThought_90 B) else (bi (fX4_yearsThought B) fun r76 => bi (fX4_size r76) fun r79 => if 3 ≤ r79 then (fX4_mayThought_90 B) else (fX4_mayThought_91 B 1))) else (if r1 ≤ v2 then (fX4_mayThought_102 B 0) else (fX4_mayThought_102 B 1)))
set_option maxRecDepth 100000 in
theorem tX4_mayThought_0 {A B : Me}  {H : Heap} {locs : List Loc} {ls : Array Slot} {v1 : Int32} {v2 : Int32} {rZ : Int32}  (C : Cx Γ p s m args meth c cX4_mayThought 4 (some .boolean) RX4 wsX4_mayThought)  (h : fX4_mayThought B v1 v2 = some rZ)  (hW : Wd Γ A B s.heap H locs) (hl : lv_has ls 4 [(0, .ref (Γ.2.2 58)), (1, .int v1), (2, .int v2)]) : W p l e rmX4_mayThought s m args below meth c H locs 0 0 (MQ below (QI Γ A B rZ) args s 0 0 (rg Γ)) (F0 m 0 ls []) := by
  unfold fX4_mayThought at h
  refine lv_aload_n C.1 C.2.1 dX4_mayThought_0 rfl (lv_at hl 0 rfl) ?_
  obtain ⟨r1, hc1, h⟩ := bi_s h
  refine cVi C hW (As := []) (rest := []) (mt_X4_ageThought  hc1) (cwV 0 C.2.2.2.2.2.1 gX4_mayThought_X4_ageThought rfl rfl rfl (by decide +kernel) ⟨Nat.le_of_ble_eq_true rfl, Nat.le_of_ble_eq_true rfl⟩) (rcv4 C hW (rfl : kd 58 = 4)) rfl hl.1 rfl (Nat.le_of_ble_eq_true rfl) dX4_mayThought_1 (Nat.zero_le _) (Nat.zero_le _) (fun H locs hW => ?_)
  refine lv_istore_n (lv' := [(3, .int r1), (0, .ref (Γ.2.2 58)), (1, .int v1), (2, .int v2)]) C.1 C.2.1 dX4_mayThought_4 rfl hl (by decide) rfl (fun ls hl => ?_)
  refine lv_iload_n C.1 C.2.1 dX4_mayThought_5 rfl (lv_at hl 0 rfl) ?_
  refine lv_iconst (v := (-1)) C.1 C.2.1 dX4_mayThought_6 (by decide) ?_
  refine lv_icmp_ne (tgt := 12) C.1 C.2.1 dX4_mayThought_7 (by decide) (fun c_7 => ?_) (fun c_7 => ?_)
  · have h := if_n h c_7
    refine lv_iload_n C.1 C.2.1 dX4_mayThought_12 rfl (lv_at hl 2 rfl) ?_
    by_cases e_1 : v1 = 1
    · have h := if_y h e_1
      refine lv_tableIn (off := 31) (tgt := 44) C.1 C.2.1 dX4_mayThought_13 (by rw [e_1]; decide) (by rw [e_1]; decide) (by rw [e_1]; decide) (by decide) ?_
      refine lv_iload_n C.1 C.2.1 dX4_mayThought_44 rfl (lv_at hl 0 rfl) ?_
      refine lv_iload_n C.1 C.2.1 dX4_mayThought_45 rfl (lv_at hl 3 rfl) ?_
      refine lv_icmp_lt (tgt := 53) C.1 C.2.1 dX4_mayThought_46 (by decide) (fun c_46 => ?_) (fun c_46 => ?_)
      · have h := if_y h c_46
        refine lv_iconst (v := 0) C.1 C.2.1 dX4_mayThought_53 (by decide) ?_
        exact tX4_mayThought_54 C  h  hW (lv_sub hl [] rfl)
      · have h := if_n h c_46
        refine lv_iconst (v := 1) C.1 C.2.1 dX4_mayThought_49 (by decide) ?_
        refine lv_goto (tgt := 54) C.1 C.2.1 dX4_mayThought_50 (by decide) ?_
        exact tX4_mayThought_54 C  h  hW (lv_sub hl [] rfl)
    have h := if_n h e_1
    by_cases e_2 : v1 = 2
    · have h := if_y h e_2
      refine lv_tableIn (off := 42) (tgt := 55) C.1 C.2.1 dX4_mayThought_13 (by rw [e_2]; decide) (by rw [e_2]; decide) (by rw [e_2]; decide) (by decide) ?_
      refine lv_iload_n C.1 C.2.1 dX4_mayThought_55 rfl (lv_at hl 0 rfl) ?_
      refine lv_iload_n C.1 C.2.1 dX4_mayThought_56 rfl (lv_at hl 3 rfl) ?_
      refine lv_iconst (v := 2) C.1 C.2.1 dX4_mayThought_57 (by decide) ?_
      refine lv_iadd C.1 C.2.1 dX4_mayThought_58 ?_
      refine lv_icmp_lt (tgt := 66) C.1 C.2.1 dX4_mayThought_59 (by decide) (fun c_59 => ?_) (fun c_59 => ?_)
      · have h := if_y h c_59
        refine lv_iconst (v := 0) C.1 C.2.1 dX4_mayThought_66 (by decide) ?_
        exact tX4_mayThought_67 C  h  hW (lv_sub hl [] rfl)
      · have h := if_n h c_59
        refine lv_iconst (v := 1) C.1 C.2.1 dX4_mayThought_62 (by decide) ?_
        refine lv_goto (tgt := 67) C.1 C.2.1 dX4_mayThought_63 (by decide) ?_
        exact tX4_mayThought_67 C  h  hW (lv_sub hl [] rfl)
    have h := if_n h e_2
    by_cases e_3 : v1 = 3
    · have h := if_y h e_3
      refine lv_tableIn (off := 55) (tgt := 68) C.1 C.2.1 dX4_mayThought_13 (by rw [e_3]; decide) (by rw [e_3]; decide) (by rw [e_3]; decide) (by decide) ?_
      refine lv_iconst (v := 1) C.1 C.2.1 dX4_mayThought_68 (by decide) ?_
      cases h
      exact z_zret C hW (by decide) dX4_mayThought_69
    have h := if_n h e_3
    by_cases e_4 : v1 = 4
    · have h := if_y h e_4
      refine lv_tableIn (off := 57) (tgt := 70) C.1 C.2.1 dX4_mayThought_13 (by rw [e_4]; decide) (by rw [e_4]; decide) (by rw [e_4]; decide) (by decide) ?_
      refine lv_iload_n C.1 C.2.1 dX4_mayThought_70 rfl (lv_at hl 0 rfl) ?_
      refine lv_iload_n C.1 C.2.1 dX4_mayThought_71 rfl (lv_at hl 3 rfl) ?_
      refine lv_icmp_lt (tgt := 90) C.1 C.2.1 dX4_mayThought_72 (by decide) (fun c_72 => ?_) (fun c_72 => ?_)
      · have h := if_y h c_72
        exact tX4_mayThought_90 C  h  hW (lv_sub hl [] rfl)
      · have h := if_n h c_72
        refine lv_aload_n C.1 C.2.1 dX4_mayThought_75 rfl (lv_at hl 1 rfl) ?_
        obtain ⟨r76, hc76, h⟩ := bi_s h
        refine cVi C hW (As := []) (rest := []) (mt_X4_yearsThought  hc76) (cwV 0 C.2.2.2.2.2.1 gX4_mayThought_X4_yearsThought rfl rfl rfl (by decide +kernel) ⟨Nat.le_of_ble_eq_true rfl, Nat.le_of_ble_eq_true rfl⟩) (rcv4 C hW (rfl : kd 58 = 4)) rfl hl.1 rfl (Nat.le_of_ble_eq_true rfl) dX4_mayThought_76 (Nat.zero_le _) (Nat.zero_le _) (fun H locs hW => ?_)
        obtain ⟨r79, hc79, h⟩ := bi_s h
        refine cSi C hW (As := [.int r76]) (rest := []) (mt_X4_size  hc79) (va_cwS 1 C.2.2.2.2.2.1 gX4_mayThought_X4_size rfl rfl rfl (by decide +kernel) ⟨Nat.le_of_ble_eq_true rfl, Nat.le_of_ble_eq_true rfl⟩) rfl hl.1 rfl (Nat.le_of_ble_eq_true rfl) dX4_mayThought_79 (Nat.zero_le _) (Nat.zero_le _) (fun H locs hW => ?_)
        refine lv_iconst (v := 3) C.1 C.2.1 dX4_mayThought_82 (by decide) ?_
        refine lv_icmp_ge (tgt := 90) C.1 C.2.1 dX4_mayThought_83 (by decide) (fun c_83 => ?_) (fun c_83 => ?_)
        · have h := if_y h c_83
          exact tX4_mayThought_90 C  h  hW (lv_sub hl [] rfl)
        · have h := if_n h c_83
          refine lv_iconst (v := 1) C.1 C.2.1 dX4_mayThought_86 (by decide) ?_
          refine lv_goto (tgt := 91) C.1 C.2.1 dX4_mayThought_87 (by decide) ?_
          exact tX4_mayThought_91 C  h  hW (lv_sub hl [] rfl)
    have h := if_n h e_4
    refine lv_tableOut (tgt := 92) C.1 C.2.1 dX4_mayThought_13 ?_ (by decide) ?_
    · exact tsw1_4 e_1 e_2 e_3 e_4
    · refine lv_iload_n C.1 C.2.1 dX4_mayThought_92 rfl (lv_at hl 0 rfl) ?_
      refine lv_iload_n C.1 C.2.1 dX4_mayThought_93 rfl (lv_at hl 3 rfl) ?_
      refine lv_icmp_le (tgt := 101) C.1 C.2.1 dX4_mayThought_94 (by decide) (fun c_94 => ?_) (fun c_94 => ?_)
      · have h := if_y h c_94
        refine lv_iconst (v := 0) C.1 C.2.1 dX4_mayThought_101 (by decide) ?_
        exact tX4_mayThought_102 C  h  hW (lv_sub hl [] rfl)
      · have h := if_n h c_94
        refine lv_iconst (v := 1) C.1 C.2.1 dX4_mayThought_97 (by decide) ?_
        refine lv_goto (tgt := 102) C.1 C.2.1 dX4_mayThought_98 (by decide) ?_
        exact tX4_mayThought_102 C  h  hW (lv_sub hl [] rfl)
  · have h := if_y h c_7
    refine lv_iconst (v := 0) C.1 C.2.1 dX4_mayThought_10 (by decide) ?_
    cases h
    exact z_zret C hW (by decide) dX4_mayThought_11
theorem mt_X4_mayThought {l : Launch} {Γ : Gm} {A B : Me}  {v1 : Int32} {v2 : Int32} {rZ : Int32}  (h : fX4_mayThought B v1 v2 = some rZ) : Met l yX4_mayThought wsX4_mayThought rmX4_mayThought (PC Γ A B [.ref (Γ.2.2 58), .int v1, .int v2]) (QI Γ A B rZ) 0 0 (rg Γ) :=
  met_of (by decide) rfl (Nat.le_of_ble_eq_true rfl) (fun p e s m below meth c ls C hW hl => tX4_mayThought_0 C  h  hW (lv_sub (l := [(0, .ref (Γ.2.2 58)), (1, .int v1), (2, .int v2)]) hl [0, 1, 2] rfl))
abbrev rmX4_whoMay : Room := { frames := 3, cells := 0, slots := 0, locals := 70 }
set_option maxRecDepth 100000 in
theorem iX4_whoMay_c4 : ∀ w ∈ wsX40, w ∈ wsX4_whoMay := by decide +kernel
set_option maxRecDepth 100000 in
theorem wX4_whoMay_0 : Cond.fieldLink RX4 88 "WineByYearsModel" "people" "I" ∈ wsX4_whoMay := by decide +kernel
set_option maxRecDepth 100000 in
theorem wX4_whoMay_1 : Cond.fieldLink RX4 16 "WineByYearsModel" "kindOf" "[I" ∈ wsX4_whoMay := by decide +kernel
set_option maxRecDepth 100000 in
theorem wX4_whoMay_2 : Cond.fieldLink RX4 19 "WineByYearsModel" "bornOf" "[I" ∈ wsX4_whoMay := by decide +kernel
def fX4_whoMay_39 (j4 : Int32 → Int32 → Option (Int32)) (B : Me)  (v2 : Int32) (t0 : Int32) (t1 : Int32) : Option (Int32) := j4 (t0 ||| t1) (v2 + 1)
set_option maxRecDepth 100000 in
theorem tX4_whoMay_39 {A B : Me}  {H : Heap} {locs : List Loc} {ls : Array Slot} {v2 : Int32} {t0 : Int32} {t1 : Int32} {rZ : Int32} {j4 : Int32 → Int32 → Option (Int32)} (C : Cx Γ p s m args meth c cX4_whoMay 3 (some .int) RX4 wsX4_whoMay) (hr4 : ∀ (v1 : Int32) (v2 : Int32) (H : Heap) (locs : List Loc) (ls : Array Slot), j4 v1 v2 = some rZ → Wd Γ A B s.heap H locs → lv_has ls 3 [(0, .ref (Γ.2.2 58)), (1, .int v1), (2, .int v2)] → W p l e rmX4_whoMay s m args below meth c H locs 0 0 (MQ below (QI Γ A B rZ) args s 0 0 (rg Γ)) (F0 m 4 ls [])) (h : fX4_whoMay_39 j4 B v2 t0 t1 = some rZ)  (hW : Wd Γ A B s.heap H locs) (hl : lv_has ls 3 [(0, .ref (Γ.2.2 58)), (2, .int v2)]) : W p l e rmX4_whoMay s m args below meth c H locs 0 0 (MQ below (QI Γ A B rZ) args s 0 0 (rg Γ)) (F0 m 39 ls [.int t1, .int t0]) := by
  unfold fX4_whoMay_39 at h
  refine lv_ior C.1 C.2.1 dX4_whoMay_39 ?_
  refine lv_istore_n (lv' := [(1, .int (t0 ||| t1)), (0, .ref (Γ.2.2 58)), (2, .int v2)]) C.1 C.2.1 dX4_whoMay_40 rfl hl (by decide) rfl (fun ls hl => ?_)
  refine lv_iinc (v := (v2 + 1)) (lv' := [(2, .int (v2 + 1)), (1, .int (t0 ||| t1)), (0, .ref (Γ.2.2 58))]) C.1 C.2.1 dX4_whoMay_41 hl (k := 2) rfl rfl (by decide) rfl (fun ls hl => ?_)
  refine lv_goto (tgt := 4) C.1 C.2.1 dX4_whoMay_44 (by decide) ?_
  exact hr4 _ _ _ _ _ h  hW (lv_sub hl [2, 1, 0] rfl)
def fX4_whoMay_4  (B : Me) : Nat → Int32 → Int32 → Option (Int32)
  | 0, _, _ => none
  | n + 1, v1, v2 => if (B 58 5) ≤ v2 then (some v1) else (ck (inb v2 5) <| ck (inb v2 5) <| bi (fX4_mayThought B (B 61 v2.toNatClampNeg) (B 62 v2.toNatClampNeg)) fun r26 => if r26 = 0 then (fX4_whoMay_39 (fun x0 x1 => fX4_whoMay_4 B n x0 x1) B v2 v1 0) else (fX4_whoMay_39 (fun x0 x1 => fX4_whoMay_4 B n x0 x1) B v2 v1 (1 <<< (v2 &&& 31))))
set_option maxRecDepth 100000 in
theorem tX4_whoMay_4 {A B : Me}  {rZ : Int32}  (C : Cx Γ p s m args meth c cX4_whoMay 3 (some .int) RX4 wsX4_whoMay)  (n : Nat) : ∀ (v1 : Int32) (v2 : Int32) (H : Heap) (locs : List Loc) (ls : Array Slot), fX4_whoMay_4 B n v1 v2 = some rZ → Wd Γ A B s.heap H locs → lv_has ls 3 [(0, .ref (Γ.2.2 58)), (1, .int v1), (2, .int v2)] → W p l e rmX4_whoMay s m args below meth c H locs 0 0 (MQ below (QI Γ A B rZ) args s 0 0 (rg Γ)) (F0 m 4 ls []) := by
  induction n with
  | zero =>
    intro _ _ H locs ls h
    exact nomatch (show (none : Option (Int32)) = some rZ from h)
  | succ n ih =>
    intro v1 v2 H locs ls h  hW hl
    rw [fX4_whoMay_4] at h
    refine lv_iload_n C.1 C.2.1 dX4_whoMay_4 rfl (lv_at hl 2 rfl) ?_
    refine lv_aload_n C.1 C.2.1 dX4_whoMay_5 rfl (lv_at hl 0 rfl) ?_
    refine gX4_5 C hW rfl iX4_whoMay_c4 wX4_whoMay_0 dX4_whoMay_6 ?_
    refine lv_icmp_ge (tgt := 47) C.1 C.2.1 dX4_whoMay_9 (by decide) (fun c_9 => ?_) (fun c_9 => ?_)
    · have h := if_y h c_9
      refine lv_iload_n C.1 C.2.1 dX4_whoMay_47 rfl (lv_at hl 1 rfl) ?_
      cases h
      exact z_iret C hW dX4_whoMay_48
    · have h := if_n h c_9
      refine lv_iload_n C.1 C.2.1 dX4_whoMay_12 rfl (lv_at hl 1 rfl) ?_
      refine lv_aload_n C.1 C.2.1 dX4_whoMay_13 rfl (lv_at hl 0 rfl) ?_
      refine lv_aload_n C.1 C.2.1 dX4_whoMay_14 rfl (lv_at hl 0 rfl) ?_
      refine gX4_6 C hW rfl iX4_whoMay_c4 wX4_whoMay_1 dX4_whoMay_15 ?_
      refine lv_iload_n C.1 C.2.1 dX4_whoMay_18 rfl (lv_at hl 2 rfl) ?_
      obtain ⟨hi19, h⟩ := ck_s h
      refine la9 C hW ⟨rfl, rfl⟩ hi19 dX4_whoMay_19 ?_
      refine lv_aload_n C.1 C.2.1 dX4_whoMay_20 rfl (lv_at hl 0 rfl) ?_
      refine gX4_7 C hW rfl iX4_whoMay_c4 wX4_whoMay_2 dX4_whoMay_21 ?_
      refine lv_iload_n C.1 C.2.1 dX4_whoMay_24 rfl (lv_at hl 2 rfl) ?_
      obtain ⟨hi25, h⟩ := ck_s h
      refine la9 C hW ⟨rfl, rfl⟩ hi25 dX4_whoMay_25 ?_
      obtain ⟨r26, hc26, h⟩ := bi_s h
      refine cVi C hW (As := [.int (B 61 v2.toNatClampNeg), .int (B 62 v2.toNatClampNeg)]) (rest := [.int v1]) (mt_X4_mayThought  hc26) (cwV 2 C.2.2.2.2.2.1 gX4_whoMay_X4_mayThought rfl rfl rfl (by decide +kernel) ⟨Nat.le_of_ble_eq_true rfl, Nat.le_of_ble_eq_true rfl⟩) (rcv4 C hW (rfl : kd 58 = 4)) rfl hl.1 rfl (Nat.le_of_ble_eq_true rfl) dX4_whoMay_26 (Nat.zero_le _) (Nat.zero_le _) (fun H locs hW => ?_)
      refine lv_if_eq (tgt := 38) C.1 C.2.1 dX4_whoMay_29 (by decide) (fun c_29 => ?_) (fun c_29 => ?_)
      · have h := if_y h c_29
        refine lv_iconst (v := 0) C.1 C.2.1 dX4_whoMay_38 (by decide) ?_
        exact tX4_whoMay_39 C ih h  hW (lv_sub hl [0, 2] rfl)
      · have h := if_n h c_29
        refine lv_iconst (v := 1) C.1 C.2.1 dX4_whoMay_32 (by decide) ?_
        refine lv_iload_n C.1 C.2.1 dX4_whoMay_33 rfl (lv_at hl 2 rfl) ?_
        refine lv_ishl C.1 C.2.1 dX4_whoMay_34 ?_
        refine lv_goto (tgt := 39) C.1 C.2.1 dX4_whoMay_35 (by decide) ?_
        exact tX4_whoMay_39 C ih h  hW (lv_sub hl [0, 2] rfl)
def fX4_whoMay  (B : Me)   : Option (Int32) := fX4_whoMay_4 B FU 0 0
set_option maxRecDepth 100000 in
theorem tX4_whoMay_0 {A B : Me}  {H : Heap} {locs : List Loc} {ls : Array Slot}  {rZ : Int32}  (C : Cx Γ p s m args meth c cX4_whoMay 3 (some .int) RX4 wsX4_whoMay)  (h : fX4_whoMay B = some rZ)  (hW : Wd Γ A B s.heap H locs) (hl : lv_has ls 3 [(0, .ref (Γ.2.2 58))]) : W p l e rmX4_whoMay s m args below meth c H locs 0 0 (MQ below (QI Γ A B rZ) args s 0 0 (rg Γ)) (F0 m 0 ls []) := by
  unfold fX4_whoMay at h
  refine lv_iconst (v := 0) C.1 C.2.1 dX4_whoMay_0 (by decide) ?_
  refine lv_istore_n (lv' := [(1, .int 0), (0, .ref (Γ.2.2 58))]) C.1 C.2.1 dX4_whoMay_1 rfl hl (by decide) rfl (fun ls hl => ?_)
  refine lv_iconst (v := 0) C.1 C.2.1 dX4_whoMay_2 (by decide) ?_
  refine lv_istore_n (lv' := [(2, .int 0), (1, .int 0), (0, .ref (Γ.2.2 58))]) C.1 C.2.1 dX4_whoMay_3 rfl hl (by decide) rfl (fun ls hl => ?_)
  exact tX4_whoMay_4 C  FU _ _ _ _ _ h  hW (lv_sub hl [2, 1, 0] rfl)
theorem mt_X4_whoMay {l : Launch} {Γ : Gm} {A B : Me}   {rZ : Int32}  (h : fX4_whoMay B = some rZ) : Met l yX4_whoMay wsX4_whoMay rmX4_whoMay (PC Γ A B [.ref (Γ.2.2 58)]) (QI Γ A B rZ) 0 0 (rg Γ) :=
  met_of (by decide) rfl (Nat.le_of_ble_eq_true rfl) (fun p e s m below meth c ls C hW hl => tX4_whoMay_0 C  h  hW (lv_sub (l := [(0, .ref (Γ.2.2 58))]) hl [0] rfl))
abbrev rmX4_litresIn : Room := { frames := 2, cells := 0, slots := 0, locals := 43 }
def fX4_litresIn  (B : Me)  (v1 : Int32) : Option (Int32 × Me) := bi (fX4_think B v1) fun B2 => bi (fX4_litresThought B2) fun r6 => some (r6, B2)
set_option maxRecDepth 100000 in
theorem tX4_litresIn_0 {A B : Me}  {H : Heap} {locs : List Loc} {ls : Array Slot} {v1 : Int32} {rZ : Int32} {BZ : Me}  (C : Cx Γ p s m args meth c cX4_litresIn 2 (some .int) RX4 wsX4_litresIn)  (h : fX4_litresIn B v1 = some (rZ, BZ))  (hW : Wd Γ A B s.heap H locs) (hl : lv_has ls 2 [(0, .ref (Γ.2.2 58)), (1, .int v1)]) : W p l e rmX4_litresIn s m args below meth c H locs 0 0 (MQ below (QI Γ A BZ rZ) args s 0 0 (rg Γ)) (F0 m 0 ls []) := by
  unfold fX4_litresIn at h
  refine lv_aload_n C.1 C.2.1 dX4_litresIn_0 rfl (lv_at hl 0 rfl) ?_
  refine lv_iload_n C.1 C.2.1 dX4_litresIn_1 rfl (lv_at hl 1 rfl) ?_
  obtain ⟨B2, hc2, h⟩ := bi_s h
  refine cVv C hW (As := [.int v1]) (rest := []) (mt_X4_think  hc2) (cwV 1 C.2.2.2.2.2.1 gX4_litresIn_X4_think rfl rfl rfl (by decide +kernel) ⟨Nat.le_of_ble_eq_true rfl, Nat.le_of_ble_eq_true rfl⟩) (rcv4 C hW (rfl : kd 58 = 4)) rfl hl.1 rfl (Nat.le_of_ble_eq_true rfl) dX4_litresIn_2 (Nat.zero_le _) (Nat.zero_le _) (fun H locs hW => ?_)
  refine lv_aload_n C.1 C.2.1 dX4_litresIn_5 rfl (lv_at hl 0 rfl) ?_
  obtain ⟨r6, hc6, h⟩ := bi_s h
  refine cVi C hW (As := []) (rest := []) (mt_X4_litresThought  hc6) (cwV 0 C.2.2.2.2.2.1 gX4_litresIn_X4_litresThought rfl rfl rfl (by decide +kernel) ⟨Nat.le_of_ble_eq_true rfl, Nat.le_of_ble_eq_true rfl⟩) (rcv4 C hW (rfl : kd 58 = 4)) rfl hl.1 rfl (Nat.le_of_ble_eq_true rfl) dX4_litresIn_6 (Nat.zero_le _) (Nat.zero_le _) (fun H locs hW => ?_)
  cases h
  exact z_iret C hW dX4_litresIn_9
theorem mt_X4_litresIn {l : Launch} {Γ : Gm} {A B : Me}  {v1 : Int32} {rZ : Int32} {BZ : Me}  (h : fX4_litresIn B v1 = some (rZ, BZ)) : Met l yX4_litresIn wsX4_litresIn rmX4_litresIn (PC Γ A B [.ref (Γ.2.2 58), .int v1]) (QI Γ A BZ rZ) 0 0 (rg Γ) :=
  met_of (by decide) rfl (Nat.le_of_ble_eq_true rfl) (fun p e s m below meth c ls C hW hl => tX4_litresIn_0 C  h  hW (lv_sub (l := [(0, .ref (Γ.2.2 58)), (1, .int v1)]) hl [0, 1] rfl))
abbrev rmX4_caskNow : Room := { frames := 4, cells := 0, slots := 0, locals := 92 }
set_option maxRecDepth 100000 in
theorem iX4_caskNow_c4 : ∀ w ∈ wsX40, w ∈ wsX4_caskNow := by decide +kernel
set_option maxRecDepth 100000 in
theorem wX4_caskNow_0 : Cond.fieldLink RX4 13 "WineByYearsModel" "thought" "[I" ∈ wsX4_caskNow := by decide +kernel
def fX4_caskNow  (B : Me)  (v1 : Int32) (v2 : Int32) : Option (Int32 × Me) := bi (fX4_think B v1) fun B2 => if v2 = 0 then (bi (fX4_litresThought B2) fun r37 => some (r37, B2)) else if v2 = 1 then (bi (fX4_ageThought B2) fun r42 => some (r42, B2)) else if v2 = 2 then (bi (fX4_whoMay B2) fun r47 => some (r47, B2)) else if v2 = 3 then (bi (fX4_yearsThought B2) fun r52 => some (r52, B2)) else (ck (inb (v2 - 10) 10) <| some ((B2 60 (v2 - 10).toNatClampNeg), B2))
set_option maxRecDepth 100000 in
theorem tX4_caskNow_0 {A B : Me}  {H : Heap} {locs : List Loc} {ls : Array Slot} {v1 : Int32} {v2 : Int32} {rZ : Int32} {BZ : Me}  (C : Cx Γ p s m args meth c cX4_caskNow 3 (some .int) RX4 wsX4_caskNow)  (h : fX4_caskNow B v1 v2 = some (rZ, BZ))  (hW : Wd Γ A B s.heap H locs) (hl : lv_has ls 3 [(0, .ref (Γ.2.2 58)), (1, .int v1), (2, .int v2)]) : W p l e rmX4_caskNow s m args below meth c H locs 0 0 (MQ below (QI Γ A BZ rZ) args s 0 0 (rg Γ)) (F0 m 0 ls []) := by
  unfold fX4_caskNow at h
  refine lv_aload_n C.1 C.2.1 dX4_caskNow_0 rfl (lv_at hl 0 rfl) ?_
  refine lv_iload_n C.1 C.2.1 dX4_caskNow_1 rfl (lv_at hl 1 rfl) ?_
  obtain ⟨B2, hc2, h⟩ := bi_s h
  refine cVv C hW (As := [.int v1]) (rest := []) (mt_X4_think  hc2) (cwV 1 C.2.2.2.2.2.1 gX4_caskNow_X4_think rfl rfl rfl (by decide +kernel) ⟨Nat.le_of_ble_eq_true rfl, Nat.le_of_ble_eq_true rfl⟩) (rcv4 C hW (rfl : kd 58 = 4)) rfl hl.1 rfl (Nat.le_of_ble_eq_true rfl) dX4_caskNow_2 (Nat.zero_le _) (Nat.zero_le _) (fun H locs hW => ?_)
  refine lv_iload_n C.1 C.2.1 dX4_caskNow_5 rfl (lv_at hl 2 rfl) ?_
  by_cases e_0 : v2 = 0
  · have h := if_y h e_0
    refine lv_tableIn (off := 30) (tgt := 36) C.1 C.2.1 dX4_caskNow_6 (by rw [e_0]; decide) (by rw [e_0]; decide) (by rw [e_0]; decide) (by decide) ?_
    refine lv_aload_n C.1 C.2.1 dX4_caskNow_36 rfl (lv_at hl 0 rfl) ?_
    obtain ⟨r37, hc37, h⟩ := bi_s h
    refine cVi C hW (As := []) (rest := []) (mt_X4_litresThought  hc37) (cwV 0 C.2.2.2.2.2.1 gX4_caskNow_X4_litresThought rfl rfl rfl (by decide +kernel) ⟨Nat.le_of_ble_eq_true rfl, Nat.le_of_ble_eq_true rfl⟩) (rcv4 C hW (rfl : kd 58 = 4)) rfl hl.1 rfl (Nat.le_of_ble_eq_true rfl) dX4_caskNow_37 (Nat.zero_le _) (Nat.zero_le _) (fun H locs hW => ?_)
    cases h
    exact z_iret C hW dX4_caskNow_40
  have h := if_n h e_0
  by_cases e_1 : v2 = 1
  · have h := if_y h e_1
    refine lv_tableIn (off := 35) (tgt := 41) C.1 C.2.1 dX4_caskNow_6 (by rw [e_1]; decide) (by rw [e_1]; decide) (by rw [e_1]; decide) (by decide) ?_
    refine lv_aload_n C.1 C.2.1 dX4_caskNow_41 rfl (lv_at hl 0 rfl) ?_
    obtain ⟨r42, hc42, h⟩ := bi_s h
    refine cVi C hW (As := []) (rest := []) (mt_X4_ageThought  hc42) (cwV 0 C.2.2.2.2.2.1 gX4_caskNow_X4_ageThought rfl rfl rfl (by decide +kernel) ⟨Nat.le_of_ble_eq_true rfl, Nat.le_of_ble_eq_true rfl⟩) (rcv4 C hW (rfl : kd 58 = 4)) rfl hl.1 rfl (Nat.le_of_ble_eq_true rfl) dX4_caskNow_42 (Nat.zero_le _) (Nat.zero_le _) (fun H locs hW => ?_)
    cases h
    exact z_iret C hW dX4_caskNow_45
  have h := if_n h e_1
  by_cases e_2 : v2 = 2
  · have h := if_y h e_2
    refine lv_tableIn (off := 40) (tgt := 46) C.1 C.2.1 dX4_caskNow_6 (by rw [e_2]; decide) (by rw [e_2]; decide) (by rw [e_2]; decide) (by decide) ?_
    refine lv_aload_n C.1 C.2.1 dX4_caskNow_46 rfl (lv_at hl 0 rfl) ?_
    obtain ⟨r47, hc47, h⟩ := bi_s h
    refine cVi C hW (As := []) (rest := []) (mt_X4_whoMay  hc47) (cwV 0 C.2.2.2.2.2.1 gX4_caskNow_X4_whoMay rfl rfl rfl (by decide +kernel) ⟨Nat.le_of_ble_eq_true rfl, Nat.le_of_ble_eq_true rfl⟩) (rcv4 C hW (rfl : kd 58 = 4)) rfl hl.1 rfl (Nat.le_of_ble_eq_true rfl) dX4_caskNow_47 (Nat.zero_le _) (Nat.zero_le _) (fun H locs hW => ?_)
    cases h
    exact z_iret C hW dX4_caskNow_50
  have h := if_n h e_2
  by_cases e_3 : v2 = 3
  · have h := if_y h e_3
    refine lv_tableIn (off := 45) (tgt := 51) C.1 C.2.1 dX4_caskNow_6 (by rw [e_3]; decide) (by rw [e_3]; decide) (by rw [e_3]; decide) (by decide) ?_
    refine lv_aload_n C.1 C.2.1 dX4_caskNow_51 rfl (lv_at hl 0 rfl) ?_
    obtain ⟨r52, hc52, h⟩ := bi_s h
    refine cVi C hW (As := []) (rest := []) (mt_X4_yearsThought  hc52) (cwV 0 C.2.2.2.2.2.1 gX4_caskNow_X4_yearsThought rfl rfl rfl (by decide +kernel) ⟨Nat.le_of_ble_eq_true rfl, Nat.le_of_ble_eq_true rfl⟩) (rcv4 C hW (rfl : kd 58 = 4)) rfl hl.1 rfl (Nat.le_of_ble_eq_true rfl) dX4_caskNow_52 (Nat.zero_le _) (Nat.zero_le _) (fun H locs hW => ?_)
    cases h
    exact z_iret C hW dX4_caskNow_55
  have h := if_n h e_3
  refine lv_tableOut (tgt := 56) C.1 C.2.1 dX4_caskNow_6 ?_ (by decide) ?_
  · exact tsw0_3 e_0 e_1 e_2 e_3
  · refine lv_aload_n C.1 C.2.1 dX4_caskNow_56 rfl (lv_at hl 0 rfl) ?_
    refine gX4_4 C hW rfl iX4_caskNow_c4 wX4_caskNow_0 dX4_caskNow_57 ?_
    refine lv_iload_n C.1 C.2.1 dX4_caskNow_60 rfl (lv_at hl 2 rfl) ?_
    refine lv_bipush (v := 10) C.1 C.2.1 dX4_caskNow_61 (by decide) ?_
    refine lv_isub C.1 C.2.1 dX4_caskNow_63 ?_
    obtain ⟨hi64, h⟩ := ck_s h
    refine la9 C hW ⟨rfl, rfl⟩ hi64 dX4_caskNow_64 ?_
    cases h
    exact z_iret C hW dX4_caskNow_65
theorem mt_X4_caskNow {l : Launch} {Γ : Gm} {A B : Me}  {v1 : Int32} {v2 : Int32} {rZ : Int32} {BZ : Me}  (h : fX4_caskNow B v1 v2 = some (rZ, BZ)) : Met l yX4_caskNow wsX4_caskNow rmX4_caskNow (PC Γ A B [.ref (Γ.2.2 58), .int v1, .int v2]) (QI Γ A BZ rZ) 0 0 (rg Γ) :=
  met_of (by decide) rfl (Nat.le_of_ble_eq_true rfl) (fun p e s m below meth c ls C hW hl => tX4_caskNow_0 C  h  hW (lv_sub (l := [(0, .ref (Γ.2.2 58)), (1, .int v1), (2, .int v2)]) hl [0, 1, 2] rfl))
abbrev rmX4_cask : Room := { frames := 5, cells := 0, slots := 0, locals := 114 }
def fX4_cask_44  (B : Me)  (t0 : Int32) : Option (Int32 × Me) := some (t0, B)
set_option maxRecDepth 100000 in
theorem tX4_cask_44 {A B : Me}  {H : Heap} {locs : List Loc} {ls : Array Slot} {t0 : Int32} {rZ : Int32} {BZ : Me}  (C : Cx Γ p s m args meth c cX4_cask 3 (some .int) RX4 wsX4_cask)  (h : fX4_cask_44 B t0 = some (rZ, BZ))  (hW : Wd Γ A B s.heap H locs) (hl : lv_has ls 3 []) : W p l e rmX4_cask s m args below meth c H locs 0 0 (MQ below (QI Γ A BZ rZ) args s 0 0 (rg Γ)) (F0 m 44 ls [.int t0]) := by
  unfold fX4_cask_44 at h
  cases h
  exact z_iret C hW dX4_cask_44
def fX4_cask_33  (B : Me)  (v1 : Int32) (v2 : Int32) : Option (Int32 × Me) := b2 (fX4_caskNow B v1 v2) fun r36 B36 => fX4_cask_44 B36 r36
set_option maxRecDepth 100000 in
theorem tX4_cask_33 {A B : Me}  {H : Heap} {locs : List Loc} {ls : Array Slot} {v1 : Int32} {v2 : Int32} {rZ : Int32} {BZ : Me}  (C : Cx Γ p s m args meth c cX4_cask 3 (some .int) RX4 wsX4_cask)  (h : fX4_cask_33 B v1 v2 = some (rZ, BZ))  (hW : Wd Γ A B s.heap H locs) (hl : lv_has ls 3 [(0, .ref (Γ.2.2 58)), (1, .int v1), (2, .int v2)]) : W p l e rmX4_cask s m args below meth c H locs 0 0 (MQ below (QI Γ A BZ rZ) args s 0 0 (rg Γ)) (F0 m 33 ls []) := by
  unfold fX4_cask_33 at h
  refine lv_aload_n C.1 C.2.1 dX4_cask_33 rfl (lv_at hl 0 rfl) ?_
  refine lv_iload_n C.1 C.2.1 dX4_cask_34 rfl (lv_at hl 1 rfl) ?_
  refine lv_iload_n C.1 C.2.1 dX4_cask_35 rfl (lv_at hl 2 rfl) ?_
  obtain ⟨r36, B36, hc36, h⟩ := b2_s h
  refine cVi C hW (As := [.int v1, .int v2]) (rest := []) (mt_X4_caskNow  hc36) (cwV 2 C.2.2.2.2.2.1 gX4_cask_X4_caskNow rfl rfl rfl (by decide +kernel) ⟨Nat.le_of_ble_eq_true rfl, Nat.le_of_ble_eq_true rfl⟩) (rcv4 C hW (rfl : kd 58 = 4)) rfl hl.1 rfl (Nat.le_of_ble_eq_true rfl) dX4_cask_36 (Nat.zero_le _) (Nat.zero_le _) (fun H locs hW => ?_)
  refine lv_goto (tgt := 44) C.1 C.2.1 dX4_cask_39 (by decide) ?_
  exact tX4_cask_44 C  h  hW (lv_sub hl [] rfl)
def fX4_cask  (B : Me)  (v1 : Int32) (v2 : Int32) : Option (Int32 × Me) := bi (fX4_isCask B v1) fun r2 => if r2 = 0 then (fX4_cask_44 B (-101)) else (bi (fX4_within v2 0 3) fun r16 => if r16 = 0 then (bi (fX4_within v2 10 19) fun r27 => if r27 = 0 then (fX4_cask_44 B (-102)) else (fX4_cask_33 B v1 v2)) else (fX4_cask_33 B v1 v2))
set_option maxRecDepth 100000 in
theorem tX4_cask_0 {A B : Me}  {H : Heap} {locs : List Loc} {ls : Array Slot} {v1 : Int32} {v2 : Int32} {rZ : Int32} {BZ : Me}  (C : Cx Γ p s m args meth c cX4_cask 3 (some .int) RX4 wsX4_cask)  (h : fX4_cask B v1 v2 = some (rZ, BZ))  (hW : Wd Γ A B s.heap H locs) (hl : lv_has ls 3 [(0, .ref (Γ.2.2 58)), (1, .int v1), (2, .int v2)]) : W p l e rmX4_cask s m args below meth c H locs 0 0 (MQ below (QI Γ A BZ rZ) args s 0 0 (rg Γ)) (F0 m 0 ls []) := by
  unfold fX4_cask at h
  refine lv_aload_n C.1 C.2.1 dX4_cask_0 rfl (lv_at hl 0 rfl) ?_
  refine lv_iload_n C.1 C.2.1 dX4_cask_1 rfl (lv_at hl 1 rfl) ?_
  obtain ⟨r2, hc2, h⟩ := bi_s h
  refine cVi C hW (As := [.int v1]) (rest := []) (mt_X4_isCask  hc2) (cwV 1 C.2.2.2.2.2.1 gX4_cask_X4_isCask rfl rfl rfl (by decide +kernel) ⟨Nat.le_of_ble_eq_true rfl, Nat.le_of_ble_eq_true rfl⟩) (rcv4 C hW (rfl : kd 58 = 4)) rfl hl.1 rfl (Nat.le_of_ble_eq_true rfl) dX4_cask_2 (Nat.zero_le _) (Nat.zero_le _) (fun H locs hW => ?_)
  refine lv_if_ne (tgt := 13) C.1 C.2.1 dX4_cask_5 (by decide) (fun c_5 => ?_) (fun c_5 => ?_)
  · have h := if_n h c_5
    refine lv_iload_n C.1 C.2.1 dX4_cask_13 rfl (lv_at hl 2 rfl) ?_
    refine lv_iconst (v := 0) C.1 C.2.1 dX4_cask_14 (by decide) ?_
    refine lv_iconst (v := 3) C.1 C.2.1 dX4_cask_15 (by decide) ?_
    obtain ⟨r16, hc16, h⟩ := bi_s h
    refine cSi C hW (As := [.int v2, .int 0, .int 3]) (rest := []) (mt_X4_within  hc16) (va_cwS 3 C.2.2.2.2.2.1 gX4_cask_X4_within rfl rfl rfl (by decide +kernel) ⟨Nat.le_of_ble_eq_true rfl, Nat.le_of_ble_eq_true rfl⟩) rfl hl.1 rfl (Nat.le_of_ble_eq_true rfl) dX4_cask_16 (Nat.zero_le _) (Nat.zero_le _) (fun H locs hW => ?_)
    refine lv_if_ne (tgt := 33) C.1 C.2.1 dX4_cask_19 (by decide) (fun c_19 => ?_) (fun c_19 => ?_)
    · have h := if_n h c_19
      exact tX4_cask_33 C  h  hW (lv_sub hl [0, 1, 2] rfl)
    · have h := if_y h c_19
      refine lv_iload_n C.1 C.2.1 dX4_cask_22 rfl (lv_at hl 2 rfl) ?_
      refine lv_bipush (v := 10) C.1 C.2.1 dX4_cask_23 (by decide) ?_
      refine lv_bipush (v := 19) C.1 C.2.1 dX4_cask_25 (by decide) ?_
      obtain ⟨r27, hc27, h⟩ := bi_s h
      refine cSi C hW (As := [.int v2, .int 10, .int 19]) (rest := []) (mt_X4_within  hc27) (va_cwS 3 C.2.2.2.2.2.1 gX4_cask_X4_within rfl rfl rfl (by decide +kernel) ⟨Nat.le_of_ble_eq_true rfl, Nat.le_of_ble_eq_true rfl⟩) rfl hl.1 rfl (Nat.le_of_ble_eq_true rfl) dX4_cask_27 (Nat.zero_le _) (Nat.zero_le _) (fun H locs hW => ?_)
      refine lv_if_eq (tgt := 42) C.1 C.2.1 dX4_cask_30 (by decide) (fun c_30 => ?_) (fun c_30 => ?_)
      · have h := if_y h c_30
        refine lv_bipush (v := (-102)) C.1 C.2.1 dX4_cask_42 (by decide) ?_
        exact tX4_cask_44 C  h  hW (lv_sub hl [] rfl)
      · have h := if_n h c_30
        exact tX4_cask_33 C  h  hW (lv_sub hl [0, 1, 2] rfl)
  · have h := if_y h c_5
    refine lv_bipush (v := (-101)) C.1 C.2.1 dX4_cask_8 (by decide) ?_
    refine lv_goto (tgt := 44) C.1 C.2.1 dX4_cask_10 (by decide) ?_
    exact tX4_cask_44 C  h  hW (lv_sub hl [] rfl)
theorem mt_X4_cask {l : Launch} {Γ : Gm} {A B : Me}  {v1 : Int32} {v2 : Int32} {rZ : Int32} {BZ : Me}  (h : fX4_cask B v1 v2 = some (rZ, BZ)) : Met l yX4_cask wsX4_cask rmX4_cask (PC Γ A B [.ref (Γ.2.2 58), .int v1, .int v2]) (QI Γ A BZ rZ) 0 0 (rg Γ) :=
  met_of (by decide) rfl (Nat.le_of_ble_eq_true rfl) (fun p e s m below meth c ls C hW hl => tX4_cask_0 C  h  hW (lv_sub (l := [(0, .ref (Γ.2.2 58)), (1, .int v1), (2, .int v2)]) hl [0, 1, 2] rfl))
end
