section
variable {p : Program} {l : Launch} {e : Env} {s : State} {m : MethodId} {args : Array Value} {below : List Frame} {meth : Method} {c : Code} {Γ : Gm}
abbrev rmX1_dropTrials : Room := { frames := 0, cells := 0, slots := 0, locals := 0 }
set_option maxRecDepth 100000 in
theorem iX1_dropTrials_c1 : ∀ w ∈ wsX10, w ∈ wsX1_dropTrials := by decide +kernel
set_option maxRecDepth 100000 in
theorem wX1_dropTrials_0 : Cond.fieldLink RX1 77 "WineByYears$Cellar" "trialCount" "I" ∈ wsX1_dropTrials := by decide +kernel
set_option maxRecDepth 100000 in
theorem wX1_dropTrials_1 : Cond.fieldLink RX1 80 "WineByYears$Cellar" "trialIllBits" "I" ∈ wsX1_dropTrials := by decide +kernel
def fX1_dropTrials  (A : Me) (k : Nat)  : Option (Int32 × Me) := some ((A k 9), (up2 (up2 A k 9 0) k 10 0))
set_option maxRecDepth 100000 in
theorem tX1_dropTrials_0 {A B : Me} {k : Nat} {H : Heap} {locs : List Loc} {ls : Array Slot}  {rZ : Int32} {AZ : Me}  (C : Cx Γ p s m args meth c cX1_dropTrials 2 (some .int) RX1 wsX1_dropTrials) (hk : kd k = 1)  (h : fX1_dropTrials A k = some (rZ, AZ))  (hW : Wd Γ A B s.heap H locs) (hl : lv_has ls 2 [(0, .ref (Γ.2.2 k))]) : W p l e rmX1_dropTrials s m args below meth c H locs 0 0 (MQ below (QI Γ AZ B rZ) args s 0 0 (rg Γ)) (F0 m 0 ls []) := by
  unfold fX1_dropTrials at h
  refine lv_aload_n C.1 C.2.1 dX1_dropTrials_0 rfl (lv_at hl 0 rfl) ?_
  refine gX1_9 C hW hk iX1_dropTrials_c1 wX1_dropTrials_0 dX1_dropTrials_1 ?_
  refine lv_istore_n (lv' := [(1, .int (A k 9)), (0, .ref (Γ.2.2 k))]) C.1 C.2.1 dX1_dropTrials_4 rfl hl (by decide) rfl (fun ls hl => ?_)
  refine lv_aload_n C.1 C.2.1 dX1_dropTrials_5 rfl (lv_at hl 1 rfl) ?_
  refine lv_iconst (v := 0) C.1 C.2.1 dX1_dropTrials_6 (by decide) ?_
  refine pX1_9 C hW hk iX1_dropTrials_c1 wX1_dropTrials_0 dX1_dropTrials_7 (fun H locs hW => ?_)
  refine lv_aload_n C.1 C.2.1 dX1_dropTrials_10 rfl (lv_at hl 1 rfl) ?_
  refine lv_iconst (v := 0) C.1 C.2.1 dX1_dropTrials_11 (by decide) ?_
  refine pX1_10 C hW hk iX1_dropTrials_c1 wX1_dropTrials_1 dX1_dropTrials_12 (fun H locs hW => ?_)
  refine lv_iload_n C.1 C.2.1 dX1_dropTrials_15 rfl (lv_at hl 0 rfl) ?_
  cases h
  exact z_iret C hW dX1_dropTrials_16
theorem mt_X1_dropTrials {l : Launch} {Γ : Gm} {A B : Me} {k : Nat}  {rZ : Int32} {AZ : Me} (hk : kd k = 1) (h : fX1_dropTrials A k = some (rZ, AZ)) : Met l yX1_dropTrials wsX1_dropTrials rmX1_dropTrials (PC Γ A B [.ref (Γ.2.2 k)]) (QI Γ AZ B rZ) 0 0 (rg Γ) :=
  met_of (by decide) rfl (Nat.le_of_ble_eq_true rfl) (fun p e s m below meth c ls C hW hl => tX1_dropTrials_0 C hk h  hW (lv_sub (l := [(0, .ref (Γ.2.2 k))]) hl [0] rfl))
abbrev rmX2_digitAt : Room := { frames := 0, cells := 0, slots := 0, locals := 0 }
set_option maxRecDepth 100000 in
theorem iX2_digitAt_c2 : ∀ w ∈ wsX20, w ∈ wsX2_digitAt := by decide +kernel
set_option maxRecDepth 100000 in
theorem wX2_digitAt_0 : Cond.fieldLink RX2 13 "WineByYears$Page" "length" "I" ∈ wsX2_digitAt := by decide +kernel
set_option maxRecDepth 100000 in
theorem wX2_digitAt_1 : Cond.fieldLink RX2 9 "WineByYears$Page" "codes" "[I" ∈ wsX2_digitAt := by decide +kernel
def fX2_digitAt_25  (A : Me) (k : Nat) (t0 : Int32) : Option (Int32) := some t0
set_option maxRecDepth 100000 in
theorem tX2_digitAt_25 {A B : Me} {k : Nat} {H : Heap} {locs : List Loc} {ls : Array Slot} {t0 : Int32} {rZ : Int32}  (C : Cx Γ p s m args meth c cX2_digitAt 2 (some .int) RX2 wsX2_digitAt) (hk : kd k = 2)  (h : fX2_digitAt_25 A k t0 = some rZ)  (hW : Wd Γ A B s.heap H locs) (hl : lv_has ls 2 []) : W p l e rmX2_digitAt s m args below meth c H locs 0 0 (MQ below (QI Γ A B rZ) args s 0 0 (rg Γ)) (F0 m 25 ls [.int t0]) := by
  unfold fX2_digitAt_25 at h
  cases h
  exact z_iret C hW dX2_digitAt_25
def fX2_digitAt_24  (A : Me) (k : Nat)  : Option (Int32) := fX2_digitAt_25 A k 0
set_option maxRecDepth 100000 in
theorem tX2_digitAt_24 {A B : Me} {k : Nat} {H : Heap} {locs : List Loc} {ls : Array Slot}  {rZ : Int32}  (C : Cx Γ p s m args meth c cX2_digitAt 2 (some .int) RX2 wsX2_digitAt) (hk : kd k = 2)  (h : fX2_digitAt_24 A k = some rZ)  (hW : Wd Γ A B s.heap H locs) (hl : lv_has ls 2 []) : W p l e rmX2_digitAt s m args below meth c H locs 0 0 (MQ below (QI Γ A B rZ) args s 0 0 (rg Γ)) (F0 m 24 ls []) := by
  unfold fX2_digitAt_24 at h
  refine lv_iconst (v := 0) C.1 C.2.1 dX2_digitAt_24 (by decide) ?_
  exact tX2_digitAt_25 C hk h  hW (lv_sub hl [] rfl)
def fX2_digitAt  (A : Me) (k : Nat) (v1 : Int32) : Option (Int32) := if v1 < 0 then (fX2_digitAt_24 A k) else (if (A k 1) ≤ v1 then (fX2_digitAt_24 A k) else (ck (inb v1 18) <| fX2_digitAt_25 A k ((A (k + 1) v1.toNatClampNeg) - 48)))
set_option maxRecDepth 100000 in
theorem tX2_digitAt_0 {A B : Me} {k : Nat} {H : Heap} {locs : List Loc} {ls : Array Slot} {v1 : Int32} {rZ : Int32}  (C : Cx Γ p s m args meth c cX2_digitAt 2 (some .int) RX2 wsX2_digitAt) (hk : kd k = 2)  (h : fX2_digitAt A k v1 = some rZ)  (hW : Wd Γ A B s.heap H locs) (hl : lv_has ls 2 [(0, .ref (Γ.2.2 k)), (1, .int v1)]) : W p l e rmX2_digitAt s m args below meth c H locs 0 0 (MQ below (QI Γ A B rZ) args s 0 0 (rg Γ)) (F0 m 0 ls []) := by
  unfold fX2_digitAt at h
  refine lv_iload_n C.1 C.2.1 dX2_digitAt_0 rfl (lv_at hl 1 rfl) ?_
  refine lv_if_lt (tgt := 24) C.1 C.2.1 dX2_digitAt_1 (by decide) (fun c_1 => ?_) (fun c_1 => ?_)
  · have h := if_y h c_1
    exact tX2_digitAt_24 C hk h  hW (lv_sub hl [] rfl)
  · have h := if_n h c_1
    refine lv_iload_n C.1 C.2.1 dX2_digitAt_4 rfl (lv_at hl 1 rfl) ?_
    refine lv_aload_n C.1 C.2.1 dX2_digitAt_5 rfl (lv_at hl 0 rfl) ?_
    refine gX2_1 C hW hk iX2_digitAt_c2 wX2_digitAt_0 dX2_digitAt_6 ?_
    refine lv_icmp_ge (tgt := 24) C.1 C.2.1 dX2_digitAt_9 (by decide) (fun c_9 => ?_) (fun c_9 => ?_)
    · have h := if_y h c_9
      exact tX2_digitAt_24 C hk h  hW (lv_sub hl [] rfl)
    · have h := if_n h c_9
      refine lv_aload_n C.1 C.2.1 dX2_digitAt_12 rfl (lv_at hl 0 rfl) ?_
      refine gX2_0 C hW hk iX2_digitAt_c2 wX2_digitAt_1 dX2_digitAt_13 ?_
      refine lv_iload_n C.1 C.2.1 dX2_digitAt_16 rfl (lv_at hl 1 rfl) ?_
      obtain ⟨hi17, h⟩ := ck_s h
      refine la6 C hW (kd_2r hk) hi17 dX2_digitAt_17 ?_
      refine lv_bipush (v := 48) C.1 C.2.1 dX2_digitAt_18 (by decide) ?_
      refine lv_isub C.1 C.2.1 dX2_digitAt_20 ?_
      refine lv_goto (tgt := 25) C.1 C.2.1 dX2_digitAt_21 (by decide) ?_
      exact tX2_digitAt_25 C hk h  hW (lv_sub hl [] rfl)
theorem mt_X2_digitAt {l : Launch} {Γ : Gm} {A B : Me} {k : Nat} {v1 : Int32} {rZ : Int32} (hk : kd k = 2) (h : fX2_digitAt A k v1 = some rZ) : Met l yX2_digitAt wsX2_digitAt rmX2_digitAt (PC Γ A B [.ref (Γ.2.2 k), .int v1]) (QI Γ A B rZ) 0 0 (rg Γ) :=
  met_of (by decide) rfl (Nat.le_of_ble_eq_true rfl) (fun p e s m below meth c ls C hW hl => tX2_digitAt_0 C hk h  hW (lv_sub (l := [(0, .ref (Γ.2.2 k)), (1, .int v1)]) hl [0, 1] rfl))
abbrev rmX1_readFrom : Room := { frames := 1, cells := 0, slots := 0, locals := 25 }
set_option maxRecDepth 100000 in
theorem iX1_readFrom_c1 : ∀ w ∈ wsX10, w ∈ wsX1_readFrom := by decide +kernel
set_option maxRecDepth 100000 in
theorem wX1_readFrom_0 : Cond.fieldLink RX1 40 "WineByYears$Cellar" "law" "I" ∈ wsX1_readFrom := by decide +kernel
set_option maxRecDepth 100000 in
theorem wX1_readFrom_1 : Cond.methodLink RX1 44 Lib.Math.min.name ∈ wsX1_readFrom := by decide +kernel
set_option maxRecDepth 100000 in
theorem wX1_readFrom_2 : Cond.static Lib.Math.min.name ∈ wsX1_readFrom := by decide +kernel
set_option maxRecDepth 100000 in
theorem wX1_readFrom_3 : Cond.initialized "java/lang/Math" ∈ wsX1_readFrom := by decide +kernel
set_option maxRecDepth 100000 in
theorem wX1_readFrom_4 : Cond.code Lib.Math.min.name Lib.Math.min.code 2 (some .int) ∈ wsX1_readFrom := by decide +kernel
set_option maxRecDepth 100000 in
theorem wX1_readFrom_5 : Cond.fieldLink RX1 50 "WineByYears$Cellar" "caskCount" "I" ∈ wsX1_readFrom := by decide +kernel
set_option maxRecDepth 100000 in
theorem wX1_readFrom_6 : Cond.fieldLink RX1 11 "WineByYears$Cellar" "casks" "[LWineByYears$Cask;" ∈ wsX1_readFrom := by decide +kernel
set_option maxRecDepth 100000 in
theorem wX1_readFrom_7 : Cond.fieldLink RX1 60 "WineByYears$Cellar" "peopleCount" "I" ∈ wsX1_readFrom := by decide +kernel
def fX1_readFrom_42  (k : Nat) : Nat → Me → Nat → Int32 → Option (Me)
  | 0, _, _, _ => none
  | n + 1, A, k1, v3 => if (A k 7) ≤ v3 then (b2 (fX1_dropTrials (up2 A k 8 0) k) fun r92 A92 => some A92) else (ck (inb v3 5) <| bi (fX2_digitAt A k1 (2 + (3 * v3))) fun r66 => bi (fX2_digitAt A k1 ((2 + (3 * v3)) + 1)) fun r74 => bi (fX0_put A (k + 1 + 6 + 2 * v3.toNatClampNeg) r66 r74) fun A77 => fX1_readFrom_42 k n A77 k1 (v3 + 1))
set_option maxRecDepth 100000 in
theorem tX1_readFrom_42 {B : Me} {k : Nat} {AZ : Me}  (C : Cx Γ p s m args meth c cX1_readFrom 5 none RX1 wsX1_readFrom) (hk : kd k = 1)  (n : Nat) : ∀ (A : Me) (k1 : Nat) (v3 : Int32) (H : Heap) (locs : List Loc) (ls : Array Slot), fX1_readFrom_42 k n A k1 v3 = some AZ → kd k1 = 2 → Wd Γ A B s.heap H locs → lv_has ls 5 [(0, .ref (Γ.2.2 k)), (1, .ref (Γ.2.2 k1)), (3, .int v3)] → W p l e rmX1_readFrom s m args below meth c H locs 0 0 (MQ below (QV Γ AZ B) args s 0 0 (rg Γ)) (F0 m 42 ls []) := by
  induction n with
  | zero =>
    intro _ _ _ H locs ls h
    exact nomatch (show (none : Option (Me)) = some AZ from h)
  | succ n ih =>
    intro A k1 v3 H locs ls h hk1 hW hl
    rw [fX1_readFrom_42] at h
    refine lv_iload_n C.1 C.2.1 dX1_readFrom_42 rfl (lv_at hl 2 rfl) ?_
    refine lv_aload_n C.1 C.2.1 dX1_readFrom_43 rfl (lv_at hl 0 rfl) ?_
    refine gX1_7 C hW hk iX1_readFrom_c1 wX1_readFrom_5 dX1_readFrom_44 ?_
    refine lv_icmp_ge (tgt := 86) C.1 C.2.1 dX1_readFrom_47 (by decide) (fun c_47 => ?_) (fun c_47 => ?_)
    · have h := if_y h c_47
      refine lv_aload_n C.1 C.2.1 dX1_readFrom_86 rfl (lv_at hl 0 rfl) ?_
      refine lv_iconst (v := 0) C.1 C.2.1 dX1_readFrom_87 (by decide) ?_
      refine pX1_8 C hW hk iX1_readFrom_c1 wX1_readFrom_7 dX1_readFrom_88 (fun H locs hW => ?_)
      refine lv_aload_n C.1 C.2.1 dX1_readFrom_91 rfl (lv_at hl 0 rfl) ?_
      obtain ⟨r92, A92, hc92, h⟩ := b2_s h
      refine cVi C hW (As := []) (rest := []) (mt_X1_dropTrials hk hc92) (cwV 0 C.2.2.2.2.2.1 gX1_readFrom_X1_dropTrials rfl rfl rfl (by decide +kernel) ⟨Nat.le_of_ble_eq_true rfl, Nat.le_of_ble_eq_true rfl⟩) (rcv1 C hW hk) rfl hl.1 rfl (Nat.le_of_ble_eq_true rfl) dX1_readFrom_92 (Nat.zero_le _) (Nat.zero_le _) (fun H locs hW => ?_)
      refine lv_pop C.1 C.2.1 dX1_readFrom_95 rfl ?_
      cases h
      exact z_vret C hW dX1_readFrom_96
    · have h := if_n h c_47
      refine lv_iconst (v := 2) C.1 C.2.1 dX1_readFrom_50 (by decide) ?_
      refine lv_iconst (v := 3) C.1 C.2.1 dX1_readFrom_51 (by decide) ?_
      refine lv_iload_n C.1 C.2.1 dX1_readFrom_52 rfl (lv_at hl 2 rfl) ?_
      refine lv_imul C.1 C.2.1 dX1_readFrom_53 ?_
      refine lv_iadd C.1 C.2.1 dX1_readFrom_54 ?_
      refine lv_istore (lv' := [(4, .int (2 + (3 * v3))), (0, .ref (Γ.2.2 k)), (1, .ref (Γ.2.2 k1)), (3, .int v3)]) C.1 C.2.1 dX1_readFrom_55 hl (by decide) rfl (fun ls hl => ?_)
      refine lv_aload_n C.1 C.2.1 dX1_readFrom_57 rfl (lv_at hl 1 rfl) ?_
      refine gX1_0 C hW hk iX1_readFrom_c1 wX1_readFrom_6 dX1_readFrom_58 ?_
      refine lv_iload_n C.1 C.2.1 dX1_readFrom_61 rfl (lv_at hl 3 rfl) ?_
      obtain ⟨hi62, h⟩ := ck_s h
      refine la7 C hW (kd_1r hk).1 hi62 dX1_readFrom_62 ?_
      refine lv_aload_n C.1 C.2.1 dX1_readFrom_63 rfl (lv_at hl 2 rfl) ?_
      refine lv_iload C.1 C.2.1 dX1_readFrom_64 (lv_at hl 0 rfl) ?_
      obtain ⟨r66, hc66, h⟩ := bi_s h
      refine cVi C hW (As := [.int (2 + (3 * v3))]) (rest := [.ref (Γ.2.2 (k + 1 + 6 + 2 * v3.toNatClampNeg))]) (mt_X2_digitAt hk1 hc66) (cwV 1 C.2.2.2.2.2.1 gX1_readFrom_X2_digitAt rfl rfl rfl (by decide +kernel) ⟨Nat.le_of_ble_eq_true rfl, Nat.le_of_ble_eq_true rfl⟩) (rcv2 C hW hk1) rfl hl.1 rfl (Nat.le_of_ble_eq_true rfl) dX1_readFrom_66 (Nat.zero_le _) (Nat.zero_le _) (fun H locs hW => ?_)
      refine lv_aload_n C.1 C.2.1 dX1_readFrom_69 rfl (lv_at hl 2 rfl) ?_
      refine lv_iload C.1 C.2.1 dX1_readFrom_70 (lv_at hl 0 rfl) ?_
      refine lv_iconst (v := 1) C.1 C.2.1 dX1_readFrom_72 (by decide) ?_
      refine lv_iadd C.1 C.2.1 dX1_readFrom_73 ?_
      obtain ⟨r74, hc74, h⟩ := bi_s h
      refine cVi C hW (As := [.int ((2 + (3 * v3)) + 1)]) (rest := [.int r66, .ref (Γ.2.2 (k + 1 + 6 + 2 * v3.toNatClampNeg))]) (mt_X2_digitAt hk1 hc74) (cwV 1 C.2.2.2.2.2.1 gX1_readFrom_X2_digitAt rfl rfl rfl (by decide +kernel) ⟨Nat.le_of_ble_eq_true rfl, Nat.le_of_ble_eq_true rfl⟩) (rcv2 C hW hk1) rfl hl.1 rfl (Nat.le_of_ble_eq_true rfl) dX1_readFrom_74 (Nat.zero_le _) (Nat.zero_le _) (fun H locs hW => ?_)
      obtain ⟨A77, hc77, h⟩ := bi_s h
      refine cVv C hW (As := [.int r66, .int r74]) (rest := []) (mt_X0_put (kd_7e (kd_1r hk).1.1 (inb_s hi62) rfl) hc77) (cwV 2 C.2.2.2.2.2.1 gX1_readFrom_X0_put rfl rfl rfl (by decide +kernel) ⟨Nat.le_of_ble_eq_true rfl, Nat.le_of_ble_eq_true rfl⟩) (rcv0 C hW (kd_7e (kd_1r hk).1.1 (inb_s hi62) rfl)) rfl hl.1 rfl (Nat.le_of_ble_eq_true rfl) dX1_readFrom_77 (Nat.zero_le _) (Nat.zero_le _) (fun H locs hW => ?_)
      refine lv_iinc (v := (v3 + 1)) (lv' := [(3, .int (v3 + 1)), (4, .int (2 + (3 * v3))), (0, .ref (Γ.2.2 k)), (1, .ref (Γ.2.2 k1))]) C.1 C.2.1 dX1_readFrom_80 hl (k := 3) rfl rfl (by decide) rfl (fun ls hl => ?_)
      refine lv_goto (tgt := 42) C.1 C.2.1 dX1_readFrom_83 (by decide) ?_
      exact ih _ _ _ _ _ _ h hk1 hW (lv_sub hl [2, 3, 0] rfl)
def fX1_readFrom_20  (k : Nat) : Nat → Me → Nat → Int32 → Option (Me)
  | 0, _, _, _ => none
  | n + 1, A, k1, v3 => if 5 ≤ v3 then (fX1_readFrom_42 k FU A k1 0) else (ck (inb v3 5) <| bi (fX0_drain A (k + 1 + 6 + 2 * v3.toNatClampNeg)) fun A31 => fX1_readFrom_20 k n A31 k1 (v3 + 1))
set_option maxRecDepth 100000 in
theorem tX1_readFrom_20 {B : Me} {k : Nat} {AZ : Me}  (C : Cx Γ p s m args meth c cX1_readFrom 5 none RX1 wsX1_readFrom) (hk : kd k = 1)  (n : Nat) : ∀ (A : Me) (k1 : Nat) (v3 : Int32) (H : Heap) (locs : List Loc) (ls : Array Slot), fX1_readFrom_20 k n A k1 v3 = some AZ → kd k1 = 2 → Wd Γ A B s.heap H locs → lv_has ls 5 [(0, .ref (Γ.2.2 k)), (1, .ref (Γ.2.2 k1)), (3, .int v3)] → W p l e rmX1_readFrom s m args below meth c H locs 0 0 (MQ below (QV Γ AZ B) args s 0 0 (rg Γ)) (F0 m 20 ls []) := by
  induction n with
  | zero =>
    intro _ _ _ H locs ls h
    exact nomatch (show (none : Option (Me)) = some AZ from h)
  | succ n ih =>
    intro A k1 v3 H locs ls h hk1 hW hl
    rw [fX1_readFrom_20] at h
    refine lv_iload_n C.1 C.2.1 dX1_readFrom_20 rfl (lv_at hl 2 rfl) ?_
    refine lv_iconst (v := 5) C.1 C.2.1 dX1_readFrom_21 (by decide) ?_
    refine lv_icmp_ge (tgt := 40) C.1 C.2.1 dX1_readFrom_22 (by decide) (fun c_22 => ?_) (fun c_22 => ?_)
    · have h := if_y h c_22
      refine lv_iconst (v := 0) C.1 C.2.1 dX1_readFrom_40 (by decide) ?_
      refine lv_istore_n (lv' := [(3, .int 0), (0, .ref (Γ.2.2 k)), (1, .ref (Γ.2.2 k1))]) C.1 C.2.1 dX1_readFrom_41 rfl hl (by decide) rfl (fun ls hl => ?_)
      exact tX1_readFrom_42 C hk FU _ _ _ _ _ _ h hk1 hW (lv_sub hl [1, 2, 0] rfl)
    · have h := if_n h c_22
      refine lv_aload_n C.1 C.2.1 dX1_readFrom_25 rfl (lv_at hl 0 rfl) ?_
      refine gX1_0 C hW hk iX1_readFrom_c1 wX1_readFrom_6 dX1_readFrom_26 ?_
      refine lv_iload_n C.1 C.2.1 dX1_readFrom_29 rfl (lv_at hl 2 rfl) ?_
      obtain ⟨hi30, h⟩ := ck_s h
      refine la7 C hW (kd_1r hk).1 hi30 dX1_readFrom_30 ?_
      obtain ⟨A31, hc31, h⟩ := bi_s h
      refine cVv C hW (As := []) (rest := []) (mt_X0_drain (kd_7e (kd_1r hk).1.1 (inb_s hi30) rfl) hc31) (cwV 0 C.2.2.2.2.2.1 gX1_readFrom_X0_drain rfl rfl rfl (by decide +kernel) ⟨Nat.le_of_ble_eq_true rfl, Nat.le_of_ble_eq_true rfl⟩) (rcv0 C hW (kd_7e (kd_1r hk).1.1 (inb_s hi30) rfl)) rfl hl.1 rfl (Nat.le_of_ble_eq_true rfl) dX1_readFrom_31 (Nat.zero_le _) (Nat.zero_le _) (fun H locs hW => ?_)
      refine lv_iinc (v := (v3 + 1)) (lv' := [(3, .int (v3 + 1)), (0, .ref (Γ.2.2 k)), (1, .ref (Γ.2.2 k1))]) C.1 C.2.1 dX1_readFrom_34 hl (k := 2) rfl rfl (by decide) rfl (fun ls hl => ?_)
      refine lv_goto (tgt := 20) C.1 C.2.1 dX1_readFrom_37 (by decide) ?_
      exact ih _ _ _ _ _ _ h hk1 hW (lv_sub hl [1, 2, 0] rfl)
def fX1_readFrom  (A : Me) (k : Nat) (k1 : Nat) (v2 : Int32) : Option (Me) := bi (fX2_digitAt A k1 0) fun r3 => fX1_readFrom_20 k FU (up2 (up2 A k 6 r3) k 7 (if 5 < v2 then 5 else v2)) k1 0
set_option maxRecDepth 100000 in
theorem tX1_readFrom_0 {A B : Me} {k : Nat} {H : Heap} {locs : List Loc} {ls : Array Slot} {k1 : Nat} {v2 : Int32} {AZ : Me}  (C : Cx Γ p s m args meth c cX1_readFrom 5 none RX1 wsX1_readFrom) (hk : kd k = 1)  (h : fX1_readFrom A k k1 v2 = some AZ) (hk1 : kd k1 = 2) (hW : Wd Γ A B s.heap H locs) (hl : lv_has ls 5 [(0, .ref (Γ.2.2 k)), (1, .ref (Γ.2.2 k1)), (2, .int v2)]) : W p l e rmX1_readFrom s m args below meth c H locs 0 0 (MQ below (QV Γ AZ B) args s 0 0 (rg Γ)) (F0 m 0 ls []) := by
  unfold fX1_readFrom at h
  refine lv_aload_n C.1 C.2.1 dX1_readFrom_0 rfl (lv_at hl 0 rfl) ?_
  refine lv_aload_n C.1 C.2.1 dX1_readFrom_1 rfl (lv_at hl 1 rfl) ?_
  refine lv_iconst (v := 0) C.1 C.2.1 dX1_readFrom_2 (by decide) ?_
  obtain ⟨r3, hc3, h⟩ := bi_s h
  refine cVi C hW (As := [.int 0]) (rest := [.ref (Γ.2.2 k)]) (mt_X2_digitAt hk1 hc3) (cwV 1 C.2.2.2.2.2.1 gX1_readFrom_X2_digitAt rfl rfl rfl (by decide +kernel) ⟨Nat.le_of_ble_eq_true rfl, Nat.le_of_ble_eq_true rfl⟩) (rcv2 C hW hk1) rfl hl.1 rfl (Nat.le_of_ble_eq_true rfl) dX1_readFrom_3 (Nat.zero_le _) (Nat.zero_le _) (fun H locs hW => ?_)
  refine pX1_6 C hW hk iX1_readFrom_c1 wX1_readFrom_0 dX1_readFrom_6 (fun H locs hW => ?_)
  refine lv_aload_n C.1 C.2.1 dX1_readFrom_9 rfl (lv_at hl 0 rfl) ?_
  refine lv_iload_n C.1 C.2.1 dX1_readFrom_10 rfl (lv_at hl 2 rfl) ?_
  refine lv_iconst (v := 5) C.1 C.2.1 dX1_readFrom_11 (by decide) ?_
  refine va_mmin C.1 C.2.1 (C.2.2.2.1.trans hl.1.symm) C.2.2.2.2.1 (C.2.2.2.2.2.1 _ wX1_readFrom_1) (C.2.2.2.2.2.1 _ wX1_readFrom_2) (C.2.2.2.2.2.1 _ wX1_readFrom_3) (C.2.2.2.2.2.1 _ wX1_readFrom_4) (by decide) (Nat.le_of_ble_eq_true rfl) (Nat.zero_le _) (Nat.zero_le _) dX1_readFrom_12 ?_
  refine pX1_7 C hW hk iX1_readFrom_c1 wX1_readFrom_5 dX1_readFrom_15 (fun H locs hW => ?_)
  refine lv_iconst (v := 0) C.1 C.2.1 dX1_readFrom_18 (by decide) ?_
  refine lv_istore_n (lv' := [(3, .int 0), (0, .ref (Γ.2.2 k)), (1, .ref (Γ.2.2 k1)), (2, .int v2)]) C.1 C.2.1 dX1_readFrom_19 rfl hl (by decide) rfl (fun ls hl => ?_)
  exact tX1_readFrom_20 C hk FU _ _ _ _ _ _ h hk1 hW (lv_sub hl [1, 2, 0] rfl)
theorem mt_X1_readFrom {l : Launch} {Γ : Gm} {A B : Me} {k : Nat} {k1 : Nat} {v2 : Int32} {AZ : Me} (hk : kd k = 1) (hk1 : kd k1 = 2) (h : fX1_readFrom A k k1 v2 = some AZ) : Met l yX1_readFrom wsX1_readFrom rmX1_readFrom (PC Γ A B [.ref (Γ.2.2 k), .ref (Γ.2.2 k1), .int v2]) (QV Γ AZ B) 0 0 (rg Γ) :=
  met_of (by decide) rfl (Nat.le_of_ble_eq_true rfl) (fun p e s m below meth c ls C hW hl => tX1_readFrom_0 C hk h hk1 hW (lv_sub (l := [(0, .ref (Γ.2.2 k)), (1, .ref (Γ.2.2 k1)), (2, .int v2)]) hl [0, 1, 2] rfl))
abbrev rmX1_become : Room := { frames := 3, cells := 0, slots := 0, locals := 65 }
set_option maxRecDepth 100000 in
theorem iX1_become_c1 : ∀ w ∈ wsX10, w ∈ wsX1_become := by decide +kernel
set_option maxRecDepth 100000 in
theorem wX1_become_0 : Cond.fieldLink RX1 40 "WineByYears$Cellar" "law" "I" ∈ wsX1_become := by decide +kernel
set_option maxRecDepth 100000 in
theorem wX1_become_1 : Cond.fieldLink RX1 50 "WineByYears$Cellar" "caskCount" "I" ∈ wsX1_become := by decide +kernel
set_option maxRecDepth 100000 in
theorem wX1_become_2 : Cond.fieldLink RX1 60 "WineByYears$Cellar" "peopleCount" "I" ∈ wsX1_become := by decide +kernel
set_option maxRecDepth 100000 in
theorem wX1_become_3 : Cond.fieldLink RX1 17 "WineByYears$Cellar" "kinds" "[I" ∈ wsX1_become := by decide +kernel
set_option maxRecDepth 100000 in
theorem wX1_become_4 : Cond.methodLink RX1 71 arraycopyName ∈ wsX1_become := by decide +kernel
set_option maxRecDepth 100000 in
theorem wX1_become_5 : Cond.native arraycopyName ∈ wsX1_become := by decide +kernel
set_option maxRecDepth 100000 in
theorem wX1_become_6 : Cond.static arraycopyName ∈ wsX1_become := by decide +kernel
set_option maxRecDepth 100000 in
theorem wX1_become_7 : Cond.initialized "java/lang/System" ∈ wsX1_become := by decide +kernel
set_option maxRecDepth 100000 in
theorem wX1_become_8 : Cond.fieldLink RX1 21 "WineByYears$Cellar" "borns" "[I" ∈ wsX1_become := by decide +kernel
set_option maxRecDepth 100000 in
theorem wX1_become_9 : Cond.fieldLink RX1 24 "WineByYears$Cellar" "ills" "[I" ∈ wsX1_become := by decide +kernel
set_option maxRecDepth 100000 in
theorem wX1_become_10 : Cond.fieldLink RX1 77 "WineByYears$Cellar" "trialCount" "I" ∈ wsX1_become := by decide +kernel
set_option maxRecDepth 100000 in
theorem wX1_become_11 : Cond.fieldLink RX1 80 "WineByYears$Cellar" "trialIllBits" "I" ∈ wsX1_become := by decide +kernel
set_option maxRecDepth 100000 in
theorem wX1_become_12 : Cond.fieldLink RX1 27 "WineByYears$Cellar" "trialCasks" "[I" ∈ wsX1_become := by decide +kernel
set_option maxRecDepth 100000 in
theorem wX1_become_13 : Cond.fieldLink RX1 11 "WineByYears$Cellar" "casks" "[LWineByYears$Cask;" ∈ wsX1_become := by decide +kernel
def fX1_become_18  (k : Nat) : Nat → Me → Nat → Int32 → Option (Me)
  | 0, _, _, _ => none
  | n + 1, A, k1, v2 => if 5 ≤ v2 then (some (cpa (up2 (up2 (cpa (cpa (cpa (up2 A k 8 (A k1 8)) (k1 + 2) (k + 2) (5 : Int32).toNatClampNeg) (k1 + 3) (k + 3) (5 : Int32).toNatClampNeg) (k1 + 4) (k + 4) (5 : Int32).toNatClampNeg) k 9 ((cpa (cpa (cpa (up2 A k 8 (A k1 8)) (k1 + 2) (k + 2) (5 : Int32).toNatClampNeg) (k1 + 3) (k + 3) (5 : Int32).toNatClampNeg) (k1 + 4) (k + 4) (5 : Int32).toNatClampNeg) k1 9)) k 10 ((up2 (cpa (cpa (cpa (up2 A k 8 (A k1 8)) (k1 + 2) (k + 2) (5 : Int32).toNatClampNeg) (k1 + 3) (k + 3) (5 : Int32).toNatClampNeg) (k1 + 4) (k + 4) (5 : Int32).toNatClampNeg) k 9 ((cpa (cpa (cpa (up2 A k 8 (A k1 8)) (k1 + 2) (k + 2) (5 : Int32).toNatClampNeg) (k1 + 3) (k + 3) (5 : Int32).toNatClampNeg) (k1 + 4) (k + 4) (5 : Int32).toNatClampNeg) k1 9)) k1 10)) (k1 + 5) (k + 5) (8 : Int32).toNatClampNeg)) else (ck (inb v2 5) <| ck (inb v2 5) <| bi (fX0_become A (k + 1 + 6 + 2 * v2.toNatClampNeg) (k1 + 1 + 6 + 2 * v2.toNatClampNeg)) fun A35 => fX1_become_18 k n A35 k1 (v2 + 1))
set_option maxRecDepth 100000 in
theorem tX1_become_18 {B : Me} {k : Nat} {AZ : Me}  (C : Cx Γ p s m args meth c cX1_become 3 none RX1 wsX1_become) (hk : kd k = 1)  (n : Nat) : ∀ (A : Me) (k1 : Nat) (v2 : Int32) (H : Heap) (locs : List Loc) (ls : Array Slot), fX1_become_18 k n A k1 v2 = some AZ → kd k1 = 1 → Wd Γ A B s.heap H locs → lv_has ls 3 [(0, .ref (Γ.2.2 k)), (1, .ref (Γ.2.2 k1)), (2, .int v2)] → W p l e rmX1_become s m args below meth c H locs 0 0 (MQ below (QV Γ AZ B) args s 0 0 (rg Γ)) (F0 m 18 ls []) := by
  induction n with
  | zero =>
    intro _ _ _ H locs ls h
    exact nomatch (show (none : Option (Me)) = some AZ from h)
  | succ n ih =>
    intro A k1 v2 H locs ls h hk1 hW hl
    rw [fX1_become_18] at h
    refine lv_iload_n C.1 C.2.1 dX1_become_18 rfl (lv_at hl 2 rfl) ?_
    refine lv_iconst (v := 5) C.1 C.2.1 dX1_become_19 (by decide) ?_
    refine lv_icmp_ge (tgt := 44) C.1 C.2.1 dX1_become_20 (by decide) (fun c_20 => ?_) (fun c_20 => ?_)
    · have h := if_y h c_20
      refine lv_aload_n C.1 C.2.1 dX1_become_44 rfl (lv_at hl 0 rfl) ?_
      refine lv_aload_n C.1 C.2.1 dX1_become_45 rfl (lv_at hl 1 rfl) ?_
      refine gX1_8 C hW hk1 iX1_become_c1 wX1_become_2 dX1_become_46 ?_
      refine pX1_8 C hW hk iX1_become_c1 wX1_become_2 dX1_become_49 (fun H locs hW => ?_)
      refine lv_aload_n C.1 C.2.1 dX1_become_52 rfl (lv_at hl 1 rfl) ?_
      refine gX1_1 C hW hk1 iX1_become_c1 wX1_become_3 dX1_become_53 ?_
      refine lv_iconst (v := 0) C.1 C.2.1 dX1_become_56 (by decide) ?_
      refine lv_aload_n C.1 C.2.1 dX1_become_57 rfl (lv_at hl 0 rfl) ?_
      refine gX1_1 C hW hk iX1_become_c1 wX1_become_3 dX1_become_58 ?_
      refine lv_iconst (v := 0) C.1 C.2.1 dX1_become_61 (by decide) ?_
      refine lv_iconst (v := 5) C.1 C.2.1 dX1_become_62 (by decide) ?_
      refine cp6 C hW (kd_1r hk1).2.1 (kd_1r hk).2.1 hl.1 (by decide) (by decide) (by decide) wX1_become_4 wX1_become_5 wX1_become_6 wX1_become_7 (by decide) (Nat.le_of_ble_eq_true rfl) dX1_become_63 (fun H locs hW => ?_)
      refine lv_aload_n C.1 C.2.1 dX1_become_66 rfl (lv_at hl 1 rfl) ?_
      refine gX1_2 C hW hk1 iX1_become_c1 wX1_become_8 dX1_become_67 ?_
      refine lv_iconst (v := 0) C.1 C.2.1 dX1_become_70 (by decide) ?_
      refine lv_aload_n C.1 C.2.1 dX1_become_71 rfl (lv_at hl 0 rfl) ?_
      refine gX1_2 C hW hk iX1_become_c1 wX1_become_8 dX1_become_72 ?_
      refine lv_iconst (v := 0) C.1 C.2.1 dX1_become_75 (by decide) ?_
      refine lv_iconst (v := 5) C.1 C.2.1 dX1_become_76 (by decide) ?_
      refine cp6 C hW (kd_1r hk1).2.2.1 (kd_1r hk).2.2.1 hl.1 (by decide) (by decide) (by decide) wX1_become_4 wX1_become_5 wX1_become_6 wX1_become_7 (by decide) (Nat.le_of_ble_eq_true rfl) dX1_become_77 (fun H locs hW => ?_)
      refine lv_aload_n C.1 C.2.1 dX1_become_80 rfl (lv_at hl 1 rfl) ?_
      refine gX1_3 C hW hk1 iX1_become_c1 wX1_become_9 dX1_become_81 ?_
      refine lv_iconst (v := 0) C.1 C.2.1 dX1_become_84 (by decide) ?_
      refine lv_aload_n C.1 C.2.1 dX1_become_85 rfl (lv_at hl 0 rfl) ?_
      refine gX1_3 C hW hk iX1_become_c1 wX1_become_9 dX1_become_86 ?_
      refine lv_iconst (v := 0) C.1 C.2.1 dX1_become_89 (by decide) ?_
      refine lv_iconst (v := 5) C.1 C.2.1 dX1_become_90 (by decide) ?_
      refine cp6 C hW (kd_1r hk1).2.2.2.1 (kd_1r hk).2.2.2.1 hl.1 (by decide) (by decide) (by decide) wX1_become_4 wX1_become_5 wX1_become_6 wX1_become_7 (by decide) (Nat.le_of_ble_eq_true rfl) dX1_become_91 (fun H locs hW => ?_)
      refine lv_aload_n C.1 C.2.1 dX1_become_94 rfl (lv_at hl 0 rfl) ?_
      refine lv_aload_n C.1 C.2.1 dX1_become_95 rfl (lv_at hl 1 rfl) ?_
      refine gX1_9 C hW hk1 iX1_become_c1 wX1_become_10 dX1_become_96 ?_
      refine pX1_9 C hW hk iX1_become_c1 wX1_become_10 dX1_become_99 (fun H locs hW => ?_)
      refine lv_aload_n C.1 C.2.1 dX1_become_102 rfl (lv_at hl 0 rfl) ?_
      refine lv_aload_n C.1 C.2.1 dX1_become_103 rfl (lv_at hl 1 rfl) ?_
      refine gX1_10 C hW hk1 iX1_become_c1 wX1_become_11 dX1_become_104 ?_
      refine pX1_10 C hW hk iX1_become_c1 wX1_become_11 dX1_become_107 (fun H locs hW => ?_)
      refine lv_aload_n C.1 C.2.1 dX1_become_110 rfl (lv_at hl 1 rfl) ?_
      refine gX1_4 C hW hk1 iX1_become_c1 wX1_become_12 dX1_become_111 ?_
      refine lv_iconst (v := 0) C.1 C.2.1 dX1_become_114 (by decide) ?_
      refine lv_aload_n C.1 C.2.1 dX1_become_115 rfl (lv_at hl 0 rfl) ?_
      refine gX1_4 C hW hk iX1_become_c1 wX1_become_12 dX1_become_116 ?_
      refine lv_iconst (v := 0) C.1 C.2.1 dX1_become_119 (by decide) ?_
      refine lv_bipush (v := 8) C.1 C.2.1 dX1_become_120 (by decide) ?_
      refine cp6 C hW (kd_1r hk1).2.2.2.2.1 (kd_1r hk).2.2.2.2.1 hl.1 (by decide) (by decide) (by decide) wX1_become_4 wX1_become_5 wX1_become_6 wX1_become_7 (by decide) (Nat.le_of_ble_eq_true rfl) dX1_become_122 (fun H locs hW => ?_)
      cases h
      exact z_vret C hW dX1_become_125
    · have h := if_n h c_20
      refine lv_aload_n C.1 C.2.1 dX1_become_23 rfl (lv_at hl 0 rfl) ?_
      refine gX1_0 C hW hk iX1_become_c1 wX1_become_13 dX1_become_24 ?_
      refine lv_iload_n C.1 C.2.1 dX1_become_27 rfl (lv_at hl 2 rfl) ?_
      obtain ⟨hi28, h⟩ := ck_s h
      refine la7 C hW (kd_1r hk).1 hi28 dX1_become_28 ?_
      refine lv_aload_n C.1 C.2.1 dX1_become_29 rfl (lv_at hl 1 rfl) ?_
      refine gX1_0 C hW hk1 iX1_become_c1 wX1_become_13 dX1_become_30 ?_
      refine lv_iload_n C.1 C.2.1 dX1_become_33 rfl (lv_at hl 2 rfl) ?_
      obtain ⟨hi34, h⟩ := ck_s h
      refine la7 C hW (kd_1r hk1).1 hi34 dX1_become_34 ?_
      obtain ⟨A35, hc35, h⟩ := bi_s h
      refine cVv C hW (As := [.ref (Γ.2.2 (k1 + 1 + 6 + 2 * v2.toNatClampNeg))]) (rest := []) (mt_X0_become (kd_7e (kd_1r hk).1.1 (inb_s hi28) rfl) (kd_7e (kd_1r hk1).1.1 (inb_s hi34) rfl) hc35) (cwV 1 C.2.2.2.2.2.1 gX1_become_X0_become rfl rfl rfl (by decide +kernel) ⟨Nat.le_of_ble_eq_true rfl, Nat.le_of_ble_eq_true rfl⟩) (rcv0 C hW (kd_7e (kd_1r hk).1.1 (inb_s hi28) rfl)) rfl hl.1 rfl (Nat.le_of_ble_eq_true rfl) dX1_become_35 (Nat.zero_le _) (Nat.zero_le _) (fun H locs hW => ?_)
      refine lv_iinc (v := (v2 + 1)) (lv' := [(2, .int (v2 + 1)), (0, .ref (Γ.2.2 k)), (1, .ref (Γ.2.2 k1))]) C.1 C.2.1 dX1_become_38 hl (k := 2) rfl rfl (by decide) rfl (fun ls hl => ?_)
      refine lv_goto (tgt := 18) C.1 C.2.1 dX1_become_41 (by decide) ?_
      exact ih _ _ _ _ _ _ h hk1 hW (lv_sub hl [1, 2, 0] rfl)
def fX1_become  (A : Me) (k : Nat) (k1 : Nat) : Option (Me) := fX1_become_18 k FU (up2 (up2 A k 6 (A k1 6)) k 7 ((up2 A k 6 (A k1 6)) k1 7)) k1 0
set_option maxRecDepth 100000 in
theorem tX1_become_0 {A B : Me} {k : Nat} {H : Heap} {locs : List Loc} {ls : Array Slot} {k1 : Nat} {AZ : Me}  (C : Cx Γ p s m args meth c cX1_become 3 none RX1 wsX1_become) (hk : kd k = 1)  (h : fX1_become A k k1 = some AZ) (hk1 : kd k1 = 1) (hW : Wd Γ A B s.heap H locs) (hl : lv_has ls 3 [(0, .ref (Γ.2.2 k)), (1, .ref (Γ.2.2 k1))]) : W p l e rmX1_become s m args below meth c H locs 0 0 (MQ below (QV Γ AZ B) args s 0 0 (rg Γ)) (F0 m 0 ls []) := by
  unfold fX1_become at h
  refine lv_aload_n C.1 C.2.1 dX1_become_0 rfl (lv_at hl 0 rfl) ?_
  refine lv_aload_n C.1 C.2.1 dX1_become_1 rfl (lv_at hl 1 rfl) ?_
  refine gX1_6 C hW hk1 iX1_become_c1 wX1_become_0 dX1_become_2 ?_
  refine pX1_6 C hW hk iX1_become_c1 wX1_become_0 dX1_become_5 (fun H locs hW => ?_)
  refine lv_aload_n C.1 C.2.1 dX1_become_8 rfl (lv_at hl 0 rfl) ?_
  refine lv_aload_n C.1 C.2.1 dX1_become_9 rfl (lv_at hl 1 rfl) ?_
  refine gX1_7 C hW hk1 iX1_become_c1 wX1_become_1 dX1_become_10 ?_
  refine pX1_7 C hW hk iX1_become_c1 wX1_become_1 dX1_become_13 (fun H locs hW => ?_)
  refine lv_iconst (v := 0) C.1 C.2.1 dX1_become_16 (by decide) ?_
  refine lv_istore_n (lv' := [(2, .int 0), (0, .ref (Γ.2.2 k)), (1, .ref (Γ.2.2 k1))]) C.1 C.2.1 dX1_become_17 rfl hl (by decide) rfl (fun ls hl => ?_)
  exact tX1_become_18 C hk FU _ _ _ _ _ _ h hk1 hW (lv_sub hl [1, 2, 0] rfl)
theorem mt_X1_become {l : Launch} {Γ : Gm} {A B : Me} {k : Nat} {k1 : Nat} {AZ : Me} (hk : kd k = 1) (hk1 : kd k1 = 1) (h : fX1_become A k k1 = some AZ) : Met l yX1_become wsX1_become rmX1_become (PC Γ A B [.ref (Γ.2.2 k), .ref (Γ.2.2 k1)]) (QV Γ AZ B) 0 0 (rg Γ) :=
  met_of (by decide) rfl (Nat.le_of_ble_eq_true rfl) (fun p e s m below meth c ls C hW hl => tX1_become_0 C hk h hk1 hW (lv_sub (l := [(0, .ref (Γ.2.2 k)), (1, .ref (Γ.2.2 k1))]) hl [0, 1] rfl))
abbrev rmX1_isThere : Room := { frames := 0, cells := 0, slots := 0, locals := 0 }
set_option maxRecDepth 100000 in
theorem iX1_isThere_c1 : ∀ w ∈ wsX10, w ∈ wsX1_isThere := by decide +kernel
set_option maxRecDepth 100000 in
theorem wX1_isThere_0 : Cond.fieldLink RX1 50 "WineByYears$Cellar" "caskCount" "I" ∈ wsX1_isThere := by decide +kernel
def fX1_isThere_12  (A : Me) (k : Nat) (t0 : Int32) : Option (Int32) := ck (zb t0) <| some t0
set_option maxRecDepth 100000 in
theorem tX1_isThere_12 {A B : Me} {k : Nat} {H : Heap} {locs : List Loc} {ls : Array Slot} {t0 : Int32} {rZ : Int32}  (C : Cx Γ p s m args meth c cX1_isThere 1 (some .boolean) RX1 wsX1_isThere) (hk : kd k = 1)  (h : fX1_isThere_12 A k t0 = some rZ)  (hW : Wd Γ A B s.heap H locs) (hl : lv_has ls 1 []) : W p l e rmX1_isThere s m args below meth c H locs 0 0 (MQ below (QI Γ A B rZ) args s 0 0 (rg Γ)) (F0 m 12 ls [.int t0]) := by
  unfold fX1_isThere_12 at h
  obtain ⟨hz, h⟩ := ck_s h
  cases h
  exact z_zret C hW hz dX1_isThere_12
def fX1_isThere  (A : Me) (k : Nat)  : Option (Int32) := if (A k 7) ≤ 0 then (fX1_isThere_12 A k 0) else (fX1_isThere_12 A k 1)
set_option maxRecDepth 100000 in
theorem tX1_isThere_0 {A B : Me} {k : Nat} {H : Heap} {locs : List Loc} {ls : Array Slot}  {rZ : Int32}  (C : Cx Γ p s m args meth c cX1_isThere 1 (some .boolean) RX1 wsX1_isThere) (hk : kd k = 1)  (h : fX1_isThere A k = some rZ)  (hW : Wd Γ A B s.heap H locs) (hl : lv_has ls 1 [(0, .ref (Γ.2.2 k))]) : W p l e rmX1_isThere s m args below meth c H locs 0 0 (MQ below (QI Γ A B rZ) args s 0 0 (rg Γ)) (F0 m 0 ls []) := by
  unfold fX1_isThere at h
  refine lv_aload_n C.1 C.2.1 dX1_isThere_0 rfl (lv_at hl 0 rfl) ?_
  refine gX1_7 C hW hk iX1_isThere_c1 wX1_isThere_0 dX1_isThere_1 ?_
  refine lv_if_le (tgt := 11) C.1 C.2.1 dX1_isThere_4 (by decide) (fun c_4 => ?_) (fun c_4 => ?_)
  · have h := if_y h c_4
    refine lv_iconst (v := 0) C.1 C.2.1 dX1_isThere_11 (by decide) ?_
    exact tX1_isThere_12 C hk h  hW (lv_sub hl [] rfl)
  · have h := if_n h c_4
    refine lv_iconst (v := 1) C.1 C.2.1 dX1_isThere_7 (by decide) ?_
    refine lv_goto (tgt := 12) C.1 C.2.1 dX1_isThere_8 (by decide) ?_
    exact tX1_isThere_12 C hk h  hW (lv_sub hl [] rfl)
theorem mt_X1_isThere {l : Launch} {Γ : Gm} {A B : Me} {k : Nat}  {rZ : Int32} (hk : kd k = 1) (h : fX1_isThere A k = some rZ) : Met l yX1_isThere wsX1_isThere rmX1_isThere (PC Γ A B [.ref (Γ.2.2 k)]) (QI Γ A B rZ) 0 0 (rg Γ) :=
  met_of (by decide) rfl (Nat.le_of_ble_eq_true rfl) (fun p e s m below meth c ls C hW hl => tX1_isThere_0 C hk h  hW (lv_sub (l := [(0, .ref (Γ.2.2 k))]) hl [0] rfl))
abbrev rmX1_hasCask : Room := { frames := 0, cells := 0, slots := 0, locals := 0 }
set_option maxRecDepth 100000 in
theorem iX1_hasCask_c1 : ∀ w ∈ wsX10, w ∈ wsX1_hasCask := by decide +kernel
set_option maxRecDepth 100000 in
theorem wX1_hasCask_0 : Cond.fieldLink RX1 50 "WineByYears$Cellar" "caskCount" "I" ∈ wsX1_hasCask := by decide +kernel
def fX1_hasCask_17  (A : Me) (k : Nat) (t0 : Int32) : Option (Int32) := ck (zb t0) <| some t0
set_option maxRecDepth 100000 in
theorem tX1_hasCask_17 {A B : Me} {k : Nat} {H : Heap} {locs : List Loc} {ls : Array Slot} {t0 : Int32} {rZ : Int32}  (C : Cx Γ p s m args meth c cX1_hasCask 2 (some .boolean) RX1 wsX1_hasCask) (hk : kd k = 1)  (h : fX1_hasCask_17 A k t0 = some rZ)  (hW : Wd Γ A B s.heap H locs) (hl : lv_has ls 2 []) : W p l e rmX1_hasCask s m args below meth c H locs 0 0 (MQ below (QI Γ A B rZ) args s 0 0 (rg Γ)) (F0 m 17 ls [.int t0]) := by
  unfold fX1_hasCask_17 at h
  obtain ⟨hz, h⟩ := ck_s h
  cases h
  exact z_zret C hW hz dX1_hasCask_17
def fX1_hasCask_16  (A : Me) (k : Nat)  : Option (Int32) := fX1_hasCask_17 A k 0
set_option maxRecDepth 100000 in
theorem tX1_hasCask_16 {A B : Me} {k : Nat} {H : Heap} {locs : List Loc} {ls : Array Slot}  {rZ : Int32}  (C : Cx Γ p s m args meth c cX1_hasCask 2 (some .boolean) RX1 wsX1_hasCask) (hk : kd k = 1)  (h : fX1_hasCask_16 A k = some rZ)  (hW : Wd Γ A B s.heap H locs) (hl : lv_has ls 2 []) : W p l e rmX1_hasCask s m args below meth c H locs 0 0 (MQ below (QI Γ A B rZ) args s 0 0 (rg Γ)) (F0 m 16 ls []) := by
  unfold fX1_hasCask_16 at h
  refine lv_iconst (v := 0) C.1 C.2.1 dX1_hasCask_16 (by decide) ?_
  exact tX1_hasCask_17 C hk h  hW (lv_sub hl [] rfl)
def fX1_hasCask  (A : Me) (k : Nat) (v1 : Int32) : Option (Int32) := if v1 < 0 then (fX1_hasCask_16 A k) else (if (A k 7) ≤ v1 then (fX1_hasCask_16 A k) else (fX1_hasCask_17 A k 1))
set_option maxRecDepth 100000 in
theorem tX1_hasCask_0 {A B : Me} {k : Nat} {H : Heap} {locs : List Loc} {ls : Array Slot} {v1 : Int32} {rZ : Int32}  (C : Cx Γ p s m args meth c cX1_hasCask 2 (some .boolean) RX1 wsX1_hasCask) (hk : kd k = 1)  (h : fX1_hasCask A k v1 = some rZ)  (hW : Wd Γ A B s.heap H locs) (hl : lv_has ls 2 [(0, .ref (Γ.2.2 k)), (1, .int v1)]) : W p l e rmX1_hasCask s m args below meth c H locs 0 0 (MQ below (QI Γ A B rZ) args s 0 0 (rg Γ)) (F0 m 0 ls []) := by
  unfold fX1_hasCask at h
  refine lv_iload_n C.1 C.2.1 dX1_hasCask_0 rfl (lv_at hl 1 rfl) ?_
  refine lv_if_lt (tgt := 16) C.1 C.2.1 dX1_hasCask_1 (by decide) (fun c_1 => ?_) (fun c_1 => ?_)
  · have h := if_y h c_1
    exact tX1_hasCask_16 C hk h  hW (lv_sub hl [] rfl)
  · have h := if_n h c_1
    refine lv_iload_n C.1 C.2.1 dX1_hasCask_4 rfl (lv_at hl 1 rfl) ?_
    refine lv_aload_n C.1 C.2.1 dX1_hasCask_5 rfl (lv_at hl 0 rfl) ?_
    refine gX1_7 C hW hk iX1_hasCask_c1 wX1_hasCask_0 dX1_hasCask_6 ?_
    refine lv_icmp_ge (tgt := 16) C.1 C.2.1 dX1_hasCask_9 (by decide) (fun c_9 => ?_) (fun c_9 => ?_)
    · have h := if_y h c_9
      exact tX1_hasCask_16 C hk h  hW (lv_sub hl [] rfl)
    · have h := if_n h c_9
      refine lv_iconst (v := 1) C.1 C.2.1 dX1_hasCask_12 (by decide) ?_
      refine lv_goto (tgt := 17) C.1 C.2.1 dX1_hasCask_13 (by decide) ?_
      exact tX1_hasCask_17 C hk h  hW (lv_sub hl [] rfl)
theorem mt_X1_hasCask {l : Launch} {Γ : Gm} {A B : Me} {k : Nat} {v1 : Int32} {rZ : Int32} (hk : kd k = 1) (h : fX1_hasCask A k v1 = some rZ) : Met l yX1_hasCask wsX1_hasCask rmX1_hasCask (PC Γ A B [.ref (Γ.2.2 k), .int v1]) (QI Γ A B rZ) 0 0 (rg Γ) :=
  met_of (by decide) rfl (Nat.le_of_ble_eq_true rfl) (fun p e s m below meth c ls C hW hl => tX1_hasCask_0 C hk h  hW (lv_sub (l := [(0, .ref (Γ.2.2 k)), (1, .int v1)]) hl [0, 1] rfl))
abbrev rmX1_hasPerson : Room := { frames := 0, cells := 0, slots := 0, locals := 0 }
set_option maxRecDepth 100000 in
theorem iX1_hasPerson_c1 : ∀ w ∈ wsX10, w ∈ wsX1_hasPerson := by decide +kernel
set_option maxRecDepth 100000 in
theorem wX1_hasPerson_0 : Cond.fieldLink RX1 60 "WineByYears$Cellar" "peopleCount" "I" ∈ wsX1_hasPerson := by decide +kernel
def fX1_hasPerson_17  (A : Me) (k : Nat) (t0 : Int32) : Option (Int32) := ck (zb t0) <| some t0
set_option maxRecDepth 100000 in
theorem tX1_hasPerson_17 {A B : Me} {k : Nat} {H : Heap} {locs : List Loc} {ls : Array Slot} {t0 : Int32} {rZ : Int32}  (C : Cx Γ p s m args meth c cX1_hasPerson 2 (some .boolean) RX1 wsX1_hasPerson) (hk : kd k = 1)  (h : fX1_hasPerson_17 A k t0 = some rZ)  (hW : Wd Γ A B s.heap H locs) (hl : lv_has ls 2 []) : W p l e rmX1_hasPerson s m args below meth c H locs 0 0 (MQ below (QI Γ A B rZ) args s 0 0 (rg Γ)) (F0 m 17 ls [.int t0]) := by
  unfold fX1_hasPerson_17 at h
  obtain ⟨hz, h⟩ := ck_s h
  cases h
  exact z_zret C hW hz dX1_hasPerson_17
def fX1_hasPerson_16  (A : Me) (k : Nat)  : Option (Int32) := fX1_hasPerson_17 A k 0
set_option maxRecDepth 100000 in
theorem tX1_hasPerson_16 {A B : Me} {k : Nat} {H : Heap} {locs : List Loc} {ls : Array Slot}  {rZ : Int32}  (C : Cx Γ p s m args meth c cX1_hasPerson 2 (some .boolean) RX1 wsX1_hasPerson) (hk : kd k = 1)  (h : fX1_hasPerson_16 A k = some rZ)  (hW : Wd Γ A B s.heap H locs) (hl : lv_has ls 2 []) : W p l e rmX1_hasPerson s m args below meth c H locs 0 0 (MQ below (QI Γ A B rZ) args s 0 0 (rg Γ)) (F0 m 16 ls []) := by
  unfold fX1_hasPerson_16 at h
  refine lv_iconst (v := 0) C.1 C.2.1 dX1_hasPerson_16 (by decide) ?_
  exact tX1_hasPerson_17 C hk h  hW (lv_sub hl [] rfl)
def fX1_hasPerson  (A : Me) (k : Nat) (v1 : Int32) : Option (Int32) := if v1 < 0 then (fX1_hasPerson_16 A k) else (if (A k 8) ≤ v1 then (fX1_hasPerson_16 A k) else (fX1_hasPerson_17 A k 1))
set_option maxRecDepth 100000 in
theorem tX1_hasPerson_0 {A B : Me} {k : Nat} {H : Heap} {locs : List Loc} {ls : Array Slot} {v1 : Int32} {rZ : Int32}  (C : Cx Γ p s m args meth c cX1_hasPerson 2 (some .boolean) RX1 wsX1_hasPerson) (hk : kd k = 1)  (h : fX1_hasPerson A k v1 = some rZ)  (hW : Wd Γ A B s.heap H locs) (hl : lv_has ls 2 [(0, .ref (Γ.2.2 k)), (1, .int v1)]) : W p l e rmX1_hasPerson s m args below meth c H locs 0 0 (MQ below (QI Γ A B rZ) args s 0 0 (rg Γ)) (F0 m 0 ls []) := by
  unfold fX1_hasPerson at h
  refine lv_iload_n C.1 C.2.1 dX1_hasPerson_0 rfl (lv_at hl 1 rfl) ?_
  refine lv_if_lt (tgt := 16) C.1 C.2.1 dX1_hasPerson_1 (by decide) (fun c_1 => ?_) (fun c_1 => ?_)
  · have h := if_y h c_1
    exact tX1_hasPerson_16 C hk h  hW (lv_sub hl [] rfl)
  · have h := if_n h c_1
    refine lv_iload_n C.1 C.2.1 dX1_hasPerson_4 rfl (lv_at hl 1 rfl) ?_
    refine lv_aload_n C.1 C.2.1 dX1_hasPerson_5 rfl (lv_at hl 0 rfl) ?_
    refine gX1_8 C hW hk iX1_hasPerson_c1 wX1_hasPerson_0 dX1_hasPerson_6 ?_
    refine lv_icmp_ge (tgt := 16) C.1 C.2.1 dX1_hasPerson_9 (by decide) (fun c_9 => ?_) (fun c_9 => ?_)
    · have h := if_y h c_9
      exact tX1_hasPerson_16 C hk h  hW (lv_sub hl [] rfl)
    · have h := if_n h c_9
      refine lv_iconst (v := 1) C.1 C.2.1 dX1_hasPerson_12 (by decide) ?_
      refine lv_goto (tgt := 17) C.1 C.2.1 dX1_hasPerson_13 (by decide) ?_
      exact tX1_hasPerson_17 C hk h  hW (lv_sub hl [] rfl)
theorem mt_X1_hasPerson {l : Launch} {Γ : Gm} {A B : Me} {k : Nat} {v1 : Int32} {rZ : Int32} (hk : kd k = 1) (h : fX1_hasPerson A k v1 = some rZ) : Met l yX1_hasPerson wsX1_hasPerson rmX1_hasPerson (PC Γ A B [.ref (Γ.2.2 k), .int v1]) (QI Γ A B rZ) 0 0 (rg Γ) :=
  met_of (by decide) rfl (Nat.le_of_ble_eq_true rfl) (fun p e s m below meth c ls C hW hl => tX1_hasPerson_0 C hk h  hW (lv_sub (l := [(0, .ref (Γ.2.2 k)), (1, .int v1)]) hl [0, 1] rfl))
abbrev rmX1_allPeople : Room := { frames := 0, cells := 0, slots := 0, locals := 0 }
set_option maxRecDepth 100000 in
theorem iX1_allPeople_c1 : ∀ w ∈ wsX10, w ∈ wsX1_allPeople := by decide +kernel
set_option maxRecDepth 100000 in
theorem wX1_allPeople_0 : Cond.fieldLink RX1 60 "WineByYears$Cellar" "peopleCount" "I" ∈ wsX1_allPeople := by decide +kernel
def fX1_allPeople  (A : Me) (k : Nat)  : Option (Int32) := some ((1 <<< ((A k 8) &&& 31)) - 1)
set_option maxRecDepth 100000 in
theorem tX1_allPeople_0 {A B : Me} {k : Nat} {H : Heap} {locs : List Loc} {ls : Array Slot}  {rZ : Int32}  (C : Cx Γ p s m args meth c cX1_allPeople 1 (some .int) RX1 wsX1_allPeople) (hk : kd k = 1)  (h : fX1_allPeople A k = some rZ)  (hW : Wd Γ A B s.heap H locs) (hl : lv_has ls 1 [(0, .ref (Γ.2.2 k))]) : W p l e rmX1_allPeople s m args below meth c H locs 0 0 (MQ below (QI Γ A B rZ) args s 0 0 (rg Γ)) (F0 m 0 ls []) := by
  unfold fX1_allPeople at h
  refine lv_iconst (v := 1) C.1 C.2.1 dX1_allPeople_0 (by decide) ?_
  refine lv_aload_n C.1 C.2.1 dX1_allPeople_1 rfl (lv_at hl 0 rfl) ?_
  refine gX1_8 C hW hk iX1_allPeople_c1 wX1_allPeople_0 dX1_allPeople_2 ?_
  refine lv_ishl C.1 C.2.1 dX1_allPeople_5 ?_
  refine lv_iconst (v := 1) C.1 C.2.1 dX1_allPeople_6 (by decide) ?_
  refine lv_isub C.1 C.2.1 dX1_allPeople_7 ?_
  cases h
  exact z_iret C hW dX1_allPeople_8
theorem mt_X1_allPeople {l : Launch} {Γ : Gm} {A B : Me} {k : Nat}  {rZ : Int32} (hk : kd k = 1) (h : fX1_allPeople A k = some rZ) : Met l yX1_allPeople wsX1_allPeople rmX1_allPeople (PC Γ A B [.ref (Γ.2.2 k)]) (QI Γ A B rZ) 0 0 (rg Γ) :=
  met_of (by decide) rfl (Nat.le_of_ble_eq_true rfl) (fun p e s m below meth c ls C hW hl => tX1_allPeople_0 C hk h  hW (lv_sub (l := [(0, .ref (Γ.2.2 k))]) hl [0] rfl))
abbrev rmX1_arePeople : Room := { frames := 1, cells := 0, slots := 0, locals := 20 }
def fX1_arePeople_16  (A : Me) (k : Nat) (t0 : Int32) : Option (Int32) := ck (zb t0) <| some t0
set_option maxRecDepth 100000 in
theorem tX1_arePeople_16 {A B : Me} {k : Nat} {H : Heap} {locs : List Loc} {ls : Array Slot} {t0 : Int32} {rZ : Int32}  (C : Cx Γ p s m args meth c cX1_arePeople 2 (some .boolean) RX1 wsX1_arePeople) (hk : kd k = 1)  (h : fX1_arePeople_16 A k t0 = some rZ)  (hW : Wd Γ A B s.heap H locs) (hl : lv_has ls 2 []) : W p l e rmX1_arePeople s m args below meth c H locs 0 0 (MQ below (QI Γ A B rZ) args s 0 0 (rg Γ)) (F0 m 16 ls [.int t0]) := by
  unfold fX1_arePeople_16 at h
  obtain ⟨hz, h⟩ := ck_s h
  cases h
  exact z_zret C hW hz dX1_arePeople_16
def fX1_arePeople  (A : Me) (k : Nat) (v1 : Int32) : Option (Int32) := bi (fX1_allPeople A k) fun r2 => if (v1 &&& (r2 ^^^ (-1))) = 0 then (fX1_arePeople_16 A k 1) else (fX1_arePeople_16 A k 0)
set_option maxRecDepth 100000 in
theorem tX1_arePeople_0 {A B : Me} {k : Nat} {H : Heap} {locs : List Loc} {ls : Array Slot} {v1 : Int32} {rZ : Int32}  (C : Cx Γ p s m args meth c cX1_arePeople 2 (some .boolean) RX1 wsX1_arePeople) (hk : kd k = 1)  (h : fX1_arePeople A k v1 = some rZ)  (hW : Wd Γ A B s.heap H locs) (hl : lv_has ls 2 [(0, .ref (Γ.2.2 k)), (1, .int v1)]) : W p l e rmX1_arePeople s m args below meth c H locs 0 0 (MQ below (QI Γ A B rZ) args s 0 0 (rg Γ)) (F0 m 0 ls []) := by
  unfold fX1_arePeople at h
  refine lv_iload_n C.1 C.2.1 dX1_arePeople_0 rfl (lv_at hl 1 rfl) ?_
  refine lv_aload_n C.1 C.2.1 dX1_arePeople_1 rfl (lv_at hl 0 rfl) ?_
  obtain ⟨r2, hc2, h⟩ := bi_s h
  refine cVi C hW (As := []) (rest := [.int v1]) (mt_X1_allPeople hk hc2) (cwV 0 C.2.2.2.2.2.1 gX1_arePeople_X1_allPeople rfl rfl rfl (by decide +kernel) ⟨Nat.le_of_ble_eq_true rfl, Nat.le_of_ble_eq_true rfl⟩) (rcv1 C hW hk) rfl hl.1 rfl (Nat.le_of_ble_eq_true rfl) dX1_arePeople_2 (Nat.zero_le _) (Nat.zero_le _) (fun H locs hW => ?_)
  refine lv_iconst (v := (-1)) C.1 C.2.1 dX1_arePeople_5 (by decide) ?_
  refine lv_ixor C.1 C.2.1 dX1_arePeople_6 ?_
  refine lv_iand C.1 C.2.1 dX1_arePeople_7 ?_
  refine lv_if_ne (tgt := 15) C.1 C.2.1 dX1_arePeople_8 (by decide) (fun c_8 => ?_) (fun c_8 => ?_)
  · have h := if_n h c_8
    refine lv_iconst (v := 0) C.1 C.2.1 dX1_arePeople_15 (by decide) ?_
    exact tX1_arePeople_16 C hk h  hW (lv_sub hl [] rfl)
  · have h := if_y h c_8
    refine lv_iconst (v := 1) C.1 C.2.1 dX1_arePeople_11 (by decide) ?_
    refine lv_goto (tgt := 16) C.1 C.2.1 dX1_arePeople_12 (by decide) ?_
    exact tX1_arePeople_16 C hk h  hW (lv_sub hl [] rfl)
theorem mt_X1_arePeople {l : Launch} {Γ : Gm} {A B : Me} {k : Nat} {v1 : Int32} {rZ : Int32} (hk : kd k = 1) (h : fX1_arePeople A k v1 = some rZ) : Met l yX1_arePeople wsX1_arePeople rmX1_arePeople (PC Γ A B [.ref (Γ.2.2 k), .int v1]) (QI Γ A B rZ) 0 0 (rg Γ) :=
  met_of (by decide) rfl (Nat.le_of_ble_eq_true rfl) (fun p e s m below meth c ls C hW hl => tX1_arePeople_0 C hk h  hW (lv_sub (l := [(0, .ref (Γ.2.2 k)), (1, .int v1)]) hl [0, 1] rfl))
abbrev rmX1_litresInAll : Room := { frames := 0, cells := 0, slots := 0, locals := 0 }
set_option maxRecDepth 100000 in
theorem iX1_litresInAll_c0 : ∀ w ∈ wsX00, w ∈ wsX1_litresInAll := by decide +kernel
set_option maxRecDepth 100000 in
theorem iX1_litresInAll_c1 : ∀ w ∈ wsX10, w ∈ wsX1_litresInAll := by decide +kernel
set_option maxRecDepth 100000 in
theorem wX1_litresInAll_0 : Cond.fieldLink RX1 50 "WineByYears$Cellar" "caskCount" "I" ∈ wsX1_litresInAll := by decide +kernel
set_option maxRecDepth 100000 in
theorem wX1_litresInAll_1 : Cond.fieldLink RX1 11 "WineByYears$Cellar" "casks" "[LWineByYears$Cask;" ∈ wsX1_litresInAll := by decide +kernel
set_option maxRecDepth 100000 in
theorem wX1_litresInAll_2 : Cond.fieldLink RX1 86 "WineByYears$Cask" "litres" "I" ∈ wsX1_litresInAll := by decide +kernel
def fX1_litresInAll_24 (j4 : Int32 → Int32 → Option (Int32)) (A : Me) (k : Nat) (v1 : Int32) (v2 : Int32) : Option (Int32) := j4 v1 (v2 + 1)
set_option maxRecDepth 100000 in
theorem tX1_litresInAll_24 {A B : Me} {k : Nat} {H : Heap} {locs : List Loc} {ls : Array Slot} {v1 : Int32} {v2 : Int32} {rZ : Int32} {j4 : Int32 → Int32 → Option (Int32)} (C : Cx Γ p s m args meth c cX1_litresInAll 3 (some .int) RX1 wsX1_litresInAll) (hk : kd k = 1) (hr4 : ∀ (v1 : Int32) (v2 : Int32) (H : Heap) (locs : List Loc) (ls : Array Slot), j4 v1 v2 = some rZ → Wd Γ A B s.heap H locs → lv_has ls 3 [(0, .ref (Γ.2.2 k)), (1, .int v1), (2, .int v2)] → W p l e rmX1_litresInAll s m args below meth c H locs 0 0 (MQ below (QI Γ A B rZ) args s 0 0 (rg Γ)) (F0 m 4 ls [])) (h : fX1_litresInAll_24 j4 A k v1 v2 = some rZ)  (hW : Wd Γ A B s.heap H locs) (hl : lv_has ls 3 [(0, .ref (Γ.2.2 k)), (1, .int v1), (2, .int v2)]) : W p l e rmX1_litresInAll s m args below meth c H locs 0 0 (MQ below (QI Γ A B rZ) args s 0 0 (rg Γ)) (F0 m 24 ls []) := by
  unfold fX1_litresInAll_24 at h
  refine lv_iinc (v := (v2 + 1)) (lv' := [(2, .int (v2 + 1)), (0, .ref (Γ.2.2 k)), (1, .int v1)]) C.1 C.2.1 dX1_litresInAll_24 hl (k := 2) rfl rfl (by decide) rfl (fun ls hl => ?_)
  refine lv_goto (tgt := 4) C.1 C.2.1 dX1_litresInAll_27 (by decide) ?_
  exact hr4 _ _ _ _ _ h  hW (lv_sub hl [1, 2, 0] rfl)
def fX1_litresInAll_4  (A : Me) (k : Nat) : Nat → Int32 → Int32 → Option (Int32)
  | 0, _, _ => none
  | n + 1, v1, v2 => if (A k 7) ≤ v2 then (some v1) else (ck (inb v2 5) <| fX1_litresInAll_24 (fun x0 x1 => fX1_litresInAll_4 A k n x0 x1) A k (v1 + (A (k + 1 + 6 + 2 * v2.toNatClampNeg) 1)) v2)
set_option maxRecDepth 100000 in
theorem tX1_litresInAll_4 {A B : Me} {k : Nat} {rZ : Int32}  (C : Cx Γ p s m args meth c cX1_litresInAll 3 (some .int) RX1 wsX1_litresInAll) (hk : kd k = 1)  (n : Nat) : ∀ (v1 : Int32) (v2 : Int32) (H : Heap) (locs : List Loc) (ls : Array Slot), fX1_litresInAll_4 A k n v1 v2 = some rZ → Wd Γ A B s.heap H locs → lv_has ls 3 [(0, .ref (Γ.2.2 k)), (1, .int v1), (2, .int v2)] → W p l e rmX1_litresInAll s m args below meth c H locs 0 0 (MQ below (QI Γ A B rZ) args s 0 0 (rg Γ)) (F0 m 4 ls []) := by
  induction n with
  | zero =>
    intro _ _ H locs ls h
    exact nomatch (show (none : Option (Int32)) = some rZ from h)
  | succ n ih =>
    intro v1 v2 H locs ls h  hW hl
    rw [fX1_litresInAll_4] at h
    refine lv_iload_n C.1 C.2.1 dX1_litresInAll_4 rfl (lv_at hl 2 rfl) ?_
    refine lv_aload_n C.1 C.2.1 dX1_litresInAll_5 rfl (lv_at hl 0 rfl) ?_
    refine gX1_7 C hW hk iX1_litresInAll_c1 wX1_litresInAll_0 dX1_litresInAll_6 ?_
    refine lv_icmp_ge (tgt := 30) C.1 C.2.1 dX1_litresInAll_9 (by decide) (fun c_9 => ?_) (fun c_9 => ?_)
    · have h := if_y h c_9
      refine lv_iload_n C.1 C.2.1 dX1_litresInAll_30 rfl (lv_at hl 1 rfl) ?_
      cases h
      exact z_iret C hW dX1_litresInAll_31
    · have h := if_n h c_9
      refine lv_iload_n C.1 C.2.1 dX1_litresInAll_12 rfl (lv_at hl 1 rfl) ?_
      refine lv_aload_n C.1 C.2.1 dX1_litresInAll_13 rfl (lv_at hl 0 rfl) ?_
      refine gX1_0 C hW hk iX1_litresInAll_c1 wX1_litresInAll_1 dX1_litresInAll_14 ?_
      refine lv_iload_n C.1 C.2.1 dX1_litresInAll_17 rfl (lv_at hl 2 rfl) ?_
      obtain ⟨hi18, h⟩ := ck_s h
      refine la7 C hW (kd_1r hk).1 hi18 dX1_litresInAll_18 ?_
      refine gX0_1 C hW (kd_7e (kd_1r hk).1.1 (inb_s hi18) rfl) iX1_litresInAll_c0 wX1_litresInAll_2 dX1_litresInAll_19 ?_
      refine lv_iadd C.1 C.2.1 dX1_litresInAll_22 ?_
      refine lv_istore_n (lv' := [(1, .int (v1 + (A (k + 1 + 6 + 2 * v2.toNatClampNeg) 1))), (0, .ref (Γ.2.2 k)), (2, .int v2)]) C.1 C.2.1 dX1_litresInAll_23 rfl hl (by decide) rfl (fun ls hl => ?_)
      exact tX1_litresInAll_24 C hk ih h  hW (lv_sub hl [1, 0, 2] rfl)
def fX1_litresInAll  (A : Me) (k : Nat)  : Option (Int32) := fX1_litresInAll_4 A k FU 0 0
set_option maxRecDepth 100000 in
theorem tX1_litresInAll_0 {A B : Me} {k : Nat} {H : Heap} {locs : List Loc} {ls : Array Slot}  {rZ : Int32}  (C : Cx Γ p s m args meth c cX1_litresInAll 3 (some .int) RX1 wsX1_litresInAll) (hk : kd k = 1)  (h : fX1_litresInAll A k = some rZ)  (hW : Wd Γ A B s.heap H locs) (hl : lv_has ls 3 [(0, .ref (Γ.2.2 k))]) : W p l e rmX1_litresInAll s m args below meth c H locs 0 0 (MQ below (QI Γ A B rZ) args s 0 0 (rg Γ)) (F0 m 0 ls []) := by
  unfold fX1_litresInAll at h
  refine lv_iconst (v := 0) C.1 C.2.1 dX1_litresInAll_0 (by decide) ?_
  refine lv_istore_n (lv' := [(1, .int 0), (0, .ref (Γ.2.2 k))]) C.1 C.2.1 dX1_litresInAll_1 rfl hl (by decide) rfl (fun ls hl => ?_)
  refine lv_iconst (v := 0) C.1 C.2.1 dX1_litresInAll_2 (by decide) ?_
  refine lv_istore_n (lv' := [(2, .int 0), (1, .int 0), (0, .ref (Γ.2.2 k))]) C.1 C.2.1 dX1_litresInAll_3 rfl hl (by decide) rfl (fun ls hl => ?_)
  exact tX1_litresInAll_4 C hk FU _ _ _ _ _ h  hW (lv_sub hl [2, 1, 0] rfl)
theorem mt_X1_litresInAll {l : Launch} {Γ : Gm} {A B : Me} {k : Nat}  {rZ : Int32} (hk : kd k = 1) (h : fX1_litresInAll A k = some rZ) : Met l yX1_litresInAll wsX1_litresInAll rmX1_litresInAll (PC Γ A B [.ref (Γ.2.2 k)]) (QI Γ A B rZ) 0 0 (rg Γ) :=
  met_of (by decide) rfl (Nat.le_of_ble_eq_true rfl) (fun p e s m below meth c ls C hW hl => tX1_litresInAll_0 C hk h  hW (lv_sub (l := [(0, .ref (Γ.2.2 k))]) hl [0] rfl))
abbrev rmX1_illInAll : Room := { frames := 0, cells := 0, slots := 0, locals := 0 }
set_option maxRecDepth 100000 in
theorem iX1_illInAll_c1 : ∀ w ∈ wsX10, w ∈ wsX1_illInAll := by decide +kernel
set_option maxRecDepth 100000 in
theorem wX1_illInAll_0 : Cond.fieldLink RX1 60 "WineByYears$Cellar" "peopleCount" "I" ∈ wsX1_illInAll := by decide +kernel
set_option maxRecDepth 100000 in
theorem wX1_illInAll_1 : Cond.fieldLink RX1 24 "WineByYears$Cellar" "ills" "[I" ∈ wsX1_illInAll := by decide +kernel
def fX1_illInAll_4  (A : Me) (k : Nat) : Nat → Int32 → Int32 → Option (Int32)
  | 0, _, _ => none
  | n + 1, v1, v2 => if (A k 8) ≤ v2 then (some v1) else (ck (inb v2 5) <| fX1_illInAll_4 A k n (v1 + (A (k + 4) v2.toNatClampNeg)) (v2 + 1))
set_option maxRecDepth 100000 in
theorem tX1_illInAll_4 {A B : Me} {k : Nat} {rZ : Int32}  (C : Cx Γ p s m args meth c cX1_illInAll 3 (some .int) RX1 wsX1_illInAll) (hk : kd k = 1)  (n : Nat) : ∀ (v1 : Int32) (v2 : Int32) (H : Heap) (locs : List Loc) (ls : Array Slot), fX1_illInAll_4 A k n v1 v2 = some rZ → Wd Γ A B s.heap H locs → lv_has ls 3 [(0, .ref (Γ.2.2 k)), (1, .int v1), (2, .int v2)] → W p l e rmX1_illInAll s m args below meth c H locs 0 0 (MQ below (QI Γ A B rZ) args s 0 0 (rg Γ)) (F0 m 4 ls []) := by
  induction n with
  | zero =>
    intro _ _ H locs ls h
    exact nomatch (show (none : Option (Int32)) = some rZ from h)
  | succ n ih =>
    intro v1 v2 H locs ls h  hW hl
    rw [fX1_illInAll_4] at h
    refine lv_iload_n C.1 C.2.1 dX1_illInAll_4 rfl (lv_at hl 2 rfl) ?_
    refine lv_aload_n C.1 C.2.1 dX1_illInAll_5 rfl (lv_at hl 0 rfl) ?_
    refine gX1_8 C hW hk iX1_illInAll_c1 wX1_illInAll_0 dX1_illInAll_6 ?_
    refine lv_icmp_ge (tgt := 27) C.1 C.2.1 dX1_illInAll_9 (by decide) (fun c_9 => ?_) (fun c_9 => ?_)
    · have h := if_y h c_9
      refine lv_iload_n C.1 C.2.1 dX1_illInAll_27 rfl (lv_at hl 1 rfl) ?_
      cases h
      exact z_iret C hW dX1_illInAll_28
    · have h := if_n h c_9
      refine lv_iload_n C.1 C.2.1 dX1_illInAll_12 rfl (lv_at hl 1 rfl) ?_
      refine lv_aload_n C.1 C.2.1 dX1_illInAll_13 rfl (lv_at hl 0 rfl) ?_
      refine gX1_3 C hW hk iX1_illInAll_c1 wX1_illInAll_1 dX1_illInAll_14 ?_
      refine lv_iload_n C.1 C.2.1 dX1_illInAll_17 rfl (lv_at hl 2 rfl) ?_
      obtain ⟨hi18, h⟩ := ck_s h
      refine la6 C hW (kd_1r hk).2.2.2.1 hi18 dX1_illInAll_18 ?_
      refine lv_iadd C.1 C.2.1 dX1_illInAll_19 ?_
      refine lv_istore_n (lv' := [(1, .int (v1 + (A (k + 4) v2.toNatClampNeg))), (0, .ref (Γ.2.2 k)), (2, .int v2)]) C.1 C.2.1 dX1_illInAll_20 rfl hl (by decide) rfl (fun ls hl => ?_)
      refine lv_iinc (v := (v2 + 1)) (lv' := [(2, .int (v2 + 1)), (1, .int (v1 + (A (k + 4) v2.toNatClampNeg))), (0, .ref (Γ.2.2 k))]) C.1 C.2.1 dX1_illInAll_21 hl (k := 2) rfl rfl (by decide) rfl (fun ls hl => ?_)
      refine lv_goto (tgt := 4) C.1 C.2.1 dX1_illInAll_24 (by decide) ?_
      exact ih _ _ _ _ _ h  hW (lv_sub hl [2, 1, 0] rfl)
def fX1_illInAll  (A : Me) (k : Nat)  : Option (Int32) := fX1_illInAll_4 A k FU 0 0
set_option maxRecDepth 100000 in
theorem tX1_illInAll_0 {A B : Me} {k : Nat} {H : Heap} {locs : List Loc} {ls : Array Slot}  {rZ : Int32}  (C : Cx Γ p s m args meth c cX1_illInAll 3 (some .int) RX1 wsX1_illInAll) (hk : kd k = 1)  (h : fX1_illInAll A k = some rZ)  (hW : Wd Γ A B s.heap H locs) (hl : lv_has ls 3 [(0, .ref (Γ.2.2 k))]) : W p l e rmX1_illInAll s m args below meth c H locs 0 0 (MQ below (QI Γ A B rZ) args s 0 0 (rg Γ)) (F0 m 0 ls []) := by
  unfold fX1_illInAll at h
  refine lv_iconst (v := 0) C.1 C.2.1 dX1_illInAll_0 (by decide) ?_
  refine lv_istore_n (lv' := [(1, .int 0), (0, .ref (Γ.2.2 k))]) C.1 C.2.1 dX1_illInAll_1 rfl hl (by decide) rfl (fun ls hl => ?_)
  refine lv_iconst (v := 0) C.1 C.2.1 dX1_illInAll_2 (by decide) ?_
  refine lv_istore_n (lv' := [(2, .int 0), (1, .int 0), (0, .ref (Γ.2.2 k))]) C.1 C.2.1 dX1_illInAll_3 rfl hl (by decide) rfl (fun ls hl => ?_)
  exact tX1_illInAll_4 C hk FU _ _ _ _ _ h  hW (lv_sub hl [2, 1, 0] rfl)
theorem mt_X1_illInAll {l : Launch} {Γ : Gm} {A B : Me} {k : Nat}  {rZ : Int32} (hk : kd k = 1) (h : fX1_illInAll A k = some rZ) : Met l yX1_illInAll wsX1_illInAll rmX1_illInAll (PC Γ A B [.ref (Γ.2.2 k)]) (QI Γ A B rZ) 0 0 (rg Γ) :=
  met_of (by decide) rfl (Nat.le_of_ble_eq_true rfl) (fun p e s m below meth c ls C hW hl => tX1_illInAll_0 C hk h  hW (lv_sub (l := [(0, .ref (Γ.2.2 k))]) hl [0] rfl))
abbrev rmX1_welcome : Room := { frames := 0, cells := 0, slots := 0, locals := 0 }
set_option maxRecDepth 100000 in
theorem iX1_welcome_c1 : ∀ w ∈ wsX10, w ∈ wsX1_welcome := by decide +kernel
set_option maxRecDepth 100000 in
theorem wX1_welcome_0 : Cond.fieldLink RX1 60 "WineByYears$Cellar" "peopleCount" "I" ∈ wsX1_welcome := by decide +kernel
set_option maxRecDepth 100000 in
theorem wX1_welcome_1 : Cond.fieldLink RX1 17 "WineByYears$Cellar" "kinds" "[I" ∈ wsX1_welcome := by decide +kernel
set_option maxRecDepth 100000 in
theorem wX1_welcome_2 : Cond.fieldLink RX1 21 "WineByYears$Cellar" "borns" "[I" ∈ wsX1_welcome := by decide +kernel
set_option maxRecDepth 100000 in
theorem wX1_welcome_3 : Cond.fieldLink RX1 24 "WineByYears$Cellar" "ills" "[I" ∈ wsX1_welcome := by decide +kernel
def fX1_welcome  (A : Me) (k : Nat) (v1 : Int32) (v2 : Int32) : Option (Int32 × Me) := if (A k 8) < 5 then (ck (inb (A k 8) 5) <| ck (inb (A k 8) 5) <| ck (inb (A k 8) 5) <| some ((A k 8), (up2 (up2 (up2 (up2 A (k + 2) (A k 8).toNatClampNeg v1) (k + 3) (A k 8).toNatClampNeg v2) (k + 4) (A k 8).toNatClampNeg 0) k 8 (((up2 (up2 (up2 A (k + 2) (A k 8).toNatClampNeg v1) (k + 3) (A k 8).toNatClampNeg v2) (k + 4) (A k 8).toNatClampNeg 0) k 8) + 1)))) else (some ((-1), A))
set_option maxRecDepth 100000 in
theorem tX1_welcome_0 {A B : Me} {k : Nat} {H : Heap} {locs : List Loc} {ls : Array Slot} {v1 : Int32} {v2 : Int32} {rZ : Int32} {AZ : Me}  (C : Cx Γ p s m args meth c cX1_welcome 4 (some .int) RX1 wsX1_welcome) (hk : kd k = 1)  (h : fX1_welcome A k v1 v2 = some (rZ, AZ))  (hW : Wd Γ A B s.heap H locs) (hl : lv_has ls 4 [(0, .ref (Γ.2.2 k)), (1, .int v1), (2, .int v2)]) : W p l e rmX1_welcome s m args below meth c H locs 0 0 (MQ below (QI Γ AZ B rZ) args s 0 0 (rg Γ)) (F0 m 0 ls []) := by
  unfold fX1_welcome at h
  refine lv_aload_n C.1 C.2.1 dX1_welcome_0 rfl (lv_at hl 0 rfl) ?_
  refine gX1_8 C hW hk iX1_welcome_c1 wX1_welcome_0 dX1_welcome_1 ?_
  refine lv_iconst (v := 5) C.1 C.2.1 dX1_welcome_4 (by decide) ?_
  refine lv_icmp_lt (tgt := 10) C.1 C.2.1 dX1_welcome_5 (by decide) (fun c_5 => ?_) (fun c_5 => ?_)
  · have h := if_y h c_5
    refine lv_aload_n C.1 C.2.1 dX1_welcome_10 rfl (lv_at hl 0 rfl) ?_
    refine gX1_8 C hW hk iX1_welcome_c1 wX1_welcome_0 dX1_welcome_11 ?_
    refine lv_istore_n (lv' := [(3, .int (A k 8)), (0, .ref (Γ.2.2 k)), (1, .int v1), (2, .int v2)]) C.1 C.2.1 dX1_welcome_14 rfl hl (by decide) rfl (fun ls hl => ?_)
    refine lv_aload_n C.1 C.2.1 dX1_welcome_15 rfl (lv_at hl 1 rfl) ?_
    refine gX1_1 C hW hk iX1_welcome_c1 wX1_welcome_1 dX1_welcome_16 ?_
    refine lv_iload_n C.1 C.2.1 dX1_welcome_19 rfl (lv_at hl 0 rfl) ?_
    refine lv_iload_n C.1 C.2.1 dX1_welcome_20 rfl (lv_at hl 2 rfl) ?_
    obtain ⟨hi21, h⟩ := ck_s h
    refine sa6 C hW (kd_1r hk).2.1 hi21 dX1_welcome_21 (fun H locs hW => ?_)
    refine lv_aload_n C.1 C.2.1 dX1_welcome_22 rfl (lv_at hl 1 rfl) ?_
    refine gX1_2 C hW hk iX1_welcome_c1 wX1_welcome_2 dX1_welcome_23 ?_
    refine lv_iload_n C.1 C.2.1 dX1_welcome_26 rfl (lv_at hl 0 rfl) ?_
    refine lv_iload_n C.1 C.2.1 dX1_welcome_27 rfl (lv_at hl 3 rfl) ?_
    obtain ⟨hi28, h⟩ := ck_s h
    refine sa6 C hW (kd_1r hk).2.2.1 hi28 dX1_welcome_28 (fun H locs hW => ?_)
    refine lv_aload_n C.1 C.2.1 dX1_welcome_29 rfl (lv_at hl 1 rfl) ?_
    refine gX1_3 C hW hk iX1_welcome_c1 wX1_welcome_3 dX1_welcome_30 ?_
    refine lv_iload_n C.1 C.2.1 dX1_welcome_33 rfl (lv_at hl 0 rfl) ?_
    refine lv_iconst (v := 0) C.1 C.2.1 dX1_welcome_34 (by decide) ?_
    obtain ⟨hi35, h⟩ := ck_s h
    refine sa6 C hW (kd_1r hk).2.2.2.1 hi35 dX1_welcome_35 (fun H locs hW => ?_)
    refine lv_aload_n C.1 C.2.1 dX1_welcome_36 rfl (lv_at hl 1 rfl) ?_
    refine lv_dup C.1 C.2.1 dX1_welcome_37 rfl ?_
    refine gX1_8 C hW hk iX1_welcome_c1 wX1_welcome_0 dX1_welcome_38 ?_
    refine lv_iconst (v := 1) C.1 C.2.1 dX1_welcome_41 (by decide) ?_
    refine lv_iadd C.1 C.2.1 dX1_welcome_42 ?_
    refine pX1_8 C hW hk iX1_welcome_c1 wX1_welcome_0 dX1_welcome_43 (fun H locs hW => ?_)
    refine lv_iload_n C.1 C.2.1 dX1_welcome_46 rfl (lv_at hl 0 rfl) ?_
    cases h
    exact z_iret C hW dX1_welcome_47
  · have h := if_n h c_5
    refine lv_iconst (v := (-1)) C.1 C.2.1 dX1_welcome_8 (by decide) ?_
    cases h
    exact z_iret C hW dX1_welcome_9
theorem mt_X1_welcome {l : Launch} {Γ : Gm} {A B : Me} {k : Nat} {v1 : Int32} {v2 : Int32} {rZ : Int32} {AZ : Me} (hk : kd k = 1) (h : fX1_welcome A k v1 v2 = some (rZ, AZ)) : Met l yX1_welcome wsX1_welcome rmX1_welcome (PC Γ A B [.ref (Γ.2.2 k), .int v1, .int v2]) (QI Γ AZ B rZ) 0 0 (rg Γ) :=
  met_of (by decide) rfl (Nat.le_of_ble_eq_true rfl) (fun p e s m below meth c ls C hW hl => tX1_welcome_0 C hk h  hW (lv_sub (l := [(0, .ref (Γ.2.2 k)), (1, .int v1), (2, .int v2)]) hl [0, 1, 2] rfl))
abbrev rmJ6_bitCount_0f7a4 : Room := { frames := 0, cells := 0, slots := 0, locals := 0 }
set_option maxRecDepth 100000 in
theorem wJ6_bitCount_0f7a4_0 : Cond.constant RJ6 265 (1431655765) ∈ wsJ6_bitCount_0f7a4 := by decide +kernel
set_option maxRecDepth 100000 in
theorem wJ6_bitCount_0f7a4_1 : Cond.constant RJ6 266 (858993459) ∈ wsJ6_bitCount_0f7a4 := by decide +kernel
set_option maxRecDepth 100000 in
theorem wJ6_bitCount_0f7a4_2 : Cond.constant RJ6 267 (252645135) ∈ wsJ6_bitCount_0f7a4 := by decide +kernel
def fJ6_bitCount_0f7a4_48    (v0 : Int32) : Option (Int32) := some (v0 &&& 63)
set_option maxRecDepth 100000 in
theorem tJ6_bitCount_0f7a4_48 {A B : Me}  {H : Heap} {locs : List Loc} {ls : Array Slot} {v0 : Int32} {rZ : Int32}  (C : Cx Γ p s m args meth c cJ6_bitCount_0f7a4 1 (some .int) RJ6 wsJ6_bitCount_0f7a4)  (h : fJ6_bitCount_0f7a4_48 v0 = some rZ)  (hW : Wd Γ A B s.heap H locs) (hl : lv_has ls 1 [(0, .int v0)]) : W p l e rmJ6_bitCount_0f7a4 s m args below meth c H locs 0 0 (MQ below (QI Γ A B rZ) args s 0 0 (rg Γ)) (F0 m 48 ls []) := by
  unfold fJ6_bitCount_0f7a4_48 at h
  refine lv_iload_n C.1 C.2.1 dJ6_bitCount_0f7a4_48 rfl (lv_at hl 0 rfl) ?_
  refine lv_bipush (v := 63) C.1 C.2.1 dJ6_bitCount_0f7a4_49 (by decide) ?_
  refine lv_iand C.1 C.2.1 dJ6_bitCount_0f7a4_51 ?_
  cases h
  exact z_iret C hW dJ6_bitCount_0f7a4_52
def fJ6_bitCount_0f7a4_41    (v0 : Int32) : Option (Int32) := fJ6_bitCount_0f7a4_48 (v0 + ((v0.toUInt32 >>> ((16 : Int32).toUInt32 &&& Int32.toUInt32 31)).toInt32))
set_option maxRecDepth 100000 in
theorem tJ6_bitCount_0f7a4_41 {A B : Me}  {H : Heap} {locs : List Loc} {ls : Array Slot} {v0 : Int32} {rZ : Int32}  (C : Cx Γ p s m args meth c cJ6_bitCount_0f7a4 1 (some .int) RJ6 wsJ6_bitCount_0f7a4)  (h : fJ6_bitCount_0f7a4_41 v0 = some rZ)  (hW : Wd Γ A B s.heap H locs) (hl : lv_has ls 1 [(0, .int v0)]) : W p l e rmJ6_bitCount_0f7a4 s m args below meth c H locs 0 0 (MQ below (QI Γ A B rZ) args s 0 0 (rg Γ)) (F0 m 41 ls []) := by
  unfold fJ6_bitCount_0f7a4_41 at h
  refine lv_iload_n C.1 C.2.1 dJ6_bitCount_0f7a4_41 rfl (lv_at hl 0 rfl) ?_
  refine lv_iload_n C.1 C.2.1 dJ6_bitCount_0f7a4_42 rfl (lv_at hl 0 rfl) ?_
  refine lv_bipush (v := 16) C.1 C.2.1 dJ6_bitCount_0f7a4_43 (by decide) ?_
  refine lv_iushr C.1 C.2.1 dJ6_bitCount_0f7a4_45 rfl ?_
  refine lv_iadd C.1 C.2.1 dJ6_bitCount_0f7a4_46 ?_
  refine lv_istore_n (lv' := [(0, .int (v0 + ((v0.toUInt32 >>> ((16 : Int32).toUInt32 &&& Int32.toUInt32 31)).toInt32)))]) C.1 C.2.1 dJ6_bitCount_0f7a4_47 rfl hl (by decide) rfl (fun ls hl => ?_)
  exact tJ6_bitCount_0f7a4_48 C  h  hW (lv_sub hl [0] rfl)
def fJ6_bitCount_0f7a4_34    (v0 : Int32) : Option (Int32) := fJ6_bitCount_0f7a4_41 (v0 + ((v0.toUInt32 >>> ((8 : Int32).toUInt32 &&& Int32.toUInt32 31)).toInt32))
set_option maxRecDepth 100000 in
theorem tJ6_bitCount_0f7a4_34 {A B : Me}  {H : Heap} {locs : List Loc} {ls : Array Slot} {v0 : Int32} {rZ : Int32}  (C : Cx Γ p s m args meth c cJ6_bitCount_0f7a4 1 (some .int) RJ6 wsJ6_bitCount_0f7a4)  (h : fJ6_bitCount_0f7a4_34 v0 = some rZ)  (hW : Wd Γ A B s.heap H locs) (hl : lv_has ls 1 [(0, .int v0)]) : W p l e rmJ6_bitCount_0f7a4 s m args below meth c H locs 0 0 (MQ below (QI Γ A B rZ) args s 0 0 (rg Γ)) (F0 m 34 ls []) := by
  unfold fJ6_bitCount_0f7a4_34 at h
  refine lv_iload_n C.1 C.2.1 dJ6_bitCount_0f7a4_34 rfl (lv_at hl 0 rfl) ?_
  refine lv_iload_n C.1 C.2.1 dJ6_bitCount_0f7a4_35 rfl (lv_at hl 0 rfl) ?_
  refine lv_bipush (v := 8) C.1 C.2.1 dJ6_bitCount_0f7a4_36 (by decide) ?_
  refine lv_iushr C.1 C.2.1 dJ6_bitCount_0f7a4_38 rfl ?_
  refine lv_iadd C.1 C.2.1 dJ6_bitCount_0f7a4_39 ?_
  refine lv_istore_n (lv' := [(0, .int (v0 + ((v0.toUInt32 >>> ((8 : Int32).toUInt32 &&& Int32.toUInt32 31)).toInt32)))]) C.1 C.2.1 dJ6_bitCount_0f7a4_40 rfl hl (by decide) rfl (fun ls hl => ?_)
  exact tJ6_bitCount_0f7a4_41 C  h  hW (lv_sub hl [0] rfl)
def fJ6_bitCount_0f7a4_24    (v0 : Int32) : Option (Int32) := fJ6_bitCount_0f7a4_34 ((v0 + ((v0.toUInt32 >>> ((4 : Int32).toUInt32 &&& Int32.toUInt32 31)).toInt32)) &&& 252645135)
set_option maxRecDepth 100000 in
theorem tJ6_bitCount_0f7a4_24 {A B : Me}  {H : Heap} {locs : List Loc} {ls : Array Slot} {v0 : Int32} {rZ : Int32}  (C : Cx Γ p s m args meth c cJ6_bitCount_0f7a4 1 (some .int) RJ6 wsJ6_bitCount_0f7a4)  (h : fJ6_bitCount_0f7a4_24 v0 = some rZ)  (hW : Wd Γ A B s.heap H locs) (hl : lv_has ls 1 [(0, .int v0)]) : W p l e rmJ6_bitCount_0f7a4 s m args below meth c H locs 0 0 (MQ below (QI Γ A B rZ) args s 0 0 (rg Γ)) (F0 m 24 ls []) := by
  unfold fJ6_bitCount_0f7a4_24 at h
  refine lv_iload_n C.1 C.2.1 dJ6_bitCount_0f7a4_24 rfl (lv_at hl 0 rfl) ?_
  refine lv_iload_n C.1 C.2.1 dJ6_bitCount_0f7a4_25 rfl (lv_at hl 0 rfl) ?_
  refine lv_iconst (v := 4) C.1 C.2.1 dJ6_bitCount_0f7a4_26 (by decide) ?_
  refine lv_iushr C.1 C.2.1 dJ6_bitCount_0f7a4_27 rfl ?_
  refine lv_iadd C.1 C.2.1 dJ6_bitCount_0f7a4_28 ?_
  refine lv_ldcw (v := 252645135) C.1 C.2.1 C.2.2.2.2.1 (C.2.2.2.2.2.1 _ wJ6_bitCount_0f7a4_2) dJ6_bitCount_0f7a4_29 ?_
  refine lv_iand C.1 C.2.1 dJ6_bitCount_0f7a4_32 ?_
  refine lv_istore_n (lv' := [(0, .int ((v0 + ((v0.toUInt32 >>> ((4 : Int32).toUInt32 &&& Int32.toUInt32 31)).toInt32)) &&& 252645135))]) C.1 C.2.1 dJ6_bitCount_0f7a4_33 rfl hl (by decide) rfl (fun ls hl => ?_)
  exact tJ6_bitCount_0f7a4_34 C  h  hW (lv_sub hl [0] rfl)
def fJ6_bitCount_0f7a4_10    (v0 : Int32) : Option (Int32) := fJ6_bitCount_0f7a4_24 ((v0 &&& 858993459) + (((v0.toUInt32 >>> ((2 : Int32).toUInt32 &&& Int32.toUInt32 31)).toInt32) &&& 858993459))
set_option maxRecDepth 100000 in
theorem tJ6_bitCount_0f7a4_10 {A B : Me}  {H : Heap} {locs : List Loc} {ls : Array Slot} {v0 : Int32} {rZ : Int32}  (C : Cx Γ p s m args meth c cJ6_bitCount_0f7a4 1 (some .int) RJ6 wsJ6_bitCount_0f7a4)  (h : fJ6_bitCount_0f7a4_10 v0 = some rZ)  (hW : Wd Γ A B s.heap H locs) (hl : lv_has ls 1 [(0, .int v0)]) : W p l e rmJ6_bitCount_0f7a4 s m args below meth c H locs 0 0 (MQ below (QI Γ A B rZ) args s 0 0 (rg Γ)) (F0 m 10 ls []) := by
  unfold fJ6_bitCount_0f7a4_10 at h
  refine lv_iload_n C.1 C.2.1 dJ6_bitCount_0f7a4_10 rfl (lv_at hl 0 rfl) ?_
  refine lv_ldcw (v := 858993459) C.1 C.2.1 C.2.2.2.2.1 (C.2.2.2.2.2.1 _ wJ6_bitCount_0f7a4_1) dJ6_bitCount_0f7a4_11 ?_
  refine lv_iand C.1 C.2.1 dJ6_bitCount_0f7a4_14 ?_
  refine lv_iload_n C.1 C.2.1 dJ6_bitCount_0f7a4_15 rfl (lv_at hl 0 rfl) ?_
  refine lv_iconst (v := 2) C.1 C.2.1 dJ6_bitCount_0f7a4_16 (by decide) ?_
  refine lv_iushr C.1 C.2.1 dJ6_bitCount_0f7a4_17 rfl ?_
  refine lv_ldcw (v := 858993459) C.1 C.2.1 C.2.2.2.2.1 (C.2.2.2.2.2.1 _ wJ6_bitCount_0f7a4_1) dJ6_bitCount_0f7a4_18 ?_
  refine lv_iand C.1 C.2.1 dJ6_bitCount_0f7a4_21 ?_
  refine lv_iadd C.1 C.2.1 dJ6_bitCount_0f7a4_22 ?_
  refine lv_istore_n (lv' := [(0, .int ((v0 &&& 858993459) + (((v0.toUInt32 >>> ((2 : Int32).toUInt32 &&& Int32.toUInt32 31)).toInt32) &&& 858993459)))]) C.1 C.2.1 dJ6_bitCount_0f7a4_23 rfl hl (by decide) rfl (fun ls hl => ?_)
  exact tJ6_bitCount_0f7a4_24 C  h  hW (lv_sub hl [0] rfl)
def fJ6_bitCount_0f7a4    (v0 : Int32) : Option (Int32) := fJ6_bitCount_0f7a4_10 (v0 - (((v0.toUInt32 >>> ((1 : Int32).toUInt32 &&& Int32.toUInt32 31)).toInt32) &&& 1431655765))
set_option maxRecDepth 100000 in
theorem tJ6_bitCount_0f7a4_0 {A B : Me}  {H : Heap} {locs : List Loc} {ls : Array Slot} {v0 : Int32} {rZ : Int32}  (C : Cx Γ p s m args meth c cJ6_bitCount_0f7a4 1 (some .int) RJ6 wsJ6_bitCount_0f7a4)  (h : fJ6_bitCount_0f7a4 v0 = some rZ)  (hW : Wd Γ A B s.heap H locs) (hl : lv_has ls 1 [(0, .int v0)]) : W p l e rmJ6_bitCount_0f7a4 s m args below meth c H locs 0 0 (MQ below (QI Γ A B rZ) args s 0 0 (rg Γ)) (F0 m 0 ls []) := by
  unfold fJ6_bitCount_0f7a4 at h
  refine lv_iload_n C.1 C.2.1 dJ6_bitCount_0f7a4_0 rfl (lv_at hl 0 rfl) ?_
  refine lv_iload_n C.1 C.2.1 dJ6_bitCount_0f7a4_1 rfl (lv_at hl 0 rfl) ?_
  refine lv_iconst (v := 1) C.1 C.2.1 dJ6_bitCount_0f7a4_2 (by decide) ?_
  refine lv_iushr C.1 C.2.1 dJ6_bitCount_0f7a4_3 rfl ?_
  refine lv_ldcw (v := 1431655765) C.1 C.2.1 C.2.2.2.2.1 (C.2.2.2.2.2.1 _ wJ6_bitCount_0f7a4_0) dJ6_bitCount_0f7a4_4 ?_
  refine lv_iand C.1 C.2.1 dJ6_bitCount_0f7a4_7 ?_
  refine lv_isub C.1 C.2.1 dJ6_bitCount_0f7a4_8 ?_
  refine lv_istore_n (lv' := [(0, .int (v0 - (((v0.toUInt32 >>> ((1 : Int32).toUInt32 &&& Int32.toUInt32 31)).toInt32) &&& 1431655765)))]) C.1 C.2.1 dJ6_bitCount_0f7a4_9 rfl hl (by decide) rfl (fun ls hl => ?_)
  exact tJ6_bitCount_0f7a4_10 C  h  hW (lv_sub hl [0] rfl)
theorem mt_J6_bitCount_0f7a4 {l : Launch} {Γ : Gm} {A B : Me}  {v0 : Int32} {rZ : Int32}  (h : fJ6_bitCount_0f7a4 v0 = some rZ) : Met l yJ6_bitCount_0f7a4 wsJ6_bitCount_0f7a4 rmJ6_bitCount_0f7a4 (PC Γ A B [.int v0]) (QI Γ A B rZ) 0 0 (rg Γ) :=
  met_of (by decide) rfl (Nat.le_of_ble_eq_true rfl) (fun p e s m below meth c ls C hW hl => tJ6_bitCount_0f7a4_0 C  h  hW (lv_sub (l := [(0, .int v0)]) hl [0] rfl))
abbrev rmX3_mayDrink : Room := { frames := 0, cells := 0, slots := 0, locals := 0 }
def fX3_mayDrink_50    (t0 : Int32) : Option (Int32) := ck (zb t0) <| some t0
set_option maxRecDepth 100000 in
theorem tX3_mayDrink_50 {A B : Me}  {H : Heap} {locs : List Loc} {ls : Array Slot} {t0 : Int32} {rZ : Int32}  (C : Cx Γ p s m args meth c cX3_mayDrink 4 (some .boolean) RX3 wsX3_mayDrink)  (h : fX3_mayDrink_50 t0 = some rZ)  (hW : Wd Γ A B s.heap H locs) (hl : lv_has ls 4 []) : W p l e rmX3_mayDrink s m args below meth c H locs 0 0 (MQ below (QI Γ A B rZ) args s 0 0 (rg Γ)) (F0 m 50 ls [.int t0]) := by
  unfold fX3_mayDrink_50 at h
  obtain ⟨hz, h⟩ := ck_s h
  cases h
  exact z_zret C hW hz dX3_mayDrink_50
def fX3_mayDrink_63    (t0 : Int32) : Option (Int32) := ck (zb t0) <| some t0
set_option maxRecDepth 100000 in
theorem tX3_mayDrink_63 {A B : Me}  {H : Heap} {locs : List Loc} {ls : Array Slot} {t0 : Int32} {rZ : Int32}  (C : Cx Γ p s m args meth c cX3_mayDrink 4 (some .boolean) RX3 wsX3_mayDrink)  (h : fX3_mayDrink_63 t0 = some rZ)  (hW : Wd Γ A B s.heap H locs) (hl : lv_has ls 4 []) : W p l e rmX3_mayDrink s m args below meth c H locs 0 0 (MQ below (QI Γ A B rZ) args s 0 0 (rg Γ)) (F0 m 63 ls [.int t0]) := by
  unfold fX3_mayDrink_63 at h
  obtain ⟨hz, h⟩ := ck_s h
  cases h
  exact z_zret C hW hz dX3_mayDrink_63
def fX3_mayDrink_81    (t0 : Int32) : Option (Int32) := ck (zb t0) <| some t0
set_option maxRecDepth 100000 in
theorem tX3_mayDrink_81 {A B : Me}  {H : Heap} {locs : List Loc} {ls : Array Slot} {t0 : Int32} {rZ : Int32}  (C : Cx Γ p s m args meth c cX3_mayDrink 4 (some .boolean) RX3 wsX3_mayDrink)  (h : fX3_mayDrink_81 t0 = some rZ)  (hW : Wd Γ A B s.heap H locs) (hl : lv_has ls 4 []) : W p l e rmX3_mayDrink s m args below meth c H locs 0 0 (MQ below (QI Γ A B rZ) args s 0 0 (rg Γ)) (F0 m 81 ls [.int t0]) := by
  unfold fX3_mayDrink_81 at h
  obtain ⟨hz, h⟩ := ck_s h
  cases h
  exact z_zret C hW hz dX3_mayDrink_81
def fX3_mayDrink_80     : Option (Int32) := fX3_mayDrink_81 0
set_option maxRecDepth 100000 in
theorem tX3_mayDrink_80 {A B : Me}  {H : Heap} {locs : List Loc} {ls : Array Slot}  {rZ : Int32}  (C : Cx Γ p s m args meth c cX3_mayDrink 4 (some .boolean) RX3 wsX3_mayDrink)  (h : fX3_mayDrink_80 = some rZ)  (hW : Wd Γ A B s.heap H locs) (hl : lv_has ls 4 []) : W p l e rmX3_mayDrink s m args below meth c H locs 0 0 (MQ below (QI Γ A B rZ) args s 0 0 (rg Γ)) (F0 m 80 ls []) := by
  unfold fX3_mayDrink_80 at h
  refine lv_iconst (v := 0) C.1 C.2.1 dX3_mayDrink_80 (by decide) ?_
  exact tX3_mayDrink_81 C  h  hW (lv_sub hl [] rfl)
def fX3_mayDrink_92    (t0 : Int32) : Option (Int32) := ck (zb t0) <| some t0
set_option maxRecDepth 100000 in
theorem tX3_mayDrink_92 {A B : Me}  {H : Heap} {locs : List Loc} {ls : Array Slot} {t0 : Int32} {rZ : Int32}  (C : Cx Γ p s m args meth c cX3_mayDrink 4 (some .boolean) RX3 wsX3_mayDrink)  (h : fX3_mayDrink_92 t0 = some rZ)  (hW : Wd Γ A B s.heap H locs) (hl : lv_has ls 4 []) : W p l e rmX3_mayDrink s m args below meth c H locs 0 0 (MQ below (QI Γ A B rZ) args s 0 0 (rg Γ)) (F0 m 92 ls [.int t0]) := by
  unfold fX3_mayDrink_92 at h
  obtain ⟨hz, h⟩ := ck_s h
  cases h
  exact z_zret C hW hz dX3_mayDrink_92
def fX3_mayDrink    (v0 : Int32) (v1 : Int32) (v2 : Int32) (v3 : Int32) : Option (Int32) := if v2 = (-1) then (some 0) else (if v0 = 1 then (if v2 < v1 then (fX3_mayDrink_50 0) else (fX3_mayDrink_50 1)) else if v0 = 2 then (if v2 < (v1 + 2) then (fX3_mayDrink_63 0) else (fX3_mayDrink_63 1)) else if v0 = 3 then (some 1) else if v0 = 4 then (if v2 < v1 then (fX3_mayDrink_80) else (if 3 ≤ v3 then (fX3_mayDrink_80) else (fX3_mayDrink_81 1))) else (if v2 ≤ v1 then (fX3_mayDrink_92 0) else (fX3_mayDrink_92 1)))
set_option maxRecDepth 100000 in
theorem tX3_mayDrink_0 {A B : Me}  {H : Heap} {locs : List Loc} {ls : Array Slot} {v0 : Int32} {v1 : Int32} {v2 : Int32} {v3 : Int32} {rZ : Int32}  (C : Cx Γ p s m args meth c cX3_mayDrink 4 (some .boolean) RX3 wsX3_mayDrink)  (h : fX3_mayDrink v0 v1 v2 v3 = some rZ)  (hW : Wd Γ A B s.heap H locs) (hl : lv_has ls 4 [(0, .int v0), (1, .int v1), (2, .int v2), (3, .int v3)]) : W p l e rmX3_mayDrink s m args below meth c H locs 0 0 (MQ below (QI Γ A B rZ) args s 0 0 (rg Γ)) (F0 m 0 ls []) := by
  unfold fX3_mayDrink at h
  refine lv_iload_n C.1 C.2.1 dX3_mayDrink_0 rfl (lv_at hl 2 rfl) ?_
  refine lv_iconst (v := (-1)) C.1 C.2.1 dX3_mayDrink_1 (by decide) ?_
  refine lv_icmp_ne (tgt := 7) C.1 C.2.1 dX3_mayDrink_2 (by decide) (fun c_2 => ?_) (fun c_2 => ?_)
  · have h := if_n h c_2
    refine lv_iload_n C.1 C.2.1 dX3_mayDrink_7 rfl (lv_at hl 0 rfl) ?_
    by_cases e_1 : v0 = 1
    · have h := if_y h e_1
      refine lv_tableIn (off := 32) (tgt := 40) C.1 C.2.1 dX3_mayDrink_8 (by rw [e_1]; decide) (by rw [e_1]; decide) (by rw [e_1]; decide) (by decide) ?_
      refine lv_iload_n C.1 C.2.1 dX3_mayDrink_40 rfl (lv_at hl 2 rfl) ?_
      refine lv_iload_n C.1 C.2.1 dX3_mayDrink_41 rfl (lv_at hl 1 rfl) ?_
      refine lv_icmp_lt (tgt := 49) C.1 C.2.1 dX3_mayDrink_42 (by decide) (fun c_42 => ?_) (fun c_42 => ?_)
      · have h := if_y h c_42
        refine lv_iconst (v := 0) C.1 C.2.1 dX3_mayDrink_49 (by decide) ?_
        exact tX3_mayDrink_50 C  h  hW (lv_sub hl [] rfl)
      · have h := if_n h c_42
        refine lv_iconst (v := 1) C.1 C.2.1 dX3_mayDrink_45 (by decide) ?_
        refine lv_goto (tgt := 50) C.1 C.2.1 dX3_mayDrink_46 (by decide) ?_
        exact tX3_mayDrink_50 C  h  hW (lv_sub hl [] rfl)
    have h := if_n h e_1
    by_cases e_2 : v0 = 2
    · have h := if_y h e_2
      refine lv_tableIn (off := 43) (tgt := 51) C.1 C.2.1 dX3_mayDrink_8 (by rw [e_2]; decide) (by rw [e_2]; decide) (by rw [e_2]; decide) (by decide) ?_
      refine lv_iload_n C.1 C.2.1 dX3_mayDrink_51 rfl (lv_at hl 2 rfl) ?_
      refine lv_iload_n C.1 C.2.1 dX3_mayDrink_52 rfl (lv_at hl 1 rfl) ?_
      refine lv_iconst (v := 2) C.1 C.2.1 dX3_mayDrink_53 (by decide) ?_
      refine lv_iadd C.1 C.2.1 dX3_mayDrink_54 ?_
      refine lv_icmp_lt (tgt := 62) C.1 C.2.1 dX3_mayDrink_55 (by decide) (fun c_55 => ?_) (fun c_55 => ?_)
      · have h := if_y h c_55
        refine lv_iconst (v := 0) C.1 C.2.1 dX3_mayDrink_62 (by decide) ?_
        exact tX3_mayDrink_63 C  h  hW (lv_sub hl [] rfl)
      · have h := if_n h c_55
        refine lv_iconst (v := 1) C.1 C.2.1 dX3_mayDrink_58 (by decide) ?_
        refine lv_goto (tgt := 63) C.1 C.2.1 dX3_mayDrink_59 (by decide) ?_
        exact tX3_mayDrink_63 C  h  hW (lv_sub hl [] rfl)
    have h := if_n h e_2
    by_cases e_3 : v0 = 3
    · have h := if_y h e_3
      refine lv_tableIn (off := 56) (tgt := 64) C.1 C.2.1 dX3_mayDrink_8 (by rw [e_3]; decide) (by rw [e_3]; decide) (by rw [e_3]; decide) (by decide) ?_
      refine lv_iconst (v := 1) C.1 C.2.1 dX3_mayDrink_64 (by decide) ?_
      cases h
      exact z_zret C hW (by decide) dX3_mayDrink_65
    have h := if_n h e_3
    by_cases e_4 : v0 = 4
    · have h := if_y h e_4
      refine lv_tableIn (off := 58) (tgt := 66) C.1 C.2.1 dX3_mayDrink_8 (by rw [e_4]; decide) (by rw [e_4]; decide) (by rw [e_4]; decide) (by decide) ?_
      refine lv_iload_n C.1 C.2.1 dX3_mayDrink_66 rfl (lv_at hl 2 rfl) ?_
      refine lv_iload_n C.1 C.2.1 dX3_mayDrink_67 rfl (lv_at hl 1 rfl) ?_
      refine lv_icmp_lt (tgt := 80) C.1 C.2.1 dX3_mayDrink_68 (by decide) (fun c_68 => ?_) (fun c_68 => ?_)
      · have h := if_y h c_68
        exact tX3_mayDrink_80 C  h  hW (lv_sub hl [] rfl)
      · have h := if_n h c_68
        refine lv_iload_n C.1 C.2.1 dX3_mayDrink_71 rfl (lv_at hl 3 rfl) ?_
        refine lv_iconst (v := 3) C.1 C.2.1 dX3_mayDrink_72 (by decide) ?_
        refine lv_icmp_ge (tgt := 80) C.1 C.2.1 dX3_mayDrink_73 (by decide) (fun c_73 => ?_) (fun c_73 => ?_)
        · have h := if_y h c_73
          exact tX3_mayDrink_80 C  h  hW (lv_sub hl [] rfl)
        · have h := if_n h c_73
          refine lv_iconst (v := 1) C.1 C.2.1 dX3_mayDrink_76 (by decide) ?_
          refine lv_goto (tgt := 81) C.1 C.2.1 dX3_mayDrink_77 (by decide) ?_
          exact tX3_mayDrink_81 C  h  hW (lv_sub hl [] rfl)
    have h := if_n h e_4
    refine lv_tableOut (tgt := 82) C.1 C.2.1 dX3_mayDrink_8 ?_ (by decide) ?_
    · exact tsw1_4 e_1 e_2 e_3 e_4
    · refine lv_iload_n C.1 C.2.1 dX3_mayDrink_82 rfl (lv_at hl 2 rfl) ?_
      refine lv_iload_n C.1 C.2.1 dX3_mayDrink_83 rfl (lv_at hl 1 rfl) ?_
      refine lv_icmp_le (tgt := 91) C.1 C.2.1 dX3_mayDrink_84 (by decide) (fun c_84 => ?_) (fun c_84 => ?_)
      · have h := if_y h c_84
        refine lv_iconst (v := 0) C.1 C.2.1 dX3_mayDrink_91 (by decide) ?_
        exact tX3_mayDrink_92 C  h  hW (lv_sub hl [] rfl)
      · have h := if_n h c_84
        refine lv_iconst (v := 1) C.1 C.2.1 dX3_mayDrink_87 (by decide) ?_
        refine lv_goto (tgt := 92) C.1 C.2.1 dX3_mayDrink_88 (by decide) ?_
        exact tX3_mayDrink_92 C  h  hW (lv_sub hl [] rfl)
  · have h := if_y h c_2
    refine lv_iconst (v := 0) C.1 C.2.1 dX3_mayDrink_5 (by decide) ?_
    cases h
    exact z_zret C hW (by decide) dX3_mayDrink_6
theorem mt_X3_mayDrink {l : Launch} {Γ : Gm} {A B : Me}  {v0 : Int32} {v1 : Int32} {v2 : Int32} {v3 : Int32} {rZ : Int32}  (h : fX3_mayDrink v0 v1 v2 v3 = some rZ) : Met l yX3_mayDrink wsX3_mayDrink rmX3_mayDrink (PC Γ A B [.int v0, .int v1, .int v2, .int v3]) (QI Γ A B rZ) 0 0 (rg Γ) :=
  met_of (by decide) rfl (Nat.le_of_ble_eq_true rfl) (fun p e s m below meth c ls C hW hl => tX3_mayDrink_0 C  h  hW (lv_sub (l := [(0, .int v0), (1, .int v1), (2, .int v2), (3, .int v3)]) hl [0, 1, 2, 3] rfl))
abbrev rmX1_whoMay : Room := { frames := 2, cells := 0, slots := 0, locals := 43 }
set_option maxRecDepth 100000 in
theorem iX1_whoMay_c1 : ∀ w ∈ wsX10, w ∈ wsX1_whoMay := by decide +kernel
set_option maxRecDepth 100000 in
theorem wX1_whoMay_0 : Cond.fieldLink RX1 40 "WineByYears$Cellar" "law" "I" ∈ wsX1_whoMay := by decide +kernel
set_option maxRecDepth 100000 in
theorem wX1_whoMay_1 : Cond.fieldLink RX1 60 "WineByYears$Cellar" "peopleCount" "I" ∈ wsX1_whoMay := by decide +kernel
set_option maxRecDepth 100000 in
theorem wX1_whoMay_2 : Cond.fieldLink RX1 17 "WineByYears$Cellar" "kinds" "[I" ∈ wsX1_whoMay := by decide +kernel
set_option maxRecDepth 100000 in
theorem wX1_whoMay_3 : Cond.fieldLink RX1 21 "WineByYears$Cellar" "borns" "[I" ∈ wsX1_whoMay := by decide +kernel
set_option maxRecDepth 100000 in
theorem wX1_whoMay_4 : Cond.initialized RX3 ∈ wsX1_whoMay := by decide +kernel
set_option maxRecDepth 100000 in
theorem wX1_whoMay_5 : Cond.static yX3_mayDrink ∈ wsX1_whoMay := by decide +kernel
def fX1_whoMay_63 (j23 : Int32 → Int32 → Int32 → Int32 → Option (Int32)) (A : Me) (k : Nat) (v2 : Int32) (v3 : Int32) (v4 : Int32) (v5 : Int32) : Option (Int32) := j23 v2 v3 v4 (v5 + 1)
set_option maxRecDepth 100000 in
theorem tX1_whoMay_63 {A B : Me} {k : Nat} {H : Heap} {locs : List Loc} {ls : Array Slot} {v2 : Int32} {v3 : Int32} {v4 : Int32} {v5 : Int32} {rZ : Int32} {j23 : Int32 → Int32 → Int32 → Int32 → Option (Int32)} (C : Cx Γ p s m args meth c cX1_whoMay 6 (some .int) RX1 wsX1_whoMay) (hk : kd k = 1) (hr23 : ∀ (v2 : Int32) (v3 : Int32) (v4 : Int32) (v5 : Int32) (H : Heap) (locs : List Loc) (ls : Array Slot), j23 v2 v3 v4 v5 = some rZ → Wd Γ A B s.heap H locs → lv_has ls 6 [(0, .ref (Γ.2.2 k)), (2, .int v2), (3, .int v3), (4, .int v4), (5, .int v5)] → W p l e rmX1_whoMay s m args below meth c H locs 0 0 (MQ below (QI Γ A B rZ) args s 0 0 (rg Γ)) (F0 m 23 ls [])) (h : fX1_whoMay_63 j23 A k v2 v3 v4 v5 = some rZ)  (hW : Wd Γ A B s.heap H locs) (hl : lv_has ls 6 [(0, .ref (Γ.2.2 k)), (2, .int v2), (3, .int v3), (4, .int v4), (5, .int v5)]) : W p l e rmX1_whoMay s m args below meth c H locs 0 0 (MQ below (QI Γ A B rZ) args s 0 0 (rg Γ)) (F0 m 63 ls []) := by
  unfold fX1_whoMay_63 at h
  refine lv_iinc (v := (v5 + 1)) (lv' := [(5, .int (v5 + 1)), (0, .ref (Γ.2.2 k)), (2, .int v2), (3, .int v3), (4, .int v4)]) C.1 C.2.1 dX1_whoMay_63 hl (k := 4) rfl rfl (by decide) rfl (fun ls hl => ?_)
  refine lv_goto (tgt := 23) C.1 C.2.1 dX1_whoMay_66 (by decide) ?_
  exact hr23 _ _ _ _ _ _ _ h  hW (lv_sub hl [1, 2, 3, 4, 0] rfl)
def fX1_whoMay_23  (A : Me) (k : Nat) : Nat → Int32 → Int32 → Int32 → Int32 → Option (Int32)
  | 0, _, _, _, _ => none
  | n + 1, v2, v3, v4, v5 => if (A k 8) ≤ v5 then (some v4) else (ck (inb v5 5) <| ck (inb v5 5) <| bi (fX3_mayDrink (A (k + 2) v5.toNatClampNeg) (A (k + 3) v5.toNatClampNeg) v2 v3) fun r48 => if r48 = 0 then (fX1_whoMay_63 (fun x0 x1 x2 x3 => fX1_whoMay_23 A k n x0 x1 x2 x3) A k v2 v3 v4 v5) else (fX1_whoMay_63 (fun x0 x1 x2 x3 => fX1_whoMay_23 A k n x0 x1 x2 x3) A k v2 v3 (v4 ||| (1 <<< (v5 &&& 31))) v5))
set_option maxRecDepth 100000 in
theorem tX1_whoMay_23 {A B : Me} {k : Nat} {rZ : Int32}  (C : Cx Γ p s m args meth c cX1_whoMay 6 (some .int) RX1 wsX1_whoMay) (hk : kd k = 1)  (n : Nat) : ∀ (v2 : Int32) (v3 : Int32) (v4 : Int32) (v5 : Int32) (H : Heap) (locs : List Loc) (ls : Array Slot), fX1_whoMay_23 A k n v2 v3 v4 v5 = some rZ → Wd Γ A B s.heap H locs → lv_has ls 6 [(0, .ref (Γ.2.2 k)), (2, .int v2), (3, .int v3), (4, .int v4), (5, .int v5)] → W p l e rmX1_whoMay s m args below meth c H locs 0 0 (MQ below (QI Γ A B rZ) args s 0 0 (rg Γ)) (F0 m 23 ls []) := by
  induction n with
  | zero =>
    intro _ _ _ _ H locs ls h
    exact nomatch (show (none : Option (Int32)) = some rZ from h)
  | succ n ih =>
    intro v2 v3 v4 v5 H locs ls h  hW hl
    rw [fX1_whoMay_23] at h
    refine lv_iload C.1 C.2.1 dX1_whoMay_23 (lv_at hl 4 rfl) ?_
    refine lv_aload_n C.1 C.2.1 dX1_whoMay_25 rfl (lv_at hl 0 rfl) ?_
    refine gX1_8 C hW hk iX1_whoMay_c1 wX1_whoMay_1 dX1_whoMay_26 ?_
    refine lv_icmp_ge (tgt := 69) C.1 C.2.1 dX1_whoMay_29 (by decide) (fun c_29 => ?_) (fun c_29 => ?_)
    · have h := if_y h c_29
      refine lv_iload C.1 C.2.1 dX1_whoMay_69 (lv_at hl 3 rfl) ?_
      cases h
      exact z_iret C hW dX1_whoMay_71
    · have h := if_n h c_29
      refine lv_aload_n C.1 C.2.1 dX1_whoMay_32 rfl (lv_at hl 0 rfl) ?_
      refine gX1_1 C hW hk iX1_whoMay_c1 wX1_whoMay_2 dX1_whoMay_33 ?_
      refine lv_iload C.1 C.2.1 dX1_whoMay_36 (lv_at hl 4 rfl) ?_
      obtain ⟨hi38, h⟩ := ck_s h
      refine la6 C hW (kd_1r hk).2.1 hi38 dX1_whoMay_38 ?_
      refine lv_aload_n C.1 C.2.1 dX1_whoMay_39 rfl (lv_at hl 0 rfl) ?_
      refine gX1_2 C hW hk iX1_whoMay_c1 wX1_whoMay_3 dX1_whoMay_40 ?_
      refine lv_iload C.1 C.2.1 dX1_whoMay_43 (lv_at hl 4 rfl) ?_
      obtain ⟨hi45, h⟩ := ck_s h
      refine la6 C hW (kd_1r hk).2.2.1 hi45 dX1_whoMay_45 ?_
      refine lv_iload_n C.1 C.2.1 dX1_whoMay_46 rfl (lv_at hl 1 rfl) ?_
      refine lv_iload_n C.1 C.2.1 dX1_whoMay_47 rfl (lv_at hl 2 rfl) ?_
      obtain ⟨r48, hc48, h⟩ := bi_s h
      refine cNi C hW (As := [.int (A (k + 2) v5.toNatClampNeg), .int (A (k + 3) v5.toNatClampNeg), .int v2, .int v3]) (rest := []) (mt_X3_mayDrink  hc48) ⟨va_cnB 4 C.2.2.2.2.2.1 gX1_whoMay_X3_mayDrink_n100 rfl rfl rfl C.2.2.2.2.2.2.2.2.1 (C.2.2.2.2.2.1 (.initialized RX3) wX1_whoMay_4) (by decide +kernel) ⟨Nat.le_of_ble_eq_true rfl, Nat.le_of_ble_eq_true rfl⟩, C.2.2.2.2.2.1 _ wX1_whoMay_5, trivial⟩ rfl hl.1 rfl (Nat.le_of_ble_eq_true rfl) dX1_whoMay_48 (Nat.zero_le _) (Nat.zero_le _) (fun H locs hW => ?_)
      refine lv_if_eq (tgt := 63) C.1 C.2.1 dX1_whoMay_51 (by decide) (fun c_51 => ?_) (fun c_51 => ?_)
      · have h := if_y h c_51
        exact tX1_whoMay_63 C hk ih h  hW (lv_sub hl [0, 1, 2, 3, 4] rfl)
      · have h := if_n h c_51
        refine lv_iload C.1 C.2.1 dX1_whoMay_54 (lv_at hl 3 rfl) ?_
        refine lv_iconst (v := 1) C.1 C.2.1 dX1_whoMay_56 (by decide) ?_
        refine lv_iload C.1 C.2.1 dX1_whoMay_57 (lv_at hl 4 rfl) ?_
        refine lv_ishl C.1 C.2.1 dX1_whoMay_59 ?_
        refine lv_ior C.1 C.2.1 dX1_whoMay_60 ?_
        refine lv_istore (lv' := [(4, .int (v4 ||| (1 <<< (v5 &&& 31)))), (0, .ref (Γ.2.2 k)), (2, .int v2), (3, .int v3), (5, .int v5)]) C.1 C.2.1 dX1_whoMay_61 hl (by decide) rfl (fun ls hl => ?_)
        exact tX1_whoMay_63 C hk ih h  hW (lv_sub hl [1, 2, 3, 0, 4] rfl)
def fX1_whoMay  (A : Me) (k : Nat) (k1 : Nat) : Option (Int32) := bi (fX0_age A k1 (A k 6)) fun r5 => bi (fX0_yearBits A k1) fun r10 => bi (fJ6_bitCount_0f7a4 r10) fun r13 => fX1_whoMay_23 A k FU r5 r13 0 0
set_option maxRecDepth 100000 in
theorem tX1_whoMay_0 {A B : Me} {k : Nat} {H : Heap} {locs : List Loc} {ls : Array Slot} {k1 : Nat} {rZ : Int32}  (C : Cx Γ p s m args meth c cX1_whoMay 6 (some .int) RX1 wsX1_whoMay) (hk : kd k = 1)  (h : fX1_whoMay A k k1 = some rZ) (hk1 : kd k1 = 0) (hW : Wd Γ A B s.heap H locs) (hl : lv_has ls 6 [(0, .ref (Γ.2.2 k)), (1, .ref (Γ.2.2 k1))]) : W p l e rmX1_whoMay s m args below meth c H locs 0 0 (MQ below (QI Γ A B rZ) args s 0 0 (rg Γ)) (F0 m 0 ls []) := by
  unfold fX1_whoMay at h
  refine lv_aload_n C.1 C.2.1 dX1_whoMay_0 rfl (lv_at hl 1 rfl) ?_
  refine lv_aload_n C.1 C.2.1 dX1_whoMay_1 rfl (lv_at hl 0 rfl) ?_
  refine gX1_6 C hW hk iX1_whoMay_c1 wX1_whoMay_0 dX1_whoMay_2 ?_
  obtain ⟨r5, hc5, h⟩ := bi_s h
  refine cVi C hW (As := [.int (A k 6)]) (rest := []) (mt_X0_age hk1 hc5) (cwV 1 C.2.2.2.2.2.1 gX1_whoMay_X0_age rfl rfl rfl (by decide +kernel) ⟨Nat.le_of_ble_eq_true rfl, Nat.le_of_ble_eq_true rfl⟩) (rcv0 C hW hk1) rfl hl.1 rfl (Nat.le_of_ble_eq_true rfl) dX1_whoMay_5 (Nat.zero_le _) (Nat.zero_le _) (fun H locs hW => ?_)
  refine lv_istore_n (lv' := [(2, .int r5), (0, .ref (Γ.2.2 k)), (1, .ref (Γ.2.2 k1))]) C.1 C.2.1 dX1_whoMay_8 rfl hl (by decide) rfl (fun ls hl => ?_)
  refine lv_aload_n C.1 C.2.1 dX1_whoMay_9 rfl (lv_at hl 2 rfl) ?_
  obtain ⟨r10, hc10, h⟩ := bi_s h
  refine cVi C hW (As := []) (rest := []) (mt_X0_yearBits hk1 hc10) (cwV 0 C.2.2.2.2.2.1 gX1_whoMay_X0_yearBits rfl rfl rfl (by decide +kernel) ⟨Nat.le_of_ble_eq_true rfl, Nat.le_of_ble_eq_true rfl⟩) (rcv0 C hW hk1) rfl hl.1 rfl (Nat.le_of_ble_eq_true rfl) dX1_whoMay_10 (Nat.zero_le _) (Nat.zero_le _) (fun H locs hW => ?_)
  obtain ⟨r13, hc13, h⟩ := bi_s h
  refine cSi C hW (As := [.int r10]) (rest := []) (mt_J6_bitCount_0f7a4  hc13) (va_cwS 1 C.2.2.2.2.2.1 gX1_whoMay_J6_bitCount_0f7a4 rfl rfl rfl (by decide +kernel) ⟨Nat.le_of_ble_eq_true rfl, Nat.le_of_ble_eq_true rfl⟩) rfl hl.1 rfl (Nat.le_of_ble_eq_true rfl) dX1_whoMay_13 (Nat.zero_le _) (Nat.zero_le _) (fun H locs hW => ?_)
  refine lv_istore_n (lv' := [(3, .int r13), (2, .int r5), (0, .ref (Γ.2.2 k)), (1, .ref (Γ.2.2 k1))]) C.1 C.2.1 dX1_whoMay_16 rfl hl (by decide) rfl (fun ls hl => ?_)
  refine lv_iconst (v := 0) C.1 C.2.1 dX1_whoMay_17 (by decide) ?_
  refine lv_istore (lv' := [(4, .int 0), (3, .int r13), (2, .int r5), (0, .ref (Γ.2.2 k)), (1, .ref (Γ.2.2 k1))]) C.1 C.2.1 dX1_whoMay_18 hl (by decide) rfl (fun ls hl => ?_)
  refine lv_iconst (v := 0) C.1 C.2.1 dX1_whoMay_20 (by decide) ?_
  refine lv_istore (lv' := [(5, .int 0), (4, .int 0), (3, .int r13), (2, .int r5), (0, .ref (Γ.2.2 k)), (1, .ref (Γ.2.2 k1))]) C.1 C.2.1 dX1_whoMay_21 hl (by decide) rfl (fun ls hl => ?_)
  exact tX1_whoMay_23 C hk FU _ _ _ _ _ _ _ h  hW (lv_sub hl [4, 3, 2, 1, 0] rfl)
theorem mt_X1_whoMay {l : Launch} {Γ : Gm} {A B : Me} {k : Nat} {k1 : Nat} {rZ : Int32} (hk : kd k = 1) (hk1 : kd k1 = 0) (h : fX1_whoMay A k k1 = some rZ) : Met l yX1_whoMay wsX1_whoMay rmX1_whoMay (PC Γ A B [.ref (Γ.2.2 k), .ref (Γ.2.2 k1)]) (QI Γ A B rZ) 0 0 (rg Γ) :=
  met_of (by decide) rfl (Nat.le_of_ble_eq_true rfl) (fun p e s m below meth c ls C hW hl => tX1_whoMay_0 C hk h hk1 hW (lv_sub (l := [(0, .ref (Γ.2.2 k)), (1, .ref (Γ.2.2 k1))]) hl [0, 1] rfl))
abbrev rmX1_allMay : Room := { frames := 3, cells := 0, slots := 0, locals := 68 }
def fX1_allMay_17  (A : Me) (k : Nat) (t0 : Int32) : Option (Int32) := ck (zb t0) <| some t0
set_option maxRecDepth 100000 in
theorem tX1_allMay_17 {A B : Me} {k : Nat} {H : Heap} {locs : List Loc} {ls : Array Slot} {t0 : Int32} {rZ : Int32}  (C : Cx Γ p s m args meth c cX1_allMay 3 (some .boolean) RX1 wsX1_allMay) (hk : kd k = 1)  (h : fX1_allMay_17 A k t0 = some rZ)  (hW : Wd Γ A B s.heap H locs) (hl : lv_has ls 3 []) : W p l e rmX1_allMay s m args below meth c H locs 0 0 (MQ below (QI Γ A B rZ) args s 0 0 (rg Γ)) (F0 m 17 ls [.int t0]) := by
  unfold fX1_allMay_17 at h
  obtain ⟨hz, h⟩ := ck_s h
  cases h
  exact z_zret C hW hz dX1_allMay_17
def fX1_allMay  (A : Me) (k : Nat) (v1 : Int32) (k2 : Nat) : Option (Int32) := bi (fX1_whoMay A k k2) fun r3 => if (v1 &&& (r3 ^^^ (-1))) = 0 then (fX1_allMay_17 A k 1) else (fX1_allMay_17 A k 0)
set_option maxRecDepth 100000 in
theorem tX1_allMay_0 {A B : Me} {k : Nat} {H : Heap} {locs : List Loc} {ls : Array Slot} {v1 : Int32} {k2 : Nat} {rZ : Int32}  (C : Cx Γ p s m args meth c cX1_allMay 3 (some .boolean) RX1 wsX1_allMay) (hk : kd k = 1)  (h : fX1_allMay A k v1 k2 = some rZ) (hk2 : kd k2 = 0) (hW : Wd Γ A B s.heap H locs) (hl : lv_has ls 3 [(0, .ref (Γ.2.2 k)), (1, .int v1), (2, .ref (Γ.2.2 k2))]) : W p l e rmX1_allMay s m args below meth c H locs 0 0 (MQ below (QI Γ A B rZ) args s 0 0 (rg Γ)) (F0 m 0 ls []) := by
  unfold fX1_allMay at h
  refine lv_iload_n C.1 C.2.1 dX1_allMay_0 rfl (lv_at hl 1 rfl) ?_
  refine lv_aload_n C.1 C.2.1 dX1_allMay_1 rfl (lv_at hl 0 rfl) ?_
  refine lv_aload_n C.1 C.2.1 dX1_allMay_2 rfl (lv_at hl 2 rfl) ?_
  obtain ⟨r3, hc3, h⟩ := bi_s h
  refine cVi C hW (As := [.ref (Γ.2.2 k2)]) (rest := [.int v1]) (mt_X1_whoMay hk hk2 hc3) (cwV 1 C.2.2.2.2.2.1 gX1_allMay_X1_whoMay rfl rfl rfl (by decide +kernel) ⟨Nat.le_of_ble_eq_true rfl, Nat.le_of_ble_eq_true rfl⟩) (rcv1 C hW hk) rfl hl.1 rfl (Nat.le_of_ble_eq_true rfl) dX1_allMay_3 (Nat.zero_le _) (Nat.zero_le _) (fun H locs hW => ?_)
  refine lv_iconst (v := (-1)) C.1 C.2.1 dX1_allMay_6 (by decide) ?_
  refine lv_ixor C.1 C.2.1 dX1_allMay_7 ?_
  refine lv_iand C.1 C.2.1 dX1_allMay_8 ?_
  refine lv_if_ne (tgt := 16) C.1 C.2.1 dX1_allMay_9 (by decide) (fun c_9 => ?_) (fun c_9 => ?_)
  · have h := if_n h c_9
    refine lv_iconst (v := 0) C.1 C.2.1 dX1_allMay_16 (by decide) ?_
    exact tX1_allMay_17 C hk h  hW (lv_sub hl [] rfl)
  · have h := if_y h c_9
    refine lv_iconst (v := 1) C.1 C.2.1 dX1_allMay_12 (by decide) ?_
    refine lv_goto (tgt := 17) C.1 C.2.1 dX1_allMay_13 (by decide) ?_
    exact tX1_allMay_17 C hk h  hW (lv_sub hl [] rfl)
theorem mt_X1_allMay {l : Launch} {Γ : Gm} {A B : Me} {k : Nat} {v1 : Int32} {k2 : Nat} {rZ : Int32} (hk : kd k = 1) (hk2 : kd k2 = 0) (h : fX1_allMay A k v1 k2 = some rZ) : Met l yX1_allMay wsX1_allMay rmX1_allMay (PC Γ A B [.ref (Γ.2.2 k), .int v1, .ref (Γ.2.2 k2)]) (QI Γ A B rZ) 0 0 (rg Γ) :=
  met_of (by decide) rfl (Nat.le_of_ble_eq_true rfl) (fun p e s m below meth c ls C hW hl => tX1_allMay_0 C hk h hk2 hW (lv_sub (l := [(0, .ref (Γ.2.2 k)), (1, .int v1), (2, .ref (Γ.2.2 k2))]) hl [0, 1, 2] rfl))
abbrev rmX1_casksFor : Room := { frames := 4, cells := 0, slots := 0, locals := 90 }
set_option maxRecDepth 100000 in
theorem iX1_casksFor_c1 : ∀ w ∈ wsX10, w ∈ wsX1_casksFor := by decide +kernel
set_option maxRecDepth 100000 in
theorem wX1_casksFor_0 : Cond.fieldLink RX1 50 "WineByYears$Cellar" "caskCount" "I" ∈ wsX1_casksFor := by decide +kernel
set_option maxRecDepth 100000 in
theorem wX1_casksFor_1 : Cond.fieldLink RX1 11 "WineByYears$Cellar" "casks" "[LWineByYears$Cask;" ∈ wsX1_casksFor := by decide +kernel
def fX1_casksFor_34 (j4 : Int32 → Int32 → Int32 → Option (Int32)) (A : Me) (k : Nat) (v1 : Int32) (v2 : Int32) (v3 : Int32) : Option (Int32) := j4 v1 v2 (v3 + 1)
set_option maxRecDepth 100000 in
theorem tX1_casksFor_34 {A B : Me} {k : Nat} {H : Heap} {locs : List Loc} {ls : Array Slot} {v1 : Int32} {v2 : Int32} {v3 : Int32} {rZ : Int32} {j4 : Int32 → Int32 → Int32 → Option (Int32)} (C : Cx Γ p s m args meth c cX1_casksFor 4 (some .int) RX1 wsX1_casksFor) (hk : kd k = 1) (hr4 : ∀ (v1 : Int32) (v2 : Int32) (v3 : Int32) (H : Heap) (locs : List Loc) (ls : Array Slot), j4 v1 v2 v3 = some rZ → Wd Γ A B s.heap H locs → lv_has ls 4 [(0, .ref (Γ.2.2 k)), (1, .int v1), (2, .int v2), (3, .int v3)] → W p l e rmX1_casksFor s m args below meth c H locs 0 0 (MQ below (QI Γ A B rZ) args s 0 0 (rg Γ)) (F0 m 4 ls [])) (h : fX1_casksFor_34 j4 A k v1 v2 v3 = some rZ)  (hW : Wd Γ A B s.heap H locs) (hl : lv_has ls 4 [(0, .ref (Γ.2.2 k)), (1, .int v1), (2, .int v2), (3, .int v3)]) : W p l e rmX1_casksFor s m args below meth c H locs 0 0 (MQ below (QI Γ A B rZ) args s 0 0 (rg Γ)) (F0 m 34 ls []) := by
  unfold fX1_casksFor_34 at h
  refine lv_iinc (v := (v3 + 1)) (lv' := [(3, .int (v3 + 1)), (0, .ref (Γ.2.2 k)), (1, .int v1), (2, .int v2)]) C.1 C.2.1 dX1_casksFor_34 hl (k := 3) rfl rfl (by decide) rfl (fun ls hl => ?_)
  refine lv_goto (tgt := 4) C.1 C.2.1 dX1_casksFor_37 (by decide) ?_
  exact hr4 _ _ _ _ _ _ h  hW (lv_sub hl [1, 2, 3, 0] rfl)
def fX1_casksFor_4  (A : Me) (k : Nat) : Nat → Int32 → Int32 → Int32 → Option (Int32)
  | 0, _, _, _ => none
  | n + 1, v1, v2, v3 => if (A k 7) ≤ v3 then (some v2) else (ck (inb v3 5) <| bi (fX1_allMay A k (1 <<< (v1 &&& 31)) (k + 1 + 6 + 2 * v3.toNatClampNeg)) fun r22 => if r22 = 0 then (fX1_casksFor_34 (fun x0 x1 x2 => fX1_casksFor_4 A k n x0 x1 x2) A k v1 v2 v3) else (fX1_casksFor_34 (fun x0 x1 x2 => fX1_casksFor_4 A k n x0 x1 x2) A k v1 (v2 ||| (1 <<< (v3 &&& 31))) v3))
set_option maxRecDepth 100000 in
theorem tX1_casksFor_4 {A B : Me} {k : Nat} {rZ : Int32}  (C : Cx Γ p s m args meth c cX1_casksFor 4 (some .int) RX1 wsX1_casksFor) (hk : kd k = 1)  (n : Nat) : ∀ (v1 : Int32) (v2 : Int32) (v3 : Int32) (H : Heap) (locs : List Loc) (ls : Array Slot), fX1_casksFor_4 A k n v1 v2 v3 = some rZ → Wd Γ A B s.heap H locs → lv_has ls 4 [(0, .ref (Γ.2.2 k)), (1, .int v1), (2, .int v2), (3, .int v3)] → W p l e rmX1_casksFor s m args below meth c H locs 0 0 (MQ below (QI Γ A B rZ) args s 0 0 (rg Γ)) (F0 m 4 ls []) := by
  induction n with
  | zero =>
    intro _ _ _ H locs ls h
    exact nomatch (show (none : Option (Int32)) = some rZ from h)
  | succ n ih =>
    intro v1 v2 v3 H locs ls h  hW hl
    rw [fX1_casksFor_4] at h
    refine lv_iload_n C.1 C.2.1 dX1_casksFor_4 rfl (lv_at hl 3 rfl) ?_
    refine lv_aload_n C.1 C.2.1 dX1_casksFor_5 rfl (lv_at hl 0 rfl) ?_
    refine gX1_7 C hW hk iX1_casksFor_c1 wX1_casksFor_0 dX1_casksFor_6 ?_
    refine lv_icmp_ge (tgt := 40) C.1 C.2.1 dX1_casksFor_9 (by decide) (fun c_9 => ?_) (fun c_9 => ?_)
    · have h := if_y h c_9
      refine lv_iload_n C.1 C.2.1 dX1_casksFor_40 rfl (lv_at hl 2 rfl) ?_
      cases h
      exact z_iret C hW dX1_casksFor_41
    · have h := if_n h c_9
      refine lv_aload_n C.1 C.2.1 dX1_casksFor_12 rfl (lv_at hl 0 rfl) ?_
      refine lv_iconst (v := 1) C.1 C.2.1 dX1_casksFor_13 (by decide) ?_
      refine lv_iload_n C.1 C.2.1 dX1_casksFor_14 rfl (lv_at hl 1 rfl) ?_
      refine lv_ishl C.1 C.2.1 dX1_casksFor_15 ?_
      refine lv_aload_n C.1 C.2.1 dX1_casksFor_16 rfl (lv_at hl 0 rfl) ?_
      refine gX1_0 C hW hk iX1_casksFor_c1 wX1_casksFor_1 dX1_casksFor_17 ?_
      refine lv_iload_n C.1 C.2.1 dX1_casksFor_20 rfl (lv_at hl 3 rfl) ?_
      obtain ⟨hi21, h⟩ := ck_s h
      refine la7 C hW (kd_1r hk).1 hi21 dX1_casksFor_21 ?_
      obtain ⟨r22, hc22, h⟩ := bi_s h
      refine cVi C hW (As := [.int (1 <<< (v1 &&& 31)), .ref (Γ.2.2 (k + 1 + 6 + 2 * v3.toNatClampNeg))]) (rest := []) (mt_X1_allMay hk (kd_7e (kd_1r hk).1.1 (inb_s hi21) rfl) hc22) (cwV 2 C.2.2.2.2.2.1 gX1_casksFor_X1_allMay rfl rfl rfl (by decide +kernel) ⟨Nat.le_of_ble_eq_true rfl, Nat.le_of_ble_eq_true rfl⟩) (rcv1 C hW hk) rfl hl.1 rfl (Nat.le_of_ble_eq_true rfl) dX1_casksFor_22 (Nat.zero_le _) (Nat.zero_le _) (fun H locs hW => ?_)
      refine lv_if_eq (tgt := 34) C.1 C.2.1 dX1_casksFor_25 (by decide) (fun c_25 => ?_) (fun c_25 => ?_)
      · have h := if_y h c_25
        exact tX1_casksFor_34 C hk ih h  hW (lv_sub hl [0, 1, 2, 3] rfl)
      · have h := if_n h c_25
        refine lv_iload_n C.1 C.2.1 dX1_casksFor_28 rfl (lv_at hl 2 rfl) ?_
        refine lv_iconst (v := 1) C.1 C.2.1 dX1_casksFor_29 (by decide) ?_
        refine lv_iload_n C.1 C.2.1 dX1_casksFor_30 rfl (lv_at hl 3 rfl) ?_
        refine lv_ishl C.1 C.2.1 dX1_casksFor_31 ?_
        refine lv_ior C.1 C.2.1 dX1_casksFor_32 ?_
        refine lv_istore_n (lv' := [(2, .int (v2 ||| (1 <<< (v3 &&& 31)))), (0, .ref (Γ.2.2 k)), (1, .int v1), (3, .int v3)]) C.1 C.2.1 dX1_casksFor_33 rfl hl (by decide) rfl (fun ls hl => ?_)
        exact tX1_casksFor_34 C hk ih h  hW (lv_sub hl [1, 2, 0, 3] rfl)
def fX1_casksFor  (A : Me) (k : Nat) (v1 : Int32) : Option (Int32) := fX1_casksFor_4 A k FU v1 0 0
set_option maxRecDepth 100000 in
theorem tX1_casksFor_0 {A B : Me} {k : Nat} {H : Heap} {locs : List Loc} {ls : Array Slot} {v1 : Int32} {rZ : Int32}  (C : Cx Γ p s m args meth c cX1_casksFor 4 (some .int) RX1 wsX1_casksFor) (hk : kd k = 1)  (h : fX1_casksFor A k v1 = some rZ)  (hW : Wd Γ A B s.heap H locs) (hl : lv_has ls 4 [(0, .ref (Γ.2.2 k)), (1, .int v1)]) : W p l e rmX1_casksFor s m args below meth c H locs 0 0 (MQ below (QI Γ A B rZ) args s 0 0 (rg Γ)) (F0 m 0 ls []) := by
  unfold fX1_casksFor at h
  refine lv_iconst (v := 0) C.1 C.2.1 dX1_casksFor_0 (by decide) ?_
  refine lv_istore_n (lv' := [(2, .int 0), (0, .ref (Γ.2.2 k)), (1, .int v1)]) C.1 C.2.1 dX1_casksFor_1 rfl hl (by decide) rfl (fun ls hl => ?_)
  refine lv_iconst (v := 0) C.1 C.2.1 dX1_casksFor_2 (by decide) ?_
  refine lv_istore_n (lv' := [(3, .int 0), (2, .int 0), (0, .ref (Γ.2.2 k)), (1, .int v1)]) C.1 C.2.1 dX1_casksFor_3 rfl hl (by decide) rfl (fun ls hl => ?_)
  exact tX1_casksFor_4 C hk FU _ _ _ _ _ _ h  hW (lv_sub hl [2, 3, 1, 0] rfl)
theorem mt_X1_casksFor {l : Launch} {Γ : Gm} {A B : Me} {k : Nat} {v1 : Int32} {rZ : Int32} (hk : kd k = 1) (h : fX1_casksFor A k v1 = some rZ) : Met l yX1_casksFor wsX1_casksFor rmX1_casksFor (PC Γ A B [.ref (Γ.2.2 k), .int v1]) (QI Γ A B rZ) 0 0 (rg Γ) :=
  met_of (by decide) rfl (Nat.le_of_ble_eq_true rfl) (fun p e s m below meth c ls C hW hl => tX1_casksFor_0 C hk h  hW (lv_sub (l := [(0, .ref (Γ.2.2 k)), (1, .int v1)]) hl [0, 1] rfl))
abbrev rmX1_sip : Room := { frames := 4, cells := 0, slots := 0, locals := 90 }
set_option maxRecDepth 100000 in
theorem iX1_sip_c0 : ∀ w ∈ wsX00, w ∈ wsX1_sip := by decide +kernel
set_option maxRecDepth 100000 in
theorem iX1_sip_c1 : ∀ w ∈ wsX10, w ∈ wsX1_sip := by decide +kernel
set_option maxRecDepth 100000 in
theorem wX1_sip_0 : Cond.fieldLink RX1 11 "WineByYears$Cellar" "casks" "[LWineByYears$Cask;" ∈ wsX1_sip := by decide +kernel
set_option maxRecDepth 100000 in
theorem wX1_sip_1 : Cond.fieldLink RX1 86 "WineByYears$Cask" "litres" "I" ∈ wsX1_sip := by decide +kernel
set_option maxRecDepth 100000 in
theorem wX1_sip_2 : Cond.fieldLink RX1 24 "WineByYears$Cellar" "ills" "[I" ∈ wsX1_sip := by decide +kernel
def fX1_sip_28  (A : Me) (k : Nat)  : Option (Int32 × Me) := some (0, A)
set_option maxRecDepth 100000 in
theorem tX1_sip_28 {A B : Me} {k : Nat} {H : Heap} {locs : List Loc} {ls : Array Slot}  {rZ : Int32} {AZ : Me}  (C : Cx Γ p s m args meth c cX1_sip 4 (some .int) RX1 wsX1_sip) (hk : kd k = 1)  (h : fX1_sip_28 A k = some (rZ, AZ))  (hW : Wd Γ A B s.heap H locs) (hl : lv_has ls 4 []) : W p l e rmX1_sip s m args below meth c H locs 0 0 (MQ below (QI Γ AZ B rZ) args s 0 0 (rg Γ)) (F0 m 28 ls []) := by
  unfold fX1_sip_28 at h
  refine lv_iconst (v := 0) C.1 C.2.1 dX1_sip_28 (by decide) ?_
  cases h
  exact z_iret C hW dX1_sip_29
def fX1_sip_51  (A : Me) (k : Nat) (v1 : Int32) (v2 : Int32) (t0 : Int32) : Option (Int32 × Me) := ck (inb v1 5) <| ck (inb v1 5) <| ck (inb v2 5) <| b2 (fX0_takeLatest (up2 A (k + 4) v1.toNatClampNeg ((A (k + 4) v1.toNatClampNeg) + t0)) (k + 1 + 6 + 2 * v2.toNatClampNeg)) fun r68 A68 => some (t0, A68)
set_option maxRecDepth 100000 in
theorem tX1_sip_51 {A B : Me} {k : Nat} {H : Heap} {locs : List Loc} {ls : Array Slot} {v1 : Int32} {v2 : Int32} {t0 : Int32} {rZ : Int32} {AZ : Me}  (C : Cx Γ p s m args meth c cX1_sip 4 (some .int) RX1 wsX1_sip) (hk : kd k = 1)  (h : fX1_sip_51 A k v1 v2 t0 = some (rZ, AZ))  (hW : Wd Γ A B s.heap H locs) (hl : lv_has ls 4 [(0, .ref (Γ.2.2 k)), (1, .int v1), (2, .int v2)]) : W p l e rmX1_sip s m args below meth c H locs 0 0 (MQ below (QI Γ AZ B rZ) args s 0 0 (rg Γ)) (F0 m 51 ls [.int t0]) := by
  unfold fX1_sip_51 at h
  refine lv_istore_n (lv' := [(3, .int t0), (0, .ref (Γ.2.2 k)), (1, .int v1), (2, .int v2)]) C.1 C.2.1 dX1_sip_51 rfl hl (by decide) rfl (fun ls hl => ?_)
  refine lv_aload_n C.1 C.2.1 dX1_sip_52 rfl (lv_at hl 1 rfl) ?_
  refine gX1_3 C hW hk iX1_sip_c1 wX1_sip_2 dX1_sip_53 ?_
  refine lv_iload_n C.1 C.2.1 dX1_sip_56 rfl (lv_at hl 2 rfl) ?_
  refine lv_dup2_11 C.1 C.2.1 dX1_sip_57 rfl rfl ?_
  obtain ⟨hi58, h⟩ := ck_s h
  refine la6 C hW (kd_1r hk).2.2.2.1 hi58 dX1_sip_58 ?_
  refine lv_iload_n C.1 C.2.1 dX1_sip_59 rfl (lv_at hl 0 rfl) ?_
  refine lv_iadd C.1 C.2.1 dX1_sip_60 ?_
  obtain ⟨hi61, h⟩ := ck_s h
  refine sa6 C hW (kd_1r hk).2.2.2.1 hi61 dX1_sip_61 (fun H locs hW => ?_)
  refine lv_aload_n C.1 C.2.1 dX1_sip_62 rfl (lv_at hl 1 rfl) ?_
  refine gX1_0 C hW hk iX1_sip_c1 wX1_sip_0 dX1_sip_63 ?_
  refine lv_iload_n C.1 C.2.1 dX1_sip_66 rfl (lv_at hl 3 rfl) ?_
  obtain ⟨hi67, h⟩ := ck_s h
  refine la7 C hW (kd_1r hk).1 hi67 dX1_sip_67 ?_
  obtain ⟨r68, A68, hc68, h⟩ := b2_s h
  refine cVi C hW (As := []) (rest := []) (mt_X0_takeLatest (kd_7e (kd_1r hk).1.1 (inb_s hi67) rfl) hc68) (cwV 0 C.2.2.2.2.2.1 gX1_sip_X0_takeLatest rfl rfl rfl (by decide +kernel) ⟨Nat.le_of_ble_eq_true rfl, Nat.le_of_ble_eq_true rfl⟩) (rcv0 C hW (kd_7e (kd_1r hk).1.1 (inb_s hi67) rfl)) rfl hl.1 rfl (Nat.le_of_ble_eq_true rfl) dX1_sip_68 (Nat.zero_le _) (Nat.zero_le _) (fun H locs hW => ?_)
  refine lv_pop C.1 C.2.1 dX1_sip_71 rfl ?_
  refine lv_iload_n C.1 C.2.1 dX1_sip_72 rfl (lv_at hl 0 rfl) ?_
  cases h
  exact z_iret C hW dX1_sip_73
def fX1_sip  (A : Me) (k : Nat) (v1 : Int32) (v2 : Int32) : Option (Int32 × Me) := bi (fX1_hasPerson A k v1) fun r2 => if r2 = 0 then (fX1_sip_28 A k) else (bi (fX1_hasCask A k v2) fun r10 => if r10 = 0 then (fX1_sip_28 A k) else (ck (inb v2 5) <| if (A (k + 1 + 6 + 2 * v2.toNatClampNeg) 1) = 0 then (fX1_sip_28 A k) else (ck (inb v2 5) <| bi (fX1_allMay A k (1 <<< (v1 &&& 31)) (k + 1 + 6 + 2 * v2.toNatClampNeg)) fun r40 => if r40 = 0 then (fX1_sip_51 A k v1 v2 1) else (fX1_sip_51 A k v1 v2 0))))
set_option maxRecDepth 100000 in
theorem tX1_sip_0 {A B : Me} {k : Nat} {H : Heap} {locs : List Loc} {ls : Array Slot} {v1 : Int32} {v2 : Int32} {rZ : Int32} {AZ : Me}  (C : Cx Γ p s m args meth c cX1_sip 4 (some .int) RX1 wsX1_sip) (hk : kd k = 1)  (h : fX1_sip A k v1 v2 = some (rZ, AZ))  (hW : Wd Γ A B s.heap H locs) (hl : lv_has ls 4 [(0, .ref (Γ.2.2 k)), (1, .int v1), (2, .int v2)]) : W p l e rmX1_sip s m args below meth c H locs 0 0 (MQ below (QI Γ AZ B rZ) args s 0 0 (rg Γ)) (F0 m 0 ls []) := by
  unfold fX1_sip at h
  refine lv_aload_n C.1 C.2.1 dX1_sip_0 rfl (lv_at hl 0 rfl) ?_
  refine lv_iload_n C.1 C.2.1 dX1_sip_1 rfl (lv_at hl 1 rfl) ?_
  obtain ⟨r2, hc2, h⟩ := bi_s h
  refine cVi C hW (As := [.int v1]) (rest := []) (mt_X1_hasPerson hk hc2) (cwV 1 C.2.2.2.2.2.1 gX1_sip_X1_hasPerson rfl rfl rfl (by decide +kernel) ⟨Nat.le_of_ble_eq_true rfl, Nat.le_of_ble_eq_true rfl⟩) (rcv1 C hW hk) rfl hl.1 rfl (Nat.le_of_ble_eq_true rfl) dX1_sip_2 (Nat.zero_le _) (Nat.zero_le _) (fun H locs hW => ?_)
  refine lv_if_eq (tgt := 28) C.1 C.2.1 dX1_sip_5 (by decide) (fun c_5 => ?_) (fun c_5 => ?_)
  · have h := if_y h c_5
    exact tX1_sip_28 C hk h  hW (lv_sub hl [] rfl)
  · have h := if_n h c_5
    refine lv_aload_n C.1 C.2.1 dX1_sip_8 rfl (lv_at hl 0 rfl) ?_
    refine lv_iload_n C.1 C.2.1 dX1_sip_9 rfl (lv_at hl 2 rfl) ?_
    obtain ⟨r10, hc10, h⟩ := bi_s h
    refine cVi C hW (As := [.int v2]) (rest := []) (mt_X1_hasCask hk hc10) (cwV 1 C.2.2.2.2.2.1 gX1_sip_X1_hasCask rfl rfl rfl (by decide +kernel) ⟨Nat.le_of_ble_eq_true rfl, Nat.le_of_ble_eq_true rfl⟩) (rcv1 C hW hk) rfl hl.1 rfl (Nat.le_of_ble_eq_true rfl) dX1_sip_10 (Nat.zero_le _) (Nat.zero_le _) (fun H locs hW => ?_)
    refine lv_if_eq (tgt := 28) C.1 C.2.1 dX1_sip_13 (by decide) (fun c_13 => ?_) (fun c_13 => ?_)
    · have h := if_y h c_13
      exact tX1_sip_28 C hk h  hW (lv_sub hl [] rfl)
    · have h := if_n h c_13
      refine lv_aload_n C.1 C.2.1 dX1_sip_16 rfl (lv_at hl 0 rfl) ?_
      refine gX1_0 C hW hk iX1_sip_c1 wX1_sip_0 dX1_sip_17 ?_
      refine lv_iload_n C.1 C.2.1 dX1_sip_20 rfl (lv_at hl 2 rfl) ?_
      obtain ⟨hi21, h⟩ := ck_s h
      refine la7 C hW (kd_1r hk).1 hi21 dX1_sip_21 ?_
      refine gX0_1 C hW (kd_7e (kd_1r hk).1.1 (inb_s hi21) rfl) iX1_sip_c0 wX1_sip_1 dX1_sip_22 ?_
      refine lv_if_ne (tgt := 30) C.1 C.2.1 dX1_sip_25 (by decide) (fun c_25 => ?_) (fun c_25 => ?_)
      · have h := if_n h c_25
        refine lv_aload_n C.1 C.2.1 dX1_sip_30 rfl (lv_at hl 0 rfl) ?_
        refine lv_iconst (v := 1) C.1 C.2.1 dX1_sip_31 (by decide) ?_
        refine lv_iload_n C.1 C.2.1 dX1_sip_32 rfl (lv_at hl 1 rfl) ?_
        refine lv_ishl C.1 C.2.1 dX1_sip_33 ?_
        refine lv_aload_n C.1 C.2.1 dX1_sip_34 rfl (lv_at hl 0 rfl) ?_
        refine gX1_0 C hW hk iX1_sip_c1 wX1_sip_0 dX1_sip_35 ?_
        refine lv_iload_n C.1 C.2.1 dX1_sip_38 rfl (lv_at hl 2 rfl) ?_
        obtain ⟨hi39, h⟩ := ck_s h
        refine la7 C hW (kd_1r hk).1 hi39 dX1_sip_39 ?_
        obtain ⟨r40, hc40, h⟩ := bi_s h
        refine cVi C hW (As := [.int (1 <<< (v1 &&& 31)), .ref (Γ.2.2 (k + 1 + 6 + 2 * v2.toNatClampNeg))]) (rest := []) (mt_X1_allMay hk (kd_7e (kd_1r hk).1.1 (inb_s hi39) rfl) hc40) (cwV 2 C.2.2.2.2.2.1 gX1_sip_X1_allMay rfl rfl rfl (by decide +kernel) ⟨Nat.le_of_ble_eq_true rfl, Nat.le_of_ble_eq_true rfl⟩) (rcv1 C hW hk) rfl hl.1 rfl (Nat.le_of_ble_eq_true rfl) dX1_sip_40 (Nat.zero_le _) (Nat.zero_le _) (fun H locs hW => ?_)
        refine lv_if_eq (tgt := 50) C.1 C.2.1 dX1_sip_43 (by decide) (fun c_43 => ?_) (fun c_43 => ?_)
        · have h := if_y h c_43
          refine lv_iconst (v := 1) C.1 C.2.1 dX1_sip_50 (by decide) ?_
          exact tX1_sip_51 C hk h  hW (lv_sub hl [0, 1, 2] rfl)
        · have h := if_n h c_43
          refine lv_iconst (v := 0) C.1 C.2.1 dX1_sip_46 (by decide) ?_
          refine lv_goto (tgt := 51) C.1 C.2.1 dX1_sip_47 (by decide) ?_
          exact tX1_sip_51 C hk h  hW (lv_sub hl [0, 1, 2] rfl)
      · have h := if_y h c_25
        exact tX1_sip_28 C hk h  hW (lv_sub hl [] rfl)
theorem mt_X1_sip {l : Launch} {Γ : Gm} {A B : Me} {k : Nat} {v1 : Int32} {v2 : Int32} {rZ : Int32} {AZ : Me} (hk : kd k = 1) (h : fX1_sip A k v1 v2 = some (rZ, AZ)) : Met l yX1_sip wsX1_sip rmX1_sip (PC Γ A B [.ref (Γ.2.2 k), .int v1, .int v2]) (QI Γ AZ B rZ) 0 0 (rg Γ) :=
  met_of (by decide) rfl (Nat.le_of_ble_eq_true rfl) (fun p e s m below meth c ls C hW hl => tX1_sip_0 C hk h  hW (lv_sub (l := [(0, .ref (Γ.2.2 k)), (1, .int v1), (2, .int v2)]) hl [0, 1, 2] rfl))
abbrev rmX1_boundBy : Room := { frames := 1, cells := 0, slots := 0, locals := 20 }
set_option maxRecDepth 100000 in
theorem iX1_boundBy_c0 : ∀ w ∈ wsX00, w ∈ wsX1_boundBy := by decide +kernel
set_option maxRecDepth 100000 in
theorem iX1_boundBy_c1 : ∀ w ∈ wsX10, w ∈ wsX1_boundBy := by decide +kernel
set_option maxRecDepth 100000 in
theorem wX1_boundBy_0 : Cond.fieldLink RX1 50 "WineByYears$Cellar" "caskCount" "I" ∈ wsX1_boundBy := by decide +kernel
set_option maxRecDepth 100000 in
theorem wX1_boundBy_1 : Cond.fieldLink RX1 30 "WineByYears$Cellar" "drinkers" "[I" ∈ wsX1_boundBy := by decide +kernel
set_option maxRecDepth 100000 in
theorem wX1_boundBy_2 : Cond.fieldLink RX1 11 "WineByYears$Cellar" "casks" "[LWineByYears$Cask;" ∈ wsX1_boundBy := by decide +kernel
set_option maxRecDepth 100000 in
theorem wX1_boundBy_3 : Cond.fieldLink RX1 86 "WineByYears$Cask" "litres" "I" ∈ wsX1_boundBy := by decide +kernel
def fX1_boundBy_51 (j7 : Int32 → Int32 → Int32 → Int32 → Option (Int32)) (A : Me) (k : Nat) (v1 : Int32) (v2 : Int32) (v3 : Int32) (v4 : Int32) : Option (Int32) := j7 v1 v2 v3 (v4 + 1)
set_option maxRecDepth 100000 in
theorem tX1_boundBy_51 {A B : Me} {k : Nat} {H : Heap} {locs : List Loc} {ls : Array Slot} {v1 : Int32} {v2 : Int32} {v3 : Int32} {v4 : Int32} {rZ : Int32} {j7 : Int32 → Int32 → Int32 → Int32 → Option (Int32)} (C : Cx Γ p s m args meth c cX1_boundBy 5 (some .int) RX1 wsX1_boundBy) (hk : kd k = 1) (hr7 : ∀ (v1 : Int32) (v2 : Int32) (v3 : Int32) (v4 : Int32) (H : Heap) (locs : List Loc) (ls : Array Slot), j7 v1 v2 v3 v4 = some rZ → Wd Γ A B s.heap H locs → lv_has ls 5 [(0, .ref (Γ.2.2 k)), (1, .int v1), (2, .int v2), (3, .int v3), (4, .int v4)] → W p l e rmX1_boundBy s m args below meth c H locs 0 0 (MQ below (QI Γ A B rZ) args s 0 0 (rg Γ)) (F0 m 7 ls [])) (h : fX1_boundBy_51 j7 A k v1 v2 v3 v4 = some rZ)  (hW : Wd Γ A B s.heap H locs) (hl : lv_has ls 5 [(0, .ref (Γ.2.2 k)), (1, .int v1), (2, .int v2), (3, .int v3), (4, .int v4)]) : W p l e rmX1_boundBy s m args below meth c H locs 0 0 (MQ below (QI Γ A B rZ) args s 0 0 (rg Γ)) (F0 m 51 ls []) := by
  unfold fX1_boundBy_51 at h
  refine lv_iinc (v := (v4 + 1)) (lv' := [(4, .int (v4 + 1)), (0, .ref (Γ.2.2 k)), (1, .int v1), (2, .int v2), (3, .int v3)]) C.1 C.2.1 dX1_boundBy_51 hl (k := 4) rfl rfl (by decide) rfl (fun ls hl => ?_)
  refine lv_goto (tgt := 7) C.1 C.2.1 dX1_boundBy_54 (by decide) ?_
  exact hr7 _ _ _ _ _ _ _ h  hW (lv_sub hl [1, 2, 3, 4, 0] rfl)
def fX1_boundBy_38 (j7 : Int32 → Int32 → Int32 → Int32 → Option (Int32)) (A : Me) (k : Nat) (v1 : Int32) (v2 : Int32) (v3 : Int32) (v4 : Int32) : Option (Int32) := fX1_boundBy_51 j7 A k v1 v2 v3 v4
set_option maxRecDepth 100000 in
theorem tX1_boundBy_38 {A B : Me} {k : Nat} {H : Heap} {locs : List Loc} {ls : Array Slot} {v1 : Int32} {v2 : Int32} {v3 : Int32} {v4 : Int32} {rZ : Int32} {j7 : Int32 → Int32 → Int32 → Int32 → Option (Int32)} (C : Cx Γ p s m args meth c cX1_boundBy 5 (some .int) RX1 wsX1_boundBy) (hk : kd k = 1) (hr7 : ∀ (v1 : Int32) (v2 : Int32) (v3 : Int32) (v4 : Int32) (H : Heap) (locs : List Loc) (ls : Array Slot), j7 v1 v2 v3 v4 = some rZ → Wd Γ A B s.heap H locs → lv_has ls 5 [(0, .ref (Γ.2.2 k)), (1, .int v1), (2, .int v2), (3, .int v3), (4, .int v4)] → W p l e rmX1_boundBy s m args below meth c H locs 0 0 (MQ below (QI Γ A B rZ) args s 0 0 (rg Γ)) (F0 m 7 ls [])) (h : fX1_boundBy_38 j7 A k v1 v2 v3 v4 = some rZ)  (hW : Wd Γ A B s.heap H locs) (hl : lv_has ls 5 [(0, .ref (Γ.2.2 k)), (1, .int v1), (2, .int v2), (3, .int v3), (4, .int v4)]) : W p l e rmX1_boundBy s m args below meth c H locs 0 0 (MQ below (QI Γ A B rZ) args s 0 0 (rg Γ)) (F0 m 38 ls []) := by
  unfold fX1_boundBy_38 at h
  refine lv_goto (tgt := 51) C.1 C.2.1 dX1_boundBy_38 (by decide) ?_
  exact tX1_boundBy_51 C hk hr7 h  hW (lv_sub hl [0, 1, 2, 3, 4] rfl)
def fX1_boundBy_7  (A : Me) (k : Nat) : Nat → Int32 → Int32 → Int32 → Int32 → Option (Int32)
  | 0, _, _, _, _ => none
  | n + 1, v1, v2, v3, v4 => if (A k 7) ≤ v4 then (bi (fJ6_bitCount_0f7a4 v3) fun r59 => some (v2 + r59)) else (if (v1 &&& (1 <<< (v4 &&& 31))) = 0 then (ck (inb v4 5) <| fX1_boundBy_51 (fun x0 x1 x2 x3 => fX1_boundBy_7 A k n x0 x1 x2 x3) A k v1 v2 (v3 ||| (A (k + 6) v4.toNatClampNeg)) v4) else (ck (inb v4 5) <| fX1_boundBy_38 (fun x0 x1 x2 x3 => fX1_boundBy_7 A k n x0 x1 x2 x3) A k v1 (v2 + (A (k + 1 + 6 + 2 * v4.toNatClampNeg) 1)) v3 v4))
set_option maxRecDepth 100000 in
theorem tX1_boundBy_7 {A B : Me} {k : Nat} {rZ : Int32}  (C : Cx Γ p s m args meth c cX1_boundBy 5 (some .int) RX1 wsX1_boundBy) (hk : kd k = 1)  (n : Nat) : ∀ (v1 : Int32) (v2 : Int32) (v3 : Int32) (v4 : Int32) (H : Heap) (locs : List Loc) (ls : Array Slot), fX1_boundBy_7 A k n v1 v2 v3 v4 = some rZ → Wd Γ A B s.heap H locs → lv_has ls 5 [(0, .ref (Γ.2.2 k)), (1, .int v1), (2, .int v2), (3, .int v3), (4, .int v4)] → W p l e rmX1_boundBy s m args below meth c H locs 0 0 (MQ below (QI Γ A B rZ) args s 0 0 (rg Γ)) (F0 m 7 ls []) := by
  induction n with
  | zero =>
    intro _ _ _ _ H locs ls h
    exact nomatch (show (none : Option (Int32)) = some rZ from h)
  | succ n ih =>
    intro v1 v2 v3 v4 H locs ls h  hW hl
    rw [fX1_boundBy_7] at h
    refine lv_iload C.1 C.2.1 dX1_boundBy_7 (lv_at hl 4 rfl) ?_
    refine lv_aload_n C.1 C.2.1 dX1_boundBy_9 rfl (lv_at hl 0 rfl) ?_
    refine gX1_7 C hW hk iX1_boundBy_c1 wX1_boundBy_0 dX1_boundBy_10 ?_
    refine lv_icmp_ge (tgt := 57) C.1 C.2.1 dX1_boundBy_13 (by decide) (fun c_13 => ?_) (fun c_13 => ?_)
    · have h := if_y h c_13
      refine lv_iload_n C.1 C.2.1 dX1_boundBy_57 rfl (lv_at hl 2 rfl) ?_
      refine lv_iload_n C.1 C.2.1 dX1_boundBy_58 rfl (lv_at hl 3 rfl) ?_
      obtain ⟨r59, hc59, h⟩ := bi_s h
      refine cSi C hW (As := [.int v3]) (rest := [.int v2]) (mt_J6_bitCount_0f7a4  hc59) (va_cwS 1 C.2.2.2.2.2.1 gX1_boundBy_J6_bitCount_0f7a4 rfl rfl rfl (by decide +kernel) ⟨Nat.le_of_ble_eq_true rfl, Nat.le_of_ble_eq_true rfl⟩) rfl hl.1 rfl (Nat.le_of_ble_eq_true rfl) dX1_boundBy_59 (Nat.zero_le _) (Nat.zero_le _) (fun H locs hW => ?_)
      refine lv_iadd C.1 C.2.1 dX1_boundBy_62 ?_
      cases h
      exact z_iret C hW dX1_boundBy_63
    · have h := if_n h c_13
      refine lv_iload_n C.1 C.2.1 dX1_boundBy_16 rfl (lv_at hl 1 rfl) ?_
      refine lv_iconst (v := 1) C.1 C.2.1 dX1_boundBy_17 (by decide) ?_
      refine lv_iload C.1 C.2.1 dX1_boundBy_18 (lv_at hl 4 rfl) ?_
      refine lv_ishl C.1 C.2.1 dX1_boundBy_20 ?_
      refine lv_iand C.1 C.2.1 dX1_boundBy_21 ?_
      refine lv_if_eq (tgt := 41) C.1 C.2.1 dX1_boundBy_22 (by decide) (fun c_22 => ?_) (fun c_22 => ?_)
      · have h := if_y h c_22
        refine lv_iload_n C.1 C.2.1 dX1_boundBy_41 rfl (lv_at hl 3 rfl) ?_
        refine lv_aload_n C.1 C.2.1 dX1_boundBy_42 rfl (lv_at hl 0 rfl) ?_
        refine gX1_5 C hW hk iX1_boundBy_c1 wX1_boundBy_1 dX1_boundBy_43 ?_
        refine lv_iload C.1 C.2.1 dX1_boundBy_46 (lv_at hl 4 rfl) ?_
        obtain ⟨hi48, h⟩ := ck_s h
        refine la6 C hW (kd_1r hk).2.2.2.2.2 hi48 dX1_boundBy_48 ?_
        refine lv_ior C.1 C.2.1 dX1_boundBy_49 ?_
        refine lv_istore_n (lv' := [(3, .int (v3 ||| (A (k + 6) v4.toNatClampNeg))), (0, .ref (Γ.2.2 k)), (1, .int v1), (2, .int v2), (4, .int v4)]) C.1 C.2.1 dX1_boundBy_50 rfl hl (by decide) rfl (fun ls hl => ?_)
        exact tX1_boundBy_51 C hk ih h  hW (lv_sub hl [1, 2, 3, 0, 4] rfl)
      · have h := if_n h c_22
        refine lv_iload_n C.1 C.2.1 dX1_boundBy_25 rfl (lv_at hl 2 rfl) ?_
        refine lv_aload_n C.1 C.2.1 dX1_boundBy_26 rfl (lv_at hl 0 rfl) ?_
        refine gX1_0 C hW hk iX1_boundBy_c1 wX1_boundBy_2 dX1_boundBy_27 ?_
        refine lv_iload C.1 C.2.1 dX1_boundBy_30 (lv_at hl 4 rfl) ?_
        obtain ⟨hi32, h⟩ := ck_s h
        refine la7 C hW (kd_1r hk).1 hi32 dX1_boundBy_32 ?_
        refine gX0_1 C hW (kd_7e (kd_1r hk).1.1 (inb_s hi32) rfl) iX1_boundBy_c0 wX1_boundBy_3 dX1_boundBy_33 ?_
        refine lv_iadd C.1 C.2.1 dX1_boundBy_36 ?_
        refine lv_istore_n (lv' := [(2, .int (v2 + (A (k + 1 + 6 + 2 * v4.toNatClampNeg) 1))), (0, .ref (Γ.2.2 k)), (1, .int v1), (3, .int v3), (4, .int v4)]) C.1 C.2.1 dX1_boundBy_37 rfl hl (by decide) rfl (fun ls hl => ?_)
        exact tX1_boundBy_38 C hk ih h  hW (lv_sub hl [1, 2, 0, 3, 4] rfl)
def fX1_boundBy  (A : Me) (k : Nat) (v1 : Int32) : Option (Int32) := fX1_boundBy_7 A k FU v1 0 0 0
set_option maxRecDepth 100000 in
theorem tX1_boundBy_0 {A B : Me} {k : Nat} {H : Heap} {locs : List Loc} {ls : Array Slot} {v1 : Int32} {rZ : Int32}  (C : Cx Γ p s m args meth c cX1_boundBy 5 (some .int) RX1 wsX1_boundBy) (hk : kd k = 1)  (h : fX1_boundBy A k v1 = some rZ)  (hW : Wd Γ A B s.heap H locs) (hl : lv_has ls 5 [(0, .ref (Γ.2.2 k)), (1, .int v1)]) : W p l e rmX1_boundBy s m args below meth c H locs 0 0 (MQ below (QI Γ A B rZ) args s 0 0 (rg Γ)) (F0 m 0 ls []) := by
  unfold fX1_boundBy at h
  refine lv_iconst (v := 0) C.1 C.2.1 dX1_boundBy_0 (by decide) ?_
  refine lv_istore_n (lv' := [(2, .int 0), (0, .ref (Γ.2.2 k)), (1, .int v1)]) C.1 C.2.1 dX1_boundBy_1 rfl hl (by decide) rfl (fun ls hl => ?_)
  refine lv_iconst (v := 0) C.1 C.2.1 dX1_boundBy_2 (by decide) ?_
  refine lv_istore_n (lv' := [(3, .int 0), (2, .int 0), (0, .ref (Γ.2.2 k)), (1, .int v1)]) C.1 C.2.1 dX1_boundBy_3 rfl hl (by decide) rfl (fun ls hl => ?_)
  refine lv_iconst (v := 0) C.1 C.2.1 dX1_boundBy_4 (by decide) ?_
  refine lv_istore (lv' := [(4, .int 0), (3, .int 0), (2, .int 0), (0, .ref (Γ.2.2 k)), (1, .int v1)]) C.1 C.2.1 dX1_boundBy_5 hl (by decide) rfl (fun ls hl => ?_)
  exact tX1_boundBy_7 C hk FU _ _ _ _ _ _ _ h  hW (lv_sub hl [3, 4, 2, 1, 0] rfl)
theorem mt_X1_boundBy {l : Launch} {Γ : Gm} {A B : Me} {k : Nat} {v1 : Int32} {rZ : Int32} (hk : kd k = 1) (h : fX1_boundBy A k v1 = some rZ) : Met l yX1_boundBy wsX1_boundBy rmX1_boundBy (PC Γ A B [.ref (Γ.2.2 k), .int v1]) (QI Γ A B rZ) 0 0 (rg Γ) :=
  met_of (by decide) rfl (Nat.le_of_ble_eq_true rfl) (fun p e s m below meth c ls C hW hl => tX1_boundBy_0 C hk h  hW (lv_sub (l := [(0, .ref (Γ.2.2 k)), (1, .int v1)]) hl [0, 1] rfl))
abbrev rmX1_seated : Room := { frames := 3, cells := 0, slots := 0, locals := 68 }
set_option maxRecDepth 100000 in
theorem iX1_seated_c1 : ∀ w ∈ wsX10, w ∈ wsX1_seated := by decide +kernel
set_option maxRecDepth 100000 in
theorem wX1_seated_0 : Cond.fieldLink RX1 50 "WineByYears$Cellar" "caskCount" "I" ∈ wsX1_seated := by decide +kernel
set_option maxRecDepth 100000 in
theorem wX1_seated_1 : Cond.fieldLink RX1 30 "WineByYears$Cellar" "drinkers" "[I" ∈ wsX1_seated := by decide +kernel
set_option maxRecDepth 100000 in
theorem wX1_seated_2 : Cond.fieldLink RX1 11 "WineByYears$Cellar" "casks" "[LWineByYears$Cask;" ∈ wsX1_seated := by decide +kernel
set_option maxRecDepth 100000 in
theorem wX1_seated_3 : Cond.methodLink RX1 44 Lib.Math.min.name ∈ wsX1_seated := by decide +kernel
set_option maxRecDepth 100000 in
theorem wX1_seated_4 : Cond.static Lib.Math.min.name ∈ wsX1_seated := by decide +kernel
set_option maxRecDepth 100000 in
theorem wX1_seated_5 : Cond.initialized "java/lang/Math" ∈ wsX1_seated := by decide +kernel
set_option maxRecDepth 100000 in
theorem wX1_seated_6 : Cond.code Lib.Math.min.name Lib.Math.min.code 2 (some .int) ∈ wsX1_seated := by decide +kernel
def fX1_seated_41  (k : Nat) : Nat → Me → Int32 → Int32 → Option (Int32 × Me)
  | 0, _, _, _ => none
  | n + 1, A, v2, v3 => if (1 <<< ((A k 7) &&& 31)) ≤ v3 then (some (v2, A)) else (bi (fX1_boundBy A k v3) fun r54 => fX1_seated_41 k n A (if r54 < v2 then r54 else v2) (v3 + 1))
set_option maxRecDepth 100000 in
theorem tX1_seated_41 {B : Me} {k : Nat} {rZ : Int32} {AZ : Me}  (C : Cx Γ p s m args meth c cX1_seated 4 (some .int) RX1 wsX1_seated) (hk : kd k = 1)  (n : Nat) : ∀ (A : Me) (v2 : Int32) (v3 : Int32) (H : Heap) (locs : List Loc) (ls : Array Slot), fX1_seated_41 k n A v2 v3 = some (rZ, AZ) → Wd Γ A B s.heap H locs → lv_has ls 4 [(0, .ref (Γ.2.2 k)), (2, .int v2), (3, .int v3)] → W p l e rmX1_seated s m args below meth c H locs 0 0 (MQ below (QI Γ AZ B rZ) args s 0 0 (rg Γ)) (F0 m 41 ls []) := by
  induction n with
  | zero =>
    intro _ _ _ H locs ls h
    exact nomatch (show (none : Option (Int32 × Me)) = some (rZ, AZ) from h)
  | succ n ih =>
    intro A v2 v3 H locs ls h  hW hl
    rw [fX1_seated_41] at h
    refine lv_iload_n C.1 C.2.1 dX1_seated_41 rfl (lv_at hl 2 rfl) ?_
    refine lv_iconst (v := 1) C.1 C.2.1 dX1_seated_42 (by decide) ?_
    refine lv_aload_n C.1 C.2.1 dX1_seated_43 rfl (lv_at hl 0 rfl) ?_
    refine gX1_7 C hW hk iX1_seated_c1 wX1_seated_0 dX1_seated_44 ?_
    refine lv_ishl C.1 C.2.1 dX1_seated_47 ?_
    refine lv_icmp_ge (tgt := 67) C.1 C.2.1 dX1_seated_48 (by decide) (fun c_48 => ?_) (fun c_48 => ?_)
    · have h := if_y h c_48
      refine lv_iload_n C.1 C.2.1 dX1_seated_67 rfl (lv_at hl 1 rfl) ?_
      cases h
      exact z_iret C hW dX1_seated_68
    · have h := if_n h c_48
      refine lv_iload_n C.1 C.2.1 dX1_seated_51 rfl (lv_at hl 1 rfl) ?_
      refine lv_aload_n C.1 C.2.1 dX1_seated_52 rfl (lv_at hl 0 rfl) ?_
      refine lv_iload_n C.1 C.2.1 dX1_seated_53 rfl (lv_at hl 2 rfl) ?_
      obtain ⟨r54, hc54, h⟩ := bi_s h
      refine cVi C hW (As := [.int v3]) (rest := [.int v2]) (mt_X1_boundBy hk hc54) (cwV 1 C.2.2.2.2.2.1 gX1_seated_X1_boundBy rfl rfl rfl (by decide +kernel) ⟨Nat.le_of_ble_eq_true rfl, Nat.le_of_ble_eq_true rfl⟩) (rcv1 C hW hk) rfl hl.1 rfl (Nat.le_of_ble_eq_true rfl) dX1_seated_54 (Nat.zero_le _) (Nat.zero_le _) (fun H locs hW => ?_)
      refine va_mmin C.1 C.2.1 (C.2.2.2.1.trans hl.1.symm) C.2.2.2.2.1 (C.2.2.2.2.2.1 _ wX1_seated_3) (C.2.2.2.2.2.1 _ wX1_seated_4) (C.2.2.2.2.2.1 _ wX1_seated_5) (C.2.2.2.2.2.1 _ wX1_seated_6) (by decide) (Nat.le_of_ble_eq_true rfl) (Nat.zero_le _) (Nat.zero_le _) dX1_seated_57 ?_
      refine lv_istore_n (lv' := [(2, .int (if r54 < v2 then r54 else v2)), (0, .ref (Γ.2.2 k)), (3, .int v3)]) C.1 C.2.1 dX1_seated_60 rfl hl (by decide) rfl (fun ls hl => ?_)
      refine lv_iinc (v := (v3 + 1)) (lv' := [(3, .int (v3 + 1)), (2, .int (if r54 < v2 then r54 else v2)), (0, .ref (Γ.2.2 k))]) C.1 C.2.1 dX1_seated_61 hl (k := 2) rfl rfl (by decide) rfl (fun ls hl => ?_)
      refine lv_goto (tgt := 41) C.1 C.2.1 dX1_seated_64 (by decide) ?_
      exact ih _ _ _ _ _ _ h  hW (lv_sub hl [2, 1, 0] rfl)
def fX1_seated_2  (k : Nat) : Nat → Me → Int32 → Int32 → Option (Int32 × Me)
  | 0, _, _, _ => none
  | n + 1, A, v1, v2 => if (A k 7) ≤ v2 then (bi (fJ6_bitCount_0f7a4 v1) fun r35 => fX1_seated_41 k FU A r35 0) else (ck (inb v2 5) <| bi (fX1_whoMay A k (k + 1 + 6 + 2 * v2.toNatClampNeg)) fun r23 => ck (inb v2 5) <| fX1_seated_2 k n (up2 A (k + 6) v2.toNatClampNeg (v1 &&& r23)) v1 (v2 + 1))
set_option maxRecDepth 100000 in
theorem tX1_seated_2 {B : Me} {k : Nat} {rZ : Int32} {AZ : Me}  (C : Cx Γ p s m args meth c cX1_seated 4 (some .int) RX1 wsX1_seated) (hk : kd k = 1)  (n : Nat) : ∀ (A : Me) (v1 : Int32) (v2 : Int32) (H : Heap) (locs : List Loc) (ls : Array Slot), fX1_seated_2 k n A v1 v2 = some (rZ, AZ) → Wd Γ A B s.heap H locs → lv_has ls 4 [(0, .ref (Γ.2.2 k)), (1, .int v1), (2, .int v2)] → W p l e rmX1_seated s m args below meth c H locs 0 0 (MQ below (QI Γ AZ B rZ) args s 0 0 (rg Γ)) (F0 m 2 ls []) := by
  induction n with
  | zero =>
    intro _ _ _ H locs ls h
    exact nomatch (show (none : Option (Int32 × Me)) = some (rZ, AZ) from h)
  | succ n ih =>
    intro A v1 v2 H locs ls h  hW hl
    rw [fX1_seated_2] at h
    refine lv_iload_n C.1 C.2.1 dX1_seated_2 rfl (lv_at hl 2 rfl) ?_
    refine lv_aload_n C.1 C.2.1 dX1_seated_3 rfl (lv_at hl 0 rfl) ?_
    refine gX1_7 C hW hk iX1_seated_c1 wX1_seated_0 dX1_seated_4 ?_
    refine lv_icmp_ge (tgt := 34) C.1 C.2.1 dX1_seated_7 (by decide) (fun c_7 => ?_) (fun c_7 => ?_)
    · have h := if_y h c_7
      refine lv_iload_n C.1 C.2.1 dX1_seated_34 rfl (lv_at hl 1 rfl) ?_
      obtain ⟨r35, hc35, h⟩ := bi_s h
      refine cSi C hW (As := [.int v1]) (rest := []) (mt_J6_bitCount_0f7a4  hc35) (va_cwS 1 C.2.2.2.2.2.1 gX1_seated_J6_bitCount_0f7a4 rfl rfl rfl (by decide +kernel) ⟨Nat.le_of_ble_eq_true rfl, Nat.le_of_ble_eq_true rfl⟩) rfl hl.1 rfl (Nat.le_of_ble_eq_true rfl) dX1_seated_35 (Nat.zero_le _) (Nat.zero_le _) (fun H locs hW => ?_)
      refine lv_istore_n (lv' := [(2, .int r35), (0, .ref (Γ.2.2 k)), (1, .int v1)]) C.1 C.2.1 dX1_seated_38 rfl hl (by decide) rfl (fun ls hl => ?_)
      refine lv_iconst (v := 0) C.1 C.2.1 dX1_seated_39 (by decide) ?_
      refine lv_istore_n (lv' := [(3, .int 0), (2, .int r35), (0, .ref (Γ.2.2 k)), (1, .int v1)]) C.1 C.2.1 dX1_seated_40 rfl hl (by decide) rfl (fun ls hl => ?_)
      exact tX1_seated_41 C hk FU _ _ _ _ _ _ h  hW (lv_sub hl [2, 1, 0] rfl)
    · have h := if_n h c_7
      refine lv_aload_n C.1 C.2.1 dX1_seated_10 rfl (lv_at hl 0 rfl) ?_
      refine gX1_5 C hW hk iX1_seated_c1 wX1_seated_1 dX1_seated_11 ?_
      refine lv_iload_n C.1 C.2.1 dX1_seated_14 rfl (lv_at hl 2 rfl) ?_
      refine lv_iload_n C.1 C.2.1 dX1_seated_15 rfl (lv_at hl 1 rfl) ?_
      refine lv_aload_n C.1 C.2.1 dX1_seated_16 rfl (lv_at hl 0 rfl) ?_
      refine lv_aload_n C.1 C.2.1 dX1_seated_17 rfl (lv_at hl 0 rfl) ?_
      refine gX1_0 C hW hk iX1_seated_c1 wX1_seated_2 dX1_seated_18 ?_
      refine lv_iload_n C.1 C.2.1 dX1_seated_21 rfl (lv_at hl 2 rfl) ?_
      obtain ⟨hi22, h⟩ := ck_s h
      refine la7 C hW (kd_1r hk).1 hi22 dX1_seated_22 ?_
      obtain ⟨r23, hc23, h⟩ := bi_s h
      refine cVi C hW (As := [.ref (Γ.2.2 (k + 1 + 6 + 2 * v2.toNatClampNeg))]) (rest := [.int v1, .int v2, .ref (Γ.2.2 (k + 6))]) (mt_X1_whoMay hk (kd_7e (kd_1r hk).1.1 (inb_s hi22) rfl) hc23) (cwV 1 C.2.2.2.2.2.1 gX1_seated_X1_whoMay rfl rfl rfl (by decide +kernel) ⟨Nat.le_of_ble_eq_true rfl, Nat.le_of_ble_eq_true rfl⟩) (rcv1 C hW hk) rfl hl.1 rfl (Nat.le_of_ble_eq_true rfl) dX1_seated_23 (Nat.zero_le _) (Nat.zero_le _) (fun H locs hW => ?_)
      refine lv_iand C.1 C.2.1 dX1_seated_26 ?_
      obtain ⟨hi27, h⟩ := ck_s h
      refine sa6 C hW (kd_1r hk).2.2.2.2.2 hi27 dX1_seated_27 (fun H locs hW => ?_)
      refine lv_iinc (v := (v2 + 1)) (lv' := [(2, .int (v2 + 1)), (0, .ref (Γ.2.2 k)), (1, .int v1)]) C.1 C.2.1 dX1_seated_28 hl (k := 2) rfl rfl (by decide) rfl (fun ls hl => ?_)
      refine lv_goto (tgt := 2) C.1 C.2.1 dX1_seated_31 (by decide) ?_
      exact ih _ _ _ _ _ _ h  hW (lv_sub hl [1, 2, 0] rfl)
def fX1_seated  (A : Me) (k : Nat) (v1 : Int32) : Option (Int32 × Me) := fX1_seated_2 k FU A v1 0
set_option maxRecDepth 100000 in
theorem tX1_seated_0 {A B : Me} {k : Nat} {H : Heap} {locs : List Loc} {ls : Array Slot} {v1 : Int32} {rZ : Int32} {AZ : Me}  (C : Cx Γ p s m args meth c cX1_seated 4 (some .int) RX1 wsX1_seated) (hk : kd k = 1)  (h : fX1_seated A k v1 = some (rZ, AZ))  (hW : Wd Γ A B s.heap H locs) (hl : lv_has ls 4 [(0, .ref (Γ.2.2 k)), (1, .int v1)]) : W p l e rmX1_seated s m args below meth c H locs 0 0 (MQ below (QI Γ AZ B rZ) args s 0 0 (rg Γ)) (F0 m 0 ls []) := by
  unfold fX1_seated at h
  refine lv_iconst (v := 0) C.1 C.2.1 dX1_seated_0 (by decide) ?_
  refine lv_istore_n (lv' := [(2, .int 0), (0, .ref (Γ.2.2 k)), (1, .int v1)]) C.1 C.2.1 dX1_seated_1 rfl hl (by decide) rfl (fun ls hl => ?_)
  exact tX1_seated_2 C hk FU _ _ _ _ _ _ h  hW (lv_sub hl [1, 2, 0] rfl)
theorem mt_X1_seated {l : Launch} {Γ : Gm} {A B : Me} {k : Nat} {v1 : Int32} {rZ : Int32} {AZ : Me} (hk : kd k = 1) (h : fX1_seated A k v1 = some (rZ, AZ)) : Met l yX1_seated wsX1_seated rmX1_seated (PC Γ A B [.ref (Γ.2.2 k), .int v1]) (QI Γ AZ B rZ) 0 0 (rg Γ) :=
  met_of (by decide) rfl (Nat.le_of_ble_eq_true rfl) (fun p e s m below meth c ls C hW hl => tX1_seated_0 C hk h  hW (lv_sub (l := [(0, .ref (Γ.2.2 k)), (1, .int v1)]) hl [0, 1] rfl))
abbrev rmX1_noteTrial : Room := { frames := 0, cells := 0, slots := 0, locals := 0 }
set_option maxRecDepth 100000 in
theorem iX1_noteTrial_c1 : ∀ w ∈ wsX10, w ∈ wsX1_noteTrial := by decide +kernel
set_option maxRecDepth 100000 in
theorem wX1_noteTrial_0 : Cond.fieldLink RX1 77 "WineByYears$Cellar" "trialCount" "I" ∈ wsX1_noteTrial := by decide +kernel
set_option maxRecDepth 100000 in
theorem wX1_noteTrial_1 : Cond.fieldLink RX1 27 "WineByYears$Cellar" "trialCasks" "[I" ∈ wsX1_noteTrial := by decide +kernel
set_option maxRecDepth 100000 in
theorem wX1_noteTrial_2 : Cond.fieldLink RX1 80 "WineByYears$Cellar" "trialIllBits" "I" ∈ wsX1_noteTrial := by decide +kernel
def fX1_noteTrial_48  (A : Me) (k : Nat)  : Option (Int32 × Me) := some ((A k 9), A)
set_option maxRecDepth 100000 in
theorem tX1_noteTrial_48 {A B : Me} {k : Nat} {H : Heap} {locs : List Loc} {ls : Array Slot}  {rZ : Int32} {AZ : Me}  (C : Cx Γ p s m args meth c cX1_noteTrial 3 (some .int) RX1 wsX1_noteTrial) (hk : kd k = 1)  (h : fX1_noteTrial_48 A k = some (rZ, AZ))  (hW : Wd Γ A B s.heap H locs) (hl : lv_has ls 3 [(0, .ref (Γ.2.2 k))]) : W p l e rmX1_noteTrial s m args below meth c H locs 0 0 (MQ below (QI Γ AZ B rZ) args s 0 0 (rg Γ)) (F0 m 48 ls []) := by
  unfold fX1_noteTrial_48 at h
  refine lv_aload_n C.1 C.2.1 dX1_noteTrial_48 rfl (lv_at hl 0 rfl) ?_
  refine gX1_9 C hW hk iX1_noteTrial_c1 wX1_noteTrial_0 dX1_noteTrial_49 ?_
  cases h
  exact z_iret C hW dX1_noteTrial_52
def fX1_noteTrial_38  (A : Me) (k : Nat)  : Option (Int32 × Me) := fX1_noteTrial_48 (up2 A k 9 ((A k 9) + 1)) k
set_option maxRecDepth 100000 in
theorem tX1_noteTrial_38 {A B : Me} {k : Nat} {H : Heap} {locs : List Loc} {ls : Array Slot}  {rZ : Int32} {AZ : Me}  (C : Cx Γ p s m args meth c cX1_noteTrial 3 (some .int) RX1 wsX1_noteTrial) (hk : kd k = 1)  (h : fX1_noteTrial_38 A k = some (rZ, AZ))  (hW : Wd Γ A B s.heap H locs) (hl : lv_has ls 3 [(0, .ref (Γ.2.2 k))]) : W p l e rmX1_noteTrial s m args below meth c H locs 0 0 (MQ below (QI Γ AZ B rZ) args s 0 0 (rg Γ)) (F0 m 38 ls []) := by
  unfold fX1_noteTrial_38 at h
  refine lv_aload_n C.1 C.2.1 dX1_noteTrial_38 rfl (lv_at hl 0 rfl) ?_
  refine lv_dup C.1 C.2.1 dX1_noteTrial_39 rfl ?_
  refine gX1_9 C hW hk iX1_noteTrial_c1 wX1_noteTrial_0 dX1_noteTrial_40 ?_
  refine lv_iconst (v := 1) C.1 C.2.1 dX1_noteTrial_43 (by decide) ?_
  refine lv_iadd C.1 C.2.1 dX1_noteTrial_44 ?_
  refine pX1_9 C hW hk iX1_noteTrial_c1 wX1_noteTrial_0 dX1_noteTrial_45 (fun H locs hW => ?_)
  exact tX1_noteTrial_48 C hk h  hW (lv_sub hl [0] rfl)
def fX1_noteTrial  (A : Me) (k : Nat) (v1 : Int32) (v2 : Int32) : Option (Int32 × Me) := if 8 ≤ (A k 9) then (fX1_noteTrial_48 A k) else (ck (inb (A k 9) 8) <| if v2 = 0 then (fX1_noteTrial_38 (up2 A (k + 5) (A k 9).toNatClampNeg v1) k) else (fX1_noteTrial_38 (up2 (up2 A (k + 5) (A k 9).toNatClampNeg v1) k 10 (((up2 A (k + 5) (A k 9).toNatClampNeg v1) k 10) ||| (1 <<< (((up2 A (k + 5) (A k 9).toNatClampNeg v1) k 9) &&& 31)))) k))
set_option maxRecDepth 100000 in
theorem tX1_noteTrial_0 {A B : Me} {k : Nat} {H : Heap} {locs : List Loc} {ls : Array Slot} {v1 : Int32} {v2 : Int32} {rZ : Int32} {AZ : Me}  (C : Cx Γ p s m args meth c cX1_noteTrial 3 (some .int) RX1 wsX1_noteTrial) (hk : kd k = 1)  (h : fX1_noteTrial A k v1 v2 = some (rZ, AZ))  (hW : Wd Γ A B s.heap H locs) (hl : lv_has ls 3 [(0, .ref (Γ.2.2 k)), (1, .int v1), (2, .int v2)]) : W p l e rmX1_noteTrial s m args below meth c H locs 0 0 (MQ below (QI Γ AZ B rZ) args s 0 0 (rg Γ)) (F0 m 0 ls []) := by
  unfold fX1_noteTrial at h
  refine lv_aload_n C.1 C.2.1 dX1_noteTrial_0 rfl (lv_at hl 0 rfl) ?_
  refine gX1_9 C hW hk iX1_noteTrial_c1 wX1_noteTrial_0 dX1_noteTrial_1 ?_
  refine lv_bipush (v := 8) C.1 C.2.1 dX1_noteTrial_4 (by decide) ?_
  refine lv_icmp_ge (tgt := 48) C.1 C.2.1 dX1_noteTrial_6 (by decide) (fun c_6 => ?_) (fun c_6 => ?_)
  · have h := if_y h c_6
    exact tX1_noteTrial_48 C hk h  hW (lv_sub hl [0] rfl)
  · have h := if_n h c_6
    refine lv_aload_n C.1 C.2.1 dX1_noteTrial_9 rfl (lv_at hl 0 rfl) ?_
    refine gX1_4 C hW hk iX1_noteTrial_c1 wX1_noteTrial_1 dX1_noteTrial_10 ?_
    refine lv_aload_n C.1 C.2.1 dX1_noteTrial_13 rfl (lv_at hl 0 rfl) ?_
    refine gX1_9 C hW hk iX1_noteTrial_c1 wX1_noteTrial_0 dX1_noteTrial_14 ?_
    refine lv_iload_n C.1 C.2.1 dX1_noteTrial_17 rfl (lv_at hl 1 rfl) ?_
    obtain ⟨hi18, h⟩ := ck_s h
    refine sa6 C hW (kd_1r hk).2.2.2.2.1 hi18 dX1_noteTrial_18 (fun H locs hW => ?_)
    refine lv_iload_n C.1 C.2.1 dX1_noteTrial_19 rfl (lv_at hl 2 rfl) ?_
    refine lv_if_eq (tgt := 38) C.1 C.2.1 dX1_noteTrial_20 (by decide) (fun c_20 => ?_) (fun c_20 => ?_)
    · have h := if_y h c_20
      exact tX1_noteTrial_38 C hk h  hW (lv_sub hl [0] rfl)
    · have h := if_n h c_20
      refine lv_aload_n C.1 C.2.1 dX1_noteTrial_23 rfl (lv_at hl 0 rfl) ?_
      refine lv_dup C.1 C.2.1 dX1_noteTrial_24 rfl ?_
      refine gX1_10 C hW hk iX1_noteTrial_c1 wX1_noteTrial_2 dX1_noteTrial_25 ?_
      refine lv_iconst (v := 1) C.1 C.2.1 dX1_noteTrial_28 (by decide) ?_
      refine lv_aload_n C.1 C.2.1 dX1_noteTrial_29 rfl (lv_at hl 0 rfl) ?_
      refine gX1_9 C hW hk iX1_noteTrial_c1 wX1_noteTrial_0 dX1_noteTrial_30 ?_
      refine lv_ishl C.1 C.2.1 dX1_noteTrial_33 ?_
      refine lv_ior C.1 C.2.1 dX1_noteTrial_34 ?_
      refine pX1_10 C hW hk iX1_noteTrial_c1 wX1_noteTrial_2 dX1_noteTrial_35 (fun H locs hW => ?_)
      exact tX1_noteTrial_38 C hk h  hW (lv_sub hl [0] rfl)
theorem mt_X1_noteTrial {l : Launch} {Γ : Gm} {A B : Me} {k : Nat} {v1 : Int32} {v2 : Int32} {rZ : Int32} {AZ : Me} (hk : kd k = 1) (h : fX1_noteTrial A k v1 v2 = some (rZ, AZ)) : Met l yX1_noteTrial wsX1_noteTrial rmX1_noteTrial (PC Γ A B [.ref (Γ.2.2 k), .int v1, .int v2]) (QI Γ AZ B rZ) 0 0 (rg Γ) :=
  met_of (by decide) rfl (Nat.le_of_ble_eq_true rfl) (fun p e s m below meth c ls C hW hl => tX1_noteTrial_0 C hk h  hW (lv_sub (l := [(0, .ref (Γ.2.2 k)), (1, .int v1), (2, .int v2)]) hl [0, 1, 2] rfl))
abbrev rmX1_birthsThatMay : Room := { frames := 2, cells := 0, slots := 0, locals := 43 }
set_option maxRecDepth 100000 in
theorem iX1_birthsThatMay_c1 : ∀ w ∈ wsX10, w ∈ wsX1_birthsThatMay := by decide +kernel
set_option maxRecDepth 100000 in
theorem wX1_birthsThatMay_0 : Cond.fieldLink RX1 40 "WineByYears$Cellar" "law" "I" ∈ wsX1_birthsThatMay := by decide +kernel
set_option maxRecDepth 100000 in
theorem wX1_birthsThatMay_1 : Cond.initialized RX3 ∈ wsX1_birthsThatMay := by decide +kernel
set_option maxRecDepth 100000 in
theorem wX1_birthsThatMay_2 : Cond.static yX3_mayDrink ∈ wsX1_birthsThatMay := by decide +kernel
def fX1_birthsThatMay_52 (j24 : Int32 → Int32 → Int32 → Int32 → Int32 → Option (Int32)) (A : Me) (k : Nat) (v1 : Int32) (v3 : Int32) (v4 : Int32) (v5 : Int32) (v6 : Int32) : Option (Int32) := j24 v1 v3 v4 v5 (v6 + 1)
set_option maxRecDepth 100000 in
theorem tX1_birthsThatMay_52 {A B : Me} {k : Nat} {H : Heap} {locs : List Loc} {ls : Array Slot} {v1 : Int32} {v3 : Int32} {v4 : Int32} {v5 : Int32} {v6 : Int32} {rZ : Int32} {j24 : Int32 → Int32 → Int32 → Int32 → Int32 → Option (Int32)} (C : Cx Γ p s m args meth c cX1_birthsThatMay 7 (some .int) RX1 wsX1_birthsThatMay) (hk : kd k = 1) (hr24 : ∀ (v1 : Int32) (v3 : Int32) (v4 : Int32) (v5 : Int32) (v6 : Int32) (H : Heap) (locs : List Loc) (ls : Array Slot), j24 v1 v3 v4 v5 v6 = some rZ → Wd Γ A B s.heap H locs → lv_has ls 7 [(1, .int v1), (3, .int v3), (4, .int v4), (5, .int v5), (6, .int v6)] → W p l e rmX1_birthsThatMay s m args below meth c H locs 0 0 (MQ below (QI Γ A B rZ) args s 0 0 (rg Γ)) (F0 m 24 ls [])) (h : fX1_birthsThatMay_52 j24 A k v1 v3 v4 v5 v6 = some rZ)  (hW : Wd Γ A B s.heap H locs) (hl : lv_has ls 7 [(1, .int v1), (3, .int v3), (4, .int v4), (5, .int v5), (6, .int v6)]) : W p l e rmX1_birthsThatMay s m args below meth c H locs 0 0 (MQ below (QI Γ A B rZ) args s 0 0 (rg Γ)) (F0 m 52 ls []) := by
  unfold fX1_birthsThatMay_52 at h
  refine lv_iinc (v := (v6 + 1)) (lv' := [(6, .int (v6 + 1)), (1, .int v1), (3, .int v3), (4, .int v4), (5, .int v5)]) C.1 C.2.1 dX1_birthsThatMay_52 hl (k := 4) rfl rfl (by decide) rfl (fun ls hl => ?_)
  refine lv_goto (tgt := 24) C.1 C.2.1 dX1_birthsThatMay_55 (by decide) ?_
  exact hr24 _ _ _ _ _ _ _ _ h  hW (lv_sub hl [1, 2, 3, 4, 0] rfl)
def fX1_birthsThatMay_24  (A : Me) (k : Nat) : Nat → Int32 → Int32 → Int32 → Int32 → Int32 → Option (Int32)
  | 0, _, _, _, _, _ => none
  | n + 1, v1, v3, v4, v5, v6 => if 10 ≤ v6 then (some v5) else (bi (fX3_mayDrink v1 v6 v3 v4) fun r37 => if r37 = 0 then (fX1_birthsThatMay_52 (fun x0 x1 x2 x3 x4 => fX1_birthsThatMay_24 A k n x0 x1 x2 x3 x4) A k v1 v3 v4 v5 v6) else (fX1_birthsThatMay_52 (fun x0 x1 x2 x3 x4 => fX1_birthsThatMay_24 A k n x0 x1 x2 x3 x4) A k v1 v3 v4 (v5 ||| (1 <<< (v6 &&& 31))) v6))
set_option maxRecDepth 100000 in
theorem tX1_birthsThatMay_24 {A B : Me} {k : Nat} {rZ : Int32}  (C : Cx Γ p s m args meth c cX1_birthsThatMay 7 (some .int) RX1 wsX1_birthsThatMay) (hk : kd k = 1)  (n : Nat) : ∀ (v1 : Int32) (v3 : Int32) (v4 : Int32) (v5 : Int32) (v6 : Int32) (H : Heap) (locs : List Loc) (ls : Array Slot), fX1_birthsThatMay_24 A k n v1 v3 v4 v5 v6 = some rZ → Wd Γ A B s.heap H locs → lv_has ls 7 [(1, .int v1), (3, .int v3), (4, .int v4), (5, .int v5), (6, .int v6)] → W p l e rmX1_birthsThatMay s m args below meth c H locs 0 0 (MQ below (QI Γ A B rZ) args s 0 0 (rg Γ)) (F0 m 24 ls []) := by
  induction n with
  | zero =>
    intro _ _ _ _ _ H locs ls h
    exact nomatch (show (none : Option (Int32)) = some rZ from h)
  | succ n ih =>
    intro v1 v3 v4 v5 v6 H locs ls h  hW hl
    rw [fX1_birthsThatMay_24] at h
    refine lv_iload C.1 C.2.1 dX1_birthsThatMay_24 (lv_at hl 4 rfl) ?_
    refine lv_bipush (v := 10) C.1 C.2.1 dX1_birthsThatMay_26 (by decide) ?_
    refine lv_icmp_ge (tgt := 58) C.1 C.2.1 dX1_birthsThatMay_28 (by decide) (fun c_28 => ?_) (fun c_28 => ?_)
    · have h := if_y h c_28
      refine lv_iload C.1 C.2.1 dX1_birthsThatMay_58 (lv_at hl 3 rfl) ?_
      cases h
      exact z_iret C hW dX1_birthsThatMay_60
    · have h := if_n h c_28
      refine lv_iload_n C.1 C.2.1 dX1_birthsThatMay_31 rfl (lv_at hl 0 rfl) ?_
      refine lv_iload C.1 C.2.1 dX1_birthsThatMay_32 (lv_at hl 4 rfl) ?_
      refine lv_iload_n C.1 C.2.1 dX1_birthsThatMay_34 rfl (lv_at hl 1 rfl) ?_
      refine lv_iload C.1 C.2.1 dX1_birthsThatMay_35 (lv_at hl 2 rfl) ?_
      obtain ⟨r37, hc37, h⟩ := bi_s h
      refine cNi C hW (As := [.int v1, .int v6, .int v3, .int v4]) (rest := []) (mt_X3_mayDrink  hc37) ⟨va_cnB 4 C.2.2.2.2.2.1 gX1_birthsThatMay_X3_mayDrink_n100 rfl rfl rfl C.2.2.2.2.2.2.2.2.1 (C.2.2.2.2.2.1 (.initialized RX3) wX1_birthsThatMay_1) (by decide +kernel) ⟨Nat.le_of_ble_eq_true rfl, Nat.le_of_ble_eq_true rfl⟩, C.2.2.2.2.2.1 _ wX1_birthsThatMay_2, trivial⟩ rfl hl.1 rfl (Nat.le_of_ble_eq_true rfl) dX1_birthsThatMay_37 (Nat.zero_le _) (Nat.zero_le _) (fun H locs hW => ?_)
      refine lv_if_eq (tgt := 52) C.1 C.2.1 dX1_birthsThatMay_40 (by decide) (fun c_40 => ?_) (fun c_40 => ?_)
      · have h := if_y h c_40
        exact tX1_birthsThatMay_52 C hk ih h  hW (lv_sub hl [0, 1, 2, 3, 4] rfl)
      · have h := if_n h c_40
        refine lv_iload C.1 C.2.1 dX1_birthsThatMay_43 (lv_at hl 3 rfl) ?_
        refine lv_iconst (v := 1) C.1 C.2.1 dX1_birthsThatMay_45 (by decide) ?_
        refine lv_iload C.1 C.2.1 dX1_birthsThatMay_46 (lv_at hl 4 rfl) ?_
        refine lv_ishl C.1 C.2.1 dX1_birthsThatMay_48 ?_
        refine lv_ior C.1 C.2.1 dX1_birthsThatMay_49 ?_
        refine lv_istore (lv' := [(5, .int (v5 ||| (1 <<< (v6 &&& 31)))), (1, .int v1), (3, .int v3), (4, .int v4), (6, .int v6)]) C.1 C.2.1 dX1_birthsThatMay_50 hl (by decide) rfl (fun ls hl => ?_)
        exact tX1_birthsThatMay_52 C hk ih h  hW (lv_sub hl [1, 2, 3, 0, 4] rfl)
def fX1_birthsThatMay  (A : Me) (k : Nat) (v1 : Int32) (k2 : Nat) : Option (Int32) := bi (fX0_age A k2 (A k 6)) fun r5 => bi (fX0_yearBits A k2) fun r10 => bi (fJ6_bitCount_0f7a4 r10) fun r13 => fX1_birthsThatMay_24 A k FU v1 r5 r13 0 0
set_option maxRecDepth 100000 in
theorem tX1_birthsThatMay_0 {A B : Me} {k : Nat} {H : Heap} {locs : List Loc} {ls : Array Slot} {v1 : Int32} {k2 : Nat} {rZ : Int32}  (C : Cx Γ p s m args meth c cX1_birthsThatMay 7 (some .int) RX1 wsX1_birthsThatMay) (hk : kd k = 1)  (h : fX1_birthsThatMay A k v1 k2 = some rZ) (hk2 : kd k2 = 0) (hW : Wd Γ A B s.heap H locs) (hl : lv_has ls 7 [(0, .ref (Γ.2.2 k)), (1, .int v1), (2, .ref (Γ.2.2 k2))]) : W p l e rmX1_birthsThatMay s m args below meth c H locs 0 0 (MQ below (QI Γ A B rZ) args s 0 0 (rg Γ)) (F0 m 0 ls []) := by
  unfold fX1_birthsThatMay at h
  refine lv_aload_n C.1 C.2.1 dX1_birthsThatMay_0 rfl (lv_at hl 2 rfl) ?_
  refine lv_aload_n C.1 C.2.1 dX1_birthsThatMay_1 rfl (lv_at hl 0 rfl) ?_
  refine gX1_6 C hW hk iX1_birthsThatMay_c1 wX1_birthsThatMay_0 dX1_birthsThatMay_2 ?_
  obtain ⟨r5, hc5, h⟩ := bi_s h
  refine cVi C hW (As := [.int (A k 6)]) (rest := []) (mt_X0_age hk2 hc5) (cwV 1 C.2.2.2.2.2.1 gX1_birthsThatMay_X0_age rfl rfl rfl (by decide +kernel) ⟨Nat.le_of_ble_eq_true rfl, Nat.le_of_ble_eq_true rfl⟩) (rcv0 C hW hk2) rfl hl.1 rfl (Nat.le_of_ble_eq_true rfl) dX1_birthsThatMay_5 (Nat.zero_le _) (Nat.zero_le _) (fun H locs hW => ?_)
  refine lv_istore_n (lv' := [(3, .int r5), (0, .ref (Γ.2.2 k)), (1, .int v1), (2, .ref (Γ.2.2 k2))]) C.1 C.2.1 dX1_birthsThatMay_8 rfl hl (by decide) rfl (fun ls hl => ?_)
  refine lv_aload_n C.1 C.2.1 dX1_birthsThatMay_9 rfl (lv_at hl 3 rfl) ?_
  obtain ⟨r10, hc10, h⟩ := bi_s h
  refine cVi C hW (As := []) (rest := []) (mt_X0_yearBits hk2 hc10) (cwV 0 C.2.2.2.2.2.1 gX1_birthsThatMay_X0_yearBits rfl rfl rfl (by decide +kernel) ⟨Nat.le_of_ble_eq_true rfl, Nat.le_of_ble_eq_true rfl⟩) (rcv0 C hW hk2) rfl hl.1 rfl (Nat.le_of_ble_eq_true rfl) dX1_birthsThatMay_10 (Nat.zero_le _) (Nat.zero_le _) (fun H locs hW => ?_)
  obtain ⟨r13, hc13, h⟩ := bi_s h
  refine cSi C hW (As := [.int r10]) (rest := []) (mt_J6_bitCount_0f7a4  hc13) (va_cwS 1 C.2.2.2.2.2.1 gX1_birthsThatMay_J6_bitCount_0f7a4 rfl rfl rfl (by decide +kernel) ⟨Nat.le_of_ble_eq_true rfl, Nat.le_of_ble_eq_true rfl⟩) rfl hl.1 rfl (Nat.le_of_ble_eq_true rfl) dX1_birthsThatMay_13 (Nat.zero_le _) (Nat.zero_le _) (fun H locs hW => ?_)
  refine lv_istore (lv' := [(4, .int r13), (3, .int r5), (0, .ref (Γ.2.2 k)), (1, .int v1), (2, .ref (Γ.2.2 k2))]) C.1 C.2.1 dX1_birthsThatMay_16 hl (by decide) rfl (fun ls hl => ?_)
  refine lv_iconst (v := 0) C.1 C.2.1 dX1_birthsThatMay_18 (by decide) ?_
  refine lv_istore (lv' := [(5, .int 0), (4, .int r13), (3, .int r5), (0, .ref (Γ.2.2 k)), (1, .int v1), (2, .ref (Γ.2.2 k2))]) C.1 C.2.1 dX1_birthsThatMay_19 hl (by decide) rfl (fun ls hl => ?_)
  refine lv_iconst (v := 0) C.1 C.2.1 dX1_birthsThatMay_21 (by decide) ?_
  refine lv_istore (lv' := [(6, .int 0), (5, .int 0), (4, .int r13), (3, .int r5), (0, .ref (Γ.2.2 k)), (1, .int v1), (2, .ref (Γ.2.2 k2))]) C.1 C.2.1 dX1_birthsThatMay_22 hl (by decide) rfl (fun ls hl => ?_)
  exact tX1_birthsThatMay_24 C hk FU _ _ _ _ _ _ _ _ h  hW (lv_sub hl [5, 3, 2, 1, 0] rfl)
theorem mt_X1_birthsThatMay {l : Launch} {Γ : Gm} {A B : Me} {k : Nat} {v1 : Int32} {k2 : Nat} {rZ : Int32} (hk : kd k = 1) (hk2 : kd k2 = 0) (h : fX1_birthsThatMay A k v1 k2 = some rZ) : Met l yX1_birthsThatMay wsX1_birthsThatMay rmX1_birthsThatMay (PC Γ A B [.ref (Γ.2.2 k), .int v1, .ref (Γ.2.2 k2)]) (QI Γ A B rZ) 0 0 (rg Γ) :=
  met_of (by decide) rfl (Nat.le_of_ble_eq_true rfl) (fun p e s m below meth c ls C hW hl => tX1_birthsThatMay_0 C hk h hk2 hW (lv_sub (l := [(0, .ref (Γ.2.2 k)), (1, .int v1), (2, .ref (Γ.2.2 k2))]) hl [0, 1, 2] rfl))
abbrev rmX1_possibleBirths : Room := { frames := 3, cells := 0, slots := 0, locals := 69 }
set_option maxRecDepth 100000 in
theorem iX1_possibleBirths_c1 : ∀ w ∈ wsX10, w ∈ wsX1_possibleBirths := by decide +kernel
set_option maxRecDepth 100000 in
theorem wX1_possibleBirths_0 : Cond.fieldLink RX1 77 "WineByYears$Cellar" "trialCount" "I" ∈ wsX1_possibleBirths := by decide +kernel
set_option maxRecDepth 100000 in
theorem wX1_possibleBirths_1 : Cond.fieldLink RX1 27 "WineByYears$Cellar" "trialCasks" "[I" ∈ wsX1_possibleBirths := by decide +kernel
set_option maxRecDepth 100000 in
theorem wX1_possibleBirths_2 : Cond.fieldLink RX1 11 "WineByYears$Cellar" "casks" "[LWineByYears$Cask;" ∈ wsX1_possibleBirths := by decide +kernel
set_option maxRecDepth 100000 in
theorem wX1_possibleBirths_3 : Cond.fieldLink RX1 80 "WineByYears$Cellar" "trialIllBits" "I" ∈ wsX1_possibleBirths := by decide +kernel
def fX1_possibleBirths_82 (j6 : Int32 → Int32 → Int32 → Option (Int32)) (A : Me) (k : Nat) (v1 : Int32) (v3 : Int32) (t0 : Int32) (t1 : Int32) : Option (Int32) := j6 v1 (t0 &&& t1) (v3 + 1)
set_option maxRecDepth 100000 in
theorem tX1_possibleBirths_82 {A B : Me} {k : Nat} {H : Heap} {locs : List Loc} {ls : Array Slot} {v1 : Int32} {v3 : Int32} {t0 : Int32} {t1 : Int32} {rZ : Int32} {j6 : Int32 → Int32 → Int32 → Option (Int32)} (C : Cx Γ p s m args meth c cX1_possibleBirths 7 (some .int) RX1 wsX1_possibleBirths) (hk : kd k = 1) (hr6 : ∀ (v1 : Int32) (v2 : Int32) (v3 : Int32) (H : Heap) (locs : List Loc) (ls : Array Slot), j6 v1 v2 v3 = some rZ → Wd Γ A B s.heap H locs → lv_has ls 7 [(0, .ref (Γ.2.2 k)), (1, .int v1), (2, .int v2), (3, .int v3)] → W p l e rmX1_possibleBirths s m args below meth c H locs 0 0 (MQ below (QI Γ A B rZ) args s 0 0 (rg Γ)) (F0 m 6 ls [])) (h : fX1_possibleBirths_82 j6 A k v1 v3 t0 t1 = some rZ)  (hW : Wd Γ A B s.heap H locs) (hl : lv_has ls 7 [(0, .ref (Γ.2.2 k)), (1, .int v1), (3, .int v3)]) : W p l e rmX1_possibleBirths s m args below meth c H locs 0 0 (MQ below (QI Γ A B rZ) args s 0 0 (rg Γ)) (F0 m 82 ls [.int t1, .int t0]) := by
  unfold fX1_possibleBirths_82 at h
  refine lv_iand C.1 C.2.1 dX1_possibleBirths_82 ?_
  refine lv_istore_n (lv' := [(2, .int (t0 &&& t1)), (0, .ref (Γ.2.2 k)), (1, .int v1), (3, .int v3)]) C.1 C.2.1 dX1_possibleBirths_83 rfl hl (by decide) rfl (fun ls hl => ?_)
  refine lv_iinc (v := (v3 + 1)) (lv' := [(3, .int (v3 + 1)), (2, .int (t0 &&& t1)), (0, .ref (Γ.2.2 k)), (1, .int v1)]) C.1 C.2.1 dX1_possibleBirths_84 hl (k := 3) rfl rfl (by decide) rfl (fun ls hl => ?_)
  refine lv_goto (tgt := 6) C.1 C.2.1 dX1_possibleBirths_87 (by decide) ?_
  exact hr6 _ _ _ _ _ _ h  hW (lv_sub hl [2, 3, 1, 0] rfl)
def fX1_possibleBirths_65 (j6 : Int32 → Int32 → Int32 → Option (Int32)) (A : Me) (k : Nat) (v1 : Int32) (v2 : Int32) (v3 : Int32) (v5 : Int32) (t0 : Int32) : Option (Int32) := if t0 = 0 then (fX1_possibleBirths_82 j6 A k v1 v3 v2 v5) else (fX1_possibleBirths_82 j6 A k v1 v3 v2 (v5 ^^^ (-1)))
set_option maxRecDepth 100000 in
theorem tX1_possibleBirths_65 {A B : Me} {k : Nat} {H : Heap} {locs : List Loc} {ls : Array Slot} {v1 : Int32} {v2 : Int32} {v3 : Int32} {v5 : Int32} {t0 : Int32} {rZ : Int32} {j6 : Int32 → Int32 → Int32 → Option (Int32)} (C : Cx Γ p s m args meth c cX1_possibleBirths 7 (some .int) RX1 wsX1_possibleBirths) (hk : kd k = 1) (hr6 : ∀ (v1 : Int32) (v2 : Int32) (v3 : Int32) (H : Heap) (locs : List Loc) (ls : Array Slot), j6 v1 v2 v3 = some rZ → Wd Γ A B s.heap H locs → lv_has ls 7 [(0, .ref (Γ.2.2 k)), (1, .int v1), (2, .int v2), (3, .int v3)] → W p l e rmX1_possibleBirths s m args below meth c H locs 0 0 (MQ below (QI Γ A B rZ) args s 0 0 (rg Γ)) (F0 m 6 ls [])) (h : fX1_possibleBirths_65 j6 A k v1 v2 v3 v5 t0 = some rZ)  (hW : Wd Γ A B s.heap H locs) (hl : lv_has ls 7 [(0, .ref (Γ.2.2 k)), (1, .int v1), (2, .int v2), (3, .int v3), (5, .int v5)]) : W p l e rmX1_possibleBirths s m args below meth c H locs 0 0 (MQ below (QI Γ A B rZ) args s 0 0 (rg Γ)) (F0 m 65 ls [.int t0]) := by
  unfold fX1_possibleBirths_65 at h
  refine lv_istore (lv' := [(6, .int t0), (0, .ref (Γ.2.2 k)), (1, .int v1), (2, .int v2), (3, .int v3), (5, .int v5)]) C.1 C.2.1 dX1_possibleBirths_65 hl (by decide) rfl (fun ls hl => ?_)
  refine lv_iload_n C.1 C.2.1 dX1_possibleBirths_67 rfl (lv_at hl 3 rfl) ?_
  refine lv_iload C.1 C.2.1 dX1_possibleBirths_68 (lv_at hl 0 rfl) ?_
  refine lv_if_eq (tgt := 80) C.1 C.2.1 dX1_possibleBirths_70 (by decide) (fun c_70 => ?_) (fun c_70 => ?_)
  · have h := if_y h c_70
    refine lv_iload C.1 C.2.1 dX1_possibleBirths_80 (lv_at hl 5 rfl) ?_
    exact tX1_possibleBirths_82 C hk hr6 h  hW (lv_sub hl [1, 2, 4] rfl)
  · have h := if_n h c_70
    refine lv_iload C.1 C.2.1 dX1_possibleBirths_73 (lv_at hl 5 rfl) ?_
    refine lv_iconst (v := (-1)) C.1 C.2.1 dX1_possibleBirths_75 (by decide) ?_
    refine lv_ixor C.1 C.2.1 dX1_possibleBirths_76 ?_
    refine lv_goto (tgt := 82) C.1 C.2.1 dX1_possibleBirths_77 (by decide) ?_
    exact tX1_possibleBirths_82 C hk hr6 h  hW (lv_sub hl [1, 2, 4] rfl)
def fX1_possibleBirths_47 (j6 : Int32 → Int32 → Int32 → Option (Int32)) (A : Me) (k : Nat) (v1 : Int32) (v2 : Int32) (v3 : Int32) (t0 : Int32) : Option (Int32) := if ((A k 10) &&& (1 <<< (v3 &&& 31))) = 0 then (fX1_possibleBirths_65 j6 A k v1 v2 v3 t0 0) else (fX1_possibleBirths_65 j6 A k v1 v2 v3 t0 1)
set_option maxRecDepth 100000 in
theorem tX1_possibleBirths_47 {A B : Me} {k : Nat} {H : Heap} {locs : List Loc} {ls : Array Slot} {v1 : Int32} {v2 : Int32} {v3 : Int32} {t0 : Int32} {rZ : Int32} {j6 : Int32 → Int32 → Int32 → Option (Int32)} (C : Cx Γ p s m args meth c cX1_possibleBirths 7 (some .int) RX1 wsX1_possibleBirths) (hk : kd k = 1) (hr6 : ∀ (v1 : Int32) (v2 : Int32) (v3 : Int32) (H : Heap) (locs : List Loc) (ls : Array Slot), j6 v1 v2 v3 = some rZ → Wd Γ A B s.heap H locs → lv_has ls 7 [(0, .ref (Γ.2.2 k)), (1, .int v1), (2, .int v2), (3, .int v3)] → W p l e rmX1_possibleBirths s m args below meth c H locs 0 0 (MQ below (QI Γ A B rZ) args s 0 0 (rg Γ)) (F0 m 6 ls [])) (h : fX1_possibleBirths_47 j6 A k v1 v2 v3 t0 = some rZ)  (hW : Wd Γ A B s.heap H locs) (hl : lv_has ls 7 [(0, .ref (Γ.2.2 k)), (1, .int v1), (2, .int v2), (3, .int v3)]) : W p l e rmX1_possibleBirths s m args below meth c H locs 0 0 (MQ below (QI Γ A B rZ) args s 0 0 (rg Γ)) (F0 m 47 ls [.int t0]) := by
  unfold fX1_possibleBirths_47 at h
  refine lv_istore (lv' := [(5, .int t0), (0, .ref (Γ.2.2 k)), (1, .int v1), (2, .int v2), (3, .int v3)]) C.1 C.2.1 dX1_possibleBirths_47 hl (by decide) rfl (fun ls hl => ?_)
  refine lv_aload_n C.1 C.2.1 dX1_possibleBirths_49 rfl (lv_at hl 1 rfl) ?_
  refine gX1_10 C hW hk iX1_possibleBirths_c1 wX1_possibleBirths_3 dX1_possibleBirths_50 ?_
  refine lv_iconst (v := 1) C.1 C.2.1 dX1_possibleBirths_53 (by decide) ?_
  refine lv_iload_n C.1 C.2.1 dX1_possibleBirths_54 rfl (lv_at hl 4 rfl) ?_
  refine lv_ishl C.1 C.2.1 dX1_possibleBirths_55 ?_
  refine lv_iand C.1 C.2.1 dX1_possibleBirths_56 ?_
  refine lv_if_eq (tgt := 64) C.1 C.2.1 dX1_possibleBirths_57 (by decide) (fun c_57 => ?_) (fun c_57 => ?_)
  · have h := if_y h c_57
    refine lv_iconst (v := 0) C.1 C.2.1 dX1_possibleBirths_64 (by decide) ?_
    exact tX1_possibleBirths_65 C hk hr6 h  hW (lv_sub hl [1, 2, 3, 4, 0] rfl)
  · have h := if_n h c_57
    refine lv_iconst (v := 1) C.1 C.2.1 dX1_possibleBirths_60 (by decide) ?_
    refine lv_goto (tgt := 65) C.1 C.2.1 dX1_possibleBirths_61 (by decide) ?_
    exact tX1_possibleBirths_65 C hk hr6 h  hW (lv_sub hl [1, 2, 3, 4, 0] rfl)
def fX1_possibleBirths_6  (A : Me) (k : Nat) : Nat → Int32 → Int32 → Int32 → Option (Int32)
  | 0, _, _, _ => none
  | n + 1, v1, v2, v3 => if (A k 9) ≤ v3 then (some v2) else (ck (inb v3 8) <| bi (fX1_hasCask A k (A (k + 5) v3.toNatClampNeg)) fun r25 => if r25 = 0 then (fX1_possibleBirths_47 (fun x0 x1 x2 => fX1_possibleBirths_6 A k n x0 x1 x2) A k v1 v2 v3 0) else (ck (inb (A (k + 5) v3.toNatClampNeg) 5) <| bi (fX1_birthsThatMay A k v1 (k + 1 + 6 + 2 * (A (k + 5) v3.toNatClampNeg).toNatClampNeg)) fun r40 => fX1_possibleBirths_47 (fun x0 x1 x2 => fX1_possibleBirths_6 A k n x0 x1 x2) A k v1 v2 v3 r40))
set_option maxRecDepth 100000 in
theorem tX1_possibleBirths_6 {A B : Me} {k : Nat} {rZ : Int32}  (C : Cx Γ p s m args meth c cX1_possibleBirths 7 (some .int) RX1 wsX1_possibleBirths) (hk : kd k = 1)  (n : Nat) : ∀ (v1 : Int32) (v2 : Int32) (v3 : Int32) (H : Heap) (locs : List Loc) (ls : Array Slot), fX1_possibleBirths_6 A k n v1 v2 v3 = some rZ → Wd Γ A B s.heap H locs → lv_has ls 7 [(0, .ref (Γ.2.2 k)), (1, .int v1), (2, .int v2), (3, .int v3)] → W p l e rmX1_possibleBirths s m args below meth c H locs 0 0 (MQ below (QI Γ A B rZ) args s 0 0 (rg Γ)) (F0 m 6 ls []) := by
  induction n with
  | zero =>
    intro _ _ _ H locs ls h
    exact nomatch (show (none : Option (Int32)) = some rZ from h)
  | succ n ih =>
    intro v1 v2 v3 H locs ls h  hW hl
    rw [fX1_possibleBirths_6] at h
    refine lv_iload_n C.1 C.2.1 dX1_possibleBirths_6 rfl (lv_at hl 3 rfl) ?_
    refine lv_aload_n C.1 C.2.1 dX1_possibleBirths_7 rfl (lv_at hl 0 rfl) ?_
    refine gX1_9 C hW hk iX1_possibleBirths_c1 wX1_possibleBirths_0 dX1_possibleBirths_8 ?_
    refine lv_icmp_ge (tgt := 90) C.1 C.2.1 dX1_possibleBirths_11 (by decide) (fun c_11 => ?_) (fun c_11 => ?_)
    · have h := if_y h c_11
      refine lv_iload_n C.1 C.2.1 dX1_possibleBirths_90 rfl (lv_at hl 2 rfl) ?_
      cases h
      exact z_iret C hW dX1_possibleBirths_91
    · have h := if_n h c_11
      refine lv_aload_n C.1 C.2.1 dX1_possibleBirths_14 rfl (lv_at hl 0 rfl) ?_
      refine gX1_4 C hW hk iX1_possibleBirths_c1 wX1_possibleBirths_1 dX1_possibleBirths_15 ?_
      refine lv_iload_n C.1 C.2.1 dX1_possibleBirths_18 rfl (lv_at hl 3 rfl) ?_
      obtain ⟨hi19, h⟩ := ck_s h
      refine la6 C hW (kd_1r hk).2.2.2.2.1 hi19 dX1_possibleBirths_19 ?_
      refine lv_istore (lv' := [(4, .int (A (k + 5) v3.toNatClampNeg)), (0, .ref (Γ.2.2 k)), (1, .int v1), (2, .int v2), (3, .int v3)]) C.1 C.2.1 dX1_possibleBirths_20 hl (by decide) rfl (fun ls hl => ?_)
      refine lv_aload_n C.1 C.2.1 dX1_possibleBirths_22 rfl (lv_at hl 1 rfl) ?_
      refine lv_iload C.1 C.2.1 dX1_possibleBirths_23 (lv_at hl 0 rfl) ?_
      obtain ⟨r25, hc25, h⟩ := bi_s h
      refine cVi C hW (As := [.int (A (k + 5) v3.toNatClampNeg)]) (rest := []) (mt_X1_hasCask hk hc25) (cwV 1 C.2.2.2.2.2.1 gX1_possibleBirths_X1_hasCask rfl rfl rfl (by decide +kernel) ⟨Nat.le_of_ble_eq_true rfl, Nat.le_of_ble_eq_true rfl⟩) (rcv1 C hW hk) rfl hl.1 rfl (Nat.le_of_ble_eq_true rfl) dX1_possibleBirths_25 (Nat.zero_le _) (Nat.zero_le _) (fun H locs hW => ?_)
      refine lv_if_eq (tgt := 46) C.1 C.2.1 dX1_possibleBirths_28 (by decide) (fun c_28 => ?_) (fun c_28 => ?_)
      · have h := if_y h c_28
        refine lv_iconst (v := 0) C.1 C.2.1 dX1_possibleBirths_46 (by decide) ?_
        exact tX1_possibleBirths_47 C hk ih h  hW (lv_sub hl [1, 2, 3, 4] rfl)
      · have h := if_n h c_28
        refine lv_aload_n C.1 C.2.1 dX1_possibleBirths_31 rfl (lv_at hl 1 rfl) ?_
        refine lv_iload_n C.1 C.2.1 dX1_possibleBirths_32 rfl (lv_at hl 2 rfl) ?_
        refine lv_aload_n C.1 C.2.1 dX1_possibleBirths_33 rfl (lv_at hl 1 rfl) ?_
        refine gX1_0 C hW hk iX1_possibleBirths_c1 wX1_possibleBirths_2 dX1_possibleBirths_34 ?_
        refine lv_iload C.1 C.2.1 dX1_possibleBirths_37 (lv_at hl 0 rfl) ?_
        obtain ⟨hi39, h⟩ := ck_s h
        refine la7 C hW (kd_1r hk).1 hi39 dX1_possibleBirths_39 ?_
        obtain ⟨r40, hc40, h⟩ := bi_s h
        refine cVi C hW (As := [.int v1, .ref (Γ.2.2 (k + 1 + 6 + 2 * (A (k + 5) v3.toNatClampNeg).toNatClampNeg))]) (rest := []) (mt_X1_birthsThatMay hk (kd_7e (kd_1r hk).1.1 (inb_s hi39) rfl) hc40) (cwV 2 C.2.2.2.2.2.1 gX1_possibleBirths_X1_birthsThatMay rfl rfl rfl (by decide +kernel) ⟨Nat.le_of_ble_eq_true rfl, Nat.le_of_ble_eq_true rfl⟩) (rcv1 C hW hk) rfl hl.1 rfl (Nat.le_of_ble_eq_true rfl) dX1_possibleBirths_40 (Nat.zero_le _) (Nat.zero_le _) (fun H locs hW => ?_)
        refine lv_goto (tgt := 47) C.1 C.2.1 dX1_possibleBirths_43 (by decide) ?_
        exact tX1_possibleBirths_47 C hk ih h  hW (lv_sub hl [1, 2, 3, 4] rfl)
def fX1_possibleBirths  (A : Me) (k : Nat) (v1 : Int32) : Option (Int32) := fX1_possibleBirths_6 A k FU v1 1023 0
set_option maxRecDepth 100000 in
theorem tX1_possibleBirths_0 {A B : Me} {k : Nat} {H : Heap} {locs : List Loc} {ls : Array Slot} {v1 : Int32} {rZ : Int32}  (C : Cx Γ p s m args meth c cX1_possibleBirths 7 (some .int) RX1 wsX1_possibleBirths) (hk : kd k = 1)  (h : fX1_possibleBirths A k v1 = some rZ)  (hW : Wd Γ A B s.heap H locs) (hl : lv_has ls 7 [(0, .ref (Γ.2.2 k)), (1, .int v1)]) : W p l e rmX1_possibleBirths s m args below meth c H locs 0 0 (MQ below (QI Γ A B rZ) args s 0 0 (rg Γ)) (F0 m 0 ls []) := by
  unfold fX1_possibleBirths at h
  refine lv_sipush (v := 1023) C.1 C.2.1 dX1_possibleBirths_0 (by decide) ?_
  refine lv_istore_n (lv' := [(2, .int 1023), (0, .ref (Γ.2.2 k)), (1, .int v1)]) C.1 C.2.1 dX1_possibleBirths_3 rfl hl (by decide) rfl (fun ls hl => ?_)
  refine lv_iconst (v := 0) C.1 C.2.1 dX1_possibleBirths_4 (by decide) ?_
  refine lv_istore_n (lv' := [(3, .int 0), (2, .int 1023), (0, .ref (Γ.2.2 k)), (1, .int v1)]) C.1 C.2.1 dX1_possibleBirths_5 rfl hl (by decide) rfl (fun ls hl => ?_)
  exact tX1_possibleBirths_6 C hk FU _ _ _ _ _ _ h  hW (lv_sub hl [2, 3, 1, 0] rfl)
theorem mt_X1_possibleBirths {l : Launch} {Γ : Gm} {A B : Me} {k : Nat} {v1 : Int32} {rZ : Int32} (hk : kd k = 1) (h : fX1_possibleBirths A k v1 = some rZ) : Met l yX1_possibleBirths wsX1_possibleBirths rmX1_possibleBirths (PC Γ A B [.ref (Γ.2.2 k), .int v1]) (QI Γ A B rZ) 0 0 (rg Γ) :=
  met_of (by decide) rfl (Nat.le_of_ble_eq_true rfl) (fun p e s m below meth c ls C hW hl => tX1_possibleBirths_0 C hk h  hW (lv_sub (l := [(0, .ref (Γ.2.2 k)), (1, .int v1)]) hl [0, 1] rfl))
abbrev rmX1_leftAtWorst : Room := { frames := 1, cells := 0, slots := 0, locals := 25 }
set_option maxRecDepth 100000 in
theorem wX1_leftAtWorst_0 : Cond.methodLink RX1 135 Lib.Math.max.name ∈ wsX1_leftAtWorst := by decide +kernel
set_option maxRecDepth 100000 in
theorem wX1_leftAtWorst_1 : Cond.static Lib.Math.max.name ∈ wsX1_leftAtWorst := by decide +kernel
set_option maxRecDepth 100000 in
theorem wX1_leftAtWorst_2 : Cond.initialized "java/lang/Math" ∈ wsX1_leftAtWorst := by decide +kernel
set_option maxRecDepth 100000 in
theorem wX1_leftAtWorst_3 : Cond.code Lib.Math.max.name Lib.Math.max.code 2 (some .int) ∈ wsX1_leftAtWorst := by decide +kernel
def fX1_leftAtWorst    (v0 : Int32) (v1 : Int32) : Option (Int32) := bi (fJ6_bitCount_0f7a4 (v0 &&& v1)) fun r3 => bi (fJ6_bitCount_0f7a4 (v0 &&& (v1 ^^^ (-1)))) fun r11 => some (if r3 < r11 then r11 else r3)
set_option maxRecDepth 100000 in
theorem tX1_leftAtWorst_0 {A B : Me}  {H : Heap} {locs : List Loc} {ls : Array Slot} {v0 : Int32} {v1 : Int32} {rZ : Int32}  (C : Cx Γ p s m args meth c cX1_leftAtWorst 2 (some .int) RX1 wsX1_leftAtWorst)  (h : fX1_leftAtWorst v0 v1 = some rZ)  (hW : Wd Γ A B s.heap H locs) (hl : lv_has ls 2 [(0, .int v0), (1, .int v1)]) : W p l e rmX1_leftAtWorst s m args below meth c H locs 0 0 (MQ below (QI Γ A B rZ) args s 0 0 (rg Γ)) (F0 m 0 ls []) := by
  unfold fX1_leftAtWorst at h
  refine lv_iload_n C.1 C.2.1 dX1_leftAtWorst_0 rfl (lv_at hl 0 rfl) ?_
  refine lv_iload_n C.1 C.2.1 dX1_leftAtWorst_1 rfl (lv_at hl 1 rfl) ?_
  refine lv_iand C.1 C.2.1 dX1_leftAtWorst_2 ?_
  obtain ⟨r3, hc3, h⟩ := bi_s h
  refine cSi C hW (As := [.int (v0 &&& v1)]) (rest := []) (mt_J6_bitCount_0f7a4  hc3) (va_cwS 1 C.2.2.2.2.2.1 gX1_leftAtWorst_J6_bitCount_0f7a4 rfl rfl rfl (by decide +kernel) ⟨Nat.le_of_ble_eq_true rfl, Nat.le_of_ble_eq_true rfl⟩) rfl hl.1 rfl (Nat.le_of_ble_eq_true rfl) dX1_leftAtWorst_3 (Nat.zero_le _) (Nat.zero_le _) (fun H locs hW => ?_)
  refine lv_iload_n C.1 C.2.1 dX1_leftAtWorst_6 rfl (lv_at hl 0 rfl) ?_
  refine lv_iload_n C.1 C.2.1 dX1_leftAtWorst_7 rfl (lv_at hl 1 rfl) ?_
  refine lv_iconst (v := (-1)) C.1 C.2.1 dX1_leftAtWorst_8 (by decide) ?_
  refine lv_ixor C.1 C.2.1 dX1_leftAtWorst_9 ?_
  refine lv_iand C.1 C.2.1 dX1_leftAtWorst_10 ?_
  obtain ⟨r11, hc11, h⟩ := bi_s h
  refine cSi C hW (As := [.int (v0 &&& (v1 ^^^ (-1)))]) (rest := [.int r3]) (mt_J6_bitCount_0f7a4  hc11) (va_cwS 1 C.2.2.2.2.2.1 gX1_leftAtWorst_J6_bitCount_0f7a4 rfl rfl rfl (by decide +kernel) ⟨Nat.le_of_ble_eq_true rfl, Nat.le_of_ble_eq_true rfl⟩) rfl hl.1 rfl (Nat.le_of_ble_eq_true rfl) dX1_leftAtWorst_11 (Nat.zero_le _) (Nat.zero_le _) (fun H locs hW => ?_)
  refine va_mmax C.1 C.2.1 (C.2.2.2.1.trans hl.1.symm) C.2.2.2.2.1 (C.2.2.2.2.2.1 _ wX1_leftAtWorst_0) (C.2.2.2.2.2.1 _ wX1_leftAtWorst_1) (C.2.2.2.2.2.1 _ wX1_leftAtWorst_2) (C.2.2.2.2.2.1 _ wX1_leftAtWorst_3) (by decide) (Nat.le_of_ble_eq_true rfl) (Nat.zero_le _) (Nat.zero_le _) dX1_leftAtWorst_14 ?_
  cases h
  exact z_iret C hW dX1_leftAtWorst_17
theorem mt_X1_leftAtWorst {l : Launch} {Γ : Gm} {A B : Me}  {v0 : Int32} {v1 : Int32} {rZ : Int32}  (h : fX1_leftAtWorst v0 v1 = some rZ) : Met l yX1_leftAtWorst wsX1_leftAtWorst rmX1_leftAtWorst (PC Γ A B [.int v0, .int v1]) (QI Γ A B rZ) 0 0 (rg Γ) :=
  met_of (by decide) rfl (Nat.le_of_ble_eq_true rfl) (fun p e s m below meth c ls C hW hl => tX1_leftAtWorst_0 C  h  hW (lv_sub (l := [(0, .int v0), (1, .int v1)]) hl [0, 1] rfl))
abbrev rmX1_bestQuestion : Room := { frames := 4, cells := 0, slots := 0, locals := 95 }
set_option maxRecDepth 100000 in
theorem iX1_bestQuestion_c0 : ∀ w ∈ wsX00, w ∈ wsX1_bestQuestion := by decide +kernel
set_option maxRecDepth 100000 in
theorem iX1_bestQuestion_c1 : ∀ w ∈ wsX10, w ∈ wsX1_bestQuestion := by decide +kernel
set_option maxRecDepth 100000 in
theorem wX1_bestQuestion_0 : Cond.fieldLink RX1 50 "WineByYears$Cellar" "caskCount" "I" ∈ wsX1_bestQuestion := by decide +kernel
set_option maxRecDepth 100000 in
theorem wX1_bestQuestion_1 : Cond.fieldLink RX1 11 "WineByYears$Cellar" "casks" "[LWineByYears$Cask;" ∈ wsX1_bestQuestion := by decide +kernel
set_option maxRecDepth 100000 in
theorem wX1_bestQuestion_2 : Cond.fieldLink RX1 86 "WineByYears$Cask" "litres" "I" ∈ wsX1_bestQuestion := by decide +kernel
def fX1_bestQuestion_75 (j21 : Int32 → Int32 → Int32 → Int32 → Int32 → Option (Int32)) (A : Me) (k : Nat) (v1 : Int32) (v2 : Int32) (v3 : Int32) (v4 : Int32) (v5 : Int32) : Option (Int32) := j21 v1 v2 v3 v4 (v5 + 1)
set_option maxRecDepth 100000 in
theorem tX1_bestQuestion_75 {A B : Me} {k : Nat} {H : Heap} {locs : List Loc} {ls : Array Slot} {v1 : Int32} {v2 : Int32} {v3 : Int32} {v4 : Int32} {v5 : Int32} {rZ : Int32} {j21 : Int32 → Int32 → Int32 → Int32 → Int32 → Option (Int32)} (C : Cx Γ p s m args meth c cX1_bestQuestion 7 (some .int) RX1 wsX1_bestQuestion) (hk : kd k = 1) (hr21 : ∀ (v1 : Int32) (v2 : Int32) (v3 : Int32) (v4 : Int32) (v5 : Int32) (H : Heap) (locs : List Loc) (ls : Array Slot), j21 v1 v2 v3 v4 v5 = some rZ → Wd Γ A B s.heap H locs → lv_has ls 7 [(0, .ref (Γ.2.2 k)), (1, .int v1), (2, .int v2), (3, .int v3), (4, .int v4), (5, .int v5)] → W p l e rmX1_bestQuestion s m args below meth c H locs 0 0 (MQ below (QI Γ A B rZ) args s 0 0 (rg Γ)) (F0 m 21 ls [])) (h : fX1_bestQuestion_75 j21 A k v1 v2 v3 v4 v5 = some rZ)  (hW : Wd Γ A B s.heap H locs) (hl : lv_has ls 7 [(0, .ref (Γ.2.2 k)), (1, .int v1), (2, .int v2), (3, .int v3), (4, .int v4), (5, .int v5)]) : W p l e rmX1_bestQuestion s m args below meth c H locs 0 0 (MQ below (QI Γ A B rZ) args s 0 0 (rg Γ)) (F0 m 75 ls []) := by
  unfold fX1_bestQuestion_75 at h
  refine lv_iinc (v := (v5 + 1)) (lv' := [(5, .int (v5 + 1)), (0, .ref (Γ.2.2 k)), (1, .int v1), (2, .int v2), (3, .int v3), (4, .int v4)]) C.1 C.2.1 dX1_bestQuestion_75 hl (k := 5) rfl rfl (by decide) rfl (fun ls hl => ?_)
  refine lv_goto (tgt := 21) C.1 C.2.1 dX1_bestQuestion_78 (by decide) ?_
  exact hr21 _ _ _ _ _ _ _ _ h  hW (lv_sub hl [1, 2, 3, 4, 5, 0] rfl)
def fX1_bestQuestion_21  (A : Me) (k : Nat) : Nat → Int32 → Int32 → Int32 → Int32 → Int32 → Option (Int32)
  | 0, _, _, _, _, _ => none
  | n + 1, v1, v2, v3, v4, v5 => if (A k 7) ≤ v5 then (some v3) else (ck (inb v5 5) <| bi (fX1_birthsThatMay A k v1 (k + 1 + 6 + 2 * v5.toNatClampNeg)) fun r40 => bi (fX1_leftAtWorst v2 r40) fun r43 => ck (inb v5 5) <| if (A (k + 1 + 6 + 2 * v5.toNatClampNeg) 1) ≤ 0 then (fX1_bestQuestion_75 (fun x0 x1 x2 x3 x4 => fX1_bestQuestion_21 A k n x0 x1 x2 x3 x4) A k v1 v2 v3 v4 v5) else (if v4 ≤ r43 then (fX1_bestQuestion_75 (fun x0 x1 x2 x3 x4 => fX1_bestQuestion_21 A k n x0 x1 x2 x3 x4) A k v1 v2 v3 v4 v5) else (fX1_bestQuestion_75 (fun x0 x1 x2 x3 x4 => fX1_bestQuestion_21 A k n x0 x1 x2 x3 x4) A k v1 v2 v5 r43 v5)))
set_option maxRecDepth 100000 in
theorem tX1_bestQuestion_21 {A B : Me} {k : Nat} {rZ : Int32}  (C : Cx Γ p s m args meth c cX1_bestQuestion 7 (some .int) RX1 wsX1_bestQuestion) (hk : kd k = 1)  (n : Nat) : ∀ (v1 : Int32) (v2 : Int32) (v3 : Int32) (v4 : Int32) (v5 : Int32) (H : Heap) (locs : List Loc) (ls : Array Slot), fX1_bestQuestion_21 A k n v1 v2 v3 v4 v5 = some rZ → Wd Γ A B s.heap H locs → lv_has ls 7 [(0, .ref (Γ.2.2 k)), (1, .int v1), (2, .int v2), (3, .int v3), (4, .int v4), (5, .int v5)] → W p l e rmX1_bestQuestion s m args below meth c H locs 0 0 (MQ below (QI Γ A B rZ) args s 0 0 (rg Γ)) (F0 m 21 ls []) := by
  induction n with
  | zero =>
    intro _ _ _ _ _ H locs ls h
    exact nomatch (show (none : Option (Int32)) = some rZ from h)
  | succ n ih =>
    intro v1 v2 v3 v4 v5 H locs ls h  hW hl
    rw [fX1_bestQuestion_21] at h
    refine lv_iload C.1 C.2.1 dX1_bestQuestion_21 (lv_at hl 5 rfl) ?_
    refine lv_aload_n C.1 C.2.1 dX1_bestQuestion_23 rfl (lv_at hl 0 rfl) ?_
    refine gX1_7 C hW hk iX1_bestQuestion_c1 wX1_bestQuestion_0 dX1_bestQuestion_24 ?_
    refine lv_icmp_ge (tgt := 81) C.1 C.2.1 dX1_bestQuestion_27 (by decide) (fun c_27 => ?_) (fun c_27 => ?_)
    · have h := if_y h c_27
      refine lv_iload_n C.1 C.2.1 dX1_bestQuestion_81 rfl (lv_at hl 3 rfl) ?_
      cases h
      exact z_iret C hW dX1_bestQuestion_82
    · have h := if_n h c_27
      refine lv_iload_n C.1 C.2.1 dX1_bestQuestion_30 rfl (lv_at hl 2 rfl) ?_
      refine lv_aload_n C.1 C.2.1 dX1_bestQuestion_31 rfl (lv_at hl 0 rfl) ?_
      refine lv_iload_n C.1 C.2.1 dX1_bestQuestion_32 rfl (lv_at hl 1 rfl) ?_
      refine lv_aload_n C.1 C.2.1 dX1_bestQuestion_33 rfl (lv_at hl 0 rfl) ?_
      refine gX1_0 C hW hk iX1_bestQuestion_c1 wX1_bestQuestion_1 dX1_bestQuestion_34 ?_
      refine lv_iload C.1 C.2.1 dX1_bestQuestion_37 (lv_at hl 5 rfl) ?_
      obtain ⟨hi39, h⟩ := ck_s h
      refine la7 C hW (kd_1r hk).1 hi39 dX1_bestQuestion_39 ?_
      obtain ⟨r40, hc40, h⟩ := bi_s h
      refine cVi C hW (As := [.int v1, .ref (Γ.2.2 (k + 1 + 6 + 2 * v5.toNatClampNeg))]) (rest := [.int v2]) (mt_X1_birthsThatMay hk (kd_7e (kd_1r hk).1.1 (inb_s hi39) rfl) hc40) (cwV 2 C.2.2.2.2.2.1 gX1_bestQuestion_X1_birthsThatMay rfl rfl rfl (by decide +kernel) ⟨Nat.le_of_ble_eq_true rfl, Nat.le_of_ble_eq_true rfl⟩) (rcv1 C hW hk) rfl hl.1 rfl (Nat.le_of_ble_eq_true rfl) dX1_bestQuestion_40 (Nat.zero_le _) (Nat.zero_le _) (fun H locs hW => ?_)
      obtain ⟨r43, hc43, h⟩ := bi_s h
      refine cSi C hW (As := [.int v2, .int r40]) (rest := []) (mt_X1_leftAtWorst  hc43) (va_cwS 2 C.2.2.2.2.2.1 gX1_bestQuestion_X1_leftAtWorst rfl rfl rfl (by decide +kernel) ⟨Nat.le_of_ble_eq_true rfl, Nat.le_of_ble_eq_true rfl⟩) rfl hl.1 rfl (Nat.le_of_ble_eq_true rfl) dX1_bestQuestion_43 (Nat.zero_le _) (Nat.zero_le _) (fun H locs hW => ?_)
      refine lv_istore (lv' := [(6, .int r43), (0, .ref (Γ.2.2 k)), (1, .int v1), (2, .int v2), (3, .int v3), (4, .int v4), (5, .int v5)]) C.1 C.2.1 dX1_bestQuestion_46 hl (by decide) rfl (fun ls hl => ?_)
      refine lv_aload_n C.1 C.2.1 dX1_bestQuestion_48 rfl (lv_at hl 1 rfl) ?_
      refine gX1_0 C hW hk iX1_bestQuestion_c1 wX1_bestQuestion_1 dX1_bestQuestion_49 ?_
      refine lv_iload C.1 C.2.1 dX1_bestQuestion_52 (lv_at hl 6 rfl) ?_
      obtain ⟨hi54, h⟩ := ck_s h
      refine la7 C hW (kd_1r hk).1 hi54 dX1_bestQuestion_54 ?_
      refine gX0_1 C hW (kd_7e (kd_1r hk).1.1 (inb_s hi54) rfl) iX1_bestQuestion_c0 wX1_bestQuestion_2 dX1_bestQuestion_55 ?_
      refine lv_if_le (tgt := 75) C.1 C.2.1 dX1_bestQuestion_58 (by decide) (fun c_58 => ?_) (fun c_58 => ?_)
      · have h := if_y h c_58
        exact tX1_bestQuestion_75 C hk ih h  hW (lv_sub hl [1, 2, 3, 4, 5, 6] rfl)
      · have h := if_n h c_58
        refine lv_iload C.1 C.2.1 dX1_bestQuestion_61 (lv_at hl 0 rfl) ?_
        refine lv_iload C.1 C.2.1 dX1_bestQuestion_63 (lv_at hl 5 rfl) ?_
        refine lv_icmp_ge (tgt := 75) C.1 C.2.1 dX1_bestQuestion_65 (by decide) (fun c_65 => ?_) (fun c_65 => ?_)
        · have h := if_y h c_65
          exact tX1_bestQuestion_75 C hk ih h  hW (lv_sub hl [1, 2, 3, 4, 5, 6] rfl)
        · have h := if_n h c_65
          refine lv_iload C.1 C.2.1 dX1_bestQuestion_68 (lv_at hl 6 rfl) ?_
          refine lv_istore_n (lv' := [(3, .int v5), (6, .int r43), (0, .ref (Γ.2.2 k)), (1, .int v1), (2, .int v2), (4, .int v4), (5, .int v5)]) C.1 C.2.1 dX1_bestQuestion_70 rfl hl (by decide) rfl (fun ls hl => ?_)
          refine lv_iload C.1 C.2.1 dX1_bestQuestion_71 (lv_at hl 1 rfl) ?_
          refine lv_istore (lv' := [(4, .int r43), (3, .int v5), (6, .int r43), (0, .ref (Γ.2.2 k)), (1, .int v1), (2, .int v2), (5, .int v5)]) C.1 C.2.1 dX1_bestQuestion_73 hl (by decide) rfl (fun ls hl => ?_)
          exact tX1_bestQuestion_75 C hk ih h  hW (lv_sub hl [3, 4, 5, 1, 0, 6] rfl)
def fX1_bestQuestion  (A : Me) (k : Nat) (v1 : Int32) : Option (Int32) := bi (fX1_possibleBirths A k v1) fun r2 => if r2 = 0 then (some (-1)) else (fX1_bestQuestion_21 A k FU v1 r2 (-1) 11 0)
set_option maxRecDepth 100000 in
theorem tX1_bestQuestion_0 {A B : Me} {k : Nat} {H : Heap} {locs : List Loc} {ls : Array Slot} {v1 : Int32} {rZ : Int32}  (C : Cx Γ p s m args meth c cX1_bestQuestion 7 (some .int) RX1 wsX1_bestQuestion) (hk : kd k = 1)  (h : fX1_bestQuestion A k v1 = some rZ)  (hW : Wd Γ A B s.heap H locs) (hl : lv_has ls 7 [(0, .ref (Γ.2.2 k)), (1, .int v1)]) : W p l e rmX1_bestQuestion s m args below meth c H locs 0 0 (MQ below (QI Γ A B rZ) args s 0 0 (rg Γ)) (F0 m 0 ls []) := by
  unfold fX1_bestQuestion at h
  refine lv_aload_n C.1 C.2.1 dX1_bestQuestion_0 rfl (lv_at hl 0 rfl) ?_
  refine lv_iload_n C.1 C.2.1 dX1_bestQuestion_1 rfl (lv_at hl 1 rfl) ?_
  obtain ⟨r2, hc2, h⟩ := bi_s h
  refine cVi C hW (As := [.int v1]) (rest := []) (mt_X1_possibleBirths hk hc2) (cwV 1 C.2.2.2.2.2.1 gX1_bestQuestion_X1_possibleBirths rfl rfl rfl (by decide +kernel) ⟨Nat.le_of_ble_eq_true rfl, Nat.le_of_ble_eq_true rfl⟩) (rcv1 C hW hk) rfl hl.1 rfl (Nat.le_of_ble_eq_true rfl) dX1_bestQuestion_2 (Nat.zero_le _) (Nat.zero_le _) (fun H locs hW => ?_)
  refine lv_istore_n (lv' := [(2, .int r2), (0, .ref (Γ.2.2 k)), (1, .int v1)]) C.1 C.2.1 dX1_bestQuestion_5 rfl hl (by decide) rfl (fun ls hl => ?_)
  refine lv_iload_n C.1 C.2.1 dX1_bestQuestion_6 rfl (lv_at hl 0 rfl) ?_
  refine lv_if_ne (tgt := 12) C.1 C.2.1 dX1_bestQuestion_7 (by decide) (fun c_7 => ?_) (fun c_7 => ?_)
  · have h := if_n h c_7
    refine lv_iconst (v := (-1)) C.1 C.2.1 dX1_bestQuestion_12 (by decide) ?_
    refine lv_istore_n (lv' := [(3, .int (-1)), (2, .int r2), (0, .ref (Γ.2.2 k)), (1, .int v1)]) C.1 C.2.1 dX1_bestQuestion_13 rfl hl (by decide) rfl (fun ls hl => ?_)
    refine lv_bipush (v := 11) C.1 C.2.1 dX1_bestQuestion_14 (by decide) ?_
    refine lv_istore (lv' := [(4, .int 11), (3, .int (-1)), (2, .int r2), (0, .ref (Γ.2.2 k)), (1, .int v1)]) C.1 C.2.1 dX1_bestQuestion_16 hl (by decide) rfl (fun ls hl => ?_)
    refine lv_iconst (v := 0) C.1 C.2.1 dX1_bestQuestion_18 (by decide) ?_
    refine lv_istore (lv' := [(5, .int 0), (4, .int 11), (3, .int (-1)), (2, .int r2), (0, .ref (Γ.2.2 k)), (1, .int v1)]) C.1 C.2.1 dX1_bestQuestion_19 hl (by decide) rfl (fun ls hl => ?_)
    exact tX1_bestQuestion_21 C hk FU _ _ _ _ _ _ _ _ h  hW (lv_sub hl [4, 5, 3, 2, 1, 0] rfl)
  · have h := if_y h c_7
    refine lv_iconst (v := (-1)) C.1 C.2.1 dX1_bestQuestion_10 (by decide) ?_
    cases h
    exact z_iret C hW dX1_bestQuestion_11
theorem mt_X1_bestQuestion {l : Launch} {Γ : Gm} {A B : Me} {k : Nat} {v1 : Int32} {rZ : Int32} (hk : kd k = 1) (h : fX1_bestQuestion A k v1 = some rZ) : Met l yX1_bestQuestion wsX1_bestQuestion rmX1_bestQuestion (PC Γ A B [.ref (Γ.2.2 k), .int v1]) (QI Γ A B rZ) 0 0 (rg Γ) :=
  met_of (by decide) rfl (Nat.le_of_ble_eq_true rfl) (fun p e s m below meth c ls C hW hl => tX1_bestQuestion_0 C hk h  hW (lv_sub (l := [(0, .ref (Γ.2.2 k)), (1, .int v1)]) hl [0, 1] rfl))
abbrev rmX2_append : Room := { frames := 0, cells := 0, slots := 0, locals := 0 }
set_option maxRecDepth 100000 in
theorem iX2_append_c2 : ∀ w ∈ wsX20, w ∈ wsX2_append := by decide +kernel
set_option maxRecDepth 100000 in
theorem wX2_append_0 : Cond.fieldLink RX2 13 "WineByYears$Page" "length" "I" ∈ wsX2_append := by decide +kernel
set_option maxRecDepth 100000 in
theorem wX2_append_1 : Cond.fieldLink RX2 9 "WineByYears$Page" "codes" "[I" ∈ wsX2_append := by decide +kernel
def fX2_append_29  (A : Me) (k : Nat)  : Option (Int32 × Me) := some ((A k 1), A)
set_option maxRecDepth 100000 in
theorem tX2_append_29 {A B : Me} {k : Nat} {H : Heap} {locs : List Loc} {ls : Array Slot}  {rZ : Int32} {AZ : Me}  (C : Cx Γ p s m args meth c cX2_append 2 (some .int) RX2 wsX2_append) (hk : kd k = 2)  (h : fX2_append_29 A k = some (rZ, AZ))  (hW : Wd Γ A B s.heap H locs) (hl : lv_has ls 2 [(0, .ref (Γ.2.2 k))]) : W p l e rmX2_append s m args below meth c H locs 0 0 (MQ below (QI Γ AZ B rZ) args s 0 0 (rg Γ)) (F0 m 29 ls []) := by
  unfold fX2_append_29 at h
  refine lv_aload_n C.1 C.2.1 dX2_append_29 rfl (lv_at hl 0 rfl) ?_
  refine gX2_1 C hW hk iX2_append_c2 wX2_append_0 dX2_append_30 ?_
  cases h
  exact z_iret C hW dX2_append_33
def fX2_append  (A : Me) (k : Nat) (v1 : Int32) : Option (Int32 × Me) := if 18 ≤ (A k 1) then (fX2_append_29 A k) else (ck (inb (A k 1) 18) <| fX2_append_29 (up2 (up2 A (k + 1) (A k 1).toNatClampNeg v1) k 1 (((up2 A (k + 1) (A k 1).toNatClampNeg v1) k 1) + 1)) k)
set_option maxRecDepth 100000 in
theorem tX2_append_0 {A B : Me} {k : Nat} {H : Heap} {locs : List Loc} {ls : Array Slot} {v1 : Int32} {rZ : Int32} {AZ : Me}  (C : Cx Γ p s m args meth c cX2_append 2 (some .int) RX2 wsX2_append) (hk : kd k = 2)  (h : fX2_append A k v1 = some (rZ, AZ))  (hW : Wd Γ A B s.heap H locs) (hl : lv_has ls 2 [(0, .ref (Γ.2.2 k)), (1, .int v1)]) : W p l e rmX2_append s m args below meth c H locs 0 0 (MQ below (QI Γ AZ B rZ) args s 0 0 (rg Γ)) (F0 m 0 ls []) := by
  unfold fX2_append at h
  refine lv_aload_n C.1 C.2.1 dX2_append_0 rfl (lv_at hl 0 rfl) ?_
  refine gX2_1 C hW hk iX2_append_c2 wX2_append_0 dX2_append_1 ?_
  refine lv_bipush (v := 18) C.1 C.2.1 dX2_append_4 (by decide) ?_
  refine lv_icmp_ge (tgt := 29) C.1 C.2.1 dX2_append_6 (by decide) (fun c_6 => ?_) (fun c_6 => ?_)
  · have h := if_y h c_6
    exact tX2_append_29 C hk h  hW (lv_sub hl [0] rfl)
  · have h := if_n h c_6
    refine lv_aload_n C.1 C.2.1 dX2_append_9 rfl (lv_at hl 0 rfl) ?_
    refine gX2_0 C hW hk iX2_append_c2 wX2_append_1 dX2_append_10 ?_
    refine lv_aload_n C.1 C.2.1 dX2_append_13 rfl (lv_at hl 0 rfl) ?_
    refine gX2_1 C hW hk iX2_append_c2 wX2_append_0 dX2_append_14 ?_
    refine lv_iload_n C.1 C.2.1 dX2_append_17 rfl (lv_at hl 1 rfl) ?_
    obtain ⟨hi18, h⟩ := ck_s h
    refine sa6 C hW (kd_2r hk) hi18 dX2_append_18 (fun H locs hW => ?_)
    refine lv_aload_n C.1 C.2.1 dX2_append_19 rfl (lv_at hl 0 rfl) ?_
    refine lv_dup C.1 C.2.1 dX2_append_20 rfl ?_
    refine gX2_1 C hW hk iX2_append_c2 wX2_append_0 dX2_append_21 ?_
    refine lv_iconst (v := 1) C.1 C.2.1 dX2_append_24 (by decide) ?_
    refine lv_iadd C.1 C.2.1 dX2_append_25 ?_
    refine pX2_1 C hW hk iX2_append_c2 wX2_append_0 dX2_append_26 (fun H locs hW => ?_)
    exact tX2_append_29 C hk h  hW (lv_sub hl [0] rfl)
theorem mt_X2_append {l : Launch} {Γ : Gm} {A B : Me} {k : Nat} {v1 : Int32} {rZ : Int32} {AZ : Me} (hk : kd k = 2) (h : fX2_append A k v1 = some (rZ, AZ)) : Met l yX2_append wsX2_append rmX2_append (PC Γ A B [.ref (Γ.2.2 k), .int v1]) (QI Γ AZ B rZ) 0 0 (rg Γ) :=
  met_of (by decide) rfl (Nat.le_of_ble_eq_true rfl) (fun p e s m below meth c ls C hW hl => tX2_append_0 C hk h  hW (lv_sub (l := [(0, .ref (Γ.2.2 k)), (1, .int v1)]) hl [0, 1] rfl))
abbrev rmX2_clear : Room := { frames := 0, cells := 0, slots := 0, locals := 0 }
set_option maxRecDepth 100000 in
theorem iX2_clear_c2 : ∀ w ∈ wsX20, w ∈ wsX2_clear := by decide +kernel
set_option maxRecDepth 100000 in
theorem wX2_clear_0 : Cond.fieldLink RX2 13 "WineByYears$Page" "length" "I" ∈ wsX2_clear := by decide +kernel
def fX2_clear  (A : Me) (k : Nat)  : Option (Int32 × Me) := some ((A k 1), (up2 A k 1 0))
set_option maxRecDepth 100000 in
theorem tX2_clear_0 {A B : Me} {k : Nat} {H : Heap} {locs : List Loc} {ls : Array Slot}  {rZ : Int32} {AZ : Me}  (C : Cx Γ p s m args meth c cX2_clear 2 (some .int) RX2 wsX2_clear) (hk : kd k = 2)  (h : fX2_clear A k = some (rZ, AZ))  (hW : Wd Γ A B s.heap H locs) (hl : lv_has ls 2 [(0, .ref (Γ.2.2 k))]) : W p l e rmX2_clear s m args below meth c H locs 0 0 (MQ below (QI Γ AZ B rZ) args s 0 0 (rg Γ)) (F0 m 0 ls []) := by
  unfold fX2_clear at h
  refine lv_aload_n C.1 C.2.1 dX2_clear_0 rfl (lv_at hl 0 rfl) ?_
  refine gX2_1 C hW hk iX2_clear_c2 wX2_clear_0 dX2_clear_1 ?_
  refine lv_istore_n (lv' := [(1, .int (A k 1)), (0, .ref (Γ.2.2 k))]) C.1 C.2.1 dX2_clear_4 rfl hl (by decide) rfl (fun ls hl => ?_)
  refine lv_aload_n C.1 C.2.1 dX2_clear_5 rfl (lv_at hl 1 rfl) ?_
  refine lv_iconst (v := 0) C.1 C.2.1 dX2_clear_6 (by decide) ?_
  refine pX2_1 C hW hk iX2_clear_c2 wX2_clear_0 dX2_clear_7 (fun H locs hW => ?_)
  refine lv_iload_n C.1 C.2.1 dX2_clear_10 rfl (lv_at hl 0 rfl) ?_
  cases h
  exact z_iret C hW dX2_clear_11
theorem mt_X2_clear {l : Launch} {Γ : Gm} {A B : Me} {k : Nat}  {rZ : Int32} {AZ : Me} (hk : kd k = 2) (h : fX2_clear A k = some (rZ, AZ)) : Met l yX2_clear wsX2_clear rmX2_clear (PC Γ A B [.ref (Γ.2.2 k)]) (QI Γ AZ B rZ) 0 0 (rg Γ) :=
  met_of (by decide) rfl (Nat.le_of_ble_eq_true rfl) (fun p e s m below meth c ls C hW hl => tX2_clear_0 C hk h  hW (lv_sub (l := [(0, .ref (Γ.2.2 k))]) hl [0] rfl))
abbrev rmX2_fits : Room := { frames := 0, cells := 0, slots := 0, locals := 0 }
def fX2_fits_21    (t0 : Int32) : Option (Int32) := ck (zb t0) <| some t0
set_option maxRecDepth 100000 in
theorem tX2_fits_21 {A B : Me}  {H : Heap} {locs : List Loc} {ls : Array Slot} {t0 : Int32} {rZ : Int32}  (C : Cx Γ p s m args meth c cX2_fits 2 (some .boolean) RX2 wsX2_fits)  (h : fX2_fits_21 t0 = some rZ)  (hW : Wd Γ A B s.heap H locs) (hl : lv_has ls 2 []) : W p l e rmX2_fits s m args below meth c H locs 0 0 (MQ below (QI Γ A B rZ) args s 0 0 (rg Γ)) (F0 m 21 ls [.int t0]) := by
  unfold fX2_fits_21 at h
  obtain ⟨hz, h⟩ := ck_s h
  cases h
  exact z_zret C hW hz dX2_fits_21
def fX2_fits_20     : Option (Int32) := fX2_fits_21 0
set_option maxRecDepth 100000 in
theorem tX2_fits_20 {A B : Me}  {H : Heap} {locs : List Loc} {ls : Array Slot}  {rZ : Int32}  (C : Cx Γ p s m args meth c cX2_fits 2 (some .boolean) RX2 wsX2_fits)  (h : fX2_fits_20 = some rZ)  (hW : Wd Γ A B s.heap H locs) (hl : lv_has ls 2 []) : W p l e rmX2_fits s m args below meth c H locs 0 0 (MQ below (QI Γ A B rZ) args s 0 0 (rg Γ)) (F0 m 20 ls []) := by
  unfold fX2_fits_20 at h
  refine lv_iconst (v := 0) C.1 C.2.1 dX2_fits_20 (by decide) ?_
  exact tX2_fits_21 C  h  hW (lv_sub hl [] rfl)
def fX2_fits_38    (t0 : Int32) : Option (Int32) := ck (zb t0) <| some t0
set_option maxRecDepth 100000 in
theorem tX2_fits_38 {A B : Me}  {H : Heap} {locs : List Loc} {ls : Array Slot} {t0 : Int32} {rZ : Int32}  (C : Cx Γ p s m args meth c cX2_fits 2 (some .boolean) RX2 wsX2_fits)  (h : fX2_fits_38 t0 = some rZ)  (hW : Wd Γ A B s.heap H locs) (hl : lv_has ls 2 []) : W p l e rmX2_fits s m args below meth c H locs 0 0 (MQ below (QI Γ A B rZ) args s 0 0 (rg Γ)) (F0 m 38 ls [.int t0]) := by
  unfold fX2_fits_38 at h
  obtain ⟨hz, h⟩ := ck_s h
  cases h
  exact z_zret C hW hz dX2_fits_38
def fX2_fits_85    (t0 : Int32) : Option (Int32) := ck (zb t0) <| some t0
set_option maxRecDepth 100000 in
theorem tX2_fits_85 {A B : Me}  {H : Heap} {locs : List Loc} {ls : Array Slot} {t0 : Int32} {rZ : Int32}  (C : Cx Γ p s m args meth c cX2_fits 2 (some .boolean) RX2 wsX2_fits)  (h : fX2_fits_85 t0 = some rZ)  (hW : Wd Γ A B s.heap H locs) (hl : lv_has ls 2 []) : W p l e rmX2_fits s m args below meth c H locs 0 0 (MQ below (QI Γ A B rZ) args s 0 0 (rg Γ)) (F0 m 85 ls [.int t0]) := by
  unfold fX2_fits_85 at h
  obtain ⟨hz, h⟩ := ck_s h
  cases h
  exact z_zret C hW hz dX2_fits_85
def fX2_fits_84     : Option (Int32) := fX2_fits_85 0
set_option maxRecDepth 100000 in
theorem tX2_fits_84 {A B : Me}  {H : Heap} {locs : List Loc} {ls : Array Slot}  {rZ : Int32}  (C : Cx Γ p s m args meth c cX2_fits 2 (some .boolean) RX2 wsX2_fits)  (h : fX2_fits_84 = some rZ)  (hW : Wd Γ A B s.heap H locs) (hl : lv_has ls 2 []) : W p l e rmX2_fits s m args below meth c H locs 0 0 (MQ below (QI Γ A B rZ) args s 0 0 (rg Γ)) (F0 m 84 ls []) := by
  unfold fX2_fits_84 at h
  refine lv_iconst (v := 0) C.1 C.2.1 dX2_fits_84 (by decide) ?_
  exact tX2_fits_85 C  h  hW (lv_sub hl [] rfl)
def fX2_fits    (v0 : Int32) (v1 : Int32) : Option (Int32) := if v0 = 0 then (if v1 < 48 then (fX2_fits_20) else (if 51 < v1 then (fX2_fits_20) else (fX2_fits_21 1))) else (if v0 = 1 then (if v1 = 59 then (fX2_fits_38 1) else (fX2_fits_38 0)) else (if v0 < 16 then (if (v0 - v0 / 3 * 3) = 1 then (if v1 = 44 then (fX2_fits_85 1) else (fX2_fits_85 0)) else (if v1 < 48 then (fX2_fits_84) else (if 57 < v1 then (fX2_fits_84) else (fX2_fits_85 1)))) else (some 0)))
set_option maxRecDepth 100000 in
theorem tX2_fits_0 {A B : Me}  {H : Heap} {locs : List Loc} {ls : Array Slot} {v0 : Int32} {v1 : Int32} {rZ : Int32}  (C : Cx Γ p s m args meth c cX2_fits 2 (some .boolean) RX2 wsX2_fits)  (h : fX2_fits v0 v1 = some rZ)  (hW : Wd Γ A B s.heap H locs) (hl : lv_has ls 2 [(0, .int v0), (1, .int v1)]) : W p l e rmX2_fits s m args below meth c H locs 0 0 (MQ below (QI Γ A B rZ) args s 0 0 (rg Γ)) (F0 m 0 ls []) := by
  unfold fX2_fits at h
  refine lv_iload_n C.1 C.2.1 dX2_fits_0 rfl (lv_at hl 0 rfl) ?_
  refine lv_if_ne (tgt := 22) C.1 C.2.1 dX2_fits_1 (by decide) (fun c_1 => ?_) (fun c_1 => ?_)
  · have h := if_n h c_1
    refine lv_iload_n C.1 C.2.1 dX2_fits_22 rfl (lv_at hl 0 rfl) ?_
    refine lv_iconst (v := 1) C.1 C.2.1 dX2_fits_23 (by decide) ?_
    refine lv_icmp_ne (tgt := 39) C.1 C.2.1 dX2_fits_24 (by decide) (fun c_24 => ?_) (fun c_24 => ?_)
    · have h := if_n h c_24
      refine lv_iload_n C.1 C.2.1 dX2_fits_39 rfl (lv_at hl 0 rfl) ?_
      refine lv_bipush (v := 16) C.1 C.2.1 dX2_fits_40 (by decide) ?_
      refine lv_icmp_lt (tgt := 47) C.1 C.2.1 dX2_fits_42 (by decide) (fun c_42 => ?_) (fun c_42 => ?_)
      · have h := if_y h c_42
        refine lv_iload_n C.1 C.2.1 dX2_fits_47 rfl (lv_at hl 0 rfl) ?_
        refine lv_iconst (v := 3) C.1 C.2.1 dX2_fits_48 (by decide) ?_
        refine lv_irem C.1 C.2.1 dX2_fits_49 (by decide) ?_
        refine lv_iconst (v := 1) C.1 C.2.1 dX2_fits_50 (by decide) ?_
        refine lv_icmp_ne (tgt := 68) C.1 C.2.1 dX2_fits_51 (by decide) (fun c_51 => ?_) (fun c_51 => ?_)
        · have h := if_n h c_51
          refine lv_iload_n C.1 C.2.1 dX2_fits_68 rfl (lv_at hl 1 rfl) ?_
          refine lv_bipush (v := 48) C.1 C.2.1 dX2_fits_69 (by decide) ?_
          refine lv_icmp_lt (tgt := 84) C.1 C.2.1 dX2_fits_71 (by decide) (fun c_71 => ?_) (fun c_71 => ?_)
          · have h := if_y h c_71
            exact tX2_fits_84 C  h  hW (lv_sub hl [] rfl)
          · have h := if_n h c_71
            refine lv_iload_n C.1 C.2.1 dX2_fits_74 rfl (lv_at hl 1 rfl) ?_
            refine lv_bipush (v := 57) C.1 C.2.1 dX2_fits_75 (by decide) ?_
            refine lv_icmp_gt (tgt := 84) C.1 C.2.1 dX2_fits_77 (by decide) (fun c_77 => ?_) (fun c_77 => ?_)
            · have h := if_y h c_77
              exact tX2_fits_84 C  h  hW (lv_sub hl [] rfl)
            · have h := if_n h c_77
              refine lv_iconst (v := 1) C.1 C.2.1 dX2_fits_80 (by decide) ?_
              refine lv_goto (tgt := 85) C.1 C.2.1 dX2_fits_81 (by decide) ?_
              exact tX2_fits_85 C  h  hW (lv_sub hl [] rfl)
        · have h := if_y h c_51
          refine lv_iload_n C.1 C.2.1 dX2_fits_54 rfl (lv_at hl 1 rfl) ?_
          refine lv_bipush (v := 44) C.1 C.2.1 dX2_fits_55 (by decide) ?_
          refine lv_icmp_ne (tgt := 64) C.1 C.2.1 dX2_fits_57 (by decide) (fun c_57 => ?_) (fun c_57 => ?_)
          · have h := if_n h c_57
            refine lv_iconst (v := 0) C.1 C.2.1 dX2_fits_64 (by decide) ?_
            refine lv_goto (tgt := 85) C.1 C.2.1 dX2_fits_65 (by decide) ?_
            exact tX2_fits_85 C  h  hW (lv_sub hl [] rfl)
          · have h := if_y h c_57
            refine lv_iconst (v := 1) C.1 C.2.1 dX2_fits_60 (by decide) ?_
            refine lv_goto (tgt := 85) C.1 C.2.1 dX2_fits_61 (by decide) ?_
            exact tX2_fits_85 C  h  hW (lv_sub hl [] rfl)
      · have h := if_n h c_42
        refine lv_iconst (v := 0) C.1 C.2.1 dX2_fits_45 (by decide) ?_
        cases h
        exact z_zret C hW (by decide) dX2_fits_46
    · have h := if_y h c_24
      refine lv_iload_n C.1 C.2.1 dX2_fits_27 rfl (lv_at hl 1 rfl) ?_
      refine lv_bipush (v := 59) C.1 C.2.1 dX2_fits_28 (by decide) ?_
      refine lv_icmp_ne (tgt := 37) C.1 C.2.1 dX2_fits_30 (by decide) (fun c_30 => ?_) (fun c_30 => ?_)
      · have h := if_n h c_30
        refine lv_iconst (v := 0) C.1 C.2.1 dX2_fits_37 (by decide) ?_
        exact tX2_fits_38 C  h  hW (lv_sub hl [] rfl)
      · have h := if_y h c_30
        refine lv_iconst (v := 1) C.1 C.2.1 dX2_fits_33 (by decide) ?_
        refine lv_goto (tgt := 38) C.1 C.2.1 dX2_fits_34 (by decide) ?_
        exact tX2_fits_38 C  h  hW (lv_sub hl [] rfl)
  · have h := if_y h c_1
    refine lv_iload_n C.1 C.2.1 dX2_fits_4 rfl (lv_at hl 1 rfl) ?_
    refine lv_bipush (v := 48) C.1 C.2.1 dX2_fits_5 (by decide) ?_
    refine lv_icmp_lt (tgt := 20) C.1 C.2.1 dX2_fits_7 (by decide) (fun c_7 => ?_) (fun c_7 => ?_)
    · have h := if_y h c_7
      exact tX2_fits_20 C  h  hW (lv_sub hl [] rfl)
    · have h := if_n h c_7
      refine lv_iload_n C.1 C.2.1 dX2_fits_10 rfl (lv_at hl 1 rfl) ?_
      refine lv_bipush (v := 51) C.1 C.2.1 dX2_fits_11 (by decide) ?_
      refine lv_icmp_gt (tgt := 20) C.1 C.2.1 dX2_fits_13 (by decide) (fun c_13 => ?_) (fun c_13 => ?_)
      · have h := if_y h c_13
        exact tX2_fits_20 C  h  hW (lv_sub hl [] rfl)
      · have h := if_n h c_13
        refine lv_iconst (v := 1) C.1 C.2.1 dX2_fits_16 (by decide) ?_
        refine lv_goto (tgt := 21) C.1 C.2.1 dX2_fits_17 (by decide) ?_
        exact tX2_fits_21 C  h  hW (lv_sub hl [] rfl)
theorem mt_X2_fits {l : Launch} {Γ : Gm} {A B : Me}  {v0 : Int32} {v1 : Int32} {rZ : Int32}  (h : fX2_fits v0 v1 = some rZ) : Met l yX2_fits wsX2_fits rmX2_fits (PC Γ A B [.int v0, .int v1]) (QI Γ A B rZ) 0 0 (rg Γ) :=
  met_of (by decide) rfl (Nat.le_of_ble_eq_true rfl) (fun p e s m below meth c ls C hW hl => tX2_fits_0 C  h  hW (lv_sub (l := [(0, .int v0), (1, .int v1)]) hl [0, 1] rfl))
abbrev rmX2_firstFault : Room := { frames := 1, cells := 0, slots := 0, locals := 21 }
set_option maxRecDepth 100000 in
theorem iX2_firstFault_c2 : ∀ w ∈ wsX20, w ∈ wsX2_firstFault := by decide +kernel
set_option maxRecDepth 100000 in
theorem wX2_firstFault_0 : Cond.fieldLink RX2 13 "WineByYears$Page" "length" "I" ∈ wsX2_firstFault := by decide +kernel
set_option maxRecDepth 100000 in
theorem wX2_firstFault_1 : Cond.fieldLink RX2 9 "WineByYears$Page" "codes" "[I" ∈ wsX2_firstFault := by decide +kernel
def fX2_firstFault_2  (A : Me) (k : Nat) : Nat → Int32 → Option (Int32)
  | 0, _ => none
  | n + 1, v1 => if (A k 1) ≤ v1 then (some (A k 1)) else (ck (inb v1 18) <| bi (fX2_fits v1 (A (k + 1) v1.toNatClampNeg)) fun r17 => if r17 = 0 then (some v1) else (fX2_firstFault_2 A k n (v1 + 1)))
set_option maxRecDepth 100000 in
theorem tX2_firstFault_2 {A B : Me} {k : Nat} {rZ : Int32}  (C : Cx Γ p s m args meth c cX2_firstFault 2 (some .int) RX2 wsX2_firstFault) (hk : kd k = 2)  (n : Nat) : ∀ (v1 : Int32) (H : Heap) (locs : List Loc) (ls : Array Slot), fX2_firstFault_2 A k n v1 = some rZ → Wd Γ A B s.heap H locs → lv_has ls 2 [(0, .ref (Γ.2.2 k)), (1, .int v1)] → W p l e rmX2_firstFault s m args below meth c H locs 0 0 (MQ below (QI Γ A B rZ) args s 0 0 (rg Γ)) (F0 m 2 ls []) := by
  induction n with
  | zero =>
    intro _ H locs ls h
    exact nomatch (show (none : Option (Int32)) = some rZ from h)
  | succ n ih =>
    intro v1 H locs ls h  hW hl
    rw [fX2_firstFault_2] at h
    refine lv_iload_n C.1 C.2.1 dX2_firstFault_2 rfl (lv_at hl 1 rfl) ?_
    refine lv_aload_n C.1 C.2.1 dX2_firstFault_3 rfl (lv_at hl 0 rfl) ?_
    refine gX2_1 C hW hk iX2_firstFault_c2 wX2_firstFault_0 dX2_firstFault_4 ?_
    refine lv_icmp_ge (tgt := 31) C.1 C.2.1 dX2_firstFault_7 (by decide) (fun c_7 => ?_) (fun c_7 => ?_)
    · have h := if_y h c_7
      refine lv_aload_n C.1 C.2.1 dX2_firstFault_31 rfl (lv_at hl 0 rfl) ?_
      refine gX2_1 C hW hk iX2_firstFault_c2 wX2_firstFault_0 dX2_firstFault_32 ?_
      cases h
      exact z_iret C hW dX2_firstFault_35
    · have h := if_n h c_7
      refine lv_iload_n C.1 C.2.1 dX2_firstFault_10 rfl (lv_at hl 1 rfl) ?_
      refine lv_aload_n C.1 C.2.1 dX2_firstFault_11 rfl (lv_at hl 0 rfl) ?_
      refine gX2_0 C hW hk iX2_firstFault_c2 wX2_firstFault_1 dX2_firstFault_12 ?_
      refine lv_iload_n C.1 C.2.1 dX2_firstFault_15 rfl (lv_at hl 1 rfl) ?_
      obtain ⟨hi16, h⟩ := ck_s h
      refine la6 C hW (kd_2r hk) hi16 dX2_firstFault_16 ?_
      obtain ⟨r17, hc17, h⟩ := bi_s h
      refine cSi C hW (As := [.int v1, .int (A (k + 1) v1.toNatClampNeg)]) (rest := []) (mt_X2_fits  hc17) (va_cwS 2 C.2.2.2.2.2.1 gX2_firstFault_X2_fits rfl rfl rfl (by decide +kernel) ⟨Nat.le_of_ble_eq_true rfl, Nat.le_of_ble_eq_true rfl⟩) rfl hl.1 rfl (Nat.le_of_ble_eq_true rfl) dX2_firstFault_17 (Nat.zero_le _) (Nat.zero_le _) (fun H locs hW => ?_)
      refine lv_if_ne (tgt := 25) C.1 C.2.1 dX2_firstFault_20 (by decide) (fun c_20 => ?_) (fun c_20 => ?_)
      · have h := if_n h c_20
        refine lv_iinc (v := (v1 + 1)) (lv' := [(1, .int (v1 + 1)), (0, .ref (Γ.2.2 k))]) C.1 C.2.1 dX2_firstFault_25 hl (k := 1) rfl rfl (by decide) rfl (fun ls hl => ?_)
        refine lv_goto (tgt := 2) C.1 C.2.1 dX2_firstFault_28 (by decide) ?_
        exact ih _ _ _ _ h  hW (lv_sub hl [1, 0] rfl)
      · have h := if_y h c_20
        refine lv_iload_n C.1 C.2.1 dX2_firstFault_23 rfl (lv_at hl 1 rfl) ?_
        cases h
        exact z_iret C hW dX2_firstFault_24
def fX2_firstFault  (A : Me) (k : Nat)  : Option (Int32) := fX2_firstFault_2 A k FU 0
set_option maxRecDepth 100000 in
theorem tX2_firstFault_0 {A B : Me} {k : Nat} {H : Heap} {locs : List Loc} {ls : Array Slot}  {rZ : Int32}  (C : Cx Γ p s m args meth c cX2_firstFault 2 (some .int) RX2 wsX2_firstFault) (hk : kd k = 2)  (h : fX2_firstFault A k = some rZ)  (hW : Wd Γ A B s.heap H locs) (hl : lv_has ls 2 [(0, .ref (Γ.2.2 k))]) : W p l e rmX2_firstFault s m args below meth c H locs 0 0 (MQ below (QI Γ A B rZ) args s 0 0 (rg Γ)) (F0 m 0 ls []) := by
  unfold fX2_firstFault at h
  refine lv_iconst (v := 0) C.1 C.2.1 dX2_firstFault_0 (by decide) ?_
  refine lv_istore_n (lv' := [(1, .int 0), (0, .ref (Γ.2.2 k))]) C.1 C.2.1 dX2_firstFault_1 rfl hl (by decide) rfl (fun ls hl => ?_)
  exact tX2_firstFault_2 C hk FU _ _ _ _ h  hW (lv_sub hl [1, 0] rfl)
theorem mt_X2_firstFault {l : Launch} {Γ : Gm} {A B : Me} {k : Nat}  {rZ : Int32} (hk : kd k = 2) (h : fX2_firstFault A k = some rZ) : Met l yX2_firstFault wsX2_firstFault rmX2_firstFault (PC Γ A B [.ref (Γ.2.2 k)]) (QI Γ A B rZ) 0 0 (rg Γ) :=
  met_of (by decide) rfl (Nat.le_of_ble_eq_true rfl) (fun p e s m below meth c ls C hW hl => tX2_firstFault_0 C hk h  hW (lv_sub (l := [(0, .ref (Γ.2.2 k))]) hl [0] rfl))
abbrev rmX2_casksWritten : Room := { frames := 2, cells := 0, slots := 0, locals := 42 }
set_option maxRecDepth 100000 in
theorem iX2_casksWritten_c2 : ∀ w ∈ wsX20, w ∈ wsX2_casksWritten := by decide +kernel
set_option maxRecDepth 100000 in
theorem wX2_casksWritten_0 : Cond.fieldLink RX2 13 "WineByYears$Page" "length" "I" ∈ wsX2_casksWritten := by decide +kernel
def fX2_casksWritten_50  (A : Me) (k : Nat) (t0 : Int32) : Option (Int32) := some t0
set_option maxRecDepth 100000 in
theorem tX2_casksWritten_50 {A B : Me} {k : Nat} {H : Heap} {locs : List Loc} {ls : Array Slot} {t0 : Int32} {rZ : Int32}  (C : Cx Γ p s m args meth c cX2_casksWritten 2 (some .int) RX2 wsX2_casksWritten) (hk : kd k = 2)  (h : fX2_casksWritten_50 A k t0 = some rZ)  (hW : Wd Γ A B s.heap H locs) (hl : lv_has ls 2 []) : W p l e rmX2_casksWritten s m args below meth c H locs 0 0 (MQ below (QI Γ A B rZ) args s 0 0 (rg Γ)) (F0 m 50 ls [.int t0]) := by
  unfold fX2_casksWritten_50 at h
  cases h
  exact z_iret C hW dX2_casksWritten_50
def fX2_casksWritten_35  (A : Me) (k : Nat) (t0 : Int32) : Option (Int32) := if t0 = 0 then (fX2_casksWritten_50 A k 0) else (fX2_casksWritten_50 A k ((A k 1) / 3))
set_option maxRecDepth 100000 in
theorem tX2_casksWritten_35 {A B : Me} {k : Nat} {H : Heap} {locs : List Loc} {ls : Array Slot} {t0 : Int32} {rZ : Int32}  (C : Cx Γ p s m args meth c cX2_casksWritten 2 (some .int) RX2 wsX2_casksWritten) (hk : kd k = 2)  (h : fX2_casksWritten_35 A k t0 = some rZ)  (hW : Wd Γ A B s.heap H locs) (hl : lv_has ls 2 [(0, .ref (Γ.2.2 k))]) : W p l e rmX2_casksWritten s m args below meth c H locs 0 0 (MQ below (QI Γ A B rZ) args s 0 0 (rg Γ)) (F0 m 35 ls [.int t0]) := by
  unfold fX2_casksWritten_35 at h
  refine lv_istore_n (lv' := [(1, .int t0), (0, .ref (Γ.2.2 k))]) C.1 C.2.1 dX2_casksWritten_35 rfl hl (by decide) rfl (fun ls hl => ?_)
  refine lv_iload_n C.1 C.2.1 dX2_casksWritten_36 rfl (lv_at hl 0 rfl) ?_
  refine lv_if_eq (tgt := 49) C.1 C.2.1 dX2_casksWritten_37 (by decide) (fun c_37 => ?_) (fun c_37 => ?_)
  · have h := if_y h c_37
    refine lv_iconst (v := 0) C.1 C.2.1 dX2_casksWritten_49 (by decide) ?_
    exact tX2_casksWritten_50 C hk h  hW (lv_sub hl [] rfl)
  · have h := if_n h c_37
    refine lv_aload_n C.1 C.2.1 dX2_casksWritten_40 rfl (lv_at hl 1 rfl) ?_
    refine gX2_1 C hW hk iX2_casksWritten_c2 wX2_casksWritten_0 dX2_casksWritten_41 ?_
    refine lv_iconst (v := 3) C.1 C.2.1 dX2_casksWritten_44 (by decide) ?_
    refine lv_idiv C.1 C.2.1 dX2_casksWritten_45 (by decide) ?_
    refine lv_goto (tgt := 50) C.1 C.2.1 dX2_casksWritten_46 (by decide) ?_
    exact tX2_casksWritten_50 C hk h  hW (lv_sub hl [] rfl)
def fX2_casksWritten_34  (A : Me) (k : Nat)  : Option (Int32) := fX2_casksWritten_35 A k 0
set_option maxRecDepth 100000 in
theorem tX2_casksWritten_34 {A B : Me} {k : Nat} {H : Heap} {locs : List Loc} {ls : Array Slot}  {rZ : Int32}  (C : Cx Γ p s m args meth c cX2_casksWritten 2 (some .int) RX2 wsX2_casksWritten) (hk : kd k = 2)  (h : fX2_casksWritten_34 A k = some rZ)  (hW : Wd Γ A B s.heap H locs) (hl : lv_has ls 2 [(0, .ref (Γ.2.2 k))]) : W p l e rmX2_casksWritten s m args below meth c H locs 0 0 (MQ below (QI Γ A B rZ) args s 0 0 (rg Γ)) (F0 m 34 ls []) := by
  unfold fX2_casksWritten_34 at h
  refine lv_iconst (v := 0) C.1 C.2.1 dX2_casksWritten_34 (by decide) ?_
  exact tX2_casksWritten_35 C hk h  hW (lv_sub hl [0] rfl)
def fX2_casksWritten  (A : Me) (k : Nat)  : Option (Int32) := if (A k 1) < 7 then (fX2_casksWritten_34 A k) else (if ((A k 1) - (A k 1) / 3 * 3) = 1 then (bi (fX2_firstFault A k) fun r20 => if r20 = (A k 1) then (fX2_casksWritten_35 A k 1) else (fX2_casksWritten_34 A k)) else (fX2_casksWritten_34 A k))
set_option maxRecDepth 100000 in
theorem tX2_casksWritten_0 {A B : Me} {k : Nat} {H : Heap} {locs : List Loc} {ls : Array Slot}  {rZ : Int32}  (C : Cx Γ p s m args meth c cX2_casksWritten 2 (some .int) RX2 wsX2_casksWritten) (hk : kd k = 2)  (h : fX2_casksWritten A k = some rZ)  (hW : Wd Γ A B s.heap H locs) (hl : lv_has ls 2 [(0, .ref (Γ.2.2 k))]) : W p l e rmX2_casksWritten s m args below meth c H locs 0 0 (MQ below (QI Γ A B rZ) args s 0 0 (rg Γ)) (F0 m 0 ls []) := by
  unfold fX2_casksWritten at h
  refine lv_aload_n C.1 C.2.1 dX2_casksWritten_0 rfl (lv_at hl 0 rfl) ?_
  refine gX2_1 C hW hk iX2_casksWritten_c2 wX2_casksWritten_0 dX2_casksWritten_1 ?_
  refine lv_bipush (v := 7) C.1 C.2.1 dX2_casksWritten_4 (by decide) ?_
  refine lv_icmp_lt (tgt := 34) C.1 C.2.1 dX2_casksWritten_6 (by decide) (fun c_6 => ?_) (fun c_6 => ?_)
  · have h := if_y h c_6
    exact tX2_casksWritten_34 C hk h  hW (lv_sub hl [0] rfl)
  · have h := if_n h c_6
    refine lv_aload_n C.1 C.2.1 dX2_casksWritten_9 rfl (lv_at hl 0 rfl) ?_
    refine gX2_1 C hW hk iX2_casksWritten_c2 wX2_casksWritten_0 dX2_casksWritten_10 ?_
    refine lv_iconst (v := 3) C.1 C.2.1 dX2_casksWritten_13 (by decide) ?_
    refine lv_irem C.1 C.2.1 dX2_casksWritten_14 (by decide) ?_
    refine lv_iconst (v := 1) C.1 C.2.1 dX2_casksWritten_15 (by decide) ?_
    refine lv_icmp_ne (tgt := 34) C.1 C.2.1 dX2_casksWritten_16 (by decide) (fun c_16 => ?_) (fun c_16 => ?_)
    · have h := if_n h c_16
      exact tX2_casksWritten_34 C hk h  hW (lv_sub hl [0] rfl)
    · have h := if_y h c_16
      refine lv_aload_n C.1 C.2.1 dX2_casksWritten_19 rfl (lv_at hl 0 rfl) ?_
      obtain ⟨r20, hc20, h⟩ := bi_s h
      refine cVi C hW (As := []) (rest := []) (mt_X2_firstFault hk hc20) (cwV 0 C.2.2.2.2.2.1 gX2_casksWritten_X2_firstFault rfl rfl rfl (by decide +kernel) ⟨Nat.le_of_ble_eq_true rfl, Nat.le_of_ble_eq_true rfl⟩) (rcv2 C hW hk) rfl hl.1 rfl (Nat.le_of_ble_eq_true rfl) dX2_casksWritten_20 (Nat.zero_le _) (Nat.zero_le _) (fun H locs hW => ?_)
      refine lv_aload_n C.1 C.2.1 dX2_casksWritten_23 rfl (lv_at hl 0 rfl) ?_
      refine gX2_1 C hW hk iX2_casksWritten_c2 wX2_casksWritten_0 dX2_casksWritten_24 ?_
      refine lv_icmp_ne (tgt := 34) C.1 C.2.1 dX2_casksWritten_27 (by decide) (fun c_27 => ?_) (fun c_27 => ?_)
      · have h := if_n h c_27
        exact tX2_casksWritten_34 C hk h  hW (lv_sub hl [0] rfl)
      · have h := if_y h c_27
        refine lv_iconst (v := 1) C.1 C.2.1 dX2_casksWritten_30 (by decide) ?_
        refine lv_goto (tgt := 35) C.1 C.2.1 dX2_casksWritten_31 (by decide) ?_
        exact tX2_casksWritten_35 C hk h  hW (lv_sub hl [0] rfl)
theorem mt_X2_casksWritten {l : Launch} {Γ : Gm} {A B : Me} {k : Nat}  {rZ : Int32} (hk : kd k = 2) (h : fX2_casksWritten A k = some rZ) : Met l yX2_casksWritten wsX2_casksWritten rmX2_casksWritten (PC Γ A B [.ref (Γ.2.2 k)]) (QI Γ A B rZ) 0 0 (rg Γ) :=
  met_of (by decide) rfl (Nat.le_of_ble_eq_true rfl) (fun p e s m below meth c ls C hW hl => tX2_casksWritten_0 C hk h  hW (lv_sub (l := [(0, .ref (Γ.2.2 k))]) hl [0] rfl))
end
