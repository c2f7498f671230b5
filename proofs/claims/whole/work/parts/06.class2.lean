section
variable {p : Program} {l : Launch} {e : Env} {s : State} {m : MethodId} {args : Array Value} {below : List Frame} {meth : Method} {c : Code} {Γ : Gm}
abbrev rmX3_litresToTop : Room := { frames := 4, cells := 0, slots := 0, locals := 90 }
set_option maxRecDepth 100000 in
theorem iX3_litresToTop_c0 : ∀ w ∈ wsX00, w ∈ wsX3_litresToTop := by decide +kernel
set_option maxRecDepth 100000 in
theorem iX3_litresToTop_c1 : ∀ w ∈ wsX10, w ∈ wsX3_litresToTop := by decide +kernel
set_option maxRecDepth 100000 in
theorem iX3_litresToTop_c3 : ∀ w ∈ wsX30, w ∈ wsX3_litresToTop := by decide +kernel
set_option maxRecDepth 100000 in
theorem wX3_litresToTop_0 : Cond.fieldLink RX3 32 "WineByYears" "mixed" "LWineByYears$Cask;" ∈ wsX3_litresToTop := by decide +kernel
set_option maxRecDepth 100000 in
theorem wX3_litresToTop_1 : Cond.fieldLink RX3 19 "WineByYears" "now" "LWineByYears$Cellar;" ∈ wsX3_litresToTop := by decide +kernel
set_option maxRecDepth 100000 in
theorem wX3_litresToTop_2 : Cond.fieldLink RX3 72 "WineByYears$Cellar" "casks" "[LWineByYears$Cask;" ∈ wsX3_litresToTop := by decide +kernel
set_option maxRecDepth 100000 in
theorem wX3_litresToTop_3 : Cond.fieldLink RX3 36 "WineByYears" "source" "LWineByYears$Cask;" ∈ wsX3_litresToTop := by decide +kernel
set_option maxRecDepth 100000 in
theorem wX3_litresToTop_4 : Cond.fieldLink RX3 80 "WineByYears$Cask" "litres" "I" ∈ wsX3_litresToTop := by decide +kernel
set_option maxRecDepth 100000 in
theorem wX3_litresToTop_5 : Cond.methodLink RX3 253 Lib.Math.min.name ∈ wsX3_litresToTop := by decide +kernel
set_option maxRecDepth 100000 in
theorem wX3_litresToTop_6 : Cond.static Lib.Math.min.name ∈ wsX3_litresToTop := by decide +kernel
set_option maxRecDepth 100000 in
theorem wX3_litresToTop_7 : Cond.initialized "java/lang/Math" ∈ wsX3_litresToTop := by decide +kernel
set_option maxRecDepth 100000 in
theorem wX3_litresToTop_8 : Cond.code Lib.Math.min.name Lib.Math.min.code 2 (some .int) ∈ wsX3_litresToTop := by decide +kernel
def fX3_litresToTop_54   : Nat → Me → Int32 → Int32 → Int32 → Option (Int32 × Me)
  | 0, _, _, _, _ => none
  | n + 1, A, v1, v4, v5 => if v4 < v5 then (some ((-1), A)) else (b2 (fX0_takeLatest A 56) fun r69 A69 => bi (fX0_put A69 54 r69 1) fun A73 => bi (fX1_allMay A73 3 v1 54) fun r85 => if r85 = 0 then (fX3_litresToTop_54 n A73 v1 v4 (v5 + 1)) else (some (v5, A73)))
set_option maxRecDepth 100000 in
theorem tX3_litresToTop_54 {B : Me}  {rZ : Int32} {AZ : Me}  (C : Cx Γ p s m args meth c cX3_litresToTop 6 (some .int) RX3 wsX3_litresToTop)  (n : Nat) : ∀ (A : Me) (v1 : Int32) (v4 : Int32) (v5 : Int32) (H : Heap) (locs : List Loc) (ls : Array Slot), fX3_litresToTop_54 n A v1 v4 v5 = some (rZ, AZ) → Wd Γ A B s.heap H locs → lv_has ls 6 [(0, .ref (Γ.2.2 0)), (1, .int v1), (4, .int v4), (5, .int v5)] → W p l e rmX3_litresToTop s m args below meth c H locs 0 0 (MQ below (QI Γ AZ B rZ) args s 0 0 (rg Γ)) (F0 m 54 ls []) := by
  induction n with
  | zero =>
    intro _ _ _ _ H locs ls h
    exact nomatch (show (none : Option (Int32 × Me)) = some (rZ, AZ) from h)
  | succ n ih =>
    intro A v1 v4 v5 H locs ls h  hW hl
    rw [fX3_litresToTop_54] at h
    refine lv_iload C.1 C.2.1 dX3_litresToTop_54 (lv_at hl 3 rfl) ?_
    refine lv_iload C.1 C.2.1 dX3_litresToTop_56 (lv_at hl 2 rfl) ?_
    refine lv_icmp_gt (tgt := 100) C.1 C.2.1 dX3_litresToTop_58 (by decide) (fun c_58 => ?_) (fun c_58 => ?_)
    · have h := if_y h c_58
      refine lv_iconst (v := (-1)) C.1 C.2.1 dX3_litresToTop_100 (by decide) ?_
      cases h
      exact z_iret C hW dX3_litresToTop_101
    · have h := if_n h c_58
      refine lv_aload_n C.1 C.2.1 dX3_litresToTop_61 rfl (lv_at hl 0 rfl) ?_
      refine gX3_4 C hW rfl iX3_litresToTop_c3 wX3_litresToTop_0 dX3_litresToTop_62 ?_
      refine lv_aload_n C.1 C.2.1 dX3_litresToTop_65 rfl (lv_at hl 0 rfl) ?_
      refine gX3_5 C hW rfl iX3_litresToTop_c3 wX3_litresToTop_3 dX3_litresToTop_66 ?_
      obtain ⟨r69, A69, hc69, h⟩ := b2_s h
      refine cVi C hW (As := []) (rest := [.ref (Γ.2.2 54)]) (mt_X0_takeLatest rfl hc69) (cwV 0 C.2.2.2.2.2.1 gX3_litresToTop_X0_takeLatest rfl rfl rfl (by decide +kernel) ⟨Nat.le_of_ble_eq_true rfl, Nat.le_of_ble_eq_true rfl⟩) (rcv0 C hW (rfl : kd 56 = 0)) rfl hl.1 rfl (Nat.le_of_ble_eq_true rfl) dX3_litresToTop_69 (Nat.zero_le _) (Nat.zero_le _) (fun H locs hW => ?_)
      refine lv_iconst (v := 1) C.1 C.2.1 dX3_litresToTop_72 (by decide) ?_
      obtain ⟨A73, hc73, h⟩ := bi_s h
      refine cVv C hW (As := [.int r69, .int 1]) (rest := []) (mt_X0_put rfl hc73) (cwV 2 C.2.2.2.2.2.1 gX3_litresToTop_X0_put rfl rfl rfl (by decide +kernel) ⟨Nat.le_of_ble_eq_true rfl, Nat.le_of_ble_eq_true rfl⟩) (rcv0 C hW (rfl : kd 54 = 0)) rfl hl.1 rfl (Nat.le_of_ble_eq_true rfl) dX3_litresToTop_73 (Nat.zero_le _) (Nat.zero_le _) (fun H locs hW => ?_)
      refine lv_aload_n C.1 C.2.1 dX3_litresToTop_76 rfl (lv_at hl 0 rfl) ?_
      refine gX3_1 C hW rfl iX3_litresToTop_c3 wX3_litresToTop_1 dX3_litresToTop_77 ?_
      refine lv_iload_n C.1 C.2.1 dX3_litresToTop_80 rfl (lv_at hl 1 rfl) ?_
      refine lv_aload_n C.1 C.2.1 dX3_litresToTop_81 rfl (lv_at hl 0 rfl) ?_
      refine gX3_4 C hW rfl iX3_litresToTop_c3 wX3_litresToTop_0 dX3_litresToTop_82 ?_
      obtain ⟨r85, hc85, h⟩ := bi_s h
      refine cVi C hW (As := [.int v1, .ref (Γ.2.2 54)]) (rest := []) (mt_X1_allMay rfl rfl hc85) (cwV 2 C.2.2.2.2.2.1 gX3_litresToTop_X1_allMay rfl rfl rfl (by decide +kernel) ⟨Nat.le_of_ble_eq_true rfl, Nat.le_of_ble_eq_true rfl⟩) (rcv1 C hW (rfl : kd 3 = 1)) rfl hl.1 rfl (Nat.le_of_ble_eq_true rfl) dX3_litresToTop_85 (Nat.zero_le _) (Nat.zero_le _) (fun H locs hW => ?_)
      refine lv_if_eq (tgt := 94) C.1 C.2.1 dX3_litresToTop_88 (by decide) (fun c_88 => ?_) (fun c_88 => ?_)
      · have h := if_y h c_88
        refine lv_iinc (v := (v5 + 1)) (lv' := [(5, .int (v5 + 1)), (0, .ref (Γ.2.2 0)), (1, .int v1), (4, .int v4)]) C.1 C.2.1 dX3_litresToTop_94 hl (k := 3) rfl rfl (by decide) rfl (fun ls hl => ?_)
        refine lv_goto (tgt := 54) C.1 C.2.1 dX3_litresToTop_97 (by decide) ?_
        exact ih _ _ _ _ _ _ _ h  hW (lv_sub hl [1, 2, 3, 0] rfl)
      · have h := if_n h c_88
        refine lv_iload C.1 C.2.1 dX3_litresToTop_91 (lv_at hl 3 rfl) ?_
        cases h
        exact z_iret C hW dX3_litresToTop_93
def fX3_litresToTop_51  (A : Me)  (v1 : Int32) (v4 : Int32) : Option (Int32 × Me) := fX3_litresToTop_54 FU A v1 v4 1
set_option maxRecDepth 100000 in
theorem tX3_litresToTop_51 {A B : Me}  {H : Heap} {locs : List Loc} {ls : Array Slot} {v1 : Int32} {v4 : Int32} {rZ : Int32} {AZ : Me}  (C : Cx Γ p s m args meth c cX3_litresToTop 6 (some .int) RX3 wsX3_litresToTop)  (h : fX3_litresToTop_51 A v1 v4 = some (rZ, AZ))  (hW : Wd Γ A B s.heap H locs) (hl : lv_has ls 6 [(0, .ref (Γ.2.2 0)), (1, .int v1), (4, .int v4)]) : W p l e rmX3_litresToTop s m args below meth c H locs 0 0 (MQ below (QI Γ AZ B rZ) args s 0 0 (rg Γ)) (F0 m 51 ls []) := by
  unfold fX3_litresToTop_51 at h
  refine lv_iconst (v := 1) C.1 C.2.1 dX3_litresToTop_51 (by decide) ?_
  refine lv_istore (lv' := [(5, .int 1), (0, .ref (Γ.2.2 0)), (1, .int v1), (4, .int v4)]) C.1 C.2.1 dX3_litresToTop_52 hl (by decide) rfl (fun ls hl => ?_)
  exact tX3_litresToTop_54 C  FU _ _ _ _ _ _ _ h  hW (lv_sub hl [1, 2, 3, 0] rfl)
def fX3_litresToTop  (A : Me)  (v1 : Int32) (v2 : Int32) (v3 : Int32) : Option (Int32 × Me) := ck (inb v2 5) <| bi (fX0_become A 54 (4 + 6 + 2 * v2.toNatClampNeg)) fun A13 => ck (inb v3 5) <| bi (fX0_become A13 56 (4 + 6 + 2 * v3.toNatClampNeg)) fun A29 => bi (fX0_room A29 54) fun r43 => fX3_litresToTop_51 A29 v1 (if r43 < (A29 56 1) then r43 else (A29 56 1))
set_option maxRecDepth 100000 in
theorem tX3_litresToTop_0 {A B : Me}  {H : Heap} {locs : List Loc} {ls : Array Slot} {v1 : Int32} {v2 : Int32} {v3 : Int32} {rZ : Int32} {AZ : Me}  (C : Cx Γ p s m args meth c cX3_litresToTop 6 (some .int) RX3 wsX3_litresToTop)  (h : fX3_litresToTop A v1 v2 v3 = some (rZ, AZ))  (hW : Wd Γ A B s.heap H locs) (hl : lv_has ls 6 [(0, .ref (Γ.2.2 0)), (1, .int v1), (2, .int v2), (3, .int v3)]) : W p l e rmX3_litresToTop s m args below meth c H locs 0 0 (MQ below (QI Γ AZ B rZ) args s 0 0 (rg Γ)) (F0 m 0 ls []) := by
  unfold fX3_litresToTop at h
  refine lv_aload_n C.1 C.2.1 dX3_litresToTop_0 rfl (lv_at hl 0 rfl) ?_
  refine gX3_4 C hW rfl iX3_litresToTop_c3 wX3_litresToTop_0 dX3_litresToTop_1 ?_
  refine lv_aload_n C.1 C.2.1 dX3_litresToTop_4 rfl (lv_at hl 0 rfl) ?_
  refine gX3_1 C hW rfl iX3_litresToTop_c3 wX3_litresToTop_1 dX3_litresToTop_5 ?_
  refine gX1_0 C hW rfl iX3_litresToTop_c1 wX3_litresToTop_2 dX3_litresToTop_8 ?_
  refine lv_iload_n C.1 C.2.1 dX3_litresToTop_11 rfl (lv_at hl 2 rfl) ?_
  obtain ⟨hi12, h⟩ := ck_s h
  refine la7 C hW ⟨rfl, rfl⟩ hi12 dX3_litresToTop_12 ?_
  obtain ⟨A13, hc13, h⟩ := bi_s h
  refine cVv C hW (As := [.ref (Γ.2.2 (4 + 6 + 2 * v2.toNatClampNeg))]) (rest := []) (mt_X0_become rfl (kd_7e (⟨rfl, rfl⟩ : kd 4 = 7 ∧ ln 4 = 5).1 (inb_s hi12) rfl) hc13) (cwV 1 C.2.2.2.2.2.1 gX3_litresToTop_X0_become rfl rfl rfl (by decide +kernel) ⟨Nat.le_of_ble_eq_true rfl, Nat.le_of_ble_eq_true rfl⟩) (rcv0 C hW (rfl : kd 54 = 0)) rfl hl.1 rfl (Nat.le_of_ble_eq_true rfl) dX3_litresToTop_13 (Nat.zero_le _) (Nat.zero_le _) (fun H locs hW => ?_)
  refine lv_aload_n C.1 C.2.1 dX3_litresToTop_16 rfl (lv_at hl 0 rfl) ?_
  refine gX3_5 C hW rfl iX3_litresToTop_c3 wX3_litresToTop_3 dX3_litresToTop_17 ?_
  refine lv_aload_n C.1 C.2.1 dX3_litresToTop_20 rfl (lv_at hl 0 rfl) ?_
  refine gX3_1 C hW rfl iX3_litresToTop_c3 wX3_litresToTop_1 dX3_litresToTop_21 ?_
  refine gX1_0 C hW rfl iX3_litresToTop_c1 wX3_litresToTop_2 dX3_litresToTop_24 ?_
  refine lv_iload_n C.1 C.2.1 dX3_litresToTop_27 rfl (lv_at hl 3 rfl) ?_
  obtain ⟨hi28, h⟩ := ck_s h
  refine la7 C hW ⟨rfl, rfl⟩ hi28 dX3_litresToTop_28 ?_
  obtain ⟨A29, hc29, h⟩ := bi_s h
  refine cVv C hW (As := [.ref (Γ.2.2 (4 + 6 + 2 * v3.toNatClampNeg))]) (rest := []) (mt_X0_become rfl (kd_7e (⟨rfl, rfl⟩ : kd 4 = 7 ∧ ln 4 = 5).1 (inb_s hi28) rfl) hc29) (cwV 1 C.2.2.2.2.2.1 gX3_litresToTop_X0_become rfl rfl rfl (by decide +kernel) ⟨Nat.le_of_ble_eq_true rfl, Nat.le_of_ble_eq_true rfl⟩) (rcv0 C hW (rfl : kd 56 = 0)) rfl hl.1 rfl (Nat.le_of_ble_eq_true rfl) dX3_litresToTop_29 (Nat.zero_le _) (Nat.zero_le _) (fun H locs hW => ?_)
  refine lv_aload_n C.1 C.2.1 dX3_litresToTop_32 rfl (lv_at hl 0 rfl) ?_
  refine gX3_5 C hW rfl iX3_litresToTop_c3 wX3_litresToTop_3 dX3_litresToTop_33 ?_
  refine gX0_1 C hW rfl iX3_litresToTop_c0 wX3_litresToTop_4 dX3_litresToTop_36 ?_
  refine lv_aload_n C.1 C.2.1 dX3_litresToTop_39 rfl (lv_at hl 0 rfl) ?_
  refine gX3_4 C hW rfl iX3_litresToTop_c3 wX3_litresToTop_0 dX3_litresToTop_40 ?_
  obtain ⟨r43, hc43, h⟩ := bi_s h
  refine cVi C hW (As := []) (rest := [.int (A29 56 1)]) (mt_X0_room rfl hc43) (cwV 0 C.2.2.2.2.2.1 gX3_litresToTop_X0_room rfl rfl rfl (by decide +kernel) ⟨Nat.le_of_ble_eq_true rfl, Nat.le_of_ble_eq_true rfl⟩) (rcv0 C hW (rfl : kd 54 = 0)) rfl hl.1 rfl (Nat.le_of_ble_eq_true rfl) dX3_litresToTop_43 (Nat.zero_le _) (Nat.zero_le _) (fun H locs hW => ?_)
  refine va_mmin C.1 C.2.1 (C.2.2.2.1.trans hl.1.symm) C.2.2.2.2.1 (C.2.2.2.2.2.1 _ wX3_litresToTop_5) (C.2.2.2.2.2.1 _ wX3_litresToTop_6) (C.2.2.2.2.2.1 _ wX3_litresToTop_7) (C.2.2.2.2.2.1 _ wX3_litresToTop_8) (by decide) (Nat.le_of_ble_eq_true rfl) (Nat.zero_le _) (Nat.zero_le _) dX3_litresToTop_46 ?_
  refine lv_istore (lv' := [(4, .int (if r43 < (A29 56 1) then r43 else (A29 56 1))), (0, .ref (Γ.2.2 0)), (1, .int v1), (2, .int v2), (3, .int v3)]) C.1 C.2.1 dX3_litresToTop_49 hl (by decide) rfl (fun ls hl => ?_)
  exact tX3_litresToTop_51 C  h  hW (lv_sub hl [1, 2, 0] rfl)
theorem mt_X3_litresToTop {l : Launch} {Γ : Gm} {A B : Me}  {v1 : Int32} {v2 : Int32} {v3 : Int32} {rZ : Int32} {AZ : Me}  (h : fX3_litresToTop A v1 v2 v3 = some (rZ, AZ)) : Met l yX3_litresToTop wsX3_litresToTop rmX3_litresToTop (PC Γ A B [.ref (Γ.2.2 0), .int v1, .int v2, .int v3]) (QI Γ AZ B rZ) 0 0 (rg Γ) :=
  met_of (by decide) rfl (Nat.le_of_ble_eq_true rfl) (fun p e s m below meth c ls C hW hl => tX3_litresToTop_0 C  h  hW (lv_sub (l := [(0, .ref (Γ.2.2 0)), (1, .int v1), (2, .int v2), (3, .int v3)]) hl [0, 1, 2, 3] rfl))
abbrev rmX3_top : Room := { frames := 5, cells := 0, slots := 0, locals := 115 }
set_option maxRecDepth 100000 in
theorem iX3_top_c1 : ∀ w ∈ wsX10, w ∈ wsX3_top := by decide +kernel
set_option maxRecDepth 100000 in
theorem iX3_top_c3 : ∀ w ∈ wsX30, w ∈ wsX3_top := by decide +kernel
set_option maxRecDepth 100000 in
theorem wX3_top_0 : Cond.fieldLink RX3 19 "WineByYears" "now" "LWineByYears$Cellar;" ∈ wsX3_top := by decide +kernel
set_option maxRecDepth 100000 in
theorem wX3_top_1 : Cond.fieldLink RX3 72 "WineByYears$Cellar" "casks" "[LWineByYears$Cask;" ∈ wsX3_top := by decide +kernel
set_option maxRecDepth 100000 in
theorem wX3_top_2 : Cond.fieldLink RX3 161 "WineByYears$Cellar" "caskCount" "I" ∈ wsX3_top := by decide +kernel
def fX3_top_32  (A : Me)   : Option (Int32 × Me) := some ((-102), A)
set_option maxRecDepth 100000 in
theorem tX3_top_32 {A B : Me}  {H : Heap} {locs : List Loc} {ls : Array Slot}  {rZ : Int32} {AZ : Me}  (C : Cx Γ p s m args meth c cX3_top 8 (some .int) RX3 wsX3_top)  (h : fX3_top_32 A = some (rZ, AZ))  (hW : Wd Γ A B s.heap H locs) (hl : lv_has ls 8 []) : W p l e rmX3_top s m args below meth c H locs 0 0 (MQ below (QI Γ AZ B rZ) args s 0 0 (rg Γ)) (F0 m 32 ls []) := by
  unfold fX3_top_32 at h
  refine lv_bipush (v := (-102)) C.1 C.2.1 dX3_top_32 (by decide) ?_
  cases h
  exact z_iret C hW dX3_top_34
def fX3_top_64  (A : Me)  (t0 : Int32) : Option (Int32 × Me) := some (t0, A)
set_option maxRecDepth 100000 in
theorem tX3_top_64 {A B : Me}  {H : Heap} {locs : List Loc} {ls : Array Slot} {t0 : Int32} {rZ : Int32} {AZ : Me}  (C : Cx Γ p s m args meth c cX3_top 8 (some .int) RX3 wsX3_top)  (h : fX3_top_64 A t0 = some (rZ, AZ))  (hW : Wd Γ A B s.heap H locs) (hl : lv_has ls 8 []) : W p l e rmX3_top s m args below meth c H locs 0 0 (MQ below (QI Γ AZ B rZ) args s 0 0 (rg Γ)) (F0 m 64 ls [.int t0]) := by
  unfold fX3_top_64 at h
  cases h
  exact z_iret C hW dX3_top_64
def fX3_top_133 (j74 : Me → Int32 → Int32 → Int32 → Int32 → Int32 → Int32 → Option (Int32 × Me)) (A : Me)  (v1 : Int32) (v2 : Int32) (v3 : Int32) (v4 : Int32) (v5 : Int32) (v6 : Int32) : Option (Int32 × Me) := j74 A v1 v2 v3 v4 v5 (v6 + 1)
set_option maxRecDepth 100000 in
theorem tX3_top_133 {A B : Me}  {H : Heap} {locs : List Loc} {ls : Array Slot} {v1 : Int32} {v2 : Int32} {v3 : Int32} {v4 : Int32} {v5 : Int32} {v6 : Int32} {rZ : Int32} {AZ : Me} {j74 : Me → Int32 → Int32 → Int32 → Int32 → Int32 → Int32 → Option (Int32 × Me)} (C : Cx Γ p s m args meth c cX3_top 8 (some .int) RX3 wsX3_top) (hr74 : ∀ (A : Me) (v1 : Int32) (v2 : Int32) (v3 : Int32) (v4 : Int32) (v5 : Int32) (v6 : Int32) (H : Heap) (locs : List Loc) (ls : Array Slot), j74 A v1 v2 v3 v4 v5 v6 = some (rZ, AZ) → Wd Γ A B s.heap H locs → lv_has ls 8 [(0, .ref (Γ.2.2 0)), (1, .int v1), (2, .int v2), (3, .int v3), (4, .int v4), (5, .int v5), (6, .int v6)] → W p l e rmX3_top s m args below meth c H locs 0 0 (MQ below (QI Γ AZ B rZ) args s 0 0 (rg Γ)) (F0 m 74 ls [])) (h : fX3_top_133 j74 A v1 v2 v3 v4 v5 v6 = some (rZ, AZ))  (hW : Wd Γ A B s.heap H locs) (hl : lv_has ls 8 [(0, .ref (Γ.2.2 0)), (1, .int v1), (2, .int v2), (3, .int v3), (4, .int v4), (5, .int v5), (6, .int v6)]) : W p l e rmX3_top s m args below meth c H locs 0 0 (MQ below (QI Γ AZ B rZ) args s 0 0 (rg Γ)) (F0 m 133 ls []) := by
  unfold fX3_top_133 at h
  refine lv_iinc (v := (v6 + 1)) (lv' := [(6, .int (v6 + 1)), (0, .ref (Γ.2.2 0)), (1, .int v1), (2, .int v2), (3, .int v3), (4, .int v4), (5, .int v5)]) C.1 C.2.1 dX3_top_133 hl (k := 6) rfl rfl (by decide) rfl (fun ls hl => ?_)
  refine lv_goto (tgt := 74) C.1 C.2.1 dX3_top_136 (by decide) ?_
  exact hr74 _ _ _ _ _ _ _ _ _ _ h  hW (lv_sub hl [1, 2, 3, 4, 5, 6, 0] rfl)
def fX3_top_125 (j74 : Me → Int32 → Int32 → Int32 → Int32 → Int32 → Int32 → Option (Int32 × Me)) (A : Me)  (v1 : Int32) (v2 : Int32) (v3 : Int32) (v6 : Int32) (v7 : Int32) : Option (Int32 × Me) := fX3_top_133 j74 A v1 v2 v3 v7 v6 v6
set_option maxRecDepth 100000 in
theorem tX3_top_125 {A B : Me}  {H : Heap} {locs : List Loc} {ls : Array Slot} {v1 : Int32} {v2 : Int32} {v3 : Int32} {v6 : Int32} {v7 : Int32} {rZ : Int32} {AZ : Me} {j74 : Me → Int32 → Int32 → Int32 → Int32 → Int32 → Int32 → Option (Int32 × Me)} (C : Cx Γ p s m args meth c cX3_top 8 (some .int) RX3 wsX3_top) (hr74 : ∀ (A : Me) (v1 : Int32) (v2 : Int32) (v3 : Int32) (v4 : Int32) (v5 : Int32) (v6 : Int32) (H : Heap) (locs : List Loc) (ls : Array Slot), j74 A v1 v2 v3 v4 v5 v6 = some (rZ, AZ) → Wd Γ A B s.heap H locs → lv_has ls 8 [(0, .ref (Γ.2.2 0)), (1, .int v1), (2, .int v2), (3, .int v3), (4, .int v4), (5, .int v5), (6, .int v6)] → W p l e rmX3_top s m args below meth c H locs 0 0 (MQ below (QI Γ AZ B rZ) args s 0 0 (rg Γ)) (F0 m 74 ls [])) (h : fX3_top_125 j74 A v1 v2 v3 v6 v7 = some (rZ, AZ))  (hW : Wd Γ A B s.heap H locs) (hl : lv_has ls 8 [(0, .ref (Γ.2.2 0)), (1, .int v1), (2, .int v2), (3, .int v3), (6, .int v6), (7, .int v7)]) : W p l e rmX3_top s m args below meth c H locs 0 0 (MQ below (QI Γ AZ B rZ) args s 0 0 (rg Γ)) (F0 m 125 ls []) := by
  unfold fX3_top_125 at h
  refine lv_iload C.1 C.2.1 dX3_top_125 (lv_at hl 5 rfl) ?_
  refine lv_istore (lv' := [(4, .int v7), (0, .ref (Γ.2.2 0)), (1, .int v1), (2, .int v2), (3, .int v3), (6, .int v6), (7, .int v7)]) C.1 C.2.1 dX3_top_127 hl (by decide) rfl (fun ls hl => ?_)
  refine lv_iload C.1 C.2.1 dX3_top_129 (lv_at hl 5 rfl) ?_
  refine lv_istore (lv' := [(5, .int v6), (4, .int v7), (0, .ref (Γ.2.2 0)), (1, .int v1), (2, .int v2), (3, .int v3), (6, .int v6), (7, .int v7)]) C.1 C.2.1 dX3_top_131 hl (by decide) rfl (fun ls hl => ?_)
  exact tX3_top_133 C hr74 h  hW (lv_sub hl [2, 3, 4, 5, 1, 0, 6] rfl)
def fX3_top_104 (j74 : Me → Int32 → Int32 → Int32 → Int32 → Int32 → Int32 → Option (Int32 × Me)) (A : Me)  (v1 : Int32) (v2 : Int32) (v3 : Int32) (v4 : Int32) (v5 : Int32) (v6 : Int32) (t0 : Int32) : Option (Int32 × Me) := if t0 = (-1) then (fX3_top_133 j74 A v1 v2 v3 v4 v5 v6) else (if v4 = (-1) then (fX3_top_125 j74 A v1 v2 v3 v6 t0) else (if v4 ≤ t0 then (fX3_top_133 j74 A v1 v2 v3 v4 v5 v6) else (fX3_top_125 j74 A v1 v2 v3 v6 t0)))
set_option maxRecDepth 100000 in
theorem tX3_top_104 {A B : Me}  {H : Heap} {locs : List Loc} {ls : Array Slot} {v1 : Int32} {v2 : Int32} {v3 : Int32} {v4 : Int32} {v5 : Int32} {v6 : Int32} {t0 : Int32} {rZ : Int32} {AZ : Me} {j74 : Me → Int32 → Int32 → Int32 → Int32 → Int32 → Int32 → Option (Int32 × Me)} (C : Cx Γ p s m args meth c cX3_top 8 (some .int) RX3 wsX3_top) (hr74 : ∀ (A : Me) (v1 : Int32) (v2 : Int32) (v3 : Int32) (v4 : Int32) (v5 : Int32) (v6 : Int32) (H : Heap) (locs : List Loc) (ls : Array Slot), j74 A v1 v2 v3 v4 v5 v6 = some (rZ, AZ) → Wd Γ A B s.heap H locs → lv_has ls 8 [(0, .ref (Γ.2.2 0)), (1, .int v1), (2, .int v2), (3, .int v3), (4, .int v4), (5, .int v5), (6, .int v6)] → W p l e rmX3_top s m args below meth c H locs 0 0 (MQ below (QI Γ AZ B rZ) args s 0 0 (rg Γ)) (F0 m 74 ls [])) (h : fX3_top_104 j74 A v1 v2 v3 v4 v5 v6 t0 = some (rZ, AZ))  (hW : Wd Γ A B s.heap H locs) (hl : lv_has ls 8 [(0, .ref (Γ.2.2 0)), (1, .int v1), (2, .int v2), (3, .int v3), (4, .int v4), (5, .int v5), (6, .int v6)]) : W p l e rmX3_top s m args below meth c H locs 0 0 (MQ below (QI Γ AZ B rZ) args s 0 0 (rg Γ)) (F0 m 104 ls [.int t0]) := by
  unfold fX3_top_104 at h
  refine lv_istore (lv' := [(7, .int t0), (0, .ref (Γ.2.2 0)), (1, .int v1), (2, .int v2), (3, .int v3), (4, .int v4), (5, .int v5), (6, .int v6)]) C.1 C.2.1 dX3_top_104 hl (by decide) rfl (fun ls hl => ?_)
  refine lv_iload C.1 C.2.1 dX3_top_106 (lv_at hl 0 rfl) ?_
  refine lv_iconst (v := (-1)) C.1 C.2.1 dX3_top_108 (by decide) ?_
  refine lv_icmp_eq (tgt := 133) C.1 C.2.1 dX3_top_109 (by decide) (fun c_109 => ?_) (fun c_109 => ?_)
  · have h := if_y h c_109
    exact tX3_top_133 C hr74 h  hW (lv_sub hl [1, 2, 3, 4, 5, 6, 7] rfl)
  · have h := if_n h c_109
    refine lv_iload C.1 C.2.1 dX3_top_112 (lv_at hl 5 rfl) ?_
    refine lv_iconst (v := (-1)) C.1 C.2.1 dX3_top_114 (by decide) ?_
    refine lv_icmp_eq (tgt := 125) C.1 C.2.1 dX3_top_115 (by decide) (fun c_115 => ?_) (fun c_115 => ?_)
    · have h := if_y h c_115
      exact tX3_top_125 C hr74 h  hW (lv_sub hl [1, 2, 3, 4, 7, 0] rfl)
    · have h := if_n h c_115
      refine lv_iload C.1 C.2.1 dX3_top_118 (lv_at hl 0 rfl) ?_
      refine lv_iload C.1 C.2.1 dX3_top_120 (lv_at hl 5 rfl) ?_
      refine lv_icmp_ge (tgt := 133) C.1 C.2.1 dX3_top_122 (by decide) (fun c_122 => ?_) (fun c_122 => ?_)
      · have h := if_y h c_122
        exact tX3_top_133 C hr74 h  hW (lv_sub hl [1, 2, 3, 4, 5, 6, 7] rfl)
      · have h := if_n h c_122
        exact tX3_top_125 C hr74 h  hW (lv_sub hl [1, 2, 3, 4, 7, 0] rfl)
def fX3_top_150  (A : Me)  (t0 : Int32) : Option (Int32 × Me) := some (t0, A)
set_option maxRecDepth 100000 in
theorem tX3_top_150 {A B : Me}  {H : Heap} {locs : List Loc} {ls : Array Slot} {t0 : Int32} {rZ : Int32} {AZ : Me}  (C : Cx Γ p s m args meth c cX3_top 8 (some .int) RX3 wsX3_top)  (h : fX3_top_150 A t0 = some (rZ, AZ))  (hW : Wd Γ A B s.heap H locs) (hl : lv_has ls 8 []) : W p l e rmX3_top s m args below meth c H locs 0 0 (MQ below (QI Γ AZ B rZ) args s 0 0 (rg Γ)) (F0 m 150 ls [.int t0]) := by
  unfold fX3_top_150 at h
  cases h
  exact z_iret C hW dX3_top_150
def fX3_top_74   : Nat → Me → Int32 → Int32 → Int32 → Int32 → Int32 → Int32 → Option (Int32 × Me)
  | 0, _, _, _, _, _, _, _ => none
  | n + 1, A, v1, v2, v3, v4, v5, v6 => if (A 3 7) ≤ v6 then (if v3 = 0 then (fX3_top_150 A v4) else (fX3_top_150 A v5)) else (if v6 = v2 then (fX3_top_104 (fun m x0 x1 x2 x3 x4 x5 => fX3_top_74 n m x0 x1 x2 x3 x4 x5) A v1 v2 v3 v4 v5 v6 (-1)) else (b2 (fX3_litresToTop A v1 v2 v6) fun r101 A101 => fX3_top_104 (fun m x0 x1 x2 x3 x4 x5 => fX3_top_74 n m x0 x1 x2 x3 x4 x5) A101 v1 v2 v3 v4 v5 v6 r101))
set_option maxRecDepth 100000 in
theorem tX3_top_74 {B : Me}  {rZ : Int32} {AZ : Me}  (C : Cx Γ p s m args meth c cX3_top 8 (some .int) RX3 wsX3_top)  (n : Nat) : ∀ (A : Me) (v1 : Int32) (v2 : Int32) (v3 : Int32) (v4 : Int32) (v5 : Int32) (v6 : Int32) (H : Heap) (locs : List Loc) (ls : Array Slot), fX3_top_74 n A v1 v2 v3 v4 v5 v6 = some (rZ, AZ) → Wd Γ A B s.heap H locs → lv_has ls 8 [(0, .ref (Γ.2.2 0)), (1, .int v1), (2, .int v2), (3, .int v3), (4, .int v4), (5, .int v5), (6, .int v6)] → W p l e rmX3_top s m args below meth c H locs 0 0 (MQ below (QI Γ AZ B rZ) args s 0 0 (rg Γ)) (F0 m 74 ls []) := by
  induction n with
  | zero =>
    intro _ _ _ _ _ _ _ H locs ls h
    exact nomatch (show (none : Option (Int32 × Me)) = some (rZ, AZ) from h)
  | succ n ih =>
    intro A v1 v2 v3 v4 v5 v6 H locs ls h  hW hl
    rw [fX3_top_74] at h
    refine lv_iload C.1 C.2.1 dX3_top_74 (lv_at hl 6 rfl) ?_
    refine lv_aload_n C.1 C.2.1 dX3_top_76 rfl (lv_at hl 0 rfl) ?_
    refine gX3_1 C hW rfl iX3_top_c3 wX3_top_0 dX3_top_77 ?_
    refine gX1_7 C hW rfl iX3_top_c1 wX3_top_2 dX3_top_80 ?_
    refine lv_icmp_ge (tgt := 139) C.1 C.2.1 dX3_top_83 (by decide) (fun c_83 => ?_) (fun c_83 => ?_)
    · have h := if_y h c_83
      refine lv_iload_n C.1 C.2.1 dX3_top_139 rfl (lv_at hl 3 rfl) ?_
      refine lv_if_ne (tgt := 148) C.1 C.2.1 dX3_top_140 (by decide) (fun c_140 => ?_) (fun c_140 => ?_)
      · have h := if_n h c_140
        refine lv_iload C.1 C.2.1 dX3_top_148 (lv_at hl 5 rfl) ?_
        exact tX3_top_150 C  h  hW (lv_sub hl [] rfl)
      · have h := if_y h c_140
        refine lv_iload C.1 C.2.1 dX3_top_143 (lv_at hl 4 rfl) ?_
        refine lv_goto (tgt := 150) C.1 C.2.1 dX3_top_145 (by decide) ?_
        exact tX3_top_150 C  h  hW (lv_sub hl [] rfl)
    · have h := if_n h c_83
      refine lv_iload C.1 C.2.1 dX3_top_86 (lv_at hl 6 rfl) ?_
      refine lv_iload_n C.1 C.2.1 dX3_top_88 rfl (lv_at hl 2 rfl) ?_
      refine lv_icmp_ne (tgt := 96) C.1 C.2.1 dX3_top_89 (by decide) (fun c_89 => ?_) (fun c_89 => ?_)
      · have h := if_n h c_89
        refine lv_aload_n C.1 C.2.1 dX3_top_96 rfl (lv_at hl 0 rfl) ?_
        refine lv_iload_n C.1 C.2.1 dX3_top_97 rfl (lv_at hl 1 rfl) ?_
        refine lv_iload_n C.1 C.2.1 dX3_top_98 rfl (lv_at hl 2 rfl) ?_
        refine lv_iload C.1 C.2.1 dX3_top_99 (lv_at hl 6 rfl) ?_
        obtain ⟨r101, A101, hc101, h⟩ := b2_s h
        refine cVi C hW (As := [.int v1, .int v2, .int v6]) (rest := []) (mt_X3_litresToTop  hc101) (cwV 3 C.2.2.2.2.2.1 gX3_top_X3_litresToTop rfl rfl rfl (by decide +kernel) ⟨Nat.le_of_ble_eq_true rfl, Nat.le_of_ble_eq_true rfl⟩) (rcv3 C hW (rfl : kd 0 = 3)) rfl hl.1 rfl (Nat.le_of_ble_eq_true rfl) dX3_top_101 (Nat.zero_le _) (Nat.zero_le _) (fun H locs hW => ?_)
        exact tX3_top_104 C ih h  hW (lv_sub hl [0, 1, 2, 3, 4, 5, 6] rfl)
      · have h := if_y h c_89
        refine lv_iconst (v := (-1)) C.1 C.2.1 dX3_top_92 (by decide) ?_
        refine lv_goto (tgt := 104) C.1 C.2.1 dX3_top_93 (by decide) ?_
        exact tX3_top_104 C ih h  hW (lv_sub hl [0, 1, 2, 3, 4, 5, 6] rfl)
def fX3_top  (A : Me)  (v1 : Int32) (v2 : Int32) (v3 : Int32) : Option (Int32 × Me) := bi (fX1_hasCask A 3 v2) fun r5 => if r5 = 0 then (some ((-101), A)) else (bi (fX1_arePeople A 3 v1) fun r19 => if r19 = 0 then (fX3_top_32 A) else (bi (fX3_isZeroOrOne v3) fun r26 => if r26 = 0 then (fX3_top_32 A) else (ck (inb v2 5) <| bi (fX1_allMay A 3 v1 (4 + 6 + 2 * v2.toNatClampNeg)) fun r49 => if r49 = 0 then (fX3_top_74 FU A v1 v2 v3 (-1) (-1) 0) else (if v3 = 0 then (fX3_top_64 A 0) else (fX3_top_64 A (-1))))))
set_option maxRecDepth 100000 in
theorem tX3_top_0 {A B : Me}  {H : Heap} {locs : List Loc} {ls : Array Slot} {v1 : Int32} {v2 : Int32} {v3 : Int32} {rZ : Int32} {AZ : Me}  (C : Cx Γ p s m args meth c cX3_top 8 (some .int) RX3 wsX3_top)  (h : fX3_top A v1 v2 v3 = some (rZ, AZ))  (hW : Wd Γ A B s.heap H locs) (hl : lv_has ls 8 [(0, .ref (Γ.2.2 0)), (1, .int v1), (2, .int v2), (3, .int v3)]) : W p l e rmX3_top s m args below meth c H locs 0 0 (MQ below (QI Γ AZ B rZ) args s 0 0 (rg Γ)) (F0 m 0 ls []) := by
  unfold fX3_top at h
  refine lv_aload_n C.1 C.2.1 dX3_top_0 rfl (lv_at hl 0 rfl) ?_
  refine gX3_1 C hW rfl iX3_top_c3 wX3_top_0 dX3_top_1 ?_
  refine lv_iload_n C.1 C.2.1 dX3_top_4 rfl (lv_at hl 2 rfl) ?_
  obtain ⟨r5, hc5, h⟩ := bi_s h
  refine cVi C hW (As := [.int v2]) (rest := []) (mt_X1_hasCask rfl hc5) (cwV 1 C.2.2.2.2.2.1 gX3_top_X1_hasCask rfl rfl rfl (by decide +kernel) ⟨Nat.le_of_ble_eq_true rfl, Nat.le_of_ble_eq_true rfl⟩) (rcv1 C hW (rfl : kd 3 = 1)) rfl hl.1 rfl (Nat.le_of_ble_eq_true rfl) dX3_top_5 (Nat.zero_le _) (Nat.zero_le _) (fun H locs hW => ?_)
  refine lv_if_ne (tgt := 14) C.1 C.2.1 dX3_top_8 (by decide) (fun c_8 => ?_) (fun c_8 => ?_)
  · have h := if_n h c_8
    refine lv_aload_n C.1 C.2.1 dX3_top_14 rfl (lv_at hl 0 rfl) ?_
    refine gX3_1 C hW rfl iX3_top_c3 wX3_top_0 dX3_top_15 ?_
    refine lv_iload_n C.1 C.2.1 dX3_top_18 rfl (lv_at hl 1 rfl) ?_
    obtain ⟨r19, hc19, h⟩ := bi_s h
    refine cVi C hW (As := [.int v1]) (rest := []) (mt_X1_arePeople rfl hc19) (cwV 1 C.2.2.2.2.2.1 gX3_top_X1_arePeople rfl rfl rfl (by decide +kernel) ⟨Nat.le_of_ble_eq_true rfl, Nat.le_of_ble_eq_true rfl⟩) (rcv1 C hW (rfl : kd 3 = 1)) rfl hl.1 rfl (Nat.le_of_ble_eq_true rfl) dX3_top_19 (Nat.zero_le _) (Nat.zero_le _) (fun H locs hW => ?_)
    refine lv_if_eq (tgt := 32) C.1 C.2.1 dX3_top_22 (by decide) (fun c_22 => ?_) (fun c_22 => ?_)
    · have h := if_y h c_22
      exact tX3_top_32 C  h  hW (lv_sub hl [] rfl)
    · have h := if_n h c_22
      refine lv_iload_n C.1 C.2.1 dX3_top_25 rfl (lv_at hl 3 rfl) ?_
      obtain ⟨r26, hc26, h⟩ := bi_s h
      refine cSi C hW (As := [.int v3]) (rest := []) (mt_X3_isZeroOrOne  hc26) (va_cwS 1 C.2.2.2.2.2.1 gX3_top_X3_isZeroOrOne rfl rfl rfl (by decide +kernel) ⟨Nat.le_of_ble_eq_true rfl, Nat.le_of_ble_eq_true rfl⟩) rfl hl.1 rfl (Nat.le_of_ble_eq_true rfl) dX3_top_26 (Nat.zero_le _) (Nat.zero_le _) (fun H locs hW => ?_)
      refine lv_if_ne (tgt := 35) C.1 C.2.1 dX3_top_29 (by decide) (fun c_29 => ?_) (fun c_29 => ?_)
      · have h := if_n h c_29
        refine lv_aload_n C.1 C.2.1 dX3_top_35 rfl (lv_at hl 0 rfl) ?_
        refine gX3_1 C hW rfl iX3_top_c3 wX3_top_0 dX3_top_36 ?_
        refine lv_iload_n C.1 C.2.1 dX3_top_39 rfl (lv_at hl 1 rfl) ?_
        refine lv_aload_n C.1 C.2.1 dX3_top_40 rfl (lv_at hl 0 rfl) ?_
        refine gX3_1 C hW rfl iX3_top_c3 wX3_top_0 dX3_top_41 ?_
        refine gX1_0 C hW rfl iX3_top_c1 wX3_top_1 dX3_top_44 ?_
        refine lv_iload_n C.1 C.2.1 dX3_top_47 rfl (lv_at hl 2 rfl) ?_
        obtain ⟨hi48, h⟩ := ck_s h
        refine la7 C hW ⟨rfl, rfl⟩ hi48 dX3_top_48 ?_
        obtain ⟨r49, hc49, h⟩ := bi_s h
        refine cVi C hW (As := [.int v1, .ref (Γ.2.2 (4 + 6 + 2 * v2.toNatClampNeg))]) (rest := []) (mt_X1_allMay rfl (kd_7e (⟨rfl, rfl⟩ : kd 4 = 7 ∧ ln 4 = 5).1 (inb_s hi48) rfl) hc49) (cwV 2 C.2.2.2.2.2.1 gX3_top_X1_allMay rfl rfl rfl (by decide +kernel) ⟨Nat.le_of_ble_eq_true rfl, Nat.le_of_ble_eq_true rfl⟩) (rcv1 C hW (rfl : kd 3 = 1)) rfl hl.1 rfl (Nat.le_of_ble_eq_true rfl) dX3_top_49 (Nat.zero_le _) (Nat.zero_le _) (fun H locs hW => ?_)
        refine lv_if_eq (tgt := 65) C.1 C.2.1 dX3_top_52 (by decide) (fun c_52 => ?_) (fun c_52 => ?_)
        · have h := if_y h c_52
          refine lv_iconst (v := (-1)) C.1 C.2.1 dX3_top_65 (by decide) ?_
          refine lv_istore (lv' := [(4, .int (-1)), (0, .ref (Γ.2.2 0)), (1, .int v1), (2, .int v2), (3, .int v3)]) C.1 C.2.1 dX3_top_66 hl (by decide) rfl (fun ls hl => ?_)
          refine lv_iconst (v := (-1)) C.1 C.2.1 dX3_top_68 (by decide) ?_
          refine lv_istore (lv' := [(5, .int (-1)), (4, .int (-1)), (0, .ref (Γ.2.2 0)), (1, .int v1), (2, .int v2), (3, .int v3)]) C.1 C.2.1 dX3_top_69 hl (by decide) rfl (fun ls hl => ?_)
          refine lv_iconst (v := 0) C.1 C.2.1 dX3_top_71 (by decide) ?_
          refine lv_istore (lv' := [(6, .int 0), (5, .int (-1)), (4, .int (-1)), (0, .ref (Γ.2.2 0)), (1, .int v1), (2, .int v2), (3, .int v3)]) C.1 C.2.1 dX3_top_72 hl (by decide) rfl (fun ls hl => ?_)
          exact tX3_top_74 C  FU _ _ _ _ _ _ _ _ _ _ h  hW (lv_sub hl [3, 4, 5, 6, 2, 1, 0] rfl)
        · have h := if_n h c_52
          refine lv_iload_n C.1 C.2.1 dX3_top_55 rfl (lv_at hl 3 rfl) ?_
          refine lv_if_ne (tgt := 63) C.1 C.2.1 dX3_top_56 (by decide) (fun c_56 => ?_) (fun c_56 => ?_)
          · have h := if_n h c_56
            refine lv_iconst (v := (-1)) C.1 C.2.1 dX3_top_63 (by decide) ?_
            exact tX3_top_64 C  h  hW (lv_sub hl [] rfl)
          · have h := if_y h c_56
            refine lv_iconst (v := 0) C.1 C.2.1 dX3_top_59 (by decide) ?_
            refine lv_goto (tgt := 64) C.1 C.2.1 dX3_top_60 (by decide) ?_
            exact tX3_top_64 C  h  hW (lv_sub hl [] rfl)
      · have h := if_y h c_29
        exact tX3_top_32 C  h  hW (lv_sub hl [] rfl)
  · have h := if_y h c_8
    refine lv_bipush (v := (-101)) C.1 C.2.1 dX3_top_11 (by decide) ?_
    cases h
    exact z_iret C hW dX3_top_13
theorem mt_X3_top {l : Launch} {Γ : Gm} {A B : Me}  {v1 : Int32} {v2 : Int32} {v3 : Int32} {rZ : Int32} {AZ : Me}  (h : fX3_top A v1 v2 v3 = some (rZ, AZ)) : Met l yX3_top wsX3_top rmX3_top (PC Γ A B [.ref (Γ.2.2 0), .int v1, .int v2, .int v3]) (QI Γ AZ B rZ) 0 0 (rg Γ) :=
  met_of (by decide) rfl (Nat.le_of_ble_eq_true rfl) (fun p e s m below meth c ls C hW hl => tX3_top_0 C  h  hW (lv_sub (l := [(0, .ref (Γ.2.2 0)), (1, .int v1), (2, .int v2), (3, .int v3)]) hl [0, 1, 2, 3] rfl))
abbrev rmX3_trial : Room := { frames := 1, cells := 0, slots := 0, locals := 22 }
set_option maxRecDepth 100000 in
theorem iX3_trial_c1 : ∀ w ∈ wsX10, w ∈ wsX3_trial := by decide +kernel
set_option maxRecDepth 100000 in
theorem iX3_trial_c3 : ∀ w ∈ wsX30, w ∈ wsX3_trial := by decide +kernel
set_option maxRecDepth 100000 in
theorem wX3_trial_0 : Cond.fieldLink RX3 19 "WineByYears" "now" "LWineByYears$Cellar;" ∈ wsX3_trial := by decide +kernel
set_option maxRecDepth 100000 in
theorem wX3_trial_1 : Cond.fieldLink RX3 168 "WineByYears$Cellar" "trialCount" "I" ∈ wsX3_trial := by decide +kernel
def fX3_trial  (A : Me)  (v1 : Int32) (v2 : Int32) : Option (Int32 × Me) := bi (fX1_hasCask A 3 v1) fun r5 => if r5 = 0 then (some ((-101), A)) else (if (A 3 9) < 8 then (b2 (fX1_noteTrial A 3 v1 v2) fun r35 A35 => some (r35, A35)) else (some ((-104), A)))
set_option maxRecDepth 100000 in
theorem tX3_trial_0 {A B : Me}  {H : Heap} {locs : List Loc} {ls : Array Slot} {v1 : Int32} {v2 : Int32} {rZ : Int32} {AZ : Me}  (C : Cx Γ p s m args meth c cX3_trial 3 (some .int) RX3 wsX3_trial)  (h : fX3_trial A v1 v2 = some (rZ, AZ))  (hW : Wd Γ A B s.heap H locs) (hl : lv_has ls 3 [(0, .ref (Γ.2.2 0)), (1, .int v1), (2, .int v2)]) : W p l e rmX3_trial s m args below meth c H locs 0 0 (MQ below (QI Γ AZ B rZ) args s 0 0 (rg Γ)) (F0 m 0 ls []) := by
  unfold fX3_trial at h
  refine lv_aload_n C.1 C.2.1 dX3_trial_0 rfl (lv_at hl 0 rfl) ?_
  refine gX3_1 C hW rfl iX3_trial_c3 wX3_trial_0 dX3_trial_1 ?_
  refine lv_iload_n C.1 C.2.1 dX3_trial_4 rfl (lv_at hl 1 rfl) ?_
  obtain ⟨r5, hc5, h⟩ := bi_s h
  refine cVi C hW (As := [.int v1]) (rest := []) (mt_X1_hasCask rfl hc5) (cwV 1 C.2.2.2.2.2.1 gX3_trial_X1_hasCask rfl rfl rfl (by decide +kernel) ⟨Nat.le_of_ble_eq_true rfl, Nat.le_of_ble_eq_true rfl⟩) (rcv1 C hW (rfl : kd 3 = 1)) rfl hl.1 rfl (Nat.le_of_ble_eq_true rfl) dX3_trial_5 (Nat.zero_le _) (Nat.zero_le _) (fun H locs hW => ?_)
  refine lv_if_ne (tgt := 14) C.1 C.2.1 dX3_trial_8 (by decide) (fun c_8 => ?_) (fun c_8 => ?_)
  · have h := if_n h c_8
    refine lv_aload_n C.1 C.2.1 dX3_trial_14 rfl (lv_at hl 0 rfl) ?_
    refine gX3_1 C hW rfl iX3_trial_c3 wX3_trial_0 dX3_trial_15 ?_
    refine gX1_9 C hW rfl iX3_trial_c1 wX3_trial_1 dX3_trial_18 ?_
    refine lv_bipush (v := 8) C.1 C.2.1 dX3_trial_21 (by decide) ?_
    refine lv_icmp_lt (tgt := 29) C.1 C.2.1 dX3_trial_23 (by decide) (fun c_23 => ?_) (fun c_23 => ?_)
    · have h := if_y h c_23
      refine lv_aload_n C.1 C.2.1 dX3_trial_29 rfl (lv_at hl 0 rfl) ?_
      refine gX3_1 C hW rfl iX3_trial_c3 wX3_trial_0 dX3_trial_30 ?_
      refine lv_iload_n C.1 C.2.1 dX3_trial_33 rfl (lv_at hl 1 rfl) ?_
      refine lv_iload_n C.1 C.2.1 dX3_trial_34 rfl (lv_at hl 2 rfl) ?_
      obtain ⟨r35, A35, hc35, h⟩ := b2_s h
      refine cVi C hW (As := [.int v1, .int v2]) (rest := []) (mt_X1_noteTrial rfl hc35) (cwV 2 C.2.2.2.2.2.1 gX3_trial_X1_noteTrial rfl rfl rfl (by decide +kernel) ⟨Nat.le_of_ble_eq_true rfl, Nat.le_of_ble_eq_true rfl⟩) (rcv1 C hW (rfl : kd 3 = 1)) rfl hl.1 rfl (Nat.le_of_ble_eq_true rfl) dX3_trial_35 (Nat.zero_le _) (Nat.zero_le _) (fun H locs hW => ?_)
      cases h
      exact z_iret C hW dX3_trial_38
    · have h := if_n h c_23
      refine lv_bipush (v := (-104)) C.1 C.2.1 dX3_trial_26 (by decide) ?_
      cases h
      exact z_iret C hW dX3_trial_28
  · have h := if_y h c_8
    refine lv_bipush (v := (-101)) C.1 C.2.1 dX3_trial_11 (by decide) ?_
    cases h
    exact z_iret C hW dX3_trial_13
theorem mt_X3_trial {l : Launch} {Γ : Gm} {A B : Me}  {v1 : Int32} {v2 : Int32} {rZ : Int32} {AZ : Me}  (h : fX3_trial A v1 v2 = some (rZ, AZ)) : Met l yX3_trial wsX3_trial rmX3_trial (PC Γ A B [.ref (Γ.2.2 0), .int v1, .int v2]) (QI Γ AZ B rZ) 0 0 (rg Γ) :=
  met_of (by decide) rfl (Nat.le_of_ble_eq_true rfl) (fun p e s m below meth c ls C hW hl => tX3_trial_0 C  h  hW (lv_sub (l := [(0, .ref (Γ.2.2 0)), (1, .int v1), (2, .int v2)]) hl [0, 1, 2] rfl))
abbrev rmX3_forget : Room := { frames := 1, cells := 0, slots := 0, locals := 21 }
set_option maxRecDepth 100000 in
theorem iX3_forget_c3 : ∀ w ∈ wsX30, w ∈ wsX3_forget := by decide +kernel
set_option maxRecDepth 100000 in
theorem wX3_forget_0 : Cond.fieldLink RX3 19 "WineByYears" "now" "LWineByYears$Cellar;" ∈ wsX3_forget := by decide +kernel
def fX3_forget  (A : Me)   : Option (Int32 × Me) := b2 (fX1_dropTrials A 3) fun r4 A4 => some (r4, A4)
set_option maxRecDepth 100000 in
theorem tX3_forget_0 {A B : Me}  {H : Heap} {locs : List Loc} {ls : Array Slot}  {rZ : Int32} {AZ : Me}  (C : Cx Γ p s m args meth c cX3_forget 1 (some .int) RX3 wsX3_forget)  (h : fX3_forget A = some (rZ, AZ))  (hW : Wd Γ A B s.heap H locs) (hl : lv_has ls 1 [(0, .ref (Γ.2.2 0))]) : W p l e rmX3_forget s m args below meth c H locs 0 0 (MQ below (QI Γ AZ B rZ) args s 0 0 (rg Γ)) (F0 m 0 ls []) := by
  unfold fX3_forget at h
  refine lv_aload_n C.1 C.2.1 dX3_forget_0 rfl (lv_at hl 0 rfl) ?_
  refine gX3_1 C hW rfl iX3_forget_c3 wX3_forget_0 dX3_forget_1 ?_
  obtain ⟨r4, A4, hc4, h⟩ := b2_s h
  refine cVi C hW (As := []) (rest := []) (mt_X1_dropTrials rfl hc4) (cwV 0 C.2.2.2.2.2.1 gX3_forget_X1_dropTrials rfl rfl rfl (by decide +kernel) ⟨Nat.le_of_ble_eq_true rfl, Nat.le_of_ble_eq_true rfl⟩) (rcv1 C hW (rfl : kd 3 = 1)) rfl hl.1 rfl (Nat.le_of_ble_eq_true rfl) dX3_forget_4 (Nat.zero_le _) (Nat.zero_le _) (fun H locs hW => ?_)
  cases h
  exact z_iret C hW dX3_forget_7
theorem mt_X3_forget {l : Launch} {Γ : Gm} {A B : Me}   {rZ : Int32} {AZ : Me}  (h : fX3_forget A = some (rZ, AZ)) : Met l yX3_forget wsX3_forget rmX3_forget (PC Γ A B [.ref (Γ.2.2 0)]) (QI Γ AZ B rZ) 0 0 (rg Γ) :=
  met_of (by decide) rfl (Nat.le_of_ble_eq_true rfl) (fun p e s m below meth c ls C hW hl => tX3_forget_0 C  h  hW (lv_sub (l := [(0, .ref (Γ.2.2 0))]) hl [0] rfl))
abbrev rmX3_births : Room := { frames := 4, cells := 0, slots := 0, locals := 95 }
set_option maxRecDepth 100000 in
theorem iX3_births_c3 : ∀ w ∈ wsX30, w ∈ wsX3_births := by decide +kernel
set_option maxRecDepth 100000 in
theorem wX3_births_0 : Cond.fieldLink RX3 19 "WineByYears" "now" "LWineByYears$Cellar;" ∈ wsX3_births := by decide +kernel
def fX3_births  (A : Me)  (v1 : Int32) : Option (Int32) := bi (fX3_isKind v1) fun r1 => if r1 = 0 then (some (-102)) else (bi (fX1_isThere A 3) fun r14 => if r14 = 0 then (some (-103)) else (bi (fX1_possibleBirths A 3 v1) fun r28 => some r28))
set_option maxRecDepth 100000 in
theorem tX3_births_0 {A B : Me}  {H : Heap} {locs : List Loc} {ls : Array Slot} {v1 : Int32} {rZ : Int32}  (C : Cx Γ p s m args meth c cX3_births 2 (some .int) RX3 wsX3_births)  (h : fX3_births A v1 = some rZ)  (hW : Wd Γ A B s.heap H locs) (hl : lv_has ls 2 [(0, .ref (Γ.2.2 0)), (1, .int v1)]) : W p l e rmX3_births s m args below meth c H locs 0 0 (MQ below (QI Γ A B rZ) args s 0 0 (rg Γ)) (F0 m 0 ls []) := by
  unfold fX3_births at h
  refine lv_iload_n C.1 C.2.1 dX3_births_0 rfl (lv_at hl 1 rfl) ?_
  obtain ⟨r1, hc1, h⟩ := bi_s h
  refine cSi C hW (As := [.int v1]) (rest := []) (mt_X3_isKind  hc1) (va_cwS 1 C.2.2.2.2.2.1 gX3_births_X3_isKind rfl rfl rfl (by decide +kernel) ⟨Nat.le_of_ble_eq_true rfl, Nat.le_of_ble_eq_true rfl⟩) rfl hl.1 rfl (Nat.le_of_ble_eq_true rfl) dX3_births_1 (Nat.zero_le _) (Nat.zero_le _) (fun H locs hW => ?_)
  refine lv_if_ne (tgt := 10) C.1 C.2.1 dX3_births_4 (by decide) (fun c_4 => ?_) (fun c_4 => ?_)
  · have h := if_n h c_4
    refine lv_aload_n C.1 C.2.1 dX3_births_10 rfl (lv_at hl 0 rfl) ?_
    refine gX3_1 C hW rfl iX3_births_c3 wX3_births_0 dX3_births_11 ?_
    obtain ⟨r14, hc14, h⟩ := bi_s h
    refine cVi C hW (As := []) (rest := []) (mt_X1_isThere rfl hc14) (cwV 0 C.2.2.2.2.2.1 gX3_births_X1_isThere rfl rfl rfl (by decide +kernel) ⟨Nat.le_of_ble_eq_true rfl, Nat.le_of_ble_eq_true rfl⟩) (rcv1 C hW (rfl : kd 3 = 1)) rfl hl.1 rfl (Nat.le_of_ble_eq_true rfl) dX3_births_14 (Nat.zero_le _) (Nat.zero_le _) (fun H locs hW => ?_)
    refine lv_if_ne (tgt := 23) C.1 C.2.1 dX3_births_17 (by decide) (fun c_17 => ?_) (fun c_17 => ?_)
    · have h := if_n h c_17
      refine lv_aload_n C.1 C.2.1 dX3_births_23 rfl (lv_at hl 0 rfl) ?_
      refine gX3_1 C hW rfl iX3_births_c3 wX3_births_0 dX3_births_24 ?_
      refine lv_iload_n C.1 C.2.1 dX3_births_27 rfl (lv_at hl 1 rfl) ?_
      obtain ⟨r28, hc28, h⟩ := bi_s h
      refine cVi C hW (As := [.int v1]) (rest := []) (mt_X1_possibleBirths rfl hc28) (cwV 1 C.2.2.2.2.2.1 gX3_births_X1_possibleBirths rfl rfl rfl (by decide +kernel) ⟨Nat.le_of_ble_eq_true rfl, Nat.le_of_ble_eq_true rfl⟩) (rcv1 C hW (rfl : kd 3 = 1)) rfl hl.1 rfl (Nat.le_of_ble_eq_true rfl) dX3_births_28 (Nat.zero_le _) (Nat.zero_le _) (fun H locs hW => ?_)
      cases h
      exact z_iret C hW dX3_births_31
    · have h := if_y h c_17
      refine lv_bipush (v := (-103)) C.1 C.2.1 dX3_births_20 (by decide) ?_
      cases h
      exact z_iret C hW dX3_births_22
  · have h := if_y h c_4
    refine lv_bipush (v := (-102)) C.1 C.2.1 dX3_births_7 (by decide) ?_
    cases h
    exact z_iret C hW dX3_births_9
theorem mt_X3_births {l : Launch} {Γ : Gm} {A B : Me}  {v1 : Int32} {rZ : Int32}  (h : fX3_births A v1 = some rZ) : Met l yX3_births wsX3_births rmX3_births (PC Γ A B [.ref (Γ.2.2 0), .int v1]) (QI Γ A B rZ) 0 0 (rg Γ) :=
  met_of (by decide) rfl (Nat.le_of_ble_eq_true rfl) (fun p e s m below meth c ls C hW hl => tX3_births_0 C  h  hW (lv_sub (l := [(0, .ref (Γ.2.2 0)), (1, .int v1)]) hl [0, 1] rfl))
abbrev rmX3_ask : Room := { frames := 5, cells := 0, slots := 0, locals := 121 }
set_option maxRecDepth 100000 in
theorem iX3_ask_c3 : ∀ w ∈ wsX30, w ∈ wsX3_ask := by decide +kernel
set_option maxRecDepth 100000 in
theorem wX3_ask_0 : Cond.fieldLink RX3 19 "WineByYears" "now" "LWineByYears$Cellar;" ∈ wsX3_ask := by decide +kernel
def fX3_ask  (A : Me)  (v1 : Int32) : Option (Int32) := bi (fX3_isKind v1) fun r1 => if r1 = 0 then (some (-102)) else (bi (fX1_isThere A 3) fun r14 => if r14 = 0 then (some (-103)) else (bi (fX1_bestQuestion A 3 v1) fun r28 => some r28))
set_option maxRecDepth 100000 in
theorem tX3_ask_0 {A B : Me}  {H : Heap} {locs : List Loc} {ls : Array Slot} {v1 : Int32} {rZ : Int32}  (C : Cx Γ p s m args meth c cX3_ask 2 (some .int) RX3 wsX3_ask)  (h : fX3_ask A v1 = some rZ)  (hW : Wd Γ A B s.heap H locs) (hl : lv_has ls 2 [(0, .ref (Γ.2.2 0)), (1, .int v1)]) : W p l e rmX3_ask s m args below meth c H locs 0 0 (MQ below (QI Γ A B rZ) args s 0 0 (rg Γ)) (F0 m 0 ls []) := by
  unfold fX3_ask at h
  refine lv_iload_n C.1 C.2.1 dX3_ask_0 rfl (lv_at hl 1 rfl) ?_
  obtain ⟨r1, hc1, h⟩ := bi_s h
  refine cSi C hW (As := [.int v1]) (rest := []) (mt_X3_isKind  hc1) (va_cwS 1 C.2.2.2.2.2.1 gX3_ask_X3_isKind rfl rfl rfl (by decide +kernel) ⟨Nat.le_of_ble_eq_true rfl, Nat.le_of_ble_eq_true rfl⟩) rfl hl.1 rfl (Nat.le_of_ble_eq_true rfl) dX3_ask_1 (Nat.zero_le _) (Nat.zero_le _) (fun H locs hW => ?_)
  refine lv_if_ne (tgt := 10) C.1 C.2.1 dX3_ask_4 (by decide) (fun c_4 => ?_) (fun c_4 => ?_)
  · have h := if_n h c_4
    refine lv_aload_n C.1 C.2.1 dX3_ask_10 rfl (lv_at hl 0 rfl) ?_
    refine gX3_1 C hW rfl iX3_ask_c3 wX3_ask_0 dX3_ask_11 ?_
    obtain ⟨r14, hc14, h⟩ := bi_s h
    refine cVi C hW (As := []) (rest := []) (mt_X1_isThere rfl hc14) (cwV 0 C.2.2.2.2.2.1 gX3_ask_X1_isThere rfl rfl rfl (by decide +kernel) ⟨Nat.le_of_ble_eq_true rfl, Nat.le_of_ble_eq_true rfl⟩) (rcv1 C hW (rfl : kd 3 = 1)) rfl hl.1 rfl (Nat.le_of_ble_eq_true rfl) dX3_ask_14 (Nat.zero_le _) (Nat.zero_le _) (fun H locs hW => ?_)
    refine lv_if_ne (tgt := 23) C.1 C.2.1 dX3_ask_17 (by decide) (fun c_17 => ?_) (fun c_17 => ?_)
    · have h := if_n h c_17
      refine lv_aload_n C.1 C.2.1 dX3_ask_23 rfl (lv_at hl 0 rfl) ?_
      refine gX3_1 C hW rfl iX3_ask_c3 wX3_ask_0 dX3_ask_24 ?_
      refine lv_iload_n C.1 C.2.1 dX3_ask_27 rfl (lv_at hl 1 rfl) ?_
      obtain ⟨r28, hc28, h⟩ := bi_s h
      refine cVi C hW (As := [.int v1]) (rest := []) (mt_X1_bestQuestion rfl hc28) (cwV 1 C.2.2.2.2.2.1 gX3_ask_X1_bestQuestion rfl rfl rfl (by decide +kernel) ⟨Nat.le_of_ble_eq_true rfl, Nat.le_of_ble_eq_true rfl⟩) (rcv1 C hW (rfl : kd 3 = 1)) rfl hl.1 rfl (Nat.le_of_ble_eq_true rfl) dX3_ask_28 (Nat.zero_le _) (Nat.zero_le _) (fun H locs hW => ?_)
      cases h
      exact z_iret C hW dX3_ask_31
    · have h := if_y h c_17
      refine lv_bipush (v := (-103)) C.1 C.2.1 dX3_ask_20 (by decide) ?_
      cases h
      exact z_iret C hW dX3_ask_22
  · have h := if_y h c_4
    refine lv_bipush (v := (-102)) C.1 C.2.1 dX3_ask_7 (by decide) ?_
    cases h
    exact z_iret C hW dX3_ask_9
theorem mt_X3_ask {l : Launch} {Γ : Gm} {A B : Me}  {v1 : Int32} {rZ : Int32}  (h : fX3_ask A v1 = some rZ) : Met l yX3_ask wsX3_ask rmX3_ask (PC Γ A B [.ref (Γ.2.2 0), .int v1]) (QI Γ A B rZ) 0 0 (rg Γ) :=
  met_of (by decide) rfl (Nat.le_of_ble_eq_true rfl) (fun p e s m below meth c ls C hW hl => tX3_ask_0 C  h  hW (lv_sub (l := [(0, .ref (Γ.2.2 0)), (1, .int v1)]) hl [0, 1] rfl))
abbrev rmX3_canPourOne : Room := { frames := 1, cells := 0, slots := 0, locals := 20 }
set_option maxRecDepth 100000 in
theorem iX3_canPourOne_c0 : ∀ w ∈ wsX00, w ∈ wsX3_canPourOne := by decide +kernel
set_option maxRecDepth 100000 in
theorem iX3_canPourOne_c1 : ∀ w ∈ wsX10, w ∈ wsX3_canPourOne := by decide +kernel
set_option maxRecDepth 100000 in
theorem iX3_canPourOne_c3 : ∀ w ∈ wsX30, w ∈ wsX3_canPourOne := by decide +kernel
set_option maxRecDepth 100000 in
theorem wX3_canPourOne_0 : Cond.fieldLink RX3 19 "WineByYears" "now" "LWineByYears$Cellar;" ∈ wsX3_canPourOne := by decide +kernel
set_option maxRecDepth 100000 in
theorem wX3_canPourOne_1 : Cond.fieldLink RX3 72 "WineByYears$Cellar" "casks" "[LWineByYears$Cask;" ∈ wsX3_canPourOne := by decide +kernel
set_option maxRecDepth 100000 in
theorem wX3_canPourOne_2 : Cond.fieldLink RX3 80 "WineByYears$Cask" "litres" "I" ∈ wsX3_canPourOne := by decide +kernel
def fX3_canPourOne_40  (A : Me)  (t0 : Int32) : Option (Int32) := ck (zb t0) <| some t0
set_option maxRecDepth 100000 in
theorem tX3_canPourOne_40 {A B : Me}  {H : Heap} {locs : List Loc} {ls : Array Slot} {t0 : Int32} {rZ : Int32}  (C : Cx Γ p s m args meth c cX3_canPourOne 3 (some .boolean) RX3 wsX3_canPourOne)  (h : fX3_canPourOne_40 A t0 = some rZ)  (hW : Wd Γ A B s.heap H locs) (hl : lv_has ls 3 []) : W p l e rmX3_canPourOne s m args below meth c H locs 0 0 (MQ below (QI Γ A B rZ) args s 0 0 (rg Γ)) (F0 m 40 ls [.int t0]) := by
  unfold fX3_canPourOne_40 at h
  obtain ⟨hz, h⟩ := ck_s h
  cases h
  exact z_zret C hW hz dX3_canPourOne_40
def fX3_canPourOne_39  (A : Me)   : Option (Int32) := fX3_canPourOne_40 A 0
set_option maxRecDepth 100000 in
theorem tX3_canPourOne_39 {A B : Me}  {H : Heap} {locs : List Loc} {ls : Array Slot}  {rZ : Int32}  (C : Cx Γ p s m args meth c cX3_canPourOne 3 (some .boolean) RX3 wsX3_canPourOne)  (h : fX3_canPourOne_39 A = some rZ)  (hW : Wd Γ A B s.heap H locs) (hl : lv_has ls 3 []) : W p l e rmX3_canPourOne s m args below meth c H locs 0 0 (MQ below (QI Γ A B rZ) args s 0 0 (rg Γ)) (F0 m 39 ls []) := by
  unfold fX3_canPourOne_39 at h
  refine lv_iconst (v := 0) C.1 C.2.1 dX3_canPourOne_39 (by decide) ?_
  exact tX3_canPourOne_40 C  h  hW (lv_sub hl [] rfl)
def fX3_canPourOne  (A : Me)  (v1 : Int32) (v2 : Int32) : Option (Int32) := if v1 = v2 then (fX3_canPourOne_39 A) else (ck (inb v1 5) <| if (A (4 + 6 + 2 * v1.toNatClampNeg) 1) ≤ 0 then (fX3_canPourOne_39 A) else (ck (inb v2 5) <| bi (fX0_room A (4 + 6 + 2 * v2.toNatClampNeg)) fun r29 => if r29 ≤ 0 then (fX3_canPourOne_39 A) else (fX3_canPourOne_40 A 1)))
set_option maxRecDepth 100000 in
theorem tX3_canPourOne_0 {A B : Me}  {H : Heap} {locs : List Loc} {ls : Array Slot} {v1 : Int32} {v2 : Int32} {rZ : Int32}  (C : Cx Γ p s m args meth c cX3_canPourOne 3 (some .boolean) RX3 wsX3_canPourOne)  (h : fX3_canPourOne A v1 v2 = some rZ)  (hW : Wd Γ A B s.heap H locs) (hl : lv_has ls 3 [(0, .ref (Γ.2.2 0)), (1, .int v1), (2, .int v2)]) : W p l e rmX3_canPourOne s m args below meth c H locs 0 0 (MQ below (QI Γ A B rZ) args s 0 0 (rg Γ)) (F0 m 0 ls []) := by
  unfold fX3_canPourOne at h
  refine lv_iload_n C.1 C.2.1 dX3_canPourOne_0 rfl (lv_at hl 1 rfl) ?_
  refine lv_iload_n C.1 C.2.1 dX3_canPourOne_1 rfl (lv_at hl 2 rfl) ?_
  refine lv_icmp_eq (tgt := 39) C.1 C.2.1 dX3_canPourOne_2 (by decide) (fun c_2 => ?_) (fun c_2 => ?_)
  · have h := if_y h c_2
    exact tX3_canPourOne_39 C  h  hW (lv_sub hl [] rfl)
  · have h := if_n h c_2
    refine lv_aload_n C.1 C.2.1 dX3_canPourOne_5 rfl (lv_at hl 0 rfl) ?_
    refine gX3_1 C hW rfl iX3_canPourOne_c3 wX3_canPourOne_0 dX3_canPourOne_6 ?_
    refine gX1_0 C hW rfl iX3_canPourOne_c1 wX3_canPourOne_1 dX3_canPourOne_9 ?_
    refine lv_iload_n C.1 C.2.1 dX3_canPourOne_12 rfl (lv_at hl 1 rfl) ?_
    obtain ⟨hi13, h⟩ := ck_s h
    refine la7 C hW ⟨rfl, rfl⟩ hi13 dX3_canPourOne_13 ?_
    refine gX0_1 C hW (kd_7e (⟨rfl, rfl⟩ : kd 4 = 7 ∧ ln 4 = 5).1 (inb_s hi13) rfl) iX3_canPourOne_c0 wX3_canPourOne_2 dX3_canPourOne_14 ?_
    refine lv_if_le (tgt := 39) C.1 C.2.1 dX3_canPourOne_17 (by decide) (fun c_17 => ?_) (fun c_17 => ?_)
    · have h := if_y h c_17
      exact tX3_canPourOne_39 C  h  hW (lv_sub hl [] rfl)
    · have h := if_n h c_17
      refine lv_aload_n C.1 C.2.1 dX3_canPourOne_20 rfl (lv_at hl 0 rfl) ?_
      refine gX3_1 C hW rfl iX3_canPourOne_c3 wX3_canPourOne_0 dX3_canPourOne_21 ?_
      refine gX1_0 C hW rfl iX3_canPourOne_c1 wX3_canPourOne_1 dX3_canPourOne_24 ?_
      refine lv_iload_n C.1 C.2.1 dX3_canPourOne_27 rfl (lv_at hl 2 rfl) ?_
      obtain ⟨hi28, h⟩ := ck_s h
      refine la7 C hW ⟨rfl, rfl⟩ hi28 dX3_canPourOne_28 ?_
      obtain ⟨r29, hc29, h⟩ := bi_s h
      refine cVi C hW (As := []) (rest := []) (mt_X0_room (kd_7e (⟨rfl, rfl⟩ : kd 4 = 7 ∧ ln 4 = 5).1 (inb_s hi28) rfl) hc29) (cwV 0 C.2.2.2.2.2.1 gX3_canPourOne_X0_room rfl rfl rfl (by decide +kernel) ⟨Nat.le_of_ble_eq_true rfl, Nat.le_of_ble_eq_true rfl⟩) (rcv0 C hW (kd_7e (⟨rfl, rfl⟩ : kd 4 = 7 ∧ ln 4 = 5).1 (inb_s hi28) rfl)) rfl hl.1 rfl (Nat.le_of_ble_eq_true rfl) dX3_canPourOne_29 (Nat.zero_le _) (Nat.zero_le _) (fun H locs hW => ?_)
      refine lv_if_le (tgt := 39) C.1 C.2.1 dX3_canPourOne_32 (by decide) (fun c_32 => ?_) (fun c_32 => ?_)
      · have h := if_y h c_32
        exact tX3_canPourOne_39 C  h  hW (lv_sub hl [] rfl)
      · have h := if_n h c_32
        refine lv_iconst (v := 1) C.1 C.2.1 dX3_canPourOne_35 (by decide) ?_
        refine lv_goto (tgt := 40) C.1 C.2.1 dX3_canPourOne_36 (by decide) ?_
        exact tX3_canPourOne_40 C  h  hW (lv_sub hl [] rfl)
theorem mt_X3_canPourOne {l : Launch} {Γ : Gm} {A B : Me}  {v1 : Int32} {v2 : Int32} {rZ : Int32}  (h : fX3_canPourOne A v1 v2 = some rZ) : Met l yX3_canPourOne wsX3_canPourOne rmX3_canPourOne (PC Γ A B [.ref (Γ.2.2 0), .int v1, .int v2]) (QI Γ A B rZ) 0 0 (rg Γ) :=
  met_of (by decide) rfl (Nat.le_of_ble_eq_true rfl) (fun p e s m below meth c ls C hW hl => tX3_canPourOne_0 C  h  hW (lv_sub (l := [(0, .ref (Γ.2.2 0)), (1, .int v1), (2, .int v2)]) hl [0, 1, 2] rfl))
abbrev rmX3_whoMayAfter : Room := { frames := 3, cells := 0, slots := 0, locals := 68 }
set_option maxRecDepth 100000 in
theorem iX3_whoMayAfter_c1 : ∀ w ∈ wsX10, w ∈ wsX3_whoMayAfter := by decide +kernel
set_option maxRecDepth 100000 in
theorem iX3_whoMayAfter_c3 : ∀ w ∈ wsX30, w ∈ wsX3_whoMayAfter := by decide +kernel
set_option maxRecDepth 100000 in
theorem wX3_whoMayAfter_0 : Cond.fieldLink RX3 32 "WineByYears" "mixed" "LWineByYears$Cask;" ∈ wsX3_whoMayAfter := by decide +kernel
set_option maxRecDepth 100000 in
theorem wX3_whoMayAfter_1 : Cond.fieldLink RX3 19 "WineByYears" "now" "LWineByYears$Cellar;" ∈ wsX3_whoMayAfter := by decide +kernel
set_option maxRecDepth 100000 in
theorem wX3_whoMayAfter_2 : Cond.fieldLink RX3 72 "WineByYears$Cellar" "casks" "[LWineByYears$Cask;" ∈ wsX3_whoMayAfter := by decide +kernel
def fX3_whoMayAfter_54  (A : Me)   : Option (Int32 × Me) := bi (fX1_whoMay A 3 54) fun r62 => some (r62, A)
set_option maxRecDepth 100000 in
theorem tX3_whoMayAfter_54 {A B : Me}  {H : Heap} {locs : List Loc} {ls : Array Slot}  {rZ : Int32} {AZ : Me}  (C : Cx Γ p s m args meth c cX3_whoMayAfter 4 (some .int) RX3 wsX3_whoMayAfter)  (h : fX3_whoMayAfter_54 A = some (rZ, AZ))  (hW : Wd Γ A B s.heap H locs) (hl : lv_has ls 4 [(0, .ref (Γ.2.2 0))]) : W p l e rmX3_whoMayAfter s m args below meth c H locs 0 0 (MQ below (QI Γ AZ B rZ) args s 0 0 (rg Γ)) (F0 m 54 ls []) := by
  unfold fX3_whoMayAfter_54 at h
  refine lv_aload_n C.1 C.2.1 dX3_whoMayAfter_54 rfl (lv_at hl 0 rfl) ?_
  refine gX3_1 C hW rfl iX3_whoMayAfter_c3 wX3_whoMayAfter_1 dX3_whoMayAfter_55 ?_
  refine lv_aload_n C.1 C.2.1 dX3_whoMayAfter_58 rfl (lv_at hl 0 rfl) ?_
  refine gX3_4 C hW rfl iX3_whoMayAfter_c3 wX3_whoMayAfter_0 dX3_whoMayAfter_59 ?_
  obtain ⟨r62, hc62, h⟩ := bi_s h
  refine cVi C hW (As := [.ref (Γ.2.2 54)]) (rest := []) (mt_X1_whoMay rfl rfl hc62) (cwV 1 C.2.2.2.2.2.1 gX3_whoMayAfter_X1_whoMay rfl rfl rfl (by decide +kernel) ⟨Nat.le_of_ble_eq_true rfl, Nat.le_of_ble_eq_true rfl⟩) (rcv1 C hW (rfl : kd 3 = 1)) rfl hl.1 rfl (Nat.le_of_ble_eq_true rfl) dX3_whoMayAfter_62 (Nat.zero_le _) (Nat.zero_le _) (fun H locs hW => ?_)
  cases h
  exact z_iret C hW dX3_whoMayAfter_65
def fX3_whoMayAfter_29  (A : Me)  (v1 : Int32) (v2 : Int32) (v3 : Int32) : Option (Int32 × Me) := if v3 = v1 then (ck (inb v2 5) <| bi (fX0_latestYear A (4 + 6 + 2 * v2.toNatClampNeg)) fun r47 => bi (fX0_put A 54 r47 1) fun A51 => fX3_whoMayAfter_54 A51) else (fX3_whoMayAfter_54 A)
set_option maxRecDepth 100000 in
theorem tX3_whoMayAfter_29 {A B : Me}  {H : Heap} {locs : List Loc} {ls : Array Slot} {v1 : Int32} {v2 : Int32} {v3 : Int32} {rZ : Int32} {AZ : Me}  (C : Cx Γ p s m args meth c cX3_whoMayAfter 4 (some .int) RX3 wsX3_whoMayAfter)  (h : fX3_whoMayAfter_29 A v1 v2 v3 = some (rZ, AZ))  (hW : Wd Γ A B s.heap H locs) (hl : lv_has ls 4 [(0, .ref (Γ.2.2 0)), (1, .int v1), (2, .int v2), (3, .int v3)]) : W p l e rmX3_whoMayAfter s m args below meth c H locs 0 0 (MQ below (QI Γ AZ B rZ) args s 0 0 (rg Γ)) (F0 m 29 ls []) := by
  unfold fX3_whoMayAfter_29 at h
  refine lv_iload_n C.1 C.2.1 dX3_whoMayAfter_29 rfl (lv_at hl 3 rfl) ?_
  refine lv_iload_n C.1 C.2.1 dX3_whoMayAfter_30 rfl (lv_at hl 1 rfl) ?_
  refine lv_icmp_ne (tgt := 54) C.1 C.2.1 dX3_whoMayAfter_31 (by decide) (fun c_31 => ?_) (fun c_31 => ?_)
  · have h := if_n h c_31
    exact tX3_whoMayAfter_54 C  h  hW (lv_sub hl [0] rfl)
  · have h := if_y h c_31
    refine lv_aload_n C.1 C.2.1 dX3_whoMayAfter_34 rfl (lv_at hl 0 rfl) ?_
    refine gX3_4 C hW rfl iX3_whoMayAfter_c3 wX3_whoMayAfter_0 dX3_whoMayAfter_35 ?_
    refine lv_aload_n C.1 C.2.1 dX3_whoMayAfter_38 rfl (lv_at hl 0 rfl) ?_
    refine gX3_1 C hW rfl iX3_whoMayAfter_c3 wX3_whoMayAfter_1 dX3_whoMayAfter_39 ?_
    refine gX1_0 C hW rfl iX3_whoMayAfter_c1 wX3_whoMayAfter_2 dX3_whoMayAfter_42 ?_
    refine lv_iload_n C.1 C.2.1 dX3_whoMayAfter_45 rfl (lv_at hl 2 rfl) ?_
    obtain ⟨hi46, h⟩ := ck_s h
    refine la7 C hW ⟨rfl, rfl⟩ hi46 dX3_whoMayAfter_46 ?_
    obtain ⟨r47, hc47, h⟩ := bi_s h
    refine cVi C hW (As := []) (rest := [.ref (Γ.2.2 54)]) (mt_X0_latestYear (kd_7e (⟨rfl, rfl⟩ : kd 4 = 7 ∧ ln 4 = 5).1 (inb_s hi46) rfl) hc47) (cwV 0 C.2.2.2.2.2.1 gX3_whoMayAfter_X0_latestYear rfl rfl rfl (by decide +kernel) ⟨Nat.le_of_ble_eq_true rfl, Nat.le_of_ble_eq_true rfl⟩) (rcv0 C hW (kd_7e (⟨rfl, rfl⟩ : kd 4 = 7 ∧ ln 4 = 5).1 (inb_s hi46) rfl)) rfl hl.1 rfl (Nat.le_of_ble_eq_true rfl) dX3_whoMayAfter_47 (Nat.zero_le _) (Nat.zero_le _) (fun H locs hW => ?_)
    refine lv_iconst (v := 1) C.1 C.2.1 dX3_whoMayAfter_50 (by decide) ?_
    obtain ⟨A51, hc51, h⟩ := bi_s h
    refine cVv C hW (As := [.int r47, .int 1]) (rest := []) (mt_X0_put rfl hc51) (cwV 2 C.2.2.2.2.2.1 gX3_whoMayAfter_X0_put rfl rfl rfl (by decide +kernel) ⟨Nat.le_of_ble_eq_true rfl, Nat.le_of_ble_eq_true rfl⟩) (rcv0 C hW (rfl : kd 54 = 0)) rfl hl.1 rfl (Nat.le_of_ble_eq_true rfl) dX3_whoMayAfter_51 (Nat.zero_le _) (Nat.zero_le _) (fun H locs hW => ?_)
    exact tX3_whoMayAfter_54 C  h  hW (lv_sub hl [0] rfl)
def fX3_whoMayAfter  (A : Me)  (v1 : Int32) (v2 : Int32) (v3 : Int32) : Option (Int32 × Me) := ck (inb v1 5) <| bi (fX0_become A 54 (4 + 6 + 2 * v1.toNatClampNeg)) fun A13 => if v2 = v1 then (b2 (fX0_takeLatest A13 54) fun r25 A25 => fX3_whoMayAfter_29 A25 v1 v2 v3) else (fX3_whoMayAfter_29 A13 v1 v2 v3)
set_option maxRecDepth 100000 in
theorem tX3_whoMayAfter_0 {A B : Me}  {H : Heap} {locs : List Loc} {ls : Array Slot} {v1 : Int32} {v2 : Int32} {v3 : Int32} {rZ : Int32} {AZ : Me}  (C : Cx Γ p s m args meth c cX3_whoMayAfter 4 (some .int) RX3 wsX3_whoMayAfter)  (h : fX3_whoMayAfter A v1 v2 v3 = some (rZ, AZ))  (hW : Wd Γ A B s.heap H locs) (hl : lv_has ls 4 [(0, .ref (Γ.2.2 0)), (1, .int v1), (2, .int v2), (3, .int v3)]) : W p l e rmX3_whoMayAfter s m args below meth c H locs 0 0 (MQ below (QI Γ AZ B rZ) args s 0 0 (rg Γ)) (F0 m 0 ls []) := by
  unfold fX3_whoMayAfter at h
  refine lv_aload_n C.1 C.2.1 dX3_whoMayAfter_0 rfl (lv_at hl 0 rfl) ?_
  refine gX3_4 C hW rfl iX3_whoMayAfter_c3 wX3_whoMayAfter_0 dX3_whoMayAfter_1 ?_
  refine lv_aload_n C.1 C.2.1 dX3_whoMayAfter_4 rfl (lv_at hl 0 rfl) ?_
  refine gX3_1 C hW rfl iX3_whoMayAfter_c3 wX3_whoMayAfter_1 dX3_whoMayAfter_5 ?_
  refine gX1_0 C hW rfl iX3_whoMayAfter_c1 wX3_whoMayAfter_2 dX3_whoMayAfter_8 ?_
  refine lv_iload_n C.1 C.2.1 dX3_whoMayAfter_11 rfl (lv_at hl 1 rfl) ?_
  obtain ⟨hi12, h⟩ := ck_s h
  refine la7 C hW ⟨rfl, rfl⟩ hi12 dX3_whoMayAfter_12 ?_
  obtain ⟨A13, hc13, h⟩ := bi_s h
  refine cVv C hW (As := [.ref (Γ.2.2 (4 + 6 + 2 * v1.toNatClampNeg))]) (rest := []) (mt_X0_become rfl (kd_7e (⟨rfl, rfl⟩ : kd 4 = 7 ∧ ln 4 = 5).1 (inb_s hi12) rfl) hc13) (cwV 1 C.2.2.2.2.2.1 gX3_whoMayAfter_X0_become rfl rfl rfl (by decide +kernel) ⟨Nat.le_of_ble_eq_true rfl, Nat.le_of_ble_eq_true rfl⟩) (rcv0 C hW (rfl : kd 54 = 0)) rfl hl.1 rfl (Nat.le_of_ble_eq_true rfl) dX3_whoMayAfter_13 (Nat.zero_le _) (Nat.zero_le _) (fun H locs hW => ?_)
  refine lv_iload_n C.1 C.2.1 dX3_whoMayAfter_16 rfl (lv_at hl 2 rfl) ?_
  refine lv_iload_n C.1 C.2.1 dX3_whoMayAfter_17 rfl (lv_at hl 1 rfl) ?_
  refine lv_icmp_ne (tgt := 29) C.1 C.2.1 dX3_whoMayAfter_18 (by decide) (fun c_18 => ?_) (fun c_18 => ?_)
  · have h := if_n h c_18
    exact tX3_whoMayAfter_29 C  h  hW (lv_sub hl [0, 1, 2, 3] rfl)
  · have h := if_y h c_18
    refine lv_aload_n C.1 C.2.1 dX3_whoMayAfter_21 rfl (lv_at hl 0 rfl) ?_
    refine gX3_4 C hW rfl iX3_whoMayAfter_c3 wX3_whoMayAfter_0 dX3_whoMayAfter_22 ?_
    obtain ⟨r25, A25, hc25, h⟩ := b2_s h
    refine cVi C hW (As := []) (rest := []) (mt_X0_takeLatest rfl hc25) (cwV 0 C.2.2.2.2.2.1 gX3_whoMayAfter_X0_takeLatest rfl rfl rfl (by decide +kernel) ⟨Nat.le_of_ble_eq_true rfl, Nat.le_of_ble_eq_true rfl⟩) (rcv0 C hW (rfl : kd 54 = 0)) rfl hl.1 rfl (Nat.le_of_ble_eq_true rfl) dX3_whoMayAfter_25 (Nat.zero_le _) (Nat.zero_le _) (fun H locs hW => ?_)
    refine lv_pop C.1 C.2.1 dX3_whoMayAfter_28 rfl ?_
    exact tX3_whoMayAfter_29 C  h  hW (lv_sub hl [0, 1, 2, 3] rfl)
theorem mt_X3_whoMayAfter {l : Launch} {Γ : Gm} {A B : Me}  {v1 : Int32} {v2 : Int32} {v3 : Int32} {rZ : Int32} {AZ : Me}  (h : fX3_whoMayAfter A v1 v2 v3 = some (rZ, AZ)) : Met l yX3_whoMayAfter wsX3_whoMayAfter rmX3_whoMayAfter (PC Γ A B [.ref (Γ.2.2 0), .int v1, .int v2, .int v3]) (QI Γ AZ B rZ) 0 0 (rg Γ) :=
  met_of (by decide) rfl (Nat.le_of_ble_eq_true rfl) (fun p e s m below meth c ls C hW hl => tX3_whoMayAfter_0 C  h  hW (lv_sub (l := [(0, .ref (Γ.2.2 0)), (1, .int v1), (2, .int v2), (3, .int v3)]) hl [0, 1, 2, 3] rfl))
abbrev rmX3_topped : Room := { frames := 4, cells := 0, slots := 0, locals := 91 }
set_option maxRecDepth 100000 in
theorem iX3_topped_c1 : ∀ w ∈ wsX10, w ∈ wsX3_topped := by decide +kernel
set_option maxRecDepth 100000 in
theorem iX3_topped_c3 : ∀ w ∈ wsX30, w ∈ wsX3_topped := by decide +kernel
set_option maxRecDepth 100000 in
theorem wX3_topped_0 : Cond.fieldLink RX3 19 "WineByYears" "now" "LWineByYears$Cellar;" ∈ wsX3_topped := by decide +kernel
set_option maxRecDepth 100000 in
theorem wX3_topped_1 : Cond.fieldLink RX3 161 "WineByYears$Cellar" "caskCount" "I" ∈ wsX3_topped := by decide +kernel
def fX3_topped_32  (A : Me)   : Option (Int32 × Me) := some ((-102), A)
set_option maxRecDepth 100000 in
theorem tX3_topped_32 {A B : Me}  {H : Heap} {locs : List Loc} {ls : Array Slot}  {rZ : Int32} {AZ : Me}  (C : Cx Γ p s m args meth c cX3_topped 8 (some .int) RX3 wsX3_topped)  (h : fX3_topped_32 A = some (rZ, AZ))  (hW : Wd Γ A B s.heap H locs) (hl : lv_has ls 8 []) : W p l e rmX3_topped s m args below meth c H locs 0 0 (MQ below (QI Γ AZ B rZ) args s 0 0 (rg Γ)) (F0 m 32 ls []) := by
  unfold fX3_topped_32 at h
  refine lv_bipush (v := (-102)) C.1 C.2.1 dX3_topped_32 (by decide) ?_
  cases h
  exact z_iret C hW dX3_topped_34
def fX3_topped_117 (j44 : Me → Int32 → Int32 → Int32 → Int32 → Int32 → Int32 → Option (Int32 × Me)) (j59 : Me → Int32 → Int32 → Int32 → Int32 → Int32 → Int32 → Int32 → Option (Int32 × Me)) (A : Me)  (v1 : Int32) (v2 : Int32) (v3 : Int32) (v4 : Int32) (v5 : Int32) (v6 : Int32) (v7 : Int32) : Option (Int32 × Me) := j59 A v1 v2 v3 v4 v5 v6 (v7 + 1)
set_option maxRecDepth 100000 in
theorem tX3_topped_117 {A B : Me}  {H : Heap} {locs : List Loc} {ls : Array Slot} {v1 : Int32} {v2 : Int32} {v3 : Int32} {v4 : Int32} {v5 : Int32} {v6 : Int32} {v7 : Int32} {rZ : Int32} {AZ : Me} {j44 : Me → Int32 → Int32 → Int32 → Int32 → Int32 → Int32 → Option (Int32 × Me)} {j59 : Me → Int32 → Int32 → Int32 → Int32 → Int32 → Int32 → Int32 → Option (Int32 × Me)} (C : Cx Γ p s m args meth c cX3_topped 8 (some .int) RX3 wsX3_topped) (hr44 : ∀ (A : Me) (v1 : Int32) (v2 : Int32) (v3 : Int32) (v4 : Int32) (v5 : Int32) (v6 : Int32) (H : Heap) (locs : List Loc) (ls : Array Slot), j44 A v1 v2 v3 v4 v5 v6 = some (rZ, AZ) → Wd Γ A B s.heap H locs → lv_has ls 8 [(0, .ref (Γ.2.2 0)), (1, .int v1), (2, .int v2), (3, .int v3), (4, .int v4), (5, .int v5), (6, .int v6)] → W p l e rmX3_topped s m args below meth c H locs 0 0 (MQ below (QI Γ AZ B rZ) args s 0 0 (rg Γ)) (F0 m 44 ls [])) (hr59 : ∀ (A : Me) (v1 : Int32) (v2 : Int32) (v3 : Int32) (v4 : Int32) (v5 : Int32) (v6 : Int32) (v7 : Int32) (H : Heap) (locs : List Loc) (ls : Array Slot), j59 A v1 v2 v3 v4 v5 v6 v7 = some (rZ, AZ) → Wd Γ A B s.heap H locs → lv_has ls 8 [(0, .ref (Γ.2.2 0)), (1, .int v1), (2, .int v2), (3, .int v3), (4, .int v4), (5, .int v5), (6, .int v6), (7, .int v7)] → W p l e rmX3_topped s m args below meth c H locs 0 0 (MQ below (QI Γ AZ B rZ) args s 0 0 (rg Γ)) (F0 m 59 ls [])) (h : fX3_topped_117 j44 j59 A v1 v2 v3 v4 v5 v6 v7 = some (rZ, AZ))  (hW : Wd Γ A B s.heap H locs) (hl : lv_has ls 8 [(0, .ref (Γ.2.2 0)), (1, .int v1), (2, .int v2), (3, .int v3), (4, .int v4), (5, .int v5), (6, .int v6), (7, .int v7)]) : W p l e rmX3_topped s m args below meth c H locs 0 0 (MQ below (QI Γ AZ B rZ) args s 0 0 (rg Γ)) (F0 m 117 ls []) := by
  unfold fX3_topped_117 at h
  refine lv_iinc (v := (v7 + 1)) (lv' := [(7, .int (v7 + 1)), (0, .ref (Γ.2.2 0)), (1, .int v1), (2, .int v2), (3, .int v3), (4, .int v4), (5, .int v5), (6, .int v6)]) C.1 C.2.1 dX3_topped_117 hl (k := 7) rfl rfl (by decide) rfl (fun ls hl => ?_)
  refine lv_goto (tgt := 59) C.1 C.2.1 dX3_topped_120 (by decide) ?_
  exact hr59 _ _ _ _ _ _ _ _ _ _ _ h  hW (lv_sub hl [1, 2, 3, 4, 5, 6, 7, 0] rfl)
def fX3_topped_112 (j44 : Me → Int32 → Int32 → Int32 → Int32 → Int32 → Int32 → Option (Int32 × Me)) (j59 : Me → Int32 → Int32 → Int32 → Int32 → Int32 → Int32 → Int32 → Option (Int32 × Me)) (A : Me)  (v1 : Int32) (v2 : Int32) (v3 : Int32) (v4 : Int32) (v6 : Int32) (v7 : Int32) (t0 : Int32) : Option (Int32 × Me) := fX3_topped_117 j44 j59 A v1 v2 v3 (v4 + 1) t0 v6 v7
set_option maxRecDepth 100000 in
theorem tX3_topped_112 {A B : Me}  {H : Heap} {locs : List Loc} {ls : Array Slot} {v1 : Int32} {v2 : Int32} {v3 : Int32} {v4 : Int32} {v6 : Int32} {v7 : Int32} {t0 : Int32} {rZ : Int32} {AZ : Me} {j44 : Me → Int32 → Int32 → Int32 → Int32 → Int32 → Int32 → Option (Int32 × Me)} {j59 : Me → Int32 → Int32 → Int32 → Int32 → Int32 → Int32 → Int32 → Option (Int32 × Me)} (C : Cx Γ p s m args meth c cX3_topped 8 (some .int) RX3 wsX3_topped) (hr44 : ∀ (A : Me) (v1 : Int32) (v2 : Int32) (v3 : Int32) (v4 : Int32) (v5 : Int32) (v6 : Int32) (H : Heap) (locs : List Loc) (ls : Array Slot), j44 A v1 v2 v3 v4 v5 v6 = some (rZ, AZ) → Wd Γ A B s.heap H locs → lv_has ls 8 [(0, .ref (Γ.2.2 0)), (1, .int v1), (2, .int v2), (3, .int v3), (4, .int v4), (5, .int v5), (6, .int v6)] → W p l e rmX3_topped s m args below meth c H locs 0 0 (MQ below (QI Γ AZ B rZ) args s 0 0 (rg Γ)) (F0 m 44 ls [])) (hr59 : ∀ (A : Me) (v1 : Int32) (v2 : Int32) (v3 : Int32) (v4 : Int32) (v5 : Int32) (v6 : Int32) (v7 : Int32) (H : Heap) (locs : List Loc) (ls : Array Slot), j59 A v1 v2 v3 v4 v5 v6 v7 = some (rZ, AZ) → Wd Γ A B s.heap H locs → lv_has ls 8 [(0, .ref (Γ.2.2 0)), (1, .int v1), (2, .int v2), (3, .int v3), (4, .int v4), (5, .int v5), (6, .int v6), (7, .int v7)] → W p l e rmX3_topped s m args below meth c H locs 0 0 (MQ below (QI Γ AZ B rZ) args s 0 0 (rg Γ)) (F0 m 59 ls [])) (h : fX3_topped_112 j44 j59 A v1 v2 v3 v4 v6 v7 t0 = some (rZ, AZ))  (hW : Wd Γ A B s.heap H locs) (hl : lv_has ls 8 [(0, .ref (Γ.2.2 0)), (1, .int v1), (2, .int v2), (3, .int v3), (4, .int v4), (6, .int v6), (7, .int v7)]) : W p l e rmX3_topped s m args below meth c H locs 0 0 (MQ below (QI Γ AZ B rZ) args s 0 0 (rg Γ)) (F0 m 112 ls [.int t0]) := by
  unfold fX3_topped_112 at h
  refine lv_istore (lv' := [(5, .int t0), (0, .ref (Γ.2.2 0)), (1, .int v1), (2, .int v2), (3, .int v3), (4, .int v4), (6, .int v6), (7, .int v7)]) C.1 C.2.1 dX3_topped_112 hl (by decide) rfl (fun ls hl => ?_)
  refine lv_iinc (v := (v4 + 1)) (lv' := [(4, .int (v4 + 1)), (5, .int t0), (0, .ref (Γ.2.2 0)), (1, .int v1), (2, .int v2), (3, .int v3), (6, .int v6), (7, .int v7)]) C.1 C.2.1 dX3_topped_114 hl (k := 5) rfl rfl (by decide) rfl (fun ls hl => ?_)
  exact tX3_topped_117 C hr44 hr59 h  hW (lv_sub hl [2, 3, 4, 5, 0, 1, 6, 7] rfl)
def fX3_topped_59 (j44 : Me → Int32 → Int32 → Int32 → Int32 → Int32 → Int32 → Option (Int32 × Me))  : Nat → Me → Int32 → Int32 → Int32 → Int32 → Int32 → Int32 → Int32 → Option (Int32 × Me)
  | 0, _, _, _, _, _, _, _, _ => none
  | n + 1, A, v1, v2, v3, v4, v5, v6, v7 => if (A 3 7) ≤ v7 then (j44 A v1 v2 v3 v4 v5 (v6 + 1)) else (bi (fX3_canPourOne A v6 v7) fun r76 => if r76 = 0 then (fX3_topped_117 j44 (fun m x0 x1 x2 x3 x4 x5 x6 => fX3_topped_59 j44 n m x0 x1 x2 x3 x4 x5 x6) A v1 v2 v3 v4 v5 v6 v7) else (b2 (fX3_whoMayAfter A v1 v6 v7) fun r88 A88 => if r88 = v2 then (if v4 = 0 then (fX3_topped_112 j44 (fun m x0 x1 x2 x3 x4 x5 x6 => fX3_topped_59 j44 n m x0 x1 x2 x3 x4 x5 x6) A88 v1 v2 v3 v4 v6 v7 ((5 * v6) + v7)) else (fX3_topped_112 j44 (fun m x0 x1 x2 x3 x4 x5 x6 => fX3_topped_59 j44 n m x0 x1 x2 x3 x4 x5 x6) A88 v1 v2 v3 v4 v6 v7 v5)) else (fX3_topped_117 j44 (fun m x0 x1 x2 x3 x4 x5 x6 => fX3_topped_59 j44 n m x0 x1 x2 x3 x4 x5 x6) A88 v1 v2 v3 v4 v5 v6 v7)))
set_option maxRecDepth 100000 in
theorem tX3_topped_59 {B : Me}  {rZ : Int32} {AZ : Me} {j44 : Me → Int32 → Int32 → Int32 → Int32 → Int32 → Int32 → Option (Int32 × Me)} (C : Cx Γ p s m args meth c cX3_topped 8 (some .int) RX3 wsX3_topped) (hr44 : ∀ (A : Me) (v1 : Int32) (v2 : Int32) (v3 : Int32) (v4 : Int32) (v5 : Int32) (v6 : Int32) (H : Heap) (locs : List Loc) (ls : Array Slot), j44 A v1 v2 v3 v4 v5 v6 = some (rZ, AZ) → Wd Γ A B s.heap H locs → lv_has ls 8 [(0, .ref (Γ.2.2 0)), (1, .int v1), (2, .int v2), (3, .int v3), (4, .int v4), (5, .int v5), (6, .int v6)] → W p l e rmX3_topped s m args below meth c H locs 0 0 (MQ below (QI Γ AZ B rZ) args s 0 0 (rg Γ)) (F0 m 44 ls [])) (n : Nat) : ∀ (A : Me) (v1 : Int32) (v2 : Int32) (v3 : Int32) (v4 : Int32) (v5 : Int32) (v6 : Int32) (v7 : Int32) (H : Heap) (locs : List Loc) (ls : Array Slot), fX3_topped_59 j44 n A v1 v2 v3 v4 v5 v6 v7 = some (rZ, AZ) → Wd Γ A B s.heap H locs → lv_has ls 8 [(0, .ref (Γ.2.2 0)), (1, .int v1), (2, .int v2), (3, .int v3), (4, .int v4), (5, .int v5), (6, .int v6), (7, .int v7)] → W p l e rmX3_topped s m args below meth c H locs 0 0 (MQ below (QI Γ AZ B rZ) args s 0 0 (rg Γ)) (F0 m 59 ls []) := by
  induction n with
  | zero =>
    intro _ _ _ _ _ _ _ _ H locs ls h
    exact nomatch (show (none : Option (Int32 × Me)) = some (rZ, AZ) from h)
  | succ n ih =>
    intro A v1 v2 v3 v4 v5 v6 v7 H locs ls h  hW hl
    rw [fX3_topped_59] at h
    refine lv_iload C.1 C.2.1 dX3_topped_59 (lv_at hl 7 rfl) ?_
    refine lv_aload_n C.1 C.2.1 dX3_topped_61 rfl (lv_at hl 0 rfl) ?_
    refine gX3_1 C hW rfl iX3_topped_c3 wX3_topped_0 dX3_topped_62 ?_
    refine gX1_7 C hW rfl iX3_topped_c1 wX3_topped_1 dX3_topped_65 ?_
    refine lv_icmp_ge (tgt := 123) C.1 C.2.1 dX3_topped_68 (by decide) (fun c_68 => ?_) (fun c_68 => ?_)
    · have h := if_y h c_68
      refine lv_iinc (v := (v6 + 1)) (lv' := [(6, .int (v6 + 1)), (0, .ref (Γ.2.2 0)), (1, .int v1), (2, .int v2), (3, .int v3), (4, .int v4), (5, .int v5), (7, .int v7)]) C.1 C.2.1 dX3_topped_123 hl (k := 6) rfl rfl (by decide) rfl (fun ls hl => ?_)
      refine lv_goto (tgt := 44) C.1 C.2.1 dX3_topped_126 (by decide) ?_
      exact hr44 _ _ _ _ _ _ _ _ _ _ h  hW (lv_sub hl [1, 2, 3, 4, 5, 6, 0] rfl)
    · have h := if_n h c_68
      refine lv_aload_n C.1 C.2.1 dX3_topped_71 rfl (lv_at hl 0 rfl) ?_
      refine lv_iload C.1 C.2.1 dX3_topped_72 (lv_at hl 6 rfl) ?_
      refine lv_iload C.1 C.2.1 dX3_topped_74 (lv_at hl 7 rfl) ?_
      obtain ⟨r76, hc76, h⟩ := bi_s h
      refine cVi C hW (As := [.int v6, .int v7]) (rest := []) (mt_X3_canPourOne  hc76) (cwV 2 C.2.2.2.2.2.1 gX3_topped_X3_canPourOne rfl rfl rfl (by decide +kernel) ⟨Nat.le_of_ble_eq_true rfl, Nat.le_of_ble_eq_true rfl⟩) (rcv3 C hW (rfl : kd 0 = 3)) rfl hl.1 rfl (Nat.le_of_ble_eq_true rfl) dX3_topped_76 (Nat.zero_le _) (Nat.zero_le _) (fun H locs hW => ?_)
      refine lv_if_eq (tgt := 117) C.1 C.2.1 dX3_topped_79 (by decide) (fun c_79 => ?_) (fun c_79 => ?_)
      · have h := if_y h c_79
        exact tX3_topped_117 C hr44 ih h  hW (lv_sub hl [0, 1, 2, 3, 4, 5, 6, 7] rfl)
      · have h := if_n h c_79
        refine lv_aload_n C.1 C.2.1 dX3_topped_82 rfl (lv_at hl 0 rfl) ?_
        refine lv_iload_n C.1 C.2.1 dX3_topped_83 rfl (lv_at hl 1 rfl) ?_
        refine lv_iload C.1 C.2.1 dX3_topped_84 (lv_at hl 6 rfl) ?_
        refine lv_iload C.1 C.2.1 dX3_topped_86 (lv_at hl 7 rfl) ?_
        obtain ⟨r88, A88, hc88, h⟩ := b2_s h
        refine cVi C hW (As := [.int v1, .int v6, .int v7]) (rest := []) (mt_X3_whoMayAfter  hc88) (cwV 3 C.2.2.2.2.2.1 gX3_topped_X3_whoMayAfter rfl rfl rfl (by decide +kernel) ⟨Nat.le_of_ble_eq_true rfl, Nat.le_of_ble_eq_true rfl⟩) (rcv3 C hW (rfl : kd 0 = 3)) rfl hl.1 rfl (Nat.le_of_ble_eq_true rfl) dX3_topped_88 (Nat.zero_le _) (Nat.zero_le _) (fun H locs hW => ?_)
        refine lv_iload_n C.1 C.2.1 dX3_topped_91 rfl (lv_at hl 2 rfl) ?_
        refine lv_icmp_ne (tgt := 117) C.1 C.2.1 dX3_topped_92 (by decide) (fun c_92 => ?_) (fun c_92 => ?_)
        · have h := if_n h c_92
          exact tX3_topped_117 C hr44 ih h  hW (lv_sub hl [0, 1, 2, 3, 4, 5, 6, 7] rfl)
        · have h := if_y h c_92
          refine lv_iload C.1 C.2.1 dX3_topped_95 (lv_at hl 4 rfl) ?_
          refine lv_if_ne (tgt := 110) C.1 C.2.1 dX3_topped_97 (by decide) (fun c_97 => ?_) (fun c_97 => ?_)
          · have h := if_n h c_97
            refine lv_iload C.1 C.2.1 dX3_topped_110 (lv_at hl 5 rfl) ?_
            exact tX3_topped_112 C hr44 ih h  hW (lv_sub hl [0, 1, 2, 3, 4, 6, 7] rfl)
          · have h := if_y h c_97
            refine lv_iconst (v := 5) C.1 C.2.1 dX3_topped_100 (by decide) ?_
            refine lv_iload C.1 C.2.1 dX3_topped_101 (lv_at hl 6 rfl) ?_
            refine lv_imul C.1 C.2.1 dX3_topped_103 ?_
            refine lv_iload C.1 C.2.1 dX3_topped_104 (lv_at hl 7 rfl) ?_
            refine lv_iadd C.1 C.2.1 dX3_topped_106 ?_
            refine lv_goto (tgt := 112) C.1 C.2.1 dX3_topped_107 (by decide) ?_
            exact tX3_topped_112 C hr44 ih h  hW (lv_sub hl [0, 1, 2, 3, 4, 6, 7] rfl)
def fX3_topped_140  (A : Me)  (t0 : Int32) : Option (Int32 × Me) := some (t0, A)
set_option maxRecDepth 100000 in
theorem tX3_topped_140 {A B : Me}  {H : Heap} {locs : List Loc} {ls : Array Slot} {t0 : Int32} {rZ : Int32} {AZ : Me}  (C : Cx Γ p s m args meth c cX3_topped 8 (some .int) RX3 wsX3_topped)  (h : fX3_topped_140 A t0 = some (rZ, AZ))  (hW : Wd Γ A B s.heap H locs) (hl : lv_has ls 8 []) : W p l e rmX3_topped s m args below meth c H locs 0 0 (MQ below (QI Γ AZ B rZ) args s 0 0 (rg Γ)) (F0 m 140 ls [.int t0]) := by
  unfold fX3_topped_140 at h
  cases h
  exact z_iret C hW dX3_topped_140
def fX3_topped_44   : Nat → Me → Int32 → Int32 → Int32 → Int32 → Int32 → Int32 → Option (Int32 × Me)
  | 0, _, _, _, _, _, _, _ => none
  | n + 1, A, v1, v2, v3, v4, v5, v6 => if (A 3 7) ≤ v6 then (if v3 = 0 then (fX3_topped_140 A v4) else (fX3_topped_140 A v5)) else (fX3_topped_59 (fun m x0 x1 x2 x3 x4 x5 => fX3_topped_44 n m x0 x1 x2 x3 x4 x5) FU A v1 v2 v3 v4 v5 v6 0)
set_option maxRecDepth 100000 in
theorem tX3_topped_44 {B : Me}  {rZ : Int32} {AZ : Me}  (C : Cx Γ p s m args meth c cX3_topped 8 (some .int) RX3 wsX3_topped)  (n : Nat) : ∀ (A : Me) (v1 : Int32) (v2 : Int32) (v3 : Int32) (v4 : Int32) (v5 : Int32) (v6 : Int32) (H : Heap) (locs : List Loc) (ls : Array Slot), fX3_topped_44 n A v1 v2 v3 v4 v5 v6 = some (rZ, AZ) → Wd Γ A B s.heap H locs → lv_has ls 8 [(0, .ref (Γ.2.2 0)), (1, .int v1), (2, .int v2), (3, .int v3), (4, .int v4), (5, .int v5), (6, .int v6)] → W p l e rmX3_topped s m args below meth c H locs 0 0 (MQ below (QI Γ AZ B rZ) args s 0 0 (rg Γ)) (F0 m 44 ls []) := by
  induction n with
  | zero =>
    intro _ _ _ _ _ _ _ H locs ls h
    exact nomatch (show (none : Option (Int32 × Me)) = some (rZ, AZ) from h)
  | succ n ih =>
    intro A v1 v2 v3 v4 v5 v6 H locs ls h  hW hl
    rw [fX3_topped_44] at h
    refine lv_iload C.1 C.2.1 dX3_topped_44 (lv_at hl 6 rfl) ?_
    refine lv_aload_n C.1 C.2.1 dX3_topped_46 rfl (lv_at hl 0 rfl) ?_
    refine gX3_1 C hW rfl iX3_topped_c3 wX3_topped_0 dX3_topped_47 ?_
    refine gX1_7 C hW rfl iX3_topped_c1 wX3_topped_1 dX3_topped_50 ?_
    refine lv_icmp_ge (tgt := 129) C.1 C.2.1 dX3_topped_53 (by decide) (fun c_53 => ?_) (fun c_53 => ?_)
    · have h := if_y h c_53
      refine lv_iload_n C.1 C.2.1 dX3_topped_129 rfl (lv_at hl 3 rfl) ?_
      refine lv_if_ne (tgt := 138) C.1 C.2.1 dX3_topped_130 (by decide) (fun c_130 => ?_) (fun c_130 => ?_)
      · have h := if_n h c_130
        refine lv_iload C.1 C.2.1 dX3_topped_138 (lv_at hl 5 rfl) ?_
        exact tX3_topped_140 C  h  hW (lv_sub hl [] rfl)
      · have h := if_y h c_130
        refine lv_iload C.1 C.2.1 dX3_topped_133 (lv_at hl 4 rfl) ?_
        refine lv_goto (tgt := 140) C.1 C.2.1 dX3_topped_135 (by decide) ?_
        exact tX3_topped_140 C  h  hW (lv_sub hl [] rfl)
    · have h := if_n h c_53
      refine lv_iconst (v := 0) C.1 C.2.1 dX3_topped_56 (by decide) ?_
      refine lv_istore (lv' := [(7, .int 0), (0, .ref (Γ.2.2 0)), (1, .int v1), (2, .int v2), (3, .int v3), (4, .int v4), (5, .int v5), (6, .int v6)]) C.1 C.2.1 dX3_topped_57 hl (by decide) rfl (fun ls hl => ?_)
      exact tX3_topped_59 C ih FU _ _ _ _ _ _ _ _ _ _ _ h  hW (lv_sub hl [1, 2, 3, 4, 5, 6, 7, 0] rfl)
def fX3_topped  (A : Me)  (v1 : Int32) (v2 : Int32) (v3 : Int32) : Option (Int32 × Me) := bi (fX1_hasCask A 3 v1) fun r5 => if r5 = 0 then (some ((-101), A)) else (bi (fX1_arePeople A 3 v2) fun r19 => if r19 = 0 then (fX3_topped_32 A) else (bi (fX3_isZeroOrOne v3) fun r26 => if r26 = 0 then (fX3_topped_32 A) else (fX3_topped_44 FU A v1 v2 v3 0 (-1) 0)))
set_option maxRecDepth 100000 in
theorem tX3_topped_0 {A B : Me}  {H : Heap} {locs : List Loc} {ls : Array Slot} {v1 : Int32} {v2 : Int32} {v3 : Int32} {rZ : Int32} {AZ : Me}  (C : Cx Γ p s m args meth c cX3_topped 8 (some .int) RX3 wsX3_topped)  (h : fX3_topped A v1 v2 v3 = some (rZ, AZ))  (hW : Wd Γ A B s.heap H locs) (hl : lv_has ls 8 [(0, .ref (Γ.2.2 0)), (1, .int v1), (2, .int v2), (3, .int v3)]) : W p l e rmX3_topped s m args below meth c H locs 0 0 (MQ below (QI Γ AZ B rZ) args s 0 0 (rg Γ)) (F0 m 0 ls []) := by
  unfold fX3_topped at h
  refine lv_aload_n C.1 C.2.1 dX3_topped_0 rfl (lv_at hl 0 rfl) ?_
  refine gX3_1 C hW rfl iX3_topped_c3 wX3_topped_0 dX3_topped_1 ?_
  refine lv_iload_n C.1 C.2.1 dX3_topped_4 rfl (lv_at hl 1 rfl) ?_
  obtain ⟨r5, hc5, h⟩ := bi_s h
  refine cVi C hW (As := [.int v1]) (rest := []) (mt_X1_hasCask rfl hc5) (cwV 1 C.2.2.2.2.2.1 gX3_topped_X1_hasCask rfl rfl rfl (by decide +kernel) ⟨Nat.le_of_ble_eq_true rfl, Nat.le_of_ble_eq_true rfl⟩) (rcv1 C hW (rfl : kd 3 = 1)) rfl hl.1 rfl (Nat.le_of_ble_eq_true rfl) dX3_topped_5 (Nat.zero_le _) (Nat.zero_le _) (fun H locs hW => ?_)
  refine lv_if_ne (tgt := 14) C.1 C.2.1 dX3_topped_8 (by decide) (fun c_8 => ?_) (fun c_8 => ?_)
  · have h := if_n h c_8
    refine lv_aload_n C.1 C.2.1 dX3_topped_14 rfl (lv_at hl 0 rfl) ?_
    refine gX3_1 C hW rfl iX3_topped_c3 wX3_topped_0 dX3_topped_15 ?_
    refine lv_iload_n C.1 C.2.1 dX3_topped_18 rfl (lv_at hl 2 rfl) ?_
    obtain ⟨r19, hc19, h⟩ := bi_s h
    refine cVi C hW (As := [.int v2]) (rest := []) (mt_X1_arePeople rfl hc19) (cwV 1 C.2.2.2.2.2.1 gX3_topped_X1_arePeople rfl rfl rfl (by decide +kernel) ⟨Nat.le_of_ble_eq_true rfl, Nat.le_of_ble_eq_true rfl⟩) (rcv1 C hW (rfl : kd 3 = 1)) rfl hl.1 rfl (Nat.le_of_ble_eq_true rfl) dX3_topped_19 (Nat.zero_le _) (Nat.zero_le _) (fun H locs hW => ?_)
    refine lv_if_eq (tgt := 32) C.1 C.2.1 dX3_topped_22 (by decide) (fun c_22 => ?_) (fun c_22 => ?_)
    · have h := if_y h c_22
      exact tX3_topped_32 C  h  hW (lv_sub hl [] rfl)
    · have h := if_n h c_22
      refine lv_iload_n C.1 C.2.1 dX3_topped_25 rfl (lv_at hl 3 rfl) ?_
      obtain ⟨r26, hc26, h⟩ := bi_s h
      refine cSi C hW (As := [.int v3]) (rest := []) (mt_X3_isZeroOrOne  hc26) (va_cwS 1 C.2.2.2.2.2.1 gX3_topped_X3_isZeroOrOne rfl rfl rfl (by decide +kernel) ⟨Nat.le_of_ble_eq_true rfl, Nat.le_of_ble_eq_true rfl⟩) rfl hl.1 rfl (Nat.le_of_ble_eq_true rfl) dX3_topped_26 (Nat.zero_le _) (Nat.zero_le _) (fun H locs hW => ?_)
      refine lv_if_ne (tgt := 35) C.1 C.2.1 dX3_topped_29 (by decide) (fun c_29 => ?_) (fun c_29 => ?_)
      · have h := if_n h c_29
        refine lv_iconst (v := 0) C.1 C.2.1 dX3_topped_35 (by decide) ?_
        refine lv_istore (lv' := [(4, .int 0), (0, .ref (Γ.2.2 0)), (1, .int v1), (2, .int v2), (3, .int v3)]) C.1 C.2.1 dX3_topped_36 hl (by decide) rfl (fun ls hl => ?_)
        refine lv_iconst (v := (-1)) C.1 C.2.1 dX3_topped_38 (by decide) ?_
        refine lv_istore (lv' := [(5, .int (-1)), (4, .int 0), (0, .ref (Γ.2.2 0)), (1, .int v1), (2, .int v2), (3, .int v3)]) C.1 C.2.1 dX3_topped_39 hl (by decide) rfl (fun ls hl => ?_)
        refine lv_iconst (v := 0) C.1 C.2.1 dX3_topped_41 (by decide) ?_
        refine lv_istore (lv' := [(6, .int 0), (5, .int (-1)), (4, .int 0), (0, .ref (Γ.2.2 0)), (1, .int v1), (2, .int v2), (3, .int v3)]) C.1 C.2.1 dX3_topped_42 hl (by decide) rfl (fun ls hl => ?_)
        exact tX3_topped_44 C  FU _ _ _ _ _ _ _ _ _ _ h  hW (lv_sub hl [3, 4, 5, 6, 2, 1, 0] rfl)
      · have h := if_y h c_29
        exact tX3_topped_32 C  h  hW (lv_sub hl [] rfl)
  · have h := if_y h c_8
    refine lv_bipush (v := (-101)) C.1 C.2.1 dX3_topped_11 (by decide) ?_
    cases h
    exact z_iret C hW dX3_topped_13
theorem mt_X3_topped {l : Launch} {Γ : Gm} {A B : Me}  {v1 : Int32} {v2 : Int32} {v3 : Int32} {rZ : Int32} {AZ : Me}  (h : fX3_topped A v1 v2 v3 = some (rZ, AZ)) : Met l yX3_topped wsX3_topped rmX3_topped (PC Γ A B [.ref (Γ.2.2 0), .int v1, .int v2, .int v3]) (QI Γ AZ B rZ) 0 0 (rg Γ) :=
  met_of (by decide) rfl (Nat.le_of_ble_eq_true rfl) (fun p e s m below meth c ls C hW hl => tX3_topped_0 C  h  hW (lv_sub (l := [(0, .ref (Γ.2.2 0)), (1, .int v1), (2, .int v2), (3, .int v3)]) hl [0, 1, 2, 3] rfl))
abbrev rmX3_draw : Room := { frames := 0, cells := 0, slots := 0, locals := 0 }
set_option maxRecDepth 100000 in
theorem wX3_draw_0 : Cond.constant RX3 267 (65536) ∈ wsX3_draw := by decide +kernel
def fX3_draw_15    (t0 : Int32) : Option (Int32) := some t0
set_option maxRecDepth 100000 in
theorem tX3_draw_15 {A B : Me}  {H : Heap} {locs : List Loc} {ls : Array Slot} {t0 : Int32} {rZ : Int32}  (C : Cx Γ p s m args meth c cX3_draw 2 (some .int) RX3 wsX3_draw)  (h : fX3_draw_15 t0 = some rZ)  (hW : Wd Γ A B s.heap H locs) (hl : lv_has ls 2 []) : W p l e rmX3_draw s m args below meth c H locs 0 0 (MQ below (QI Γ A B rZ) args s 0 0 (rg Γ)) (F0 m 15 ls [.int t0]) := by
  unfold fX3_draw_15 at h
  cases h
  exact z_iret C hW dX3_draw_15
def fX3_draw    (v0 : Int32) (v1 : Int32) : Option (Int32) := if 0 < v1 then (ck (nz v1) <| fX3_draw_15 ((v0 / 65536) - (v0 / 65536) / v1 * v1)) else (fX3_draw_15 0)
set_option maxRecDepth 100000 in
theorem tX3_draw_0 {A B : Me}  {H : Heap} {locs : List Loc} {ls : Array Slot} {v0 : Int32} {v1 : Int32} {rZ : Int32}  (C : Cx Γ p s m args meth c cX3_draw 2 (some .int) RX3 wsX3_draw)  (h : fX3_draw v0 v1 = some rZ)  (hW : Wd Γ A B s.heap H locs) (hl : lv_has ls 2 [(0, .int v0), (1, .int v1)]) : W p l e rmX3_draw s m args below meth c H locs 0 0 (MQ below (QI Γ A B rZ) args s 0 0 (rg Γ)) (F0 m 0 ls []) := by
  unfold fX3_draw at h
  refine lv_iload_n C.1 C.2.1 dX3_draw_0 rfl (lv_at hl 1 rfl) ?_
  refine lv_if_gt (tgt := 8) C.1 C.2.1 dX3_draw_1 (by decide) (fun c_1 => ?_) (fun c_1 => ?_)
  · have h := if_y h c_1
    refine lv_iload_n C.1 C.2.1 dX3_draw_8 rfl (lv_at hl 0 rfl) ?_
    refine lv_ldcw (v := 65536) C.1 C.2.1 C.2.2.2.2.1 (C.2.2.2.2.2.1 _ wX3_draw_0) dX3_draw_9 ?_
    refine lv_idiv C.1 C.2.1 dX3_draw_12 (by decide) ?_
    refine lv_iload_n C.1 C.2.1 dX3_draw_13 rfl (lv_at hl 1 rfl) ?_
    obtain ⟨hz, h⟩ := ck_s h
    refine lv_irem C.1 C.2.1 dX3_draw_14 (nz_s hz) ?_
    exact tX3_draw_15 C  h  hW (lv_sub hl [] rfl)
  · have h := if_n h c_1
    refine lv_iconst (v := 0) C.1 C.2.1 dX3_draw_4 (by decide) ?_
    refine lv_goto (tgt := 15) C.1 C.2.1 dX3_draw_5 (by decide) ?_
    exact tX3_draw_15 C  h  hW (lv_sub hl [] rfl)
theorem mt_X3_draw {l : Launch} {Γ : Gm} {A B : Me}  {v0 : Int32} {v1 : Int32} {rZ : Int32}  (h : fX3_draw v0 v1 = some rZ) : Met l yX3_draw wsX3_draw rmX3_draw (PC Γ A B [.int v0, .int v1]) (QI Γ A B rZ) 0 0 (rg Γ) :=
  met_of (by decide) rfl (Nat.le_of_ble_eq_true rfl) (fun p e s m below meth c ls C hW hl => tX3_draw_0 C  h  hW (lv_sub (l := [(0, .int v0), (1, .int v1)]) hl [0, 1] rfl))
abbrev rmX3_nextSeed : Room := { frames := 0, cells := 0, slots := 0, locals := 0 }
set_option maxRecDepth 100000 in
theorem wX3_nextSeed_0 : Cond.constantLong RX3 261 (1103515245) ∈ wsX3_nextSeed := by decide +kernel
set_option maxRecDepth 100000 in
theorem wX3_nextSeed_1 : Cond.constantLong RX3 263 (12345) ∈ wsX3_nextSeed := by decide +kernel
set_option maxRecDepth 100000 in
theorem wX3_nextSeed_2 : Cond.constantLong RX3 265 (2147483647) ∈ wsX3_nextSeed := by decide +kernel
def fX3_nextSeed    (v0 : Int32) : Option (Int32) := some (((((1103515245 : Int64) * v0.toInt64) + (12345 : Int64)) &&& (2147483647 : Int64)).toInt32)
set_option maxRecDepth 100000 in
theorem tX3_nextSeed_0 {A B : Me}  {H : Heap} {locs : List Loc} {ls : Array Slot} {v0 : Int32} {rZ : Int32}  (C : Cx Γ p s m args meth c cX3_nextSeed 1 (some .int) RX3 wsX3_nextSeed)  (h : fX3_nextSeed v0 = some rZ)  (hW : Wd Γ A B s.heap H locs) (hl : lv_has ls 1 [(0, .int v0)]) : W p l e rmX3_nextSeed s m args below meth c H locs 0 0 (MQ below (QI Γ A B rZ) args s 0 0 (rg Γ)) (F0 m 0 ls []) := by
  unfold fX3_nextSeed at h
  refine lv_ldc2 (v := 1103515245) C.1 C.2.1 C.2.2.2.2.1 (C.2.2.2.2.2.1 _ wX3_nextSeed_0) dX3_nextSeed_0 ?_
  refine lv_iload_n C.1 C.2.1 dX3_nextSeed_3 rfl (lv_at hl 0 rfl) ?_
  refine lv_i2l C.1 C.2.1 dX3_nextSeed_4 rfl ?_
  refine lv_lmul C.1 C.2.1 dX3_nextSeed_5 ?_
  refine lv_ldc2 (v := 12345) C.1 C.2.1 C.2.2.2.2.1 (C.2.2.2.2.2.1 _ wX3_nextSeed_1) dX3_nextSeed_6 ?_
  refine lv_ladd C.1 C.2.1 dX3_nextSeed_9 ?_
  refine lv_ldc2 (v := 2147483647) C.1 C.2.1 C.2.2.2.2.1 (C.2.2.2.2.2.1 _ wX3_nextSeed_2) dX3_nextSeed_10 ?_
  refine lv_land C.1 C.2.1 dX3_nextSeed_13 ?_
  refine lv_l2i C.1 C.2.1 dX3_nextSeed_14 rfl ?_
  cases h
  exact z_iret C hW dX3_nextSeed_15
theorem mt_X3_nextSeed {l : Launch} {Γ : Gm} {A B : Me}  {v0 : Int32} {rZ : Int32}  (h : fX3_nextSeed v0 = some rZ) : Met l yX3_nextSeed wsX3_nextSeed rmX3_nextSeed (PC Γ A B [.int v0]) (QI Γ A B rZ) 0 0 (rg Γ) :=
  met_of (by decide) rfl (Nat.le_of_ble_eq_true rfl) (fun p e s m below meth c ls C hW hl => tX3_nextSeed_0 C  h  hW (lv_sub (l := [(0, .int v0)]) hl [0] rfl))
abbrev rmX3_feasts : Room := { frames := 5, cells := 0, slots := 0, locals := 113 }
set_option maxRecDepth 100000 in
theorem iX3_feasts_c1 : ∀ w ∈ wsX10, w ∈ wsX3_feasts := by decide +kernel
set_option maxRecDepth 100000 in
theorem iX3_feasts_c3 : ∀ w ∈ wsX30, w ∈ wsX3_feasts := by decide +kernel
set_option maxRecDepth 100000 in
theorem wX3_feasts_0 : Cond.fieldLink RX3 19 "WineByYears" "now" "LWineByYears$Cellar;" ∈ wsX3_feasts := by decide +kernel
set_option maxRecDepth 100000 in
theorem wX3_feasts_1 : Cond.fieldLink RX3 103 "WineByYears$Cellar" "peopleCount" "I" ∈ wsX3_feasts := by decide +kernel
set_option maxRecDepth 100000 in
theorem wX3_feasts_2 : Cond.fieldLink RX3 26 "WineByYears" "tried" "LWineByYears$Cellar;" ∈ wsX3_feasts := by decide +kernel
set_option maxRecDepth 100000 in
theorem wX3_feasts_3 : Cond.fieldLink RX3 161 "WineByYears$Cellar" "caskCount" "I" ∈ wsX3_feasts := by decide +kernel
def fX3_feasts_24  (A : Me)   : Option (Int32 × Me) := some ((-102), A)
set_option maxRecDepth 100000 in
theorem tX3_feasts_24 {A B : Me}  {H : Heap} {locs : List Loc} {ls : Array Slot}  {rZ : Int32} {AZ : Me}  (C : Cx Γ p s m args meth c cX3_feasts 9 (some .int) RX3 wsX3_feasts)  (h : fX3_feasts_24 A = some (rZ, AZ))  (hW : Wd Γ A B s.heap H locs) (hl : lv_has ls 9 []) : W p l e rmX3_feasts s m args below meth c H locs 0 0 (MQ below (QI Γ AZ B rZ) args s 0 0 (rg Γ)) (F0 m 24 ls []) := by
  unfold fX3_feasts_24 at h
  refine lv_bipush (v := (-102)) C.1 C.2.1 dX3_feasts_24 (by decide) ?_
  cases h
  exact z_iret C hW dX3_feasts_26
def fX3_feasts_154  (A : Me)  (t0 : Int32) : Option (Int32 × Me) := some (t0, A)
set_option maxRecDepth 100000 in
theorem tX3_feasts_154 {A B : Me}  {H : Heap} {locs : List Loc} {ls : Array Slot} {t0 : Int32} {rZ : Int32} {AZ : Me}  (C : Cx Γ p s m args meth c cX3_feasts 9 (some .int) RX3 wsX3_feasts)  (h : fX3_feasts_154 A t0 = some (rZ, AZ))  (hW : Wd Γ A B s.heap H locs) (hl : lv_has ls 9 []) : W p l e rmX3_feasts s m args below meth c H locs 0 0 (MQ below (QI Γ AZ B rZ) args s 0 0 (rg Γ)) (F0 m 154 ls [.int t0]) := by
  unfold fX3_feasts_154 at h
  cases h
  exact z_iret C hW dX3_feasts_154
def fX3_feasts_60   : Nat → Me → Int32 → Int32 → Int32 → Int32 → Int32 → Option (Int32 × Me)
  | 0, _, _, _, _, _, _ => none
  | n + 1, A, v1, v3, v4, v5, v6 => if v1 ≤ v6 then (if v3 = 0 then (some (v5, A)) else (if v3 = 1 then (bi (fX1_litresInAll A 37) fun r146 => fX3_feasts_154 A r146) else (fX3_feasts_154 A v4))) else (bi (fX3_nextSeed v4) fun r68 => bi (fX3_draw r68 (A 37 8)) fun r82 => bi (fX3_nextSeed r68) fun r89 => bi (fX3_draw r89 (A 37 7)) fun r103 => b2 (fX1_sip A 37 r82 r103) fun r118 A118 => fX3_feasts_60 n A118 v1 v3 r89 (v5 + r118) (v6 + 1))
set_option maxRecDepth 100000 in
theorem tX3_feasts_60 {B : Me}  {rZ : Int32} {AZ : Me}  (C : Cx Γ p s m args meth c cX3_feasts 9 (some .int) RX3 wsX3_feasts)  (n : Nat) : ∀ (A : Me) (v1 : Int32) (v3 : Int32) (v4 : Int32) (v5 : Int32) (v6 : Int32) (H : Heap) (locs : List Loc) (ls : Array Slot), fX3_feasts_60 n A v1 v3 v4 v5 v6 = some (rZ, AZ) → Wd Γ A B s.heap H locs → lv_has ls 9 [(0, .ref (Γ.2.2 0)), (1, .int v1), (3, .int v3), (4, .int v4), (5, .int v5), (6, .int v6)] → W p l e rmX3_feasts s m args below meth c H locs 0 0 (MQ below (QI Γ AZ B rZ) args s 0 0 (rg Γ)) (F0 m 60 ls []) := by
  induction n with
  | zero =>
    intro _ _ _ _ _ _ H locs ls h
    exact nomatch (show (none : Option (Int32 × Me)) = some (rZ, AZ) from h)
  | succ n ih =>
    intro A v1 v3 v4 v5 v6 H locs ls h  hW hl
    rw [fX3_feasts_60] at h
    refine lv_iload C.1 C.2.1 dX3_feasts_60 (lv_at hl 5 rfl) ?_
    refine lv_iload_n C.1 C.2.1 dX3_feasts_62 rfl (lv_at hl 1 rfl) ?_
    refine lv_icmp_ge (tgt := 130) C.1 C.2.1 dX3_feasts_63 (by decide) (fun c_63 => ?_) (fun c_63 => ?_)
    · have h := if_y h c_63
      refine lv_iload_n C.1 C.2.1 dX3_feasts_130 rfl (lv_at hl 2 rfl) ?_
      refine lv_if_ne (tgt := 137) C.1 C.2.1 dX3_feasts_131 (by decide) (fun c_131 => ?_) (fun c_131 => ?_)
      · have h := if_n h c_131
        refine lv_iload_n C.1 C.2.1 dX3_feasts_137 rfl (lv_at hl 2 rfl) ?_
        refine lv_iconst (v := 1) C.1 C.2.1 dX3_feasts_138 (by decide) ?_
        refine lv_icmp_ne (tgt := 152) C.1 C.2.1 dX3_feasts_139 (by decide) (fun c_139 => ?_) (fun c_139 => ?_)
        · have h := if_n h c_139
          refine lv_iload C.1 C.2.1 dX3_feasts_152 (lv_at hl 3 rfl) ?_
          exact tX3_feasts_154 C  h  hW (lv_sub hl [] rfl)
        · have h := if_y h c_139
          refine lv_aload_n C.1 C.2.1 dX3_feasts_142 rfl (lv_at hl 0 rfl) ?_
          refine gX3_3 C hW rfl iX3_feasts_c3 wX3_feasts_2 dX3_feasts_143 ?_
          obtain ⟨r146, hc146, h⟩ := bi_s h
          refine cVi C hW (As := []) (rest := []) (mt_X1_litresInAll rfl hc146) (cwV 0 C.2.2.2.2.2.1 gX3_feasts_X1_litresInAll rfl rfl rfl (by decide +kernel) ⟨Nat.le_of_ble_eq_true rfl, Nat.le_of_ble_eq_true rfl⟩) (rcv1 C hW (rfl : kd 37 = 1)) rfl hl.1 rfl (Nat.le_of_ble_eq_true rfl) dX3_feasts_146 (Nat.zero_le _) (Nat.zero_le _) (fun H locs hW => ?_)
          refine lv_goto (tgt := 154) C.1 C.2.1 dX3_feasts_149 (by decide) ?_
          exact tX3_feasts_154 C  h  hW (lv_sub hl [] rfl)
      · have h := if_y h c_131
        refine lv_iload C.1 C.2.1 dX3_feasts_134 (lv_at hl 4 rfl) ?_
        cases h
        exact z_iret C hW dX3_feasts_136
    · have h := if_n h c_63
      refine lv_iload C.1 C.2.1 dX3_feasts_66 (lv_at hl 3 rfl) ?_
      obtain ⟨r68, hc68, h⟩ := bi_s h
      refine cSi C hW (As := [.int v4]) (rest := []) (mt_X3_nextSeed  hc68) (va_cwS 1 C.2.2.2.2.2.1 gX3_feasts_X3_nextSeed rfl rfl rfl (by decide +kernel) ⟨Nat.le_of_ble_eq_true rfl, Nat.le_of_ble_eq_true rfl⟩) rfl hl.1 rfl (Nat.le_of_ble_eq_true rfl) dX3_feasts_68 (Nat.zero_le _) (Nat.zero_le _) (fun H locs hW => ?_)
      refine lv_istore (lv' := [(4, .int r68), (0, .ref (Γ.2.2 0)), (1, .int v1), (3, .int v3), (5, .int v5), (6, .int v6)]) C.1 C.2.1 dX3_feasts_71 hl (by decide) rfl (fun ls hl => ?_)
      refine lv_iload C.1 C.2.1 dX3_feasts_73 (lv_at hl 0 rfl) ?_
      refine lv_aload_n C.1 C.2.1 dX3_feasts_75 rfl (lv_at hl 1 rfl) ?_
      refine gX3_3 C hW rfl iX3_feasts_c3 wX3_feasts_2 dX3_feasts_76 ?_
      refine gX1_8 C hW rfl iX3_feasts_c1 wX3_feasts_1 dX3_feasts_79 ?_
      obtain ⟨r82, hc82, h⟩ := bi_s h
      refine cSi C hW (As := [.int r68, .int (A 37 8)]) (rest := []) (mt_X3_draw  hc82) (va_cwS 2 C.2.2.2.2.2.1 gX3_feasts_X3_draw rfl rfl rfl (by decide +kernel) ⟨Nat.le_of_ble_eq_true rfl, Nat.le_of_ble_eq_true rfl⟩) rfl hl.1 rfl (Nat.le_of_ble_eq_true rfl) dX3_feasts_82 (Nat.zero_le _) (Nat.zero_le _) (fun H locs hW => ?_)
      refine lv_istore (lv' := [(7, .int r82), (4, .int r68), (0, .ref (Γ.2.2 0)), (1, .int v1), (3, .int v3), (5, .int v5), (6, .int v6)]) C.1 C.2.1 dX3_feasts_85 hl (by decide) rfl (fun ls hl => ?_)
      refine lv_iload C.1 C.2.1 dX3_feasts_87 (lv_at hl 1 rfl) ?_
      obtain ⟨r89, hc89, h⟩ := bi_s h
      refine cSi C hW (As := [.int r68]) (rest := []) (mt_X3_nextSeed  hc89) (va_cwS 1 C.2.2.2.2.2.1 gX3_feasts_X3_nextSeed rfl rfl rfl (by decide +kernel) ⟨Nat.le_of_ble_eq_true rfl, Nat.le_of_ble_eq_true rfl⟩) rfl hl.1 rfl (Nat.le_of_ble_eq_true rfl) dX3_feasts_89 (Nat.zero_le _) (Nat.zero_le _) (fun H locs hW => ?_)
      refine lv_istore (lv' := [(4, .int r89), (7, .int r82), (0, .ref (Γ.2.2 0)), (1, .int v1), (3, .int v3), (5, .int v5), (6, .int v6)]) C.1 C.2.1 dX3_feasts_92 hl (by decide) rfl (fun ls hl => ?_)
      refine lv_iload C.1 C.2.1 dX3_feasts_94 (lv_at hl 0 rfl) ?_
      refine lv_aload_n C.1 C.2.1 dX3_feasts_96 rfl (lv_at hl 2 rfl) ?_
      refine gX3_3 C hW rfl iX3_feasts_c3 wX3_feasts_2 dX3_feasts_97 ?_
      refine gX1_7 C hW rfl iX3_feasts_c1 wX3_feasts_3 dX3_feasts_100 ?_
      obtain ⟨r103, hc103, h⟩ := bi_s h
      refine cSi C hW (As := [.int r89, .int (A 37 7)]) (rest := []) (mt_X3_draw  hc103) (va_cwS 2 C.2.2.2.2.2.1 gX3_feasts_X3_draw rfl rfl rfl (by decide +kernel) ⟨Nat.le_of_ble_eq_true rfl, Nat.le_of_ble_eq_true rfl⟩) rfl hl.1 rfl (Nat.le_of_ble_eq_true rfl) dX3_feasts_103 (Nat.zero_le _) (Nat.zero_le _) (fun H locs hW => ?_)
      refine lv_istore (lv' := [(8, .int r103), (4, .int r89), (7, .int r82), (0, .ref (Γ.2.2 0)), (1, .int v1), (3, .int v3), (5, .int v5), (6, .int v6)]) C.1 C.2.1 dX3_feasts_106 hl (by decide) rfl (fun ls hl => ?_)
      refine lv_iload C.1 C.2.1 dX3_feasts_108 (lv_at hl 6 rfl) ?_
      refine lv_aload_n C.1 C.2.1 dX3_feasts_110 rfl (lv_at hl 3 rfl) ?_
      refine gX3_3 C hW rfl iX3_feasts_c3 wX3_feasts_2 dX3_feasts_111 ?_
      refine lv_iload C.1 C.2.1 dX3_feasts_114 (lv_at hl 2 rfl) ?_
      refine lv_iload C.1 C.2.1 dX3_feasts_116 (lv_at hl 0 rfl) ?_
      obtain ⟨r118, A118, hc118, h⟩ := b2_s h
      refine cVi C hW (As := [.int r82, .int r103]) (rest := [.int v5]) (mt_X1_sip rfl hc118) (cwV 2 C.2.2.2.2.2.1 gX3_feasts_X1_sip rfl rfl rfl (by decide +kernel) ⟨Nat.le_of_ble_eq_true rfl, Nat.le_of_ble_eq_true rfl⟩) (rcv1 C hW (rfl : kd 37 = 1)) rfl hl.1 rfl (Nat.le_of_ble_eq_true rfl) dX3_feasts_118 (Nat.zero_le _) (Nat.zero_le _) (fun H locs hW => ?_)
      refine lv_iadd C.1 C.2.1 dX3_feasts_121 ?_
      refine lv_istore (lv' := [(5, .int (v5 + r118)), (8, .int r103), (4, .int r89), (7, .int r82), (0, .ref (Γ.2.2 0)), (1, .int v1), (3, .int v3), (6, .int v6)]) C.1 C.2.1 dX3_feasts_122 hl (by decide) rfl (fun ls hl => ?_)
      refine lv_iinc (v := (v6 + 1)) (lv' := [(6, .int (v6 + 1)), (5, .int (v5 + r118)), (8, .int r103), (4, .int r89), (7, .int r82), (0, .ref (Γ.2.2 0)), (1, .int v1), (3, .int v3)]) C.1 C.2.1 dX3_feasts_124 hl (k := 7) rfl rfl (by decide) rfl (fun ls hl => ?_)
      refine lv_goto (tgt := 60) C.1 C.2.1 dX3_feasts_127 (by decide) ?_
      exact ih _ _ _ _ _ _ _ _ _ h  hW (lv_sub hl [5, 6, 7, 3, 1, 0] rfl)
def fX3_feasts  (A : Me)  (v1 : Int32) (v2 : Int32) (v3 : Int32) : Option (Int32 × Me) := if v1 < 1 then (fX3_feasts_24 A) else (if 60 < v1 then (fX3_feasts_24 A) else (if v2 < 0 then (fX3_feasts_24 A) else (if v3 < 0 then (fX3_feasts_24 A) else (if v3 ≤ 2 then (if (A 3 8) = 0 then (some ((-103), A)) else (bi (fX1_become A 37 3) fun A48 => fX3_feasts_60 FU A48 v1 v3 v2 0 0)) else (fX3_feasts_24 A)))))
set_option maxRecDepth 100000 in
theorem tX3_feasts_0 {A B : Me}  {H : Heap} {locs : List Loc} {ls : Array Slot} {v1 : Int32} {v2 : Int32} {v3 : Int32} {rZ : Int32} {AZ : Me}  (C : Cx Γ p s m args meth c cX3_feasts 9 (some .int) RX3 wsX3_feasts)  (h : fX3_feasts A v1 v2 v3 = some (rZ, AZ))  (hW : Wd Γ A B s.heap H locs) (hl : lv_has ls 9 [(0, .ref (Γ.2.2 0)), (1, .int v1), (2, .int v2), (3, .int v3)]) : W p l e rmX3_feasts s m args below meth c H locs 0 0 (MQ below (QI Γ AZ B rZ) args s 0 0 (rg Γ)) (F0 m 0 ls []) := by
  unfold fX3_feasts at h
  refine lv_iload_n C.1 C.2.1 dX3_feasts_0 rfl (lv_at hl 1 rfl) ?_
  refine lv_iconst (v := 1) C.1 C.2.1 dX3_feasts_1 (by decide) ?_
  refine lv_icmp_lt (tgt := 24) C.1 C.2.1 dX3_feasts_2 (by decide) (fun c_2 => ?_) (fun c_2 => ?_)
  · have h := if_y h c_2
    exact tX3_feasts_24 C  h  hW (lv_sub hl [] rfl)
  · have h := if_n h c_2
    refine lv_iload_n C.1 C.2.1 dX3_feasts_5 rfl (lv_at hl 1 rfl) ?_
    refine lv_bipush (v := 60) C.1 C.2.1 dX3_feasts_6 (by decide) ?_
    refine lv_icmp_gt (tgt := 24) C.1 C.2.1 dX3_feasts_8 (by decide) (fun c_8 => ?_) (fun c_8 => ?_)
    · have h := if_y h c_8
      exact tX3_feasts_24 C  h  hW (lv_sub hl [] rfl)
    · have h := if_n h c_8
      refine lv_iload_n C.1 C.2.1 dX3_feasts_11 rfl (lv_at hl 2 rfl) ?_
      refine lv_if_lt (tgt := 24) C.1 C.2.1 dX3_feasts_12 (by decide) (fun c_12 => ?_) (fun c_12 => ?_)
      · have h := if_y h c_12
        exact tX3_feasts_24 C  h  hW (lv_sub hl [] rfl)
      · have h := if_n h c_12
        refine lv_iload_n C.1 C.2.1 dX3_feasts_15 rfl (lv_at hl 3 rfl) ?_
        refine lv_if_lt (tgt := 24) C.1 C.2.1 dX3_feasts_16 (by decide) (fun c_16 => ?_) (fun c_16 => ?_)
        · have h := if_y h c_16
          exact tX3_feasts_24 C  h  hW (lv_sub hl [] rfl)
        · have h := if_n h c_16
          refine lv_iload_n C.1 C.2.1 dX3_feasts_19 rfl (lv_at hl 3 rfl) ?_
          refine lv_iconst (v := 2) C.1 C.2.1 dX3_feasts_20 (by decide) ?_
          refine lv_icmp_le (tgt := 27) C.1 C.2.1 dX3_feasts_21 (by decide) (fun c_21 => ?_) (fun c_21 => ?_)
          · have h := if_y h c_21
            refine lv_aload_n C.1 C.2.1 dX3_feasts_27 rfl (lv_at hl 0 rfl) ?_
            refine gX3_1 C hW rfl iX3_feasts_c3 wX3_feasts_0 dX3_feasts_28 ?_
            refine gX1_8 C hW rfl iX3_feasts_c1 wX3_feasts_1 dX3_feasts_31 ?_
            refine lv_if_ne (tgt := 40) C.1 C.2.1 dX3_feasts_34 (by decide) (fun c_34 => ?_) (fun c_34 => ?_)
            · have h := if_n h c_34
              refine lv_aload_n C.1 C.2.1 dX3_feasts_40 rfl (lv_at hl 0 rfl) ?_
              refine gX3_3 C hW rfl iX3_feasts_c3 wX3_feasts_2 dX3_feasts_41 ?_
              refine lv_aload_n C.1 C.2.1 dX3_feasts_44 rfl (lv_at hl 0 rfl) ?_
              refine gX3_1 C hW rfl iX3_feasts_c3 wX3_feasts_0 dX3_feasts_45 ?_
              obtain ⟨A48, hc48, h⟩ := bi_s h
              refine cVv C hW (As := [.ref (Γ.2.2 3)]) (rest := []) (mt_X1_become rfl rfl hc48) (cwV 1 C.2.2.2.2.2.1 gX3_feasts_X1_become rfl rfl rfl (by decide +kernel) ⟨Nat.le_of_ble_eq_true rfl, Nat.le_of_ble_eq_true rfl⟩) (rcv1 C hW (rfl : kd 37 = 1)) rfl hl.1 rfl (Nat.le_of_ble_eq_true rfl) dX3_feasts_48 (Nat.zero_le _) (Nat.zero_le _) (fun H locs hW => ?_)
              refine lv_iload_n C.1 C.2.1 dX3_feasts_51 rfl (lv_at hl 2 rfl) ?_
              refine lv_istore (lv' := [(4, .int v2), (0, .ref (Γ.2.2 0)), (1, .int v1), (2, .int v2), (3, .int v3)]) C.1 C.2.1 dX3_feasts_52 hl (by decide) rfl (fun ls hl => ?_)
              refine lv_iconst (v := 0) C.1 C.2.1 dX3_feasts_54 (by decide) ?_
              refine lv_istore (lv' := [(5, .int 0), (4, .int v2), (0, .ref (Γ.2.2 0)), (1, .int v1), (2, .int v2), (3, .int v3)]) C.1 C.2.1 dX3_feasts_55 hl (by decide) rfl (fun ls hl => ?_)
              refine lv_iconst (v := 0) C.1 C.2.1 dX3_feasts_57 (by decide) ?_
              refine lv_istore (lv' := [(6, .int 0), (5, .int 0), (4, .int v2), (0, .ref (Γ.2.2 0)), (1, .int v1), (2, .int v2), (3, .int v3)]) C.1 C.2.1 dX3_feasts_58 hl (by decide) rfl (fun ls hl => ?_)
              exact tX3_feasts_60 C  FU _ _ _ _ _ _ _ _ _ h  hW (lv_sub hl [3, 4, 6, 2, 1, 0] rfl)
            · have h := if_y h c_34
              refine lv_bipush (v := (-103)) C.1 C.2.1 dX3_feasts_37 (by decide) ?_
              cases h
              exact z_iret C hW dX3_feasts_39
          · have h := if_n h c_21
            exact tX3_feasts_24 C  h  hW (lv_sub hl [] rfl)
theorem mt_X3_feasts {l : Launch} {Γ : Gm} {A B : Me}  {v1 : Int32} {v2 : Int32} {v3 : Int32} {rZ : Int32} {AZ : Me}  (h : fX3_feasts A v1 v2 v3 = some (rZ, AZ)) : Met l yX3_feasts wsX3_feasts rmX3_feasts (PC Γ A B [.ref (Γ.2.2 0), .int v1, .int v2, .int v3]) (QI Γ AZ B rZ) 0 0 (rg Γ) :=
  met_of (by decide) rfl (Nat.le_of_ble_eq_true rfl) (fun p e s m below meth c ls C hW hl => tX3_feasts_0 C  h  hW (lv_sub (l := [(0, .ref (Γ.2.2 0)), (1, .int v1), (2, .int v2), (3, .int v3)]) hl [0, 1, 2, 3] rfl))
abbrev rmX3_image : Room := { frames := 4, cells := 0, slots := 0, locals := 87 }
set_option maxRecDepth 100000 in
theorem iX3_image_c3 : ∀ w ∈ wsX30, w ∈ wsX3_image := by decide +kernel
set_option maxRecDepth 100000 in
theorem wX3_image_0 : Cond.fieldLink RX3 19 "WineByYears" "now" "LWineByYears$Cellar;" ∈ wsX3_image := by decide +kernel
set_option maxRecDepth 100000 in
theorem wX3_image_1 : Cond.fieldLink RX3 23 "WineByYears" "kept" "LWineByYears$Cellar;" ∈ wsX3_image := by decide +kernel
set_option maxRecDepth 100000 in
theorem wX3_image_2 : Cond.fieldLink RX3 39 "WineByYears" "hasImage" "Z" ∈ wsX3_image := by decide +kernel
def fX3_image  (A : Me)   : Option (Int32 × Me) := bi (fX1_isThere A 3) fun r4 => if r4 = 0 then (some ((-103), A)) else (bi (fX1_become A 20 3) fun A21 => bi (fX1_litresInAll (up2 A21 0 6 1) 3) fun r33 => some (r33, (up2 A21 0 6 1)))
set_option maxRecDepth 100000 in
theorem tX3_image_0 {A B : Me}  {H : Heap} {locs : List Loc} {ls : Array Slot}  {rZ : Int32} {AZ : Me}  (C : Cx Γ p s m args meth c cX3_image 1 (some .int) RX3 wsX3_image)  (h : fX3_image A = some (rZ, AZ))  (hW : Wd Γ A B s.heap H locs) (hl : lv_has ls 1 [(0, .ref (Γ.2.2 0))]) : W p l e rmX3_image s m args below meth c H locs 0 0 (MQ below (QI Γ AZ B rZ) args s 0 0 (rg Γ)) (F0 m 0 ls []) := by
  unfold fX3_image at h
  refine lv_aload_n C.1 C.2.1 dX3_image_0 rfl (lv_at hl 0 rfl) ?_
  refine gX3_1 C hW rfl iX3_image_c3 wX3_image_0 dX3_image_1 ?_
  obtain ⟨r4, hc4, h⟩ := bi_s h
  refine cVi C hW (As := []) (rest := []) (mt_X1_isThere rfl hc4) (cwV 0 C.2.2.2.2.2.1 gX3_image_X1_isThere rfl rfl rfl (by decide +kernel) ⟨Nat.le_of_ble_eq_true rfl, Nat.le_of_ble_eq_true rfl⟩) (rcv1 C hW (rfl : kd 3 = 1)) rfl hl.1 rfl (Nat.le_of_ble_eq_true rfl) dX3_image_4 (Nat.zero_le _) (Nat.zero_le _) (fun H locs hW => ?_)
  refine lv_if_ne (tgt := 13) C.1 C.2.1 dX3_image_7 (by decide) (fun c_7 => ?_) (fun c_7 => ?_)
  · have h := if_n h c_7
    refine lv_aload_n C.1 C.2.1 dX3_image_13 rfl (lv_at hl 0 rfl) ?_
    refine gX3_2 C hW rfl iX3_image_c3 wX3_image_1 dX3_image_14 ?_
    refine lv_aload_n C.1 C.2.1 dX3_image_17 rfl (lv_at hl 0 rfl) ?_
    refine gX3_1 C hW rfl iX3_image_c3 wX3_image_0 dX3_image_18 ?_
    obtain ⟨A21, hc21, h⟩ := bi_s h
    refine cVv C hW (As := [.ref (Γ.2.2 3)]) (rest := []) (mt_X1_become rfl rfl hc21) (cwV 1 C.2.2.2.2.2.1 gX3_image_X1_become rfl rfl rfl (by decide +kernel) ⟨Nat.le_of_ble_eq_true rfl, Nat.le_of_ble_eq_true rfl⟩) (rcv1 C hW (rfl : kd 20 = 1)) rfl hl.1 rfl (Nat.le_of_ble_eq_true rfl) dX3_image_21 (Nat.zero_le _) (Nat.zero_le _) (fun H locs hW => ?_)
    refine lv_aload_n C.1 C.2.1 dX3_image_24 rfl (lv_at hl 0 rfl) ?_
    refine lv_iconst (v := 1) C.1 C.2.1 dX3_image_25 (by decide) ?_
    refine pX3_6 C hW rfl (by decide) iX3_image_c3 wX3_image_2 dX3_image_26 (fun H locs hW => ?_)
    refine lv_aload_n C.1 C.2.1 dX3_image_29 rfl (lv_at hl 0 rfl) ?_
    refine gX3_1 C hW rfl iX3_image_c3 wX3_image_0 dX3_image_30 ?_
    obtain ⟨r33, hc33, h⟩ := bi_s h
    refine cVi C hW (As := []) (rest := []) (mt_X1_litresInAll rfl hc33) (cwV 0 C.2.2.2.2.2.1 gX3_image_X1_litresInAll rfl rfl rfl (by decide +kernel) ⟨Nat.le_of_ble_eq_true rfl, Nat.le_of_ble_eq_true rfl⟩) (rcv1 C hW (rfl : kd 3 = 1)) rfl hl.1 rfl (Nat.le_of_ble_eq_true rfl) dX3_image_33 (Nat.zero_le _) (Nat.zero_le _) (fun H locs hW => ?_)
    cases h
    exact z_iret C hW dX3_image_36
  · have h := if_y h c_7
    refine lv_bipush (v := (-103)) C.1 C.2.1 dX3_image_10 (by decide) ?_
    cases h
    exact z_iret C hW dX3_image_12
theorem mt_X3_image {l : Launch} {Γ : Gm} {A B : Me}   {rZ : Int32} {AZ : Me}  (h : fX3_image A = some (rZ, AZ)) : Met l yX3_image wsX3_image rmX3_image (PC Γ A B [.ref (Γ.2.2 0)]) (QI Γ AZ B rZ) 0 0 (rg Γ) :=
  met_of (by decide) rfl (Nat.le_of_ble_eq_true rfl) (fun p e s m below meth c ls C hW hl => tX3_image_0 C  h  hW (lv_sub (l := [(0, .ref (Γ.2.2 0))]) hl [0] rfl))
abbrev rmX3_restore : Room := { frames := 4, cells := 0, slots := 0, locals := 87 }
set_option maxRecDepth 100000 in
theorem iX3_restore_c3 : ∀ w ∈ wsX30, w ∈ wsX3_restore := by decide +kernel
set_option maxRecDepth 100000 in
theorem wX3_restore_0 : Cond.fieldLink RX3 39 "WineByYears" "hasImage" "Z" ∈ wsX3_restore := by decide +kernel
set_option maxRecDepth 100000 in
theorem wX3_restore_1 : Cond.fieldLink RX3 19 "WineByYears" "now" "LWineByYears$Cellar;" ∈ wsX3_restore := by decide +kernel
set_option maxRecDepth 100000 in
theorem wX3_restore_2 : Cond.fieldLink RX3 23 "WineByYears" "kept" "LWineByYears$Cellar;" ∈ wsX3_restore := by decide +kernel
def fX3_restore  (A : Me)   : Option (Int32 × Me) := if (A 0 6) = 0 then (some ((-103), A)) else (bi (fX1_become A 3 20) fun A18 => bi (fX1_litresInAll A18 3) fun r25 => some (r25, A18))
set_option maxRecDepth 100000 in
theorem tX3_restore_0 {A B : Me}  {H : Heap} {locs : List Loc} {ls : Array Slot}  {rZ : Int32} {AZ : Me}  (C : Cx Γ p s m args meth c cX3_restore 1 (some .int) RX3 wsX3_restore)  (h : fX3_restore A = some (rZ, AZ))  (hW : Wd Γ A B s.heap H locs) (hl : lv_has ls 1 [(0, .ref (Γ.2.2 0))]) : W p l e rmX3_restore s m args below meth c H locs 0 0 (MQ below (QI Γ AZ B rZ) args s 0 0 (rg Γ)) (F0 m 0 ls []) := by
  unfold fX3_restore at h
  refine lv_aload_n C.1 C.2.1 dX3_restore_0 rfl (lv_at hl 0 rfl) ?_
  refine gX3_6 C hW rfl iX3_restore_c3 wX3_restore_0 dX3_restore_1 ?_
  refine lv_if_ne (tgt := 10) C.1 C.2.1 dX3_restore_4 (by decide) (fun c_4 => ?_) (fun c_4 => ?_)
  · have h := if_n h c_4
    refine lv_aload_n C.1 C.2.1 dX3_restore_10 rfl (lv_at hl 0 rfl) ?_
    refine gX3_1 C hW rfl iX3_restore_c3 wX3_restore_1 dX3_restore_11 ?_
    refine lv_aload_n C.1 C.2.1 dX3_restore_14 rfl (lv_at hl 0 rfl) ?_
    refine gX3_2 C hW rfl iX3_restore_c3 wX3_restore_2 dX3_restore_15 ?_
    obtain ⟨A18, hc18, h⟩ := bi_s h
    refine cVv C hW (As := [.ref (Γ.2.2 20)]) (rest := []) (mt_X1_become rfl rfl hc18) (cwV 1 C.2.2.2.2.2.1 gX3_restore_X1_become rfl rfl rfl (by decide +kernel) ⟨Nat.le_of_ble_eq_true rfl, Nat.le_of_ble_eq_true rfl⟩) (rcv1 C hW (rfl : kd 3 = 1)) rfl hl.1 rfl (Nat.le_of_ble_eq_true rfl) dX3_restore_18 (Nat.zero_le _) (Nat.zero_le _) (fun H locs hW => ?_)
    refine lv_aload_n C.1 C.2.1 dX3_restore_21 rfl (lv_at hl 0 rfl) ?_
    refine gX3_1 C hW rfl iX3_restore_c3 wX3_restore_1 dX3_restore_22 ?_
    obtain ⟨r25, hc25, h⟩ := bi_s h
    refine cVi C hW (As := []) (rest := []) (mt_X1_litresInAll rfl hc25) (cwV 0 C.2.2.2.2.2.1 gX3_restore_X1_litresInAll rfl rfl rfl (by decide +kernel) ⟨Nat.le_of_ble_eq_true rfl, Nat.le_of_ble_eq_true rfl⟩) (rcv1 C hW (rfl : kd 3 = 1)) rfl hl.1 rfl (Nat.le_of_ble_eq_true rfl) dX3_restore_25 (Nat.zero_le _) (Nat.zero_le _) (fun H locs hW => ?_)
    cases h
    exact z_iret C hW dX3_restore_28
  · have h := if_y h c_4
    refine lv_bipush (v := (-103)) C.1 C.2.1 dX3_restore_7 (by decide) ?_
    cases h
    exact z_iret C hW dX3_restore_9
theorem mt_X3_restore {l : Launch} {Γ : Gm} {A B : Me}   {rZ : Int32} {AZ : Me}  (h : fX3_restore A = some (rZ, AZ)) : Met l yX3_restore wsX3_restore rmX3_restore (PC Γ A B [.ref (Γ.2.2 0)]) (QI Γ AZ B rZ) 0 0 (rg Γ) :=
  met_of (by decide) rfl (Nat.le_of_ble_eq_true rfl) (fun p e s m below meth c ls C hW hl => tX3_restore_0 C  h  hW (lv_sub (l := [(0, .ref (Γ.2.2 0))]) hl [0] rfl))
abbrev rmX3_count : Room := { frames := 1, cells := 0, slots := 0, locals := 22 }
set_option maxRecDepth 100000 in
theorem iX3_count_c1 : ∀ w ∈ wsX10, w ∈ wsX3_count := by decide +kernel
set_option maxRecDepth 100000 in
theorem iX3_count_c2 : ∀ w ∈ wsX20, w ∈ wsX3_count := by decide +kernel
set_option maxRecDepth 100000 in
theorem iX3_count_c3 : ∀ w ∈ wsX30, w ∈ wsX3_count := by decide +kernel
set_option maxRecDepth 100000 in
theorem wX3_count_0 : Cond.fieldLink RX3 19 "WineByYears" "now" "LWineByYears$Cellar;" ∈ wsX3_count := by decide +kernel
set_option maxRecDepth 100000 in
theorem wX3_count_1 : Cond.fieldLink RX3 83 "WineByYears$Cellar" "law" "I" ∈ wsX3_count := by decide +kernel
set_option maxRecDepth 100000 in
theorem wX3_count_2 : Cond.fieldLink RX3 161 "WineByYears$Cellar" "caskCount" "I" ∈ wsX3_count := by decide +kernel
set_option maxRecDepth 100000 in
theorem wX3_count_3 : Cond.fieldLink RX3 103 "WineByYears$Cellar" "peopleCount" "I" ∈ wsX3_count := by decide +kernel
set_option maxRecDepth 100000 in
theorem wX3_count_4 : Cond.fieldLink RX3 168 "WineByYears$Cellar" "trialCount" "I" ∈ wsX3_count := by decide +kernel
set_option maxRecDepth 100000 in
theorem wX3_count_5 : Cond.fieldLink RX3 12 "WineByYears" "page" "LWineByYears$Page;" ∈ wsX3_count := by decide +kernel
set_option maxRecDepth 100000 in
theorem wX3_count_6 : Cond.fieldLink RX3 47 "WineByYears$Page" "length" "I" ∈ wsX3_count := by decide +kernel
set_option maxRecDepth 100000 in
theorem wX3_count_7 : Cond.fieldLink RX3 43 "WineByYears" "timesRead" "I" ∈ wsX3_count := by decide +kernel
def fX3_count  (A : Me)  (v1 : Int32) : Option (Int32) := if v1 = 0 then (some (A 3 6)) else if v1 = 1 then (some (A 3 7)) else if v1 = 2 then (bi (fX1_litresInAll A 3) fun r68 => some r68) else if v1 = 3 then (some (A 3 8)) else if v1 = 4 then (bi (fX1_illInAll A 3) fun r84 => some r84) else if v1 = 5 then (some (A 3 9)) else if v1 = 6 then (some (A 1 1)) else if v1 = 7 then (some (A 0 7)) else (some (-102))
set_option maxRecDepth 100000 in
theorem tX3_count_0 {A B : Me}  {H : Heap} {locs : List Loc} {ls : Array Slot} {v1 : Int32} {rZ : Int32}  (C : Cx Γ p s m args meth c cX3_count 2 (some .int) RX3 wsX3_count)  (h : fX3_count A v1 = some rZ)  (hW : Wd Γ A B s.heap H locs) (hl : lv_has ls 2 [(0, .ref (Γ.2.2 0)), (1, .int v1)]) : W p l e rmX3_count s m args below meth c H locs 0 0 (MQ below (QI Γ A B rZ) args s 0 0 (rg Γ)) (F0 m 0 ls []) := by
  unfold fX3_count at h
  refine lv_iload_n C.1 C.2.1 dX3_count_0 rfl (lv_at hl 1 rfl) ?_
  by_cases e_0 : v1 = 0
  · have h := if_y h e_0
    refine lv_tableIn (off := 47) (tgt := 48) C.1 C.2.1 dX3_count_1 (by rw [e_0]; decide) (by rw [e_0]; decide) (by rw [e_0]; decide) (by decide) ?_
    refine lv_aload_n C.1 C.2.1 dX3_count_48 rfl (lv_at hl 0 rfl) ?_
    refine gX3_1 C hW rfl iX3_count_c3 wX3_count_0 dX3_count_49 ?_
    refine gX1_6 C hW rfl iX3_count_c1 wX3_count_1 dX3_count_52 ?_
    cases h
    exact z_iret C hW dX3_count_55
  have h := if_n h e_0
  by_cases e_1 : v1 = 1
  · have h := if_y h e_1
    refine lv_tableIn (off := 55) (tgt := 56) C.1 C.2.1 dX3_count_1 (by rw [e_1]; decide) (by rw [e_1]; decide) (by rw [e_1]; decide) (by decide) ?_
    refine lv_aload_n C.1 C.2.1 dX3_count_56 rfl (lv_at hl 0 rfl) ?_
    refine gX3_1 C hW rfl iX3_count_c3 wX3_count_0 dX3_count_57 ?_
    refine gX1_7 C hW rfl iX3_count_c1 wX3_count_2 dX3_count_60 ?_
    cases h
    exact z_iret C hW dX3_count_63
  have h := if_n h e_1
  by_cases e_2 : v1 = 2
  · have h := if_y h e_2
    refine lv_tableIn (off := 63) (tgt := 64) C.1 C.2.1 dX3_count_1 (by rw [e_2]; decide) (by rw [e_2]; decide) (by rw [e_2]; decide) (by decide) ?_
    refine lv_aload_n C.1 C.2.1 dX3_count_64 rfl (lv_at hl 0 rfl) ?_
    refine gX3_1 C hW rfl iX3_count_c3 wX3_count_0 dX3_count_65 ?_
    obtain ⟨r68, hc68, h⟩ := bi_s h
    refine cVi C hW (As := []) (rest := []) (mt_X1_litresInAll rfl hc68) (cwV 0 C.2.2.2.2.2.1 gX3_count_X1_litresInAll rfl rfl rfl (by decide +kernel) ⟨Nat.le_of_ble_eq_true rfl, Nat.le_of_ble_eq_true rfl⟩) (rcv1 C hW (rfl : kd 3 = 1)) rfl hl.1 rfl (Nat.le_of_ble_eq_true rfl) dX3_count_68 (Nat.zero_le _) (Nat.zero_le _) (fun H locs hW => ?_)
    cases h
    exact z_iret C hW dX3_count_71
  have h := if_n h e_2
  by_cases e_3 : v1 = 3
  · have h := if_y h e_3
    refine lv_tableIn (off := 71) (tgt := 72) C.1 C.2.1 dX3_count_1 (by rw [e_3]; decide) (by rw [e_3]; decide) (by rw [e_3]; decide) (by decide) ?_
    refine lv_aload_n C.1 C.2.1 dX3_count_72 rfl (lv_at hl 0 rfl) ?_
    refine gX3_1 C hW rfl iX3_count_c3 wX3_count_0 dX3_count_73 ?_
    refine gX1_8 C hW rfl iX3_count_c1 wX3_count_3 dX3_count_76 ?_
    cases h
    exact z_iret C hW dX3_count_79
  have h := if_n h e_3
  by_cases e_4 : v1 = 4
  · have h := if_y h e_4
    refine lv_tableIn (off := 79) (tgt := 80) C.1 C.2.1 dX3_count_1 (by rw [e_4]; decide) (by rw [e_4]; decide) (by rw [e_4]; decide) (by decide) ?_
    refine lv_aload_n C.1 C.2.1 dX3_count_80 rfl (lv_at hl 0 rfl) ?_
    refine gX3_1 C hW rfl iX3_count_c3 wX3_count_0 dX3_count_81 ?_
    obtain ⟨r84, hc84, h⟩ := bi_s h
    refine cVi C hW (As := []) (rest := []) (mt_X1_illInAll rfl hc84) (cwV 0 C.2.2.2.2.2.1 gX3_count_X1_illInAll rfl rfl rfl (by decide +kernel) ⟨Nat.le_of_ble_eq_true rfl, Nat.le_of_ble_eq_true rfl⟩) (rcv1 C hW (rfl : kd 3 = 1)) rfl hl.1 rfl (Nat.le_of_ble_eq_true rfl) dX3_count_84 (Nat.zero_le _) (Nat.zero_le _) (fun H locs hW => ?_)
    cases h
    exact z_iret C hW dX3_count_87
  have h := if_n h e_4
  by_cases e_5 : v1 = 5
  · have h := if_y h e_5
    refine lv_tableIn (off := 87) (tgt := 88) C.1 C.2.1 dX3_count_1 (by rw [e_5]; decide) (by rw [e_5]; decide) (by rw [e_5]; decide) (by decide) ?_
    refine lv_aload_n C.1 C.2.1 dX3_count_88 rfl (lv_at hl 0 rfl) ?_
    refine gX3_1 C hW rfl iX3_count_c3 wX3_count_0 dX3_count_89 ?_
    refine gX1_9 C hW rfl iX3_count_c1 wX3_count_4 dX3_count_92 ?_
    cases h
    exact z_iret C hW dX3_count_95
  have h := if_n h e_5
  by_cases e_6 : v1 = 6
  · have h := if_y h e_6
    refine lv_tableIn (off := 95) (tgt := 96) C.1 C.2.1 dX3_count_1 (by rw [e_6]; decide) (by rw [e_6]; decide) (by rw [e_6]; decide) (by decide) ?_
    refine lv_aload_n C.1 C.2.1 dX3_count_96 rfl (lv_at hl 0 rfl) ?_
    refine gX3_0 C hW rfl iX3_count_c3 wX3_count_5 dX3_count_97 ?_
    refine gX2_1 C hW rfl iX3_count_c2 wX3_count_6 dX3_count_100 ?_
    cases h
    exact z_iret C hW dX3_count_103
  have h := if_n h e_6
  by_cases e_7 : v1 = 7
  · have h := if_y h e_7
    refine lv_tableIn (off := 103) (tgt := 104) C.1 C.2.1 dX3_count_1 (by rw [e_7]; decide) (by rw [e_7]; decide) (by rw [e_7]; decide) (by decide) ?_
    refine lv_aload_n C.1 C.2.1 dX3_count_104 rfl (lv_at hl 0 rfl) ?_
    refine gX3_7 C hW rfl iX3_count_c3 wX3_count_7 dX3_count_105 ?_
    cases h
    exact z_iret C hW dX3_count_108
  have h := if_n h e_7
  refine lv_tableOut (tgt := 109) C.1 C.2.1 dX3_count_1 ?_ (by decide) ?_
  · exact tsw0_7 e_0 e_1 e_2 e_3 e_4 e_5 e_6 e_7
  · refine lv_bipush (v := (-102)) C.1 C.2.1 dX3_count_109 (by decide) ?_
    cases h
    exact z_iret C hW dX3_count_111
theorem mt_X3_count {l : Launch} {Γ : Gm} {A B : Me}  {v1 : Int32} {rZ : Int32}  (h : fX3_count A v1 = some rZ) : Met l yX3_count wsX3_count rmX3_count (PC Γ A B [.ref (Γ.2.2 0), .int v1]) (QI Γ A B rZ) 0 0 (rg Γ) :=
  met_of (by decide) rfl (Nat.le_of_ble_eq_true rfl) (fun p e s m below meth c ls C hW hl => tX3_count_0 C  h  hW (lv_sub (l := [(0, .ref (Γ.2.2 0)), (1, .int v1)]) hl [0, 1] rfl))
abbrev rmX3_with : Room := { frames := 0, cells := 0, slots := 0, locals := 0 }
set_option maxRecDepth 100000 in
theorem wX3_with_0 : Cond.constantLong RX3 228 (31) ∈ wsX3_with := by decide +kernel
def fX3_with    (v0 : Int64) (v2 : Int32) : Option (Int64) := some (((31 : Int64) * v0) + v2.toInt64)
set_option maxRecDepth 100000 in
theorem tX3_with_0 {A B : Me}  {H : Heap} {locs : List Loc} {ls : Array Slot} {v0 : Int64} {v2 : Int32} {rZ : Int64}  (C : Cx Γ p s m args meth c cX3_with 3 (some .long) RX3 wsX3_with)  (h : fX3_with v0 v2 = some rZ)  (hW : Wd Γ A B s.heap H locs) (hl : lv_has ls 3 [(0, .long v0), (2, .int v2)]) : W p l e rmX3_with s m args below meth c H locs 0 0 (MQ below (QL Γ A B rZ) args s 0 0 (rg Γ)) (F0 m 0 ls []) := by
  unfold fX3_with at h
  refine lv_ldc2 (v := 31) C.1 C.2.1 C.2.2.2.2.1 (C.2.2.2.2.2.1 _ wX3_with_0) dX3_with_0 ?_
  refine lv_lload_n C.1 C.2.1 dX3_with_3 rfl (lv_at hl 0 rfl) ?_
  refine lv_lmul C.1 C.2.1 dX3_with_4 ?_
  refine lv_iload_n C.1 C.2.1 dX3_with_5 rfl (lv_at hl 1 rfl) ?_
  refine lv_i2l C.1 C.2.1 dX3_with_6 rfl ?_
  refine lv_ladd C.1 C.2.1 dX3_with_7 ?_
  cases h
  exact z_lret C hW dX3_with_8
theorem mt_X3_with {l : Launch} {Γ : Gm} {A B : Me}  {v0 : Int64} {v2 : Int32} {rZ : Int64}  (h : fX3_with v0 v2 = some rZ) : Met l yX3_with wsX3_with rmX3_with (PC Γ A B [.long v0, .int v2]) (QL Γ A B rZ) 0 0 (rg Γ) :=
  met_of (by decide) rfl (Nat.le_of_ble_eq_true rfl) (fun p e s m below meth c ls C hW hl => tX3_with_0 C  h  hW (lv_sub (l := [(0, .long v0), (2, .int v2)]) hl [0, 1] rfl))
abbrev rmX3_withCask : Room := { frames := 4, cells := 0, slots := 0, locals := 91 }
def fX3_withCask_35  (A : Me) : Nat → Int32 → Int64 → Int32 → Option (Int64)
  | 0, _, _, _ => none
  | n + 1, v3, v4, v6 => if 10 ≤ v6 then (some v4) else (bi (fX3_cask A v3 (10 + v6)) fun r51 => bi (fX3_with v4 r51) fun r54 => fX3_withCask_35 A n v3 r54 (v6 + 1))
set_option maxRecDepth 100000 in
theorem tX3_withCask_35 {A B : Me}  {rZ : Int64}  (C : Cx Γ p s m args meth c cX3_withCask 7 (some .long) RX3 wsX3_withCask)  (n : Nat) : ∀ (v3 : Int32) (v4 : Int64) (v6 : Int32) (H : Heap) (locs : List Loc) (ls : Array Slot), fX3_withCask_35 A n v3 v4 v6 = some rZ → Wd Γ A B s.heap H locs → lv_has ls 7 [(0, .ref (Γ.2.2 0)), (3, .int v3), (4, .long v4), (6, .int v6)] → W p l e rmX3_withCask s m args below meth c H locs 0 0 (MQ below (QL Γ A B rZ) args s 0 0 (rg Γ)) (F0 m 35 ls []) := by
  induction n with
  | zero =>
    intro _ _ _ H locs ls h
    exact nomatch (show (none : Option (Int64)) = some rZ from h)
  | succ n ih =>
    intro v3 v4 v6 H locs ls h  hW hl
    rw [fX3_withCask_35] at h
    refine lv_iload C.1 C.2.1 dX3_withCask_35 (lv_at hl 3 rfl) ?_
    refine lv_bipush (v := 10) C.1 C.2.1 dX3_withCask_37 (by decide) ?_
    refine lv_icmp_ge (tgt := 65) C.1 C.2.1 dX3_withCask_39 (by decide) (fun c_39 => ?_) (fun c_39 => ?_)
    · have h := if_y h c_39
      refine lv_lload C.1 C.2.1 dX3_withCask_65 (lv_at hl 2 rfl) ?_
      cases h
      exact z_lret C hW dX3_withCask_67
    · have h := if_n h c_39
      refine lv_lload C.1 C.2.1 dX3_withCask_42 (lv_at hl 2 rfl) ?_
      refine lv_aload_n C.1 C.2.1 dX3_withCask_44 rfl (lv_at hl 0 rfl) ?_
      refine lv_iload_n C.1 C.2.1 dX3_withCask_45 rfl (lv_at hl 1 rfl) ?_
      refine lv_bipush (v := 10) C.1 C.2.1 dX3_withCask_46 (by decide) ?_
      refine lv_iload C.1 C.2.1 dX3_withCask_48 (lv_at hl 3 rfl) ?_
      refine lv_iadd C.1 C.2.1 dX3_withCask_50 ?_
      obtain ⟨r51, hc51, h⟩ := bi_s h
      refine cVi C hW (As := [.int v3, .int (10 + v6)]) (rest := [.long v4]) (mt_X3_cask  hc51) (cwV 2 C.2.2.2.2.2.1 gX3_withCask_X3_cask rfl rfl rfl (by decide +kernel) ⟨Nat.le_of_ble_eq_true rfl, Nat.le_of_ble_eq_true rfl⟩) (rcv3 C hW (rfl : kd 0 = 3)) rfl hl.1 rfl (Nat.le_of_ble_eq_true rfl) dX3_withCask_51 (Nat.zero_le _) (Nat.zero_le _) (fun H locs hW => ?_)
      obtain ⟨r54, hc54, h⟩ := bi_s h
      refine cSl C hW (As := [.long v4, .int r51]) (rest := []) (mt_X3_with  hc54) (va_cwS 2 C.2.2.2.2.2.1 gX3_withCask_X3_with rfl rfl rfl (by decide +kernel) ⟨Nat.le_of_ble_eq_true rfl, Nat.le_of_ble_eq_true rfl⟩) rfl hl.1 rfl (Nat.le_of_ble_eq_true rfl) dX3_withCask_54 (Nat.zero_le _) (Nat.zero_le _) (fun H locs hW => ?_)
      refine lv_lstore (lv' := [(4, .long r54), (0, .ref (Γ.2.2 0)), (3, .int v3), (6, .int v6)]) C.1 C.2.1 dX3_withCask_57 hl (by decide) rfl (fun ls hl => ?_)
      refine lv_iinc (v := (v6 + 1)) (lv' := [(6, .int (v6 + 1)), (4, .long r54), (0, .ref (Γ.2.2 0)), (3, .int v3)]) C.1 C.2.1 dX3_withCask_59 hl (k := 3) rfl rfl (by decide) rfl (fun ls hl => ?_)
      refine lv_goto (tgt := 35) C.1 C.2.1 dX3_withCask_62 (by decide) ?_
      exact ih _ _ _ _ _ _ h  hW (lv_sub hl [2, 3, 1, 0] rfl)
def fX3_withCask_6  (A : Me) : Nat → Int32 → Int64 → Int32 → Option (Int64)
  | 0, _, _, _ => none
  | n + 1, v3, v4, v6 => if 3 < v6 then (fX3_withCask_35 A FU v3 v4 0) else (bi (fX3_cask A v3 v6) fun r18 => bi (fX3_with v4 r18) fun r21 => fX3_withCask_6 A n v3 r21 (v6 + 1))
set_option maxRecDepth 100000 in
theorem tX3_withCask_6 {A B : Me}  {rZ : Int64}  (C : Cx Γ p s m args meth c cX3_withCask 7 (some .long) RX3 wsX3_withCask)  (n : Nat) : ∀ (v3 : Int32) (v4 : Int64) (v6 : Int32) (H : Heap) (locs : List Loc) (ls : Array Slot), fX3_withCask_6 A n v3 v4 v6 = some rZ → Wd Γ A B s.heap H locs → lv_has ls 7 [(0, .ref (Γ.2.2 0)), (3, .int v3), (4, .long v4), (6, .int v6)] → W p l e rmX3_withCask s m args below meth c H locs 0 0 (MQ below (QL Γ A B rZ) args s 0 0 (rg Γ)) (F0 m 6 ls []) := by
  induction n with
  | zero =>
    intro _ _ _ H locs ls h
    exact nomatch (show (none : Option (Int64)) = some rZ from h)
  | succ n ih =>
    intro v3 v4 v6 H locs ls h  hW hl
    rw [fX3_withCask_6] at h
    refine lv_iload C.1 C.2.1 dX3_withCask_6 (lv_at hl 3 rfl) ?_
    refine lv_iconst (v := 3) C.1 C.2.1 dX3_withCask_8 (by decide) ?_
    refine lv_icmp_gt (tgt := 32) C.1 C.2.1 dX3_withCask_9 (by decide) (fun c_9 => ?_) (fun c_9 => ?_)
    · have h := if_y h c_9
      refine lv_iconst (v := 0) C.1 C.2.1 dX3_withCask_32 (by decide) ?_
      refine lv_istore (lv' := [(6, .int 0), (0, .ref (Γ.2.2 0)), (3, .int v3), (4, .long v4)]) C.1 C.2.1 dX3_withCask_33 hl (by decide) rfl (fun ls hl => ?_)
      exact tX3_withCask_35 C  FU _ _ _ _ _ _ h  hW (lv_sub hl [1, 2, 3, 0] rfl)
    · have h := if_n h c_9
      refine lv_lload C.1 C.2.1 dX3_withCask_12 (lv_at hl 2 rfl) ?_
      refine lv_aload_n C.1 C.2.1 dX3_withCask_14 rfl (lv_at hl 0 rfl) ?_
      refine lv_iload_n C.1 C.2.1 dX3_withCask_15 rfl (lv_at hl 1 rfl) ?_
      refine lv_iload C.1 C.2.1 dX3_withCask_16 (lv_at hl 3 rfl) ?_
      obtain ⟨r18, hc18, h⟩ := bi_s h
      refine cVi C hW (As := [.int v3, .int v6]) (rest := [.long v4]) (mt_X3_cask  hc18) (cwV 2 C.2.2.2.2.2.1 gX3_withCask_X3_cask rfl rfl rfl (by decide +kernel) ⟨Nat.le_of_ble_eq_true rfl, Nat.le_of_ble_eq_true rfl⟩) (rcv3 C hW (rfl : kd 0 = 3)) rfl hl.1 rfl (Nat.le_of_ble_eq_true rfl) dX3_withCask_18 (Nat.zero_le _) (Nat.zero_le _) (fun H locs hW => ?_)
      obtain ⟨r21, hc21, h⟩ := bi_s h
      refine cSl C hW (As := [.long v4, .int r18]) (rest := []) (mt_X3_with  hc21) (va_cwS 2 C.2.2.2.2.2.1 gX3_withCask_X3_with rfl rfl rfl (by decide +kernel) ⟨Nat.le_of_ble_eq_true rfl, Nat.le_of_ble_eq_true rfl⟩) rfl hl.1 rfl (Nat.le_of_ble_eq_true rfl) dX3_withCask_21 (Nat.zero_le _) (Nat.zero_le _) (fun H locs hW => ?_)
      refine lv_lstore (lv' := [(4, .long r21), (0, .ref (Γ.2.2 0)), (3, .int v3), (6, .int v6)]) C.1 C.2.1 dX3_withCask_24 hl (by decide) rfl (fun ls hl => ?_)
      refine lv_iinc (v := (v6 + 1)) (lv' := [(6, .int (v6 + 1)), (4, .long r21), (0, .ref (Γ.2.2 0)), (3, .int v3)]) C.1 C.2.1 dX3_withCask_26 hl (k := 3) rfl rfl (by decide) rfl (fun ls hl => ?_)
      refine lv_goto (tgt := 6) C.1 C.2.1 dX3_withCask_29 (by decide) ?_
      exact ih _ _ _ _ _ _ h  hW (lv_sub hl [2, 3, 1, 0] rfl)
def fX3_withCask  (A : Me)  (v1 : Int64) (v3 : Int32) : Option (Int64) := fX3_withCask_6 A FU v3 v1 0
set_option maxRecDepth 100000 in
theorem tX3_withCask_0 {A B : Me}  {H : Heap} {locs : List Loc} {ls : Array Slot} {v1 : Int64} {v3 : Int32} {rZ : Int64}  (C : Cx Γ p s m args meth c cX3_withCask 7 (some .long) RX3 wsX3_withCask)  (h : fX3_withCask A v1 v3 = some rZ)  (hW : Wd Γ A B s.heap H locs) (hl : lv_has ls 7 [(0, .ref (Γ.2.2 0)), (1, .long v1), (3, .int v3)]) : W p l e rmX3_withCask s m args below meth c H locs 0 0 (MQ below (QL Γ A B rZ) args s 0 0 (rg Γ)) (F0 m 0 ls []) := by
  unfold fX3_withCask at h
  refine lv_lload_n C.1 C.2.1 dX3_withCask_0 rfl (lv_at hl 1 rfl) ?_
  refine lv_lstore (lv' := [(4, .long v1), (0, .ref (Γ.2.2 0)), (1, .long v1), (3, .int v3)]) C.1 C.2.1 dX3_withCask_1 hl (by decide) rfl (fun ls hl => ?_)
  refine lv_iconst (v := 0) C.1 C.2.1 dX3_withCask_3 (by decide) ?_
  refine lv_istore (lv' := [(6, .int 0), (4, .long v1), (0, .ref (Γ.2.2 0)), (1, .long v1), (3, .int v3)]) C.1 C.2.1 dX3_withCask_4 hl (by decide) rfl (fun ls hl => ?_)
  exact tX3_withCask_6 C  FU _ _ _ _ _ _ h  hW (lv_sub hl [2, 4, 1, 0] rfl)
theorem mt_X3_withCask {l : Launch} {Γ : Gm} {A B : Me}  {v1 : Int64} {v3 : Int32} {rZ : Int64}  (h : fX3_withCask A v1 v3 = some rZ) : Met l yX3_withCask wsX3_withCask rmX3_withCask (PC Γ A B [.ref (Γ.2.2 0), .long v1, .int v3]) (QL Γ A B rZ) 0 0 (rg Γ) :=
  met_of (by decide) rfl (Nat.le_of_ble_eq_true rfl) (fun p e s m below meth c ls C hW hl => tX3_withCask_0 C  h  hW (lv_sub (l := [(0, .ref (Γ.2.2 0)), (1, .long v1), (3, .int v3)]) hl [0, 1, 2] rfl))
abbrev rmX3_withQuestions : Room := { frames := 5, cells := 0, slots := 0, locals := 121 }
set_option maxRecDepth 100000 in
theorem iX3_withQuestions_c3 : ∀ w ∈ wsX30, w ∈ wsX3_withQuestions := by decide +kernel
set_option maxRecDepth 100000 in
theorem wX3_withQuestions_0 : Cond.fieldLink RX3 19 "WineByYears" "now" "LWineByYears$Cellar;" ∈ wsX3_withQuestions := by decide +kernel
def fX3_withQuestions_54   : Nat → Me → Int64 → Int32 → Option (Int64 × Me)
  | 0, _, _, _ => none
  | n + 1, A, v5, v7 => if 5 ≤ v7 then (some (v5, A)) else (bi (fX1_possibleBirths A 3 v7) fun r68 => bi (fX3_with v5 r68) fun r71 => bi (fX1_bestQuestion A 3 v7) fun r84 => bi (fX3_with r71 r84) fun r87 => fX3_withQuestions_54 n A r87 (v7 + 1))
set_option maxRecDepth 100000 in
theorem tX3_withQuestions_54 {B : Me}  {rZ : Int64} {AZ : Me}  (C : Cx Γ p s m args meth c cX3_withQuestions 8 (some .long) RX3 wsX3_withQuestions)  (n : Nat) : ∀ (A : Me) (v5 : Int64) (v7 : Int32) (H : Heap) (locs : List Loc) (ls : Array Slot), fX3_withQuestions_54 n A v5 v7 = some (rZ, AZ) → Wd Γ A B s.heap H locs → lv_has ls 8 [(0, .ref (Γ.2.2 0)), (5, .long v5), (7, .int v7)] → W p l e rmX3_withQuestions s m args below meth c H locs 0 0 (MQ below (QL Γ AZ B rZ) args s 0 0 (rg Γ)) (F0 m 54 ls []) := by
  induction n with
  | zero =>
    intro _ _ _ H locs ls h
    exact nomatch (show (none : Option (Int64 × Me)) = some (rZ, AZ) from h)
  | succ n ih =>
    intro A v5 v7 H locs ls h  hW hl
    rw [fX3_withQuestions_54] at h
    refine lv_iload C.1 C.2.1 dX3_withQuestions_54 (lv_at hl 2 rfl) ?_
    refine lv_iconst (v := 5) C.1 C.2.1 dX3_withQuestions_56 (by decide) ?_
    refine lv_icmp_ge (tgt := 98) C.1 C.2.1 dX3_withQuestions_57 (by decide) (fun c_57 => ?_) (fun c_57 => ?_)
    · have h := if_y h c_57
      refine lv_lload C.1 C.2.1 dX3_withQuestions_98 (lv_at hl 1 rfl) ?_
      cases h
      exact z_lret C hW dX3_withQuestions_100
    · have h := if_n h c_57
      refine lv_lload C.1 C.2.1 dX3_withQuestions_60 (lv_at hl 1 rfl) ?_
      refine lv_aload_n C.1 C.2.1 dX3_withQuestions_62 rfl (lv_at hl 0 rfl) ?_
      refine gX3_1 C hW rfl iX3_withQuestions_c3 wX3_withQuestions_0 dX3_withQuestions_63 ?_
      refine lv_iload C.1 C.2.1 dX3_withQuestions_66 (lv_at hl 2 rfl) ?_
      obtain ⟨r68, hc68, h⟩ := bi_s h
      refine cVi C hW (As := [.int v7]) (rest := [.long v5]) (mt_X1_possibleBirths rfl hc68) (cwV 1 C.2.2.2.2.2.1 gX3_withQuestions_X1_possibleBirths rfl rfl rfl (by decide +kernel) ⟨Nat.le_of_ble_eq_true rfl, Nat.le_of_ble_eq_true rfl⟩) (rcv1 C hW (rfl : kd 3 = 1)) rfl hl.1 rfl (Nat.le_of_ble_eq_true rfl) dX3_withQuestions_68 (Nat.zero_le _) (Nat.zero_le _) (fun H locs hW => ?_)
      obtain ⟨r71, hc71, h⟩ := bi_s h
      refine cSl C hW (As := [.long v5, .int r68]) (rest := []) (mt_X3_with  hc71) (va_cwS 2 C.2.2.2.2.2.1 gX3_withQuestions_X3_with rfl rfl rfl (by decide +kernel) ⟨Nat.le_of_ble_eq_true rfl, Nat.le_of_ble_eq_true rfl⟩) rfl hl.1 rfl (Nat.le_of_ble_eq_true rfl) dX3_withQuestions_71 (Nat.zero_le _) (Nat.zero_le _) (fun H locs hW => ?_)
      refine lv_lstore (lv' := [(5, .long r71), (0, .ref (Γ.2.2 0)), (7, .int v7)]) C.1 C.2.1 dX3_withQuestions_74 hl (by decide) rfl (fun ls hl => ?_)
      refine lv_lload C.1 C.2.1 dX3_withQuestions_76 (lv_at hl 0 rfl) ?_
      refine lv_aload_n C.1 C.2.1 dX3_withQuestions_78 rfl (lv_at hl 1 rfl) ?_
      refine gX3_1 C hW rfl iX3_withQuestions_c3 wX3_withQuestions_0 dX3_withQuestions_79 ?_
      refine lv_iload C.1 C.2.1 dX3_withQuestions_82 (lv_at hl 2 rfl) ?_
      obtain ⟨r84, hc84, h⟩ := bi_s h
      refine cVi C hW (As := [.int v7]) (rest := [.long r71]) (mt_X1_bestQuestion rfl hc84) (cwV 1 C.2.2.2.2.2.1 gX3_withQuestions_X1_bestQuestion rfl rfl rfl (by decide +kernel) ⟨Nat.le_of_ble_eq_true rfl, Nat.le_of_ble_eq_true rfl⟩) (rcv1 C hW (rfl : kd 3 = 1)) rfl hl.1 rfl (Nat.le_of_ble_eq_true rfl) dX3_withQuestions_84 (Nat.zero_le _) (Nat.zero_le _) (fun H locs hW => ?_)
      obtain ⟨r87, hc87, h⟩ := bi_s h
      refine cSl C hW (As := [.long r71, .int r84]) (rest := []) (mt_X3_with  hc87) (va_cwS 2 C.2.2.2.2.2.1 gX3_withQuestions_X3_with rfl rfl rfl (by decide +kernel) ⟨Nat.le_of_ble_eq_true rfl, Nat.le_of_ble_eq_true rfl⟩) rfl hl.1 rfl (Nat.le_of_ble_eq_true rfl) dX3_withQuestions_87 (Nat.zero_le _) (Nat.zero_le _) (fun H locs hW => ?_)
      refine lv_lstore (lv' := [(5, .long r87), (0, .ref (Γ.2.2 0)), (7, .int v7)]) C.1 C.2.1 dX3_withQuestions_90 hl (by decide) rfl (fun ls hl => ?_)
      refine lv_iinc (v := (v7 + 1)) (lv' := [(7, .int (v7 + 1)), (5, .long r87), (0, .ref (Γ.2.2 0))]) C.1 C.2.1 dX3_withQuestions_92 hl (k := 2) rfl rfl (by decide) rfl (fun ls hl => ?_)
      refine lv_goto (tgt := 54) C.1 C.2.1 dX3_withQuestions_95 (by decide) ?_
      exact ih _ _ _ _ _ _ h  hW (lv_sub hl [2, 1, 0] rfl)
def fX3_withQuestions  (A : Me)  (v1 : Int64) : Option (Int64 × Me) := bi (fX1_allPeople A 3) fun r4 => b2 (fX3_leastBlend A r4 5) fun r11 A11 => b2 (fX1_seated A11 3 r4) fun r22 A22 => bi (fX3_with v1 r22) fun r25 => bi (fX3_casksIn r11) fun r34 => bi (fX3_with r25 r34) fun r37 => bi (fX3_with r37 r11) fun r46 => fX3_withQuestions_54 FU A22 r46 0
set_option maxRecDepth 100000 in
theorem tX3_withQuestions_0 {A B : Me}  {H : Heap} {locs : List Loc} {ls : Array Slot} {v1 : Int64} {rZ : Int64} {AZ : Me}  (C : Cx Γ p s m args meth c cX3_withQuestions 8 (some .long) RX3 wsX3_withQuestions)  (h : fX3_withQuestions A v1 = some (rZ, AZ))  (hW : Wd Γ A B s.heap H locs) (hl : lv_has ls 8 [(0, .ref (Γ.2.2 0)), (1, .long v1)]) : W p l e rmX3_withQuestions s m args below meth c H locs 0 0 (MQ below (QL Γ AZ B rZ) args s 0 0 (rg Γ)) (F0 m 0 ls []) := by
  unfold fX3_withQuestions at h
  refine lv_aload_n C.1 C.2.1 dX3_withQuestions_0 rfl (lv_at hl 0 rfl) ?_
  refine gX3_1 C hW rfl iX3_withQuestions_c3 wX3_withQuestions_0 dX3_withQuestions_1 ?_
  obtain ⟨r4, hc4, h⟩ := bi_s h
  refine cVi C hW (As := []) (rest := []) (mt_X1_allPeople rfl hc4) (cwV 0 C.2.2.2.2.2.1 gX3_withQuestions_X1_allPeople rfl rfl rfl (by decide +kernel) ⟨Nat.le_of_ble_eq_true rfl, Nat.le_of_ble_eq_true rfl⟩) (rcv1 C hW (rfl : kd 3 = 1)) rfl hl.1 rfl (Nat.le_of_ble_eq_true rfl) dX3_withQuestions_4 (Nat.zero_le _) (Nat.zero_le _) (fun H locs hW => ?_)
  refine lv_istore_n (lv' := [(3, .int r4), (0, .ref (Γ.2.2 0)), (1, .long v1)]) C.1 C.2.1 dX3_withQuestions_7 rfl hl (by decide) rfl (fun ls hl => ?_)
  refine lv_aload_n C.1 C.2.1 dX3_withQuestions_8 rfl (lv_at hl 1 rfl) ?_
  refine lv_iload_n C.1 C.2.1 dX3_withQuestions_9 rfl (lv_at hl 0 rfl) ?_
  refine lv_iconst (v := 5) C.1 C.2.1 dX3_withQuestions_10 (by decide) ?_
  obtain ⟨r11, A11, hc11, h⟩ := b2_s h
  refine cVi C hW (As := [.int r4, .int 5]) (rest := []) (mt_X3_leastBlend  hc11) (cwV 2 C.2.2.2.2.2.1 gX3_withQuestions_X3_leastBlend rfl rfl rfl (by decide +kernel) ⟨Nat.le_of_ble_eq_true rfl, Nat.le_of_ble_eq_true rfl⟩) (rcv3 C hW (rfl : kd 0 = 3)) rfl hl.1 rfl (Nat.le_of_ble_eq_true rfl) dX3_withQuestions_11 (Nat.zero_le _) (Nat.zero_le _) (fun H locs hW => ?_)
  refine lv_istore (lv' := [(4, .int r11), (3, .int r4), (0, .ref (Γ.2.2 0)), (1, .long v1)]) C.1 C.2.1 dX3_withQuestions_14 hl (by decide) rfl (fun ls hl => ?_)
  refine lv_lload_n C.1 C.2.1 dX3_withQuestions_16 rfl (lv_at hl 3 rfl) ?_
  refine lv_aload_n C.1 C.2.1 dX3_withQuestions_17 rfl (lv_at hl 2 rfl) ?_
  refine gX3_1 C hW rfl iX3_withQuestions_c3 wX3_withQuestions_0 dX3_withQuestions_18 ?_
  refine lv_iload_n C.1 C.2.1 dX3_withQuestions_21 rfl (lv_at hl 1 rfl) ?_
  obtain ⟨r22, A22, hc22, h⟩ := b2_s h
  refine cVi C hW (As := [.int r4]) (rest := [.long v1]) (mt_X1_seated rfl hc22) (cwV 1 C.2.2.2.2.2.1 gX3_withQuestions_X1_seated rfl rfl rfl (by decide +kernel) ⟨Nat.le_of_ble_eq_true rfl, Nat.le_of_ble_eq_true rfl⟩) (rcv1 C hW (rfl : kd 3 = 1)) rfl hl.1 rfl (Nat.le_of_ble_eq_true rfl) dX3_withQuestions_22 (Nat.zero_le _) (Nat.zero_le _) (fun H locs hW => ?_)
  obtain ⟨r25, hc25, h⟩ := bi_s h
  refine cSl C hW (As := [.long v1, .int r22]) (rest := []) (mt_X3_with  hc25) (va_cwS 2 C.2.2.2.2.2.1 gX3_withQuestions_X3_with rfl rfl rfl (by decide +kernel) ⟨Nat.le_of_ble_eq_true rfl, Nat.le_of_ble_eq_true rfl⟩) rfl hl.1 rfl (Nat.le_of_ble_eq_true rfl) dX3_withQuestions_25 (Nat.zero_le _) (Nat.zero_le _) (fun H locs hW => ?_)
  refine lv_lstore (lv' := [(5, .long r25), (4, .int r11), (3, .int r4), (0, .ref (Γ.2.2 0)), (1, .long v1)]) C.1 C.2.1 dX3_withQuestions_28 hl (by decide) rfl (fun ls hl => ?_)
  refine lv_lload C.1 C.2.1 dX3_withQuestions_30 (lv_at hl 0 rfl) ?_
  refine lv_iload C.1 C.2.1 dX3_withQuestions_32 (lv_at hl 1 rfl) ?_
  obtain ⟨r34, hc34, h⟩ := bi_s h
  refine cSi C hW (As := [.int r11]) (rest := [.long r25]) (mt_X3_casksIn  hc34) (va_cwS 1 C.2.2.2.2.2.1 gX3_withQuestions_X3_casksIn rfl rfl rfl (by decide +kernel) ⟨Nat.le_of_ble_eq_true rfl, Nat.le_of_ble_eq_true rfl⟩) rfl hl.1 rfl (Nat.le_of_ble_eq_true rfl) dX3_withQuestions_34 (Nat.zero_le _) (Nat.zero_le _) (fun H locs hW => ?_)
  obtain ⟨r37, hc37, h⟩ := bi_s h
  refine cSl C hW (As := [.long r25, .int r34]) (rest := []) (mt_X3_with  hc37) (va_cwS 2 C.2.2.2.2.2.1 gX3_withQuestions_X3_with rfl rfl rfl (by decide +kernel) ⟨Nat.le_of_ble_eq_true rfl, Nat.le_of_ble_eq_true rfl⟩) rfl hl.1 rfl (Nat.le_of_ble_eq_true rfl) dX3_withQuestions_37 (Nat.zero_le _) (Nat.zero_le _) (fun H locs hW => ?_)
  refine lv_lstore (lv' := [(5, .long r37), (4, .int r11), (3, .int r4), (0, .ref (Γ.2.2 0)), (1, .long v1)]) C.1 C.2.1 dX3_withQuestions_40 hl (by decide) rfl (fun ls hl => ?_)
  refine lv_lload C.1 C.2.1 dX3_withQuestions_42 (lv_at hl 0 rfl) ?_
  refine lv_iload C.1 C.2.1 dX3_withQuestions_44 (lv_at hl 1 rfl) ?_
  obtain ⟨r46, hc46, h⟩ := bi_s h
  refine cSl C hW (As := [.long r37, .int r11]) (rest := []) (mt_X3_with  hc46) (va_cwS 2 C.2.2.2.2.2.1 gX3_withQuestions_X3_with rfl rfl rfl (by decide +kernel) ⟨Nat.le_of_ble_eq_true rfl, Nat.le_of_ble_eq_true rfl⟩) rfl hl.1 rfl (Nat.le_of_ble_eq_true rfl) dX3_withQuestions_46 (Nat.zero_le _) (Nat.zero_le _) (fun H locs hW => ?_)
  refine lv_lstore (lv' := [(5, .long r46), (4, .int r11), (3, .int r4), (0, .ref (Γ.2.2 0)), (1, .long v1)]) C.1 C.2.1 dX3_withQuestions_49 hl (by decide) rfl (fun ls hl => ?_)
  refine lv_iconst (v := 0) C.1 C.2.1 dX3_withQuestions_51 (by decide) ?_
  refine lv_istore (lv' := [(7, .int 0), (5, .long r46), (4, .int r11), (3, .int r4), (0, .ref (Γ.2.2 0)), (1, .long v1)]) C.1 C.2.1 dX3_withQuestions_52 hl (by decide) rfl (fun ls hl => ?_)
  exact tX3_withQuestions_54 C  FU _ _ _ _ _ _ h  hW (lv_sub hl [4, 1, 0] rfl)
theorem mt_X3_withQuestions {l : Launch} {Γ : Gm} {A B : Me}  {v1 : Int64} {rZ : Int64} {AZ : Me}  (h : fX3_withQuestions A v1 = some (rZ, AZ)) : Met l yX3_withQuestions wsX3_withQuestions rmX3_withQuestions (PC Γ A B [.ref (Γ.2.2 0), .long v1]) (QL Γ AZ B rZ) 0 0 (rg Γ) :=
  met_of (by decide) rfl (Nat.le_of_ble_eq_true rfl) (fun p e s m below meth c ls C hW hl => tX3_withQuestions_0 C  h  hW (lv_sub (l := [(0, .ref (Γ.2.2 0)), (1, .long v1)]) hl [0, 1] rfl))
abbrev rmX3_digest : Room := { frames := 6, cells := 0, slots := 0, locals := 148 }
set_option maxRecDepth 100000 in
theorem iX3_digest_c1 : ∀ w ∈ wsX10, w ∈ wsX3_digest := by decide +kernel
set_option maxRecDepth 100000 in
theorem iX3_digest_c2 : ∀ w ∈ wsX20, w ∈ wsX3_digest := by decide +kernel
set_option maxRecDepth 100000 in
theorem iX3_digest_c3 : ∀ w ∈ wsX30, w ∈ wsX3_digest := by decide +kernel
set_option maxRecDepth 100000 in
theorem wX3_digest_0 : Cond.constantLong RX3 206 (863) ∈ wsX3_digest := by decide +kernel
set_option maxRecDepth 100000 in
theorem wX3_digest_1 : Cond.fieldLink RX3 19 "WineByYears" "now" "LWineByYears$Cellar;" ∈ wsX3_digest := by decide +kernel
set_option maxRecDepth 100000 in
theorem wX3_digest_2 : Cond.fieldLink RX3 161 "WineByYears$Cellar" "caskCount" "I" ∈ wsX3_digest := by decide +kernel
set_option maxRecDepth 100000 in
theorem wX3_digest_3 : Cond.fieldLink RX3 103 "WineByYears$Cellar" "peopleCount" "I" ∈ wsX3_digest := by decide +kernel
set_option maxRecDepth 100000 in
theorem wX3_digest_4 : Cond.fieldLink RX3 12 "WineByYears" "page" "LWineByYears$Page;" ∈ wsX3_digest := by decide +kernel
set_option maxRecDepth 100000 in
theorem wX3_digest_5 : Cond.fieldLink RX3 47 "WineByYears$Page" "length" "I" ∈ wsX3_digest := by decide +kernel
set_option maxRecDepth 100000 in
theorem wX3_digest_6 : Cond.fieldLink RX3 222 "WineByYears$Page" "codes" "[I" ∈ wsX3_digest := by decide +kernel
def fX3_digest_46 (j32 : Me → Int64 → Int32 → Option (Int64 × Me))  : Nat → Me → Int64 → Int32 → Int32 → Option (Int64 × Me)
  | 0, _, _, _, _ => none
  | n + 1, A, v1, v3, v4 => if 3 < v4 then (j32 A v1 (v3 + 1)) else (bi (fX3_about A v3 v4) fun r57 => bi (fX3_with v1 r57) fun r60 => fX3_digest_46 j32 n A r60 v3 (v4 + 1))
set_option maxRecDepth 100000 in
theorem tX3_digest_46 {B : Me}  {rZ : Int64} {AZ : Me} {j32 : Me → Int64 → Int32 → Option (Int64 × Me)} (C : Cx Γ p s m args meth c cX3_digest 5 (some .long) RX3 wsX3_digest) (hr32 : ∀ (A : Me) (v1 : Int64) (v3 : Int32) (H : Heap) (locs : List Loc) (ls : Array Slot), j32 A v1 v3 = some (rZ, AZ) → Wd Γ A B s.heap H locs → lv_has ls 5 [(0, .ref (Γ.2.2 0)), (1, .long v1), (3, .int v3)] → W p l e rmX3_digest s m args below meth c H locs 0 0 (MQ below (QL Γ AZ B rZ) args s 0 0 (rg Γ)) (F0 m 32 ls [])) (n : Nat) : ∀ (A : Me) (v1 : Int64) (v3 : Int32) (v4 : Int32) (H : Heap) (locs : List Loc) (ls : Array Slot), fX3_digest_46 j32 n A v1 v3 v4 = some (rZ, AZ) → Wd Γ A B s.heap H locs → lv_has ls 5 [(0, .ref (Γ.2.2 0)), (1, .long v1), (3, .int v3), (4, .int v4)] → W p l e rmX3_digest s m args below meth c H locs 0 0 (MQ below (QL Γ AZ B rZ) args s 0 0 (rg Γ)) (F0 m 46 ls []) := by
  induction n with
  | zero =>
    intro _ _ _ _ H locs ls h
    exact nomatch (show (none : Option (Int64 × Me)) = some (rZ, AZ) from h)
  | succ n ih =>
    intro A v1 v3 v4 H locs ls h  hW hl
    rw [fX3_digest_46] at h
    refine lv_iload C.1 C.2.1 dX3_digest_46 (lv_at hl 3 rfl) ?_
    refine lv_iconst (v := 3) C.1 C.2.1 dX3_digest_48 (by decide) ?_
    refine lv_icmp_gt (tgt := 70) C.1 C.2.1 dX3_digest_49 (by decide) (fun c_49 => ?_) (fun c_49 => ?_)
    · have h := if_y h c_49
      refine lv_iinc (v := (v3 + 1)) (lv' := [(3, .int (v3 + 1)), (0, .ref (Γ.2.2 0)), (1, .long v1), (4, .int v4)]) C.1 C.2.1 dX3_digest_70 hl (k := 2) rfl rfl (by decide) rfl (fun ls hl => ?_)
      refine lv_goto (tgt := 32) C.1 C.2.1 dX3_digest_73 (by decide) ?_
      exact hr32 _ _ _ _ _ _ h  hW (lv_sub hl [1, 2, 0] rfl)
    · have h := if_n h c_49
      refine lv_lload_n C.1 C.2.1 dX3_digest_52 rfl (lv_at hl 1 rfl) ?_
      refine lv_aload_n C.1 C.2.1 dX3_digest_53 rfl (lv_at hl 0 rfl) ?_
      refine lv_iload_n C.1 C.2.1 dX3_digest_54 rfl (lv_at hl 2 rfl) ?_
      refine lv_iload C.1 C.2.1 dX3_digest_55 (lv_at hl 3 rfl) ?_
      obtain ⟨r57, hc57, h⟩ := bi_s h
      refine cVi C hW (As := [.int v3, .int v4]) (rest := [.long v1]) (mt_X3_about  hc57) (cwV 2 C.2.2.2.2.2.1 gX3_digest_X3_about rfl rfl rfl (by decide +kernel) ⟨Nat.le_of_ble_eq_true rfl, Nat.le_of_ble_eq_true rfl⟩) (rcv3 C hW (rfl : kd 0 = 3)) rfl hl.1 rfl (Nat.le_of_ble_eq_true rfl) dX3_digest_57 (Nat.zero_le _) (Nat.zero_le _) (fun H locs hW => ?_)
      obtain ⟨r60, hc60, h⟩ := bi_s h
      refine cSl C hW (As := [.long v1, .int r57]) (rest := []) (mt_X3_with  hc60) (va_cwS 2 C.2.2.2.2.2.1 gX3_digest_X3_with rfl rfl rfl (by decide +kernel) ⟨Nat.le_of_ble_eq_true rfl, Nat.le_of_ble_eq_true rfl⟩) rfl hl.1 rfl (Nat.le_of_ble_eq_true rfl) dX3_digest_60 (Nat.zero_le _) (Nat.zero_le _) (fun H locs hW => ?_)
      refine lv_lstore_n (lv' := [(1, .long r60), (0, .ref (Γ.2.2 0)), (3, .int v3), (4, .int v4)]) C.1 C.2.1 dX3_digest_63 rfl hl (by decide) rfl (fun ls hl => ?_)
      refine lv_iinc (v := (v4 + 1)) (lv' := [(4, .int (v4 + 1)), (1, .long r60), (0, .ref (Γ.2.2 0)), (3, .int v3)]) C.1 C.2.1 dX3_digest_64 hl (k := 3) rfl rfl (by decide) rfl (fun ls hl => ?_)
      refine lv_goto (tgt := 46) C.1 C.2.1 dX3_digest_67 (by decide) ?_
      exact ih _ _ _ _ _ _ _ h  hW (lv_sub hl [2, 1, 3, 0] rfl)
def fX3_digest_127   : Nat → Me → Int64 → Int32 → Option (Int64 × Me)
  | 0, _, _, _ => none
  | n + 1, A, v1, v3 => if 8 ≤ v3 then (some (v1, A)) else (bi (fX3_count A v3) fun r136 => bi (fX3_with v1 r136) fun r139 => fX3_digest_127 n A r139 (v3 + 1))
set_option maxRecDepth 100000 in
theorem tX3_digest_127 {B : Me}  {rZ : Int64} {AZ : Me}  (C : Cx Γ p s m args meth c cX3_digest 5 (some .long) RX3 wsX3_digest)  (n : Nat) : ∀ (A : Me) (v1 : Int64) (v3 : Int32) (H : Heap) (locs : List Loc) (ls : Array Slot), fX3_digest_127 n A v1 v3 = some (rZ, AZ) → Wd Γ A B s.heap H locs → lv_has ls 5 [(0, .ref (Γ.2.2 0)), (1, .long v1), (3, .int v3)] → W p l e rmX3_digest s m args below meth c H locs 0 0 (MQ below (QL Γ AZ B rZ) args s 0 0 (rg Γ)) (F0 m 127 ls []) := by
  induction n with
  | zero =>
    intro _ _ _ H locs ls h
    exact nomatch (show (none : Option (Int64 × Me)) = some (rZ, AZ) from h)
  | succ n ih =>
    intro A v1 v3 H locs ls h  hW hl
    rw [fX3_digest_127] at h
    refine lv_iload_n C.1 C.2.1 dX3_digest_127 rfl (lv_at hl 2 rfl) ?_
    refine lv_bipush (v := 8) C.1 C.2.1 dX3_digest_128 (by decide) ?_
    refine lv_icmp_ge (tgt := 149) C.1 C.2.1 dX3_digest_130 (by decide) (fun c_130 => ?_) (fun c_130 => ?_)
    · have h := if_y h c_130
      refine lv_lload_n C.1 C.2.1 dX3_digest_149 rfl (lv_at hl 1 rfl) ?_
      cases h
      exact z_lret C hW dX3_digest_150
    · have h := if_n h c_130
      refine lv_lload_n C.1 C.2.1 dX3_digest_133 rfl (lv_at hl 1 rfl) ?_
      refine lv_aload_n C.1 C.2.1 dX3_digest_134 rfl (lv_at hl 0 rfl) ?_
      refine lv_iload_n C.1 C.2.1 dX3_digest_135 rfl (lv_at hl 2 rfl) ?_
      obtain ⟨r136, hc136, h⟩ := bi_s h
      refine cVi C hW (As := [.int v3]) (rest := [.long v1]) (mt_X3_count  hc136) (cwV 1 C.2.2.2.2.2.1 gX3_digest_X3_count rfl rfl rfl (by decide +kernel) ⟨Nat.le_of_ble_eq_true rfl, Nat.le_of_ble_eq_true rfl⟩) (rcv3 C hW (rfl : kd 0 = 3)) rfl hl.1 rfl (Nat.le_of_ble_eq_true rfl) dX3_digest_136 (Nat.zero_le _) (Nat.zero_le _) (fun H locs hW => ?_)
      obtain ⟨r139, hc139, h⟩ := bi_s h
      refine cSl C hW (As := [.long v1, .int r136]) (rest := []) (mt_X3_with  hc139) (va_cwS 2 C.2.2.2.2.2.1 gX3_digest_X3_with rfl rfl rfl (by decide +kernel) ⟨Nat.le_of_ble_eq_true rfl, Nat.le_of_ble_eq_true rfl⟩) rfl hl.1 rfl (Nat.le_of_ble_eq_true rfl) dX3_digest_139 (Nat.zero_le _) (Nat.zero_le _) (fun H locs hW => ?_)
      refine lv_lstore_n (lv' := [(1, .long r139), (0, .ref (Γ.2.2 0)), (3, .int v3)]) C.1 C.2.1 dX3_digest_142 rfl hl (by decide) rfl (fun ls hl => ?_)
      refine lv_iinc (v := (v3 + 1)) (lv' := [(3, .int (v3 + 1)), (1, .long r139), (0, .ref (Γ.2.2 0))]) C.1 C.2.1 dX3_digest_143 hl (k := 2) rfl rfl (by decide) rfl (fun ls hl => ?_)
      refine lv_goto (tgt := 127) C.1 C.2.1 dX3_digest_146 (by decide) ?_
      exact ih _ _ _ _ _ _ h  hW (lv_sub hl [2, 1, 0] rfl)
def fX3_digest_94   : Nat → Me → Int64 → Int32 → Option (Int64 × Me)
  | 0, _, _, _ => none
  | n + 1, A, v1, v3 => if (A 1 1) ≤ v3 then (fX3_digest_127 FU A v1 0) else (ck (inb v3 18) <| bi (fX3_with v1 (A 2 v3.toNatClampNeg)) fun r115 => fX3_digest_94 n A r115 (v3 + 1))
set_option maxRecDepth 100000 in
theorem tX3_digest_94 {B : Me}  {rZ : Int64} {AZ : Me}  (C : Cx Γ p s m args meth c cX3_digest 5 (some .long) RX3 wsX3_digest)  (n : Nat) : ∀ (A : Me) (v1 : Int64) (v3 : Int32) (H : Heap) (locs : List Loc) (ls : Array Slot), fX3_digest_94 n A v1 v3 = some (rZ, AZ) → Wd Γ A B s.heap H locs → lv_has ls 5 [(0, .ref (Γ.2.2 0)), (1, .long v1), (3, .int v3)] → W p l e rmX3_digest s m args below meth c H locs 0 0 (MQ below (QL Γ AZ B rZ) args s 0 0 (rg Γ)) (F0 m 94 ls []) := by
  induction n with
  | zero =>
    intro _ _ _ H locs ls h
    exact nomatch (show (none : Option (Int64 × Me)) = some (rZ, AZ) from h)
  | succ n ih =>
    intro A v1 v3 H locs ls h  hW hl
    rw [fX3_digest_94] at h
    refine lv_iload_n C.1 C.2.1 dX3_digest_94 rfl (lv_at hl 2 rfl) ?_
    refine lv_aload_n C.1 C.2.1 dX3_digest_95 rfl (lv_at hl 0 rfl) ?_
    refine gX3_0 C hW rfl iX3_digest_c3 wX3_digest_4 dX3_digest_96 ?_
    refine gX2_1 C hW rfl iX3_digest_c2 wX3_digest_5 dX3_digest_99 ?_
    refine lv_icmp_ge (tgt := 125) C.1 C.2.1 dX3_digest_102 (by decide) (fun c_102 => ?_) (fun c_102 => ?_)
    · have h := if_y h c_102
      refine lv_iconst (v := 0) C.1 C.2.1 dX3_digest_125 (by decide) ?_
      refine lv_istore_n (lv' := [(3, .int 0), (0, .ref (Γ.2.2 0)), (1, .long v1)]) C.1 C.2.1 dX3_digest_126 rfl hl (by decide) rfl (fun ls hl => ?_)
      exact tX3_digest_127 C  FU _ _ _ _ _ _ h  hW (lv_sub hl [1, 2, 0] rfl)
    · have h := if_n h c_102
      refine lv_lload_n C.1 C.2.1 dX3_digest_105 rfl (lv_at hl 1 rfl) ?_
      refine lv_aload_n C.1 C.2.1 dX3_digest_106 rfl (lv_at hl 0 rfl) ?_
      refine gX3_0 C hW rfl iX3_digest_c3 wX3_digest_4 dX3_digest_107 ?_
      refine gX2_0 C hW rfl iX3_digest_c2 wX3_digest_6 dX3_digest_110 ?_
      refine lv_iload_n C.1 C.2.1 dX3_digest_113 rfl (lv_at hl 2 rfl) ?_
      obtain ⟨hi114, h⟩ := ck_s h
      refine la6 C hW ⟨rfl, rfl⟩ hi114 dX3_digest_114 ?_
      obtain ⟨r115, hc115, h⟩ := bi_s h
      refine cSl C hW (As := [.long v1, .int (A 2 v3.toNatClampNeg)]) (rest := []) (mt_X3_with  hc115) (va_cwS 2 C.2.2.2.2.2.1 gX3_digest_X3_with rfl rfl rfl (by decide +kernel) ⟨Nat.le_of_ble_eq_true rfl, Nat.le_of_ble_eq_true rfl⟩) rfl hl.1 rfl (Nat.le_of_ble_eq_true rfl) dX3_digest_115 (Nat.zero_le _) (Nat.zero_le _) (fun H locs hW => ?_)
      refine lv_lstore_n (lv' := [(1, .long r115), (0, .ref (Γ.2.2 0)), (3, .int v3)]) C.1 C.2.1 dX3_digest_118 rfl hl (by decide) rfl (fun ls hl => ?_)
      refine lv_iinc (v := (v3 + 1)) (lv' := [(3, .int (v3 + 1)), (1, .long r115), (0, .ref (Γ.2.2 0))]) C.1 C.2.1 dX3_digest_119 hl (k := 2) rfl rfl (by decide) rfl (fun ls hl => ?_)
      refine lv_goto (tgt := 94) C.1 C.2.1 dX3_digest_122 (by decide) ?_
      exact ih _ _ _ _ _ _ h  hW (lv_sub hl [2, 1, 0] rfl)
def fX3_digest_92  (A : Me)  (v1 : Int64) : Option (Int64 × Me) := fX3_digest_94 FU A v1 0
set_option maxRecDepth 100000 in
theorem tX3_digest_92 {A B : Me}  {H : Heap} {locs : List Loc} {ls : Array Slot} {v1 : Int64} {rZ : Int64} {AZ : Me}  (C : Cx Γ p s m args meth c cX3_digest 5 (some .long) RX3 wsX3_digest)  (h : fX3_digest_92 A v1 = some (rZ, AZ))  (hW : Wd Γ A B s.heap H locs) (hl : lv_has ls 5 [(0, .ref (Γ.2.2 0)), (1, .long v1)]) : W p l e rmX3_digest s m args below meth c H locs 0 0 (MQ below (QL Γ AZ B rZ) args s 0 0 (rg Γ)) (F0 m 92 ls []) := by
  unfold fX3_digest_92 at h
  refine lv_iconst (v := 0) C.1 C.2.1 dX3_digest_92 (by decide) ?_
  refine lv_istore_n (lv' := [(3, .int 0), (0, .ref (Γ.2.2 0)), (1, .long v1)]) C.1 C.2.1 dX3_digest_93 rfl hl (by decide) rfl (fun ls hl => ?_)
  exact tX3_digest_94 C  FU _ _ _ _ _ _ h  hW (lv_sub hl [1, 2, 0] rfl)
def fX3_digest_32   : Nat → Me → Int64 → Int32 → Option (Int64 × Me)
  | 0, _, _, _ => none
  | n + 1, A, v1, v3 => if (A 3 8) ≤ v3 then (bi (fX1_isThere A 3) fun r80 => if r80 = 0 then (fX3_digest_92 A v1) else (b2 (fX3_withQuestions A v1) fun r88 A88 => fX3_digest_92 A88 r88)) else (fX3_digest_46 (fun m x0 x1 => fX3_digest_32 n m x0 x1) FU A v1 v3 0)
set_option maxRecDepth 100000 in
theorem tX3_digest_32 {B : Me}  {rZ : Int64} {AZ : Me}  (C : Cx Γ p s m args meth c cX3_digest 5 (some .long) RX3 wsX3_digest)  (n : Nat) : ∀ (A : Me) (v1 : Int64) (v3 : Int32) (H : Heap) (locs : List Loc) (ls : Array Slot), fX3_digest_32 n A v1 v3 = some (rZ, AZ) → Wd Γ A B s.heap H locs → lv_has ls 5 [(0, .ref (Γ.2.2 0)), (1, .long v1), (3, .int v3)] → W p l e rmX3_digest s m args below meth c H locs 0 0 (MQ below (QL Γ AZ B rZ) args s 0 0 (rg Γ)) (F0 m 32 ls []) := by
  induction n with
  | zero =>
    intro _ _ _ H locs ls h
    exact nomatch (show (none : Option (Int64 × Me)) = some (rZ, AZ) from h)
  | succ n ih =>
    intro A v1 v3 H locs ls h  hW hl
    rw [fX3_digest_32] at h
    refine lv_iload_n C.1 C.2.1 dX3_digest_32 rfl (lv_at hl 2 rfl) ?_
    refine lv_aload_n C.1 C.2.1 dX3_digest_33 rfl (lv_at hl 0 rfl) ?_
    refine gX3_1 C hW rfl iX3_digest_c3 wX3_digest_1 dX3_digest_34 ?_
    refine gX1_8 C hW rfl iX3_digest_c1 wX3_digest_3 dX3_digest_37 ?_
    refine lv_icmp_ge (tgt := 76) C.1 C.2.1 dX3_digest_40 (by decide) (fun c_40 => ?_) (fun c_40 => ?_)
    · have h := if_y h c_40
      refine lv_aload_n C.1 C.2.1 dX3_digest_76 rfl (lv_at hl 0 rfl) ?_
      refine gX3_1 C hW rfl iX3_digest_c3 wX3_digest_1 dX3_digest_77 ?_
      obtain ⟨r80, hc80, h⟩ := bi_s h
      refine cVi C hW (As := []) (rest := []) (mt_X1_isThere rfl hc80) (cwV 0 C.2.2.2.2.2.1 gX3_digest_X1_isThere rfl rfl rfl (by decide +kernel) ⟨Nat.le_of_ble_eq_true rfl, Nat.le_of_ble_eq_true rfl⟩) (rcv1 C hW (rfl : kd 3 = 1)) rfl hl.1 rfl (Nat.le_of_ble_eq_true rfl) dX3_digest_80 (Nat.zero_le _) (Nat.zero_le _) (fun H locs hW => ?_)
      refine lv_if_eq (tgt := 92) C.1 C.2.1 dX3_digest_83 (by decide) (fun c_83 => ?_) (fun c_83 => ?_)
      · have h := if_y h c_83
        exact tX3_digest_92 C  h  hW (lv_sub hl [0, 1] rfl)
      · have h := if_n h c_83
        refine lv_aload_n C.1 C.2.1 dX3_digest_86 rfl (lv_at hl 0 rfl) ?_
        refine lv_lload_n C.1 C.2.1 dX3_digest_87 rfl (lv_at hl 1 rfl) ?_
        obtain ⟨r88, A88, hc88, h⟩ := b2_s h
        refine cVl C hW (As := [.long v1]) (rest := []) (mt_X3_withQuestions  hc88) (cwV 1 C.2.2.2.2.2.1 gX3_digest_X3_withQuestions rfl rfl rfl (by decide +kernel) ⟨Nat.le_of_ble_eq_true rfl, Nat.le_of_ble_eq_true rfl⟩) (rcv3 C hW (rfl : kd 0 = 3)) rfl hl.1 rfl (Nat.le_of_ble_eq_true rfl) dX3_digest_88 (Nat.zero_le _) (Nat.zero_le _) (fun H locs hW => ?_)
        refine lv_lstore_n (lv' := [(1, .long r88), (0, .ref (Γ.2.2 0)), (3, .int v3)]) C.1 C.2.1 dX3_digest_91 rfl hl (by decide) rfl (fun ls hl => ?_)
        exact tX3_digest_92 C  h  hW (lv_sub hl [1, 0] rfl)
    · have h := if_n h c_40
      refine lv_iconst (v := 0) C.1 C.2.1 dX3_digest_43 (by decide) ?_
      refine lv_istore (lv' := [(4, .int 0), (0, .ref (Γ.2.2 0)), (1, .long v1), (3, .int v3)]) C.1 C.2.1 dX3_digest_44 hl (by decide) rfl (fun ls hl => ?_)
      exact tX3_digest_46 C ih FU _ _ _ _ _ _ _ h  hW (lv_sub hl [1, 2, 3, 0] rfl)
def fX3_digest_6   : Nat → Me → Int64 → Int32 → Option (Int64 × Me)
  | 0, _, _, _ => none
  | n + 1, A, v1, v3 => if (A 3 7) ≤ v3 then (fX3_digest_32 FU A v1 0) else (bi (fX3_withCask A v1 v3) fun r20 => fX3_digest_6 n A r20 (v3 + 1))
set_option maxRecDepth 100000 in
theorem tX3_digest_6 {B : Me}  {rZ : Int64} {AZ : Me}  (C : Cx Γ p s m args meth c cX3_digest 5 (some .long) RX3 wsX3_digest)  (n : Nat) : ∀ (A : Me) (v1 : Int64) (v3 : Int32) (H : Heap) (locs : List Loc) (ls : Array Slot), fX3_digest_6 n A v1 v3 = some (rZ, AZ) → Wd Γ A B s.heap H locs → lv_has ls 5 [(0, .ref (Γ.2.2 0)), (1, .long v1), (3, .int v3)] → W p l e rmX3_digest s m args below meth c H locs 0 0 (MQ below (QL Γ AZ B rZ) args s 0 0 (rg Γ)) (F0 m 6 ls []) := by
  induction n with
  | zero =>
    intro _ _ _ H locs ls h
    exact nomatch (show (none : Option (Int64 × Me)) = some (rZ, AZ) from h)
  | succ n ih =>
    intro A v1 v3 H locs ls h  hW hl
    rw [fX3_digest_6] at h
    refine lv_iload_n C.1 C.2.1 dX3_digest_6 rfl (lv_at hl 2 rfl) ?_
    refine lv_aload_n C.1 C.2.1 dX3_digest_7 rfl (lv_at hl 0 rfl) ?_
    refine gX3_1 C hW rfl iX3_digest_c3 wX3_digest_1 dX3_digest_8 ?_
    refine gX1_7 C hW rfl iX3_digest_c1 wX3_digest_2 dX3_digest_11 ?_
    refine lv_icmp_ge (tgt := 30) C.1 C.2.1 dX3_digest_14 (by decide) (fun c_14 => ?_) (fun c_14 => ?_)
    · have h := if_y h c_14
      refine lv_iconst (v := 0) C.1 C.2.1 dX3_digest_30 (by decide) ?_
      refine lv_istore_n (lv' := [(3, .int 0), (0, .ref (Γ.2.2 0)), (1, .long v1)]) C.1 C.2.1 dX3_digest_31 rfl hl (by decide) rfl (fun ls hl => ?_)
      exact tX3_digest_32 C  FU _ _ _ _ _ _ h  hW (lv_sub hl [1, 2, 0] rfl)
    · have h := if_n h c_14
      refine lv_aload_n C.1 C.2.1 dX3_digest_17 rfl (lv_at hl 0 rfl) ?_
      refine lv_lload_n C.1 C.2.1 dX3_digest_18 rfl (lv_at hl 1 rfl) ?_
      refine lv_iload_n C.1 C.2.1 dX3_digest_19 rfl (lv_at hl 2 rfl) ?_
      obtain ⟨r20, hc20, h⟩ := bi_s h
      refine cVl C hW (As := [.long v1, .int v3]) (rest := []) (mt_X3_withCask  hc20) (cwV 2 C.2.2.2.2.2.1 gX3_digest_X3_withCask rfl rfl rfl (by decide +kernel) ⟨Nat.le_of_ble_eq_true rfl, Nat.le_of_ble_eq_true rfl⟩) (rcv3 C hW (rfl : kd 0 = 3)) rfl hl.1 rfl (Nat.le_of_ble_eq_true rfl) dX3_digest_20 (Nat.zero_le _) (Nat.zero_le _) (fun H locs hW => ?_)
      refine lv_lstore_n (lv' := [(1, .long r20), (0, .ref (Γ.2.2 0)), (3, .int v3)]) C.1 C.2.1 dX3_digest_23 rfl hl (by decide) rfl (fun ls hl => ?_)
      refine lv_iinc (v := (v3 + 1)) (lv' := [(3, .int (v3 + 1)), (1, .long r20), (0, .ref (Γ.2.2 0))]) C.1 C.2.1 dX3_digest_24 hl (k := 2) rfl rfl (by decide) rfl (fun ls hl => ?_)
      refine lv_goto (tgt := 6) C.1 C.2.1 dX3_digest_27 (by decide) ?_
      exact ih _ _ _ _ _ _ h  hW (lv_sub hl [2, 1, 0] rfl)
def fX3_digest  (A : Me)   : Option (Int64 × Me) := fX3_digest_6 FU A (863 : Int64) 0
set_option maxRecDepth 100000 in
theorem tX3_digest_0 {A B : Me}  {H : Heap} {locs : List Loc} {ls : Array Slot}  {rZ : Int64} {AZ : Me}  (C : Cx Γ p s m args meth c cX3_digest 5 (some .long) RX3 wsX3_digest)  (h : fX3_digest A = some (rZ, AZ))  (hW : Wd Γ A B s.heap H locs) (hl : lv_has ls 5 [(0, .ref (Γ.2.2 0))]) : W p l e rmX3_digest s m args below meth c H locs 0 0 (MQ below (QL Γ AZ B rZ) args s 0 0 (rg Γ)) (F0 m 0 ls []) := by
  unfold fX3_digest at h
  refine lv_ldc2 (v := 863) C.1 C.2.1 C.2.2.2.2.1 (C.2.2.2.2.2.1 _ wX3_digest_0) dX3_digest_0 ?_
  refine lv_lstore_n (lv' := [(1, .long (863 : Int64)), (0, .ref (Γ.2.2 0))]) C.1 C.2.1 dX3_digest_3 rfl hl (by decide) rfl (fun ls hl => ?_)
  refine lv_iconst (v := 0) C.1 C.2.1 dX3_digest_4 (by decide) ?_
  refine lv_istore_n (lv' := [(3, .int 0), (1, .long (863 : Int64)), (0, .ref (Γ.2.2 0))]) C.1 C.2.1 dX3_digest_5 rfl hl (by decide) rfl (fun ls hl => ?_)
  exact tX3_digest_6 C  FU _ _ _ _ _ _ h  hW (lv_sub hl [2, 1, 0] rfl)
theorem mt_X3_digest {l : Launch} {Γ : Gm} {A B : Me}   {rZ : Int64} {AZ : Me}  (h : fX3_digest A = some (rZ, AZ)) : Met l yX3_digest wsX3_digest rmX3_digest (PC Γ A B [.ref (Γ.2.2 0)]) (QL Γ AZ B rZ) 0 0 (rg Γ) :=
  met_of (by decide) rfl (Nat.le_of_ble_eq_true rfl) (fun p e s m below meth c ls C hW hl => tX3_digest_0 C  h  hW (lv_sub (l := [(0, .ref (Γ.2.2 0))]) hl [0] rfl))
end
