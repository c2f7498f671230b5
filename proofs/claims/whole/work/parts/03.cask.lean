section
variable {p : Program} {l : Launch} {e : Env} {s : State} {m : MethodId} {args : Array Value} {below : List Frame} {meth : Method} {c : Code} {Γ : Gm}
abbrev rmX0_drain : Room := { frames := 0, cells := 0, slots := 0, locals := 0 }
set_option maxRecDepth 100000 in
theorem iX0_drain_c0 : ∀ w ∈ wsX00, w ∈ wsX0_drain := by decide +kernel
set_option maxRecDepth 100000 in
theorem wX0_drain_0 : Cond.fieldLink RX0 15 "WineByYears$Cask" "litres" "I" ∈ wsX0_drain := by decide +kernel
set_option maxRecDepth 100000 in
theorem wX0_drain_1 : Cond.fieldLink RX0 9 "WineByYears$Cask" "ofYear" "[I" ∈ wsX0_drain := by decide +kernel
def fX0_drain_2  (k : Nat) : Nat → Me → Int32 → Option (Me)
  | 0, _, _ => none
  | n + 1, A, v1 => if 10 ≤ v1 then (some (up2 A k 1 0)) else (ck (inb v1 10) <| fX0_drain_2 k n (up2 A (k + 1) v1.toNatClampNeg 0) (v1 + 1))
set_option maxRecDepth 100000 in
theorem tX0_drain_2 {B : Me} {k : Nat} {AZ : Me}  (C : Cx Γ p s m args meth c cX0_drain 2 none RX0 wsX0_drain) (hk : kd k = 0)  (n : Nat) : ∀ (A : Me) (v1 : Int32) (H : Heap) (locs : List Loc) (ls : Array Slot), fX0_drain_2 k n A v1 = some AZ → Wd Γ A B s.heap H locs → lv_has ls 2 [(0, .ref (Γ.2.2 k)), (1, .int v1)] → W p l e rmX0_drain s m args below meth c H locs 0 0 (MQ below (QV Γ AZ B) args s 0 0 (rg Γ)) (F0 m 2 ls []) := by
  induction n with
  | zero =>
    intro _ _ H locs ls h
    exact nomatch (show (none : Option (Me)) = some AZ from h)
  | succ n ih =>
    intro A v1 H locs ls h  hW hl
    rw [fX0_drain_2] at h
    refine lv_iload_n C.1 C.2.1 dX0_drain_2 rfl (lv_at hl 1 rfl) ?_
    refine lv_bipush (v := 10) C.1 C.2.1 dX0_drain_3 (by decide) ?_
    refine lv_icmp_ge (tgt := 21) C.1 C.2.1 dX0_drain_5 (by decide) (fun c_5 => ?_) (fun c_5 => ?_)
    · have h := if_y h c_5
      refine lv_aload_n C.1 C.2.1 dX0_drain_21 rfl (lv_at hl 0 rfl) ?_
      refine lv_iconst (v := 0) C.1 C.2.1 dX0_drain_22 (by decide) ?_
      refine pX0_1 C hW hk iX0_drain_c0 wX0_drain_0 dX0_drain_23 (fun H locs hW => ?_)
      cases h
      exact z_vret C hW dX0_drain_26
    · have h := if_n h c_5
      refine lv_aload_n C.1 C.2.1 dX0_drain_8 rfl (lv_at hl 0 rfl) ?_
      refine gX0_0 C hW hk iX0_drain_c0 wX0_drain_1 dX0_drain_9 ?_
      refine lv_iload_n C.1 C.2.1 dX0_drain_12 rfl (lv_at hl 1 rfl) ?_
      refine lv_iconst (v := 0) C.1 C.2.1 dX0_drain_13 (by decide) ?_
      obtain ⟨hi14, h⟩ := ck_s h
      refine sa6 C hW (kd_0r hk) hi14 dX0_drain_14 (fun H locs hW => ?_)
      refine lv_iinc (v := (v1 + 1)) (lv' := [(1, .int (v1 + 1)), (0, .ref (Γ.2.2 k))]) C.1 C.2.1 dX0_drain_15 hl (k := 1) rfl rfl (by decide) rfl (fun ls hl => ?_)
      refine lv_goto (tgt := 2) C.1 C.2.1 dX0_drain_18 (by decide) ?_
      exact ih _ _ _ _ _ h  hW (lv_sub hl [1, 0] rfl)
def fX0_drain  (A : Me) (k : Nat)  : Option (Me) := fX0_drain_2 k FU A 0
set_option maxRecDepth 100000 in
theorem tX0_drain_0 {A B : Me} {k : Nat} {H : Heap} {locs : List Loc} {ls : Array Slot}  {AZ : Me}  (C : Cx Γ p s m args meth c cX0_drain 2 none RX0 wsX0_drain) (hk : kd k = 0)  (h : fX0_drain A k = some AZ)  (hW : Wd Γ A B s.heap H locs) (hl : lv_has ls 2 [(0, .ref (Γ.2.2 k))]) : W p l e rmX0_drain s m args below meth c H locs 0 0 (MQ below (QV Γ AZ B) args s 0 0 (rg Γ)) (F0 m 0 ls []) := by
  unfold fX0_drain at h
  refine lv_iconst (v := 0) C.1 C.2.1 dX0_drain_0 (by decide) ?_
  refine lv_istore_n (lv' := [(1, .int 0), (0, .ref (Γ.2.2 k))]) C.1 C.2.1 dX0_drain_1 rfl hl (by decide) rfl (fun ls hl => ?_)
  exact tX0_drain_2 C hk FU _ _ _ _ _ h  hW (lv_sub hl [1, 0] rfl)
theorem mt_X0_drain {l : Launch} {Γ : Gm} {A B : Me} {k : Nat}  {AZ : Me} (hk : kd k = 0) (h : fX0_drain A k = some AZ) : Met l yX0_drain wsX0_drain rmX0_drain (PC Γ A B [.ref (Γ.2.2 k)]) (QV Γ AZ B) 0 0 (rg Γ) :=
  met_of (by decide) rfl (Nat.le_of_ble_eq_true rfl) (fun p e s m below meth c ls C hW hl => tX0_drain_0 C hk h  hW (lv_sub (l := [(0, .ref (Γ.2.2 k))]) hl [0] rfl))
abbrev rmX0_put : Room := { frames := 0, cells := 0, slots := 0, locals := 0 }
set_option maxRecDepth 100000 in
theorem iX0_put_c0 : ∀ w ∈ wsX00, w ∈ wsX0_put := by decide +kernel
set_option maxRecDepth 100000 in
theorem wX0_put_0 : Cond.fieldLink RX0 9 "WineByYears$Cask" "ofYear" "[I" ∈ wsX0_put := by decide +kernel
set_option maxRecDepth 100000 in
theorem wX0_put_1 : Cond.fieldLink RX0 15 "WineByYears$Cask" "litres" "I" ∈ wsX0_put := by decide +kernel
def fX0_put_30  (A : Me) (k : Nat)  : Option (Me) := some A
set_option maxRecDepth 100000 in
theorem tX0_put_30 {A B : Me} {k : Nat} {H : Heap} {locs : List Loc} {ls : Array Slot}  {AZ : Me}  (C : Cx Γ p s m args meth c cX0_put 3 none RX0 wsX0_put) (hk : kd k = 0)  (h : fX0_put_30 A k = some AZ)  (hW : Wd Γ A B s.heap H locs) (hl : lv_has ls 3 []) : W p l e rmX0_put s m args below meth c H locs 0 0 (MQ below (QV Γ AZ B) args s 0 0 (rg Γ)) (F0 m 30 ls []) := by
  unfold fX0_put_30 at h
  cases h
  exact z_vret C hW dX0_put_30
def fX0_put  (A : Me) (k : Nat) (v1 : Int32) (v2 : Int32) : Option (Me) := if v1 < 0 then (fX0_put_30 A k) else (if 10 ≤ v1 then (fX0_put_30 A k) else (ck (inb v1 10) <| ck (inb v1 10) <| fX0_put_30 (up2 (up2 A (k + 1) v1.toNatClampNeg ((A (k + 1) v1.toNatClampNeg) + v2)) k 1 (((up2 A (k + 1) v1.toNatClampNeg ((A (k + 1) v1.toNatClampNeg) + v2)) k 1) + v2)) k))
set_option maxRecDepth 100000 in
theorem tX0_put_0 {A B : Me} {k : Nat} {H : Heap} {locs : List Loc} {ls : Array Slot} {v1 : Int32} {v2 : Int32} {AZ : Me}  (C : Cx Γ p s m args meth c cX0_put 3 none RX0 wsX0_put) (hk : kd k = 0)  (h : fX0_put A k v1 v2 = some AZ)  (hW : Wd Γ A B s.heap H locs) (hl : lv_has ls 3 [(0, .ref (Γ.2.2 k)), (1, .int v1), (2, .int v2)]) : W p l e rmX0_put s m args below meth c H locs 0 0 (MQ below (QV Γ AZ B) args s 0 0 (rg Γ)) (F0 m 0 ls []) := by
  unfold fX0_put at h
  refine lv_iload_n C.1 C.2.1 dX0_put_0 rfl (lv_at hl 1 rfl) ?_
  refine lv_if_lt (tgt := 30) C.1 C.2.1 dX0_put_1 (by decide) (fun c_1 => ?_) (fun c_1 => ?_)
  · have h := if_y h c_1
    exact tX0_put_30 C hk h  hW (lv_sub hl [] rfl)
  · have h := if_n h c_1
    refine lv_iload_n C.1 C.2.1 dX0_put_4 rfl (lv_at hl 1 rfl) ?_
    refine lv_bipush (v := 10) C.1 C.2.1 dX0_put_5 (by decide) ?_
    refine lv_icmp_ge (tgt := 30) C.1 C.2.1 dX0_put_7 (by decide) (fun c_7 => ?_) (fun c_7 => ?_)
    · have h := if_y h c_7
      exact tX0_put_30 C hk h  hW (lv_sub hl [] rfl)
    · have h := if_n h c_7
      refine lv_aload_n C.1 C.2.1 dX0_put_10 rfl (lv_at hl 0 rfl) ?_
      refine gX0_0 C hW hk iX0_put_c0 wX0_put_0 dX0_put_11 ?_
      refine lv_iload_n C.1 C.2.1 dX0_put_14 rfl (lv_at hl 1 rfl) ?_
      refine lv_dup2_11 C.1 C.2.1 dX0_put_15 rfl rfl ?_
      obtain ⟨hi16, h⟩ := ck_s h
      refine la6 C hW (kd_0r hk) hi16 dX0_put_16 ?_
      refine lv_iload_n C.1 C.2.1 dX0_put_17 rfl (lv_at hl 2 rfl) ?_
      refine lv_iadd C.1 C.2.1 dX0_put_18 ?_
      obtain ⟨hi19, h⟩ := ck_s h
      refine sa6 C hW (kd_0r hk) hi19 dX0_put_19 (fun H locs hW => ?_)
      refine lv_aload_n C.1 C.2.1 dX0_put_20 rfl (lv_at hl 0 rfl) ?_
      refine lv_dup C.1 C.2.1 dX0_put_21 rfl ?_
      refine gX0_1 C hW hk iX0_put_c0 wX0_put_1 dX0_put_22 ?_
      refine lv_iload_n C.1 C.2.1 dX0_put_25 rfl (lv_at hl 2 rfl) ?_
      refine lv_iadd C.1 C.2.1 dX0_put_26 ?_
      refine pX0_1 C hW hk iX0_put_c0 wX0_put_1 dX0_put_27 (fun H locs hW => ?_)
      exact tX0_put_30 C hk h  hW (lv_sub hl [] rfl)
theorem mt_X0_put {l : Launch} {Γ : Gm} {A B : Me} {k : Nat} {v1 : Int32} {v2 : Int32} {AZ : Me} (hk : kd k = 0) (h : fX0_put A k v1 v2 = some AZ) : Met l yX0_put wsX0_put rmX0_put (PC Γ A B [.ref (Γ.2.2 k), .int v1, .int v2]) (QV Γ AZ B) 0 0 (rg Γ) :=
  met_of (by decide) rfl (Nat.le_of_ble_eq_true rfl) (fun p e s m below meth c ls C hW hl => tX0_put_0 C hk h  hW (lv_sub (l := [(0, .ref (Γ.2.2 k)), (1, .int v1), (2, .int v2)]) hl [0, 1, 2] rfl))
abbrev rmX0_putAllOf : Room := { frames := 1, cells := 0, slots := 0, locals := 22 }
set_option maxRecDepth 100000 in
theorem iX0_putAllOf_c0 : ∀ w ∈ wsX00, w ∈ wsX0_putAllOf := by decide +kernel
set_option maxRecDepth 100000 in
theorem wX0_putAllOf_0 : Cond.fieldLink RX0 9 "WineByYears$Cask" "ofYear" "[I" ∈ wsX0_putAllOf := by decide +kernel
def fX0_putAllOf_2  (k : Nat) : Nat → Me → Nat → Int32 → Option (Me)
  | 0, _, _, _ => none
  | n + 1, A, k1, v2 => if 10 ≤ v2 then (some A) else (ck (inb v2 10) <| bi (fX0_put A k v2 (A (k1 + 1) v2.toNatClampNeg)) fun A16 => fX0_putAllOf_2 k n A16 k1 (v2 + 1))
set_option maxRecDepth 100000 in
theorem tX0_putAllOf_2 {B : Me} {k : Nat} {AZ : Me}  (C : Cx Γ p s m args meth c cX0_putAllOf 3 none RX0 wsX0_putAllOf) (hk : kd k = 0)  (n : Nat) : ∀ (A : Me) (k1 : Nat) (v2 : Int32) (H : Heap) (locs : List Loc) (ls : Array Slot), fX0_putAllOf_2 k n A k1 v2 = some AZ → kd k1 = 0 → Wd Γ A B s.heap H locs → lv_has ls 3 [(0, .ref (Γ.2.2 k)), (1, .ref (Γ.2.2 k1)), (2, .int v2)] → W p l e rmX0_putAllOf s m args below meth c H locs 0 0 (MQ below (QV Γ AZ B) args s 0 0 (rg Γ)) (F0 m 2 ls []) := by
  induction n with
  | zero =>
    intro _ _ _ H locs ls h
    exact nomatch (show (none : Option (Me)) = some AZ from h)
  | succ n ih =>
    intro A k1 v2 H locs ls h hk1 hW hl
    rw [fX0_putAllOf_2] at h
    refine lv_iload_n C.1 C.2.1 dX0_putAllOf_2 rfl (lv_at hl 2 rfl) ?_
    refine lv_bipush (v := 10) C.1 C.2.1 dX0_putAllOf_3 (by decide) ?_
    refine lv_icmp_ge (tgt := 25) C.1 C.2.1 dX0_putAllOf_5 (by decide) (fun c_5 => ?_) (fun c_5 => ?_)
    · have h := if_y h c_5
      cases h
      exact z_vret C hW dX0_putAllOf_25
    · have h := if_n h c_5
      refine lv_aload_n C.1 C.2.1 dX0_putAllOf_8 rfl (lv_at hl 0 rfl) ?_
      refine lv_iload_n C.1 C.2.1 dX0_putAllOf_9 rfl (lv_at hl 2 rfl) ?_
      refine lv_aload_n C.1 C.2.1 dX0_putAllOf_10 rfl (lv_at hl 1 rfl) ?_
      refine gX0_0 C hW hk1 iX0_putAllOf_c0 wX0_putAllOf_0 dX0_putAllOf_11 ?_
      refine lv_iload_n C.1 C.2.1 dX0_putAllOf_14 rfl (lv_at hl 2 rfl) ?_
      obtain ⟨hi15, h⟩ := ck_s h
      refine la6 C hW (kd_0r hk1) hi15 dX0_putAllOf_15 ?_
      obtain ⟨A16, hc16, h⟩ := bi_s h
      refine cVv C hW (As := [.int v2, .int (A (k1 + 1) v2.toNatClampNeg)]) (rest := []) (mt_X0_put hk hc16) (cwV 2 C.2.2.2.2.2.1 gX0_putAllOf_X0_put rfl rfl rfl (by decide +kernel) ⟨Nat.le_of_ble_eq_true rfl, Nat.le_of_ble_eq_true rfl⟩) (rcv0 C hW hk) rfl hl.1 rfl (Nat.le_of_ble_eq_true rfl) dX0_putAllOf_16 (Nat.zero_le _) (Nat.zero_le _) (fun H locs hW => ?_)
      refine lv_iinc (v := (v2 + 1)) (lv' := [(2, .int (v2 + 1)), (0, .ref (Γ.2.2 k)), (1, .ref (Γ.2.2 k1))]) C.1 C.2.1 dX0_putAllOf_19 hl (k := 2) rfl rfl (by decide) rfl (fun ls hl => ?_)
      refine lv_goto (tgt := 2) C.1 C.2.1 dX0_putAllOf_22 (by decide) ?_
      exact ih _ _ _ _ _ _ h hk1 hW (lv_sub hl [1, 2, 0] rfl)
def fX0_putAllOf  (A : Me) (k : Nat) (k1 : Nat) : Option (Me) := fX0_putAllOf_2 k FU A k1 0
set_option maxRecDepth 100000 in
theorem tX0_putAllOf_0 {A B : Me} {k : Nat} {H : Heap} {locs : List Loc} {ls : Array Slot} {k1 : Nat} {AZ : Me}  (C : Cx Γ p s m args meth c cX0_putAllOf 3 none RX0 wsX0_putAllOf) (hk : kd k = 0)  (h : fX0_putAllOf A k k1 = some AZ) (hk1 : kd k1 = 0) (hW : Wd Γ A B s.heap H locs) (hl : lv_has ls 3 [(0, .ref (Γ.2.2 k)), (1, .ref (Γ.2.2 k1))]) : W p l e rmX0_putAllOf s m args below meth c H locs 0 0 (MQ below (QV Γ AZ B) args s 0 0 (rg Γ)) (F0 m 0 ls []) := by
  unfold fX0_putAllOf at h
  refine lv_iconst (v := 0) C.1 C.2.1 dX0_putAllOf_0 (by decide) ?_
  refine lv_istore_n (lv' := [(2, .int 0), (0, .ref (Γ.2.2 k)), (1, .ref (Γ.2.2 k1))]) C.1 C.2.1 dX0_putAllOf_1 rfl hl (by decide) rfl (fun ls hl => ?_)
  exact tX0_putAllOf_2 C hk FU _ _ _ _ _ _ h hk1 hW (lv_sub hl [1, 2, 0] rfl)
theorem mt_X0_putAllOf {l : Launch} {Γ : Gm} {A B : Me} {k : Nat} {k1 : Nat} {AZ : Me} (hk : kd k = 0) (hk1 : kd k1 = 0) (h : fX0_putAllOf A k k1 = some AZ) : Met l yX0_putAllOf wsX0_putAllOf rmX0_putAllOf (PC Γ A B [.ref (Γ.2.2 k), .ref (Γ.2.2 k1)]) (QV Γ AZ B) 0 0 (rg Γ) :=
  met_of (by decide) rfl (Nat.le_of_ble_eq_true rfl) (fun p e s m below meth c ls C hW hl => tX0_putAllOf_0 C hk h hk1 hW (lv_sub (l := [(0, .ref (Γ.2.2 k)), (1, .ref (Γ.2.2 k1))]) hl [0, 1] rfl))
abbrev rmX0_become : Room := { frames := 2, cells := 0, slots := 0, locals := 44 }
def fX0_become  (A : Me) (k : Nat) (k1 : Nat) : Option (Me) := bi (fX0_drain A k) fun A1 => bi (fX0_putAllOf A1 k k1) fun A6 => some A6
set_option maxRecDepth 100000 in
theorem tX0_become_0 {A B : Me} {k : Nat} {H : Heap} {locs : List Loc} {ls : Array Slot} {k1 : Nat} {AZ : Me}  (C : Cx Γ p s m args meth c cX0_become 2 none RX0 wsX0_become) (hk : kd k = 0)  (h : fX0_become A k k1 = some AZ) (hk1 : kd k1 = 0) (hW : Wd Γ A B s.heap H locs) (hl : lv_has ls 2 [(0, .ref (Γ.2.2 k)), (1, .ref (Γ.2.2 k1))]) : W p l e rmX0_become s m args below meth c H locs 0 0 (MQ below (QV Γ AZ B) args s 0 0 (rg Γ)) (F0 m 0 ls []) := by
  unfold fX0_become at h
  refine lv_aload_n C.1 C.2.1 dX0_become_0 rfl (lv_at hl 0 rfl) ?_
  obtain ⟨A1, hc1, h⟩ := bi_s h
  refine cVv C hW (As := []) (rest := []) (mt_X0_drain hk hc1) (cwV 0 C.2.2.2.2.2.1 gX0_become_X0_drain rfl rfl rfl (by decide +kernel) ⟨Nat.le_of_ble_eq_true rfl, Nat.le_of_ble_eq_true rfl⟩) (rcv0 C hW hk) rfl hl.1 rfl (Nat.le_of_ble_eq_true rfl) dX0_become_1 (Nat.zero_le _) (Nat.zero_le _) (fun H locs hW => ?_)
  refine lv_aload_n C.1 C.2.1 dX0_become_4 rfl (lv_at hl 0 rfl) ?_
  refine lv_aload_n C.1 C.2.1 dX0_become_5 rfl (lv_at hl 1 rfl) ?_
  obtain ⟨A6, hc6, h⟩ := bi_s h
  refine cVv C hW (As := [.ref (Γ.2.2 k1)]) (rest := []) (mt_X0_putAllOf hk hk1 hc6) (cwV 1 C.2.2.2.2.2.1 gX0_become_X0_putAllOf rfl rfl rfl (by decide +kernel) ⟨Nat.le_of_ble_eq_true rfl, Nat.le_of_ble_eq_true rfl⟩) (rcv0 C hW hk) rfl hl.1 rfl (Nat.le_of_ble_eq_true rfl) dX0_become_6 (Nat.zero_le _) (Nat.zero_le _) (fun H locs hW => ?_)
  cases h
  exact z_vret C hW dX0_become_9
theorem mt_X0_become {l : Launch} {Γ : Gm} {A B : Me} {k : Nat} {k1 : Nat} {AZ : Me} (hk : kd k = 0) (hk1 : kd k1 = 0) (h : fX0_become A k k1 = some AZ) : Met l yX0_become wsX0_become rmX0_become (PC Γ A B [.ref (Γ.2.2 k), .ref (Γ.2.2 k1)]) (QV Γ AZ B) 0 0 (rg Γ) :=
  met_of (by decide) rfl (Nat.le_of_ble_eq_true rfl) (fun p e s m below meth c ls C hW hl => tX0_become_0 C hk h hk1 hW (lv_sub (l := [(0, .ref (Γ.2.2 k)), (1, .ref (Γ.2.2 k1))]) hl [0, 1] rfl))
abbrev rmX0_room : Room := { frames := 0, cells := 0, slots := 0, locals := 0 }
set_option maxRecDepth 100000 in
theorem iX0_room_c0 : ∀ w ∈ wsX00, w ∈ wsX0_room := by decide +kernel
set_option maxRecDepth 100000 in
theorem wX0_room_0 : Cond.fieldLink RX0 15 "WineByYears$Cask" "litres" "I" ∈ wsX0_room := by decide +kernel
def fX0_room  (A : Me) (k : Nat)  : Option (Int32) := some (20 - (A k 1))
set_option maxRecDepth 100000 in
theorem tX0_room_0 {A B : Me} {k : Nat} {H : Heap} {locs : List Loc} {ls : Array Slot}  {rZ : Int32}  (C : Cx Γ p s m args meth c cX0_room 1 (some .int) RX0 wsX0_room) (hk : kd k = 0)  (h : fX0_room A k = some rZ)  (hW : Wd Γ A B s.heap H locs) (hl : lv_has ls 1 [(0, .ref (Γ.2.2 k))]) : W p l e rmX0_room s m args below meth c H locs 0 0 (MQ below (QI Γ A B rZ) args s 0 0 (rg Γ)) (F0 m 0 ls []) := by
  unfold fX0_room at h
  refine lv_bipush (v := 20) C.1 C.2.1 dX0_room_0 (by decide) ?_
  refine lv_aload_n C.1 C.2.1 dX0_room_2 rfl (lv_at hl 0 rfl) ?_
  refine gX0_1 C hW hk iX0_room_c0 wX0_room_0 dX0_room_3 ?_
  refine lv_isub C.1 C.2.1 dX0_room_6 ?_
  cases h
  exact z_iret C hW dX0_room_7
theorem mt_X0_room {l : Launch} {Γ : Gm} {A B : Me} {k : Nat}  {rZ : Int32} (hk : kd k = 0) (h : fX0_room A k = some rZ) : Met l yX0_room wsX0_room rmX0_room (PC Γ A B [.ref (Γ.2.2 k)]) (QI Γ A B rZ) 0 0 (rg Γ) :=
  met_of (by decide) rfl (Nat.le_of_ble_eq_true rfl) (fun p e s m below meth c ls C hW hl => tX0_room_0 C hk h  hW (lv_sub (l := [(0, .ref (Γ.2.2 k))]) hl [0] rfl))
abbrev rmX0_latestYear : Room := { frames := 0, cells := 0, slots := 0, locals := 0 }
set_option maxRecDepth 100000 in
theorem iX0_latestYear_c0 : ∀ w ∈ wsX00, w ∈ wsX0_latestYear := by decide +kernel
set_option maxRecDepth 100000 in
theorem wX0_latestYear_0 : Cond.fieldLink RX0 9 "WineByYears$Cask" "ofYear" "[I" ∈ wsX0_latestYear := by decide +kernel
def fX0_latestYear_3  (A : Me) (k : Nat) : Nat → Int32 → Option (Int32)
  | 0, _ => none
  | n + 1, v1 => if v1 < 0 then (some (-1)) else (ck (inb v1 10) <| if (A (k + 1) v1.toNatClampNeg) ≤ 0 then (fX0_latestYear_3 A k n (v1 + (-1))) else (some v1))
set_option maxRecDepth 100000 in
theorem tX0_latestYear_3 {A B : Me} {k : Nat} {rZ : Int32}  (C : Cx Γ p s m args meth c cX0_latestYear 2 (some .int) RX0 wsX0_latestYear) (hk : kd k = 0)  (n : Nat) : ∀ (v1 : Int32) (H : Heap) (locs : List Loc) (ls : Array Slot), fX0_latestYear_3 A k n v1 = some rZ → Wd Γ A B s.heap H locs → lv_has ls 2 [(0, .ref (Γ.2.2 k)), (1, .int v1)] → W p l e rmX0_latestYear s m args below meth c H locs 0 0 (MQ below (QI Γ A B rZ) args s 0 0 (rg Γ)) (F0 m 3 ls []) := by
  induction n with
  | zero =>
    intro _ H locs ls h
    exact nomatch (show (none : Option (Int32)) = some rZ from h)
  | succ n ih =>
    intro v1 H locs ls h  hW hl
    rw [fX0_latestYear_3] at h
    refine lv_iload_n C.1 C.2.1 dX0_latestYear_3 rfl (lv_at hl 1 rfl) ?_
    refine lv_if_lt (tgt := 24) C.1 C.2.1 dX0_latestYear_4 (by decide) (fun c_4 => ?_) (fun c_4 => ?_)
    · have h := if_y h c_4
      refine lv_iconst (v := (-1)) C.1 C.2.1 dX0_latestYear_24 (by decide) ?_
      cases h
      exact z_iret C hW dX0_latestYear_25
    · have h := if_n h c_4
      refine lv_aload_n C.1 C.2.1 dX0_latestYear_7 rfl (lv_at hl 0 rfl) ?_
      refine gX0_0 C hW hk iX0_latestYear_c0 wX0_latestYear_0 dX0_latestYear_8 ?_
      refine lv_iload_n C.1 C.2.1 dX0_latestYear_11 rfl (lv_at hl 1 rfl) ?_
      obtain ⟨hi12, h⟩ := ck_s h
      refine la6 C hW (kd_0r hk) hi12 dX0_latestYear_12 ?_
      refine lv_if_le (tgt := 18) C.1 C.2.1 dX0_latestYear_13 (by decide) (fun c_13 => ?_) (fun c_13 => ?_)
      · have h := if_y h c_13
        refine lv_iinc (v := (v1 + (-1))) (lv' := [(1, .int (v1 + (-1))), (0, .ref (Γ.2.2 k))]) C.1 C.2.1 dX0_latestYear_18 hl (k := 1) rfl rfl (by decide) rfl (fun ls hl => ?_)
        refine lv_goto (tgt := 3) C.1 C.2.1 dX0_latestYear_21 (by decide) ?_
        exact ih _ _ _ _ h  hW (lv_sub hl [1, 0] rfl)
      · have h := if_n h c_13
        refine lv_iload_n C.1 C.2.1 dX0_latestYear_16 rfl (lv_at hl 1 rfl) ?_
        cases h
        exact z_iret C hW dX0_latestYear_17
def fX0_latestYear  (A : Me) (k : Nat)  : Option (Int32) := fX0_latestYear_3 A k FU 9
set_option maxRecDepth 100000 in
theorem tX0_latestYear_0 {A B : Me} {k : Nat} {H : Heap} {locs : List Loc} {ls : Array Slot}  {rZ : Int32}  (C : Cx Γ p s m args meth c cX0_latestYear 2 (some .int) RX0 wsX0_latestYear) (hk : kd k = 0)  (h : fX0_latestYear A k = some rZ)  (hW : Wd Γ A B s.heap H locs) (hl : lv_has ls 2 [(0, .ref (Γ.2.2 k))]) : W p l e rmX0_latestYear s m args below meth c H locs 0 0 (MQ below (QI Γ A B rZ) args s 0 0 (rg Γ)) (F0 m 0 ls []) := by
  unfold fX0_latestYear at h
  refine lv_bipush (v := 9) C.1 C.2.1 dX0_latestYear_0 (by decide) ?_
  refine lv_istore_n (lv' := [(1, .int 9), (0, .ref (Γ.2.2 k))]) C.1 C.2.1 dX0_latestYear_2 rfl hl (by decide) rfl (fun ls hl => ?_)
  exact tX0_latestYear_3 C hk FU _ _ _ _ h  hW (lv_sub hl [1, 0] rfl)
theorem mt_X0_latestYear {l : Launch} {Γ : Gm} {A B : Me} {k : Nat}  {rZ : Int32} (hk : kd k = 0) (h : fX0_latestYear A k = some rZ) : Met l yX0_latestYear wsX0_latestYear rmX0_latestYear (PC Γ A B [.ref (Γ.2.2 k)]) (QI Γ A B rZ) 0 0 (rg Γ) :=
  met_of (by decide) rfl (Nat.le_of_ble_eq_true rfl) (fun p e s m below meth c ls C hW hl => tX0_latestYear_0 C hk h  hW (lv_sub (l := [(0, .ref (Γ.2.2 k))]) hl [0] rfl))
abbrev rmX0_takeLatest : Room := { frames := 1, cells := 0, slots := 0, locals := 22 }
def fX0_takeLatest  (A : Me) (k : Nat)  : Option (Int32 × Me) := bi (fX0_latestYear A k) fun r1 => bi (fX0_put A k r1 (-1)) fun A8 => some (r1, A8)
set_option maxRecDepth 100000 in
theorem tX0_takeLatest_0 {A B : Me} {k : Nat} {H : Heap} {locs : List Loc} {ls : Array Slot}  {rZ : Int32} {AZ : Me}  (C : Cx Γ p s m args meth c cX0_takeLatest 2 (some .int) RX0 wsX0_takeLatest) (hk : kd k = 0)  (h : fX0_takeLatest A k = some (rZ, AZ))  (hW : Wd Γ A B s.heap H locs) (hl : lv_has ls 2 [(0, .ref (Γ.2.2 k))]) : W p l e rmX0_takeLatest s m args below meth c H locs 0 0 (MQ below (QI Γ AZ B rZ) args s 0 0 (rg Γ)) (F0 m 0 ls []) := by
  unfold fX0_takeLatest at h
  refine lv_aload_n C.1 C.2.1 dX0_takeLatest_0 rfl (lv_at hl 0 rfl) ?_
  obtain ⟨r1, hc1, h⟩ := bi_s h
  refine cVi C hW (As := []) (rest := []) (mt_X0_latestYear hk hc1) (cwV 0 C.2.2.2.2.2.1 gX0_takeLatest_X0_latestYear rfl rfl rfl (by decide +kernel) ⟨Nat.le_of_ble_eq_true rfl, Nat.le_of_ble_eq_true rfl⟩) (rcv0 C hW hk) rfl hl.1 rfl (Nat.le_of_ble_eq_true rfl) dX0_takeLatest_1 (Nat.zero_le _) (Nat.zero_le _) (fun H locs hW => ?_)
  refine lv_istore_n (lv' := [(1, .int r1), (0, .ref (Γ.2.2 k))]) C.1 C.2.1 dX0_takeLatest_4 rfl hl (by decide) rfl (fun ls hl => ?_)
  refine lv_aload_n C.1 C.2.1 dX0_takeLatest_5 rfl (lv_at hl 1 rfl) ?_
  refine lv_iload_n C.1 C.2.1 dX0_takeLatest_6 rfl (lv_at hl 0 rfl) ?_
  refine lv_iconst (v := (-1)) C.1 C.2.1 dX0_takeLatest_7 (by decide) ?_
  obtain ⟨A8, hc8, h⟩ := bi_s h
  refine cVv C hW (As := [.int r1, .int (-1)]) (rest := []) (mt_X0_put hk hc8) (cwV 2 C.2.2.2.2.2.1 gX0_takeLatest_X0_put rfl rfl rfl (by decide +kernel) ⟨Nat.le_of_ble_eq_true rfl, Nat.le_of_ble_eq_true rfl⟩) (rcv0 C hW hk) rfl hl.1 rfl (Nat.le_of_ble_eq_true rfl) dX0_takeLatest_8 (Nat.zero_le _) (Nat.zero_le _) (fun H locs hW => ?_)
  refine lv_iload_n C.1 C.2.1 dX0_takeLatest_11 rfl (lv_at hl 0 rfl) ?_
  cases h
  exact z_iret C hW dX0_takeLatest_12
theorem mt_X0_takeLatest {l : Launch} {Γ : Gm} {A B : Me} {k : Nat}  {rZ : Int32} {AZ : Me} (hk : kd k = 0) (h : fX0_takeLatest A k = some (rZ, AZ)) : Met l yX0_takeLatest wsX0_takeLatest rmX0_takeLatest (PC Γ A B [.ref (Γ.2.2 k)]) (QI Γ AZ B rZ) 0 0 (rg Γ) :=
  met_of (by decide) rfl (Nat.le_of_ble_eq_true rfl) (fun p e s m below meth c ls C hW hl => tX0_takeLatest_0 C hk h  hW (lv_sub (l := [(0, .ref (Γ.2.2 k))]) hl [0] rfl))
abbrev rmX0_yearBits : Room := { frames := 0, cells := 0, slots := 0, locals := 0 }
set_option maxRecDepth 100000 in
theorem iX0_yearBits_c0 : ∀ w ∈ wsX00, w ∈ wsX0_yearBits := by decide +kernel
set_option maxRecDepth 100000 in
theorem wX0_yearBits_0 : Cond.fieldLink RX0 9 "WineByYears$Cask" "ofYear" "[I" ∈ wsX0_yearBits := by decide +kernel
def fX0_yearBits_25 (j4 : Int32 → Int32 → Option (Int32)) (A : Me) (k : Nat) (v1 : Int32) (v2 : Int32) : Option (Int32) := j4 v1 (v2 + 1)
set_option maxRecDepth 100000 in
theorem tX0_yearBits_25 {A B : Me} {k : Nat} {H : Heap} {locs : List Loc} {ls : Array Slot} {v1 : Int32} {v2 : Int32} {rZ : Int32} {j4 : Int32 → Int32 → Option (Int32)} (C : Cx Γ p s m args meth c cX0_yearBits 3 (some .int) RX0 wsX0_yearBits) (hk : kd k = 0) (hr4 : ∀ (v1 : Int32) (v2 : Int32) (H : Heap) (locs : List Loc) (ls : Array Slot), j4 v1 v2 = some rZ → Wd Γ A B s.heap H locs → lv_has ls 3 [(0, .ref (Γ.2.2 k)), (1, .int v1), (2, .int v2)] → W p l e rmX0_yearBits s m args below meth c H locs 0 0 (MQ below (QI Γ A B rZ) args s 0 0 (rg Γ)) (F0 m 4 ls [])) (h : fX0_yearBits_25 j4 A k v1 v2 = some rZ)  (hW : Wd Γ A B s.heap H locs) (hl : lv_has ls 3 [(0, .ref (Γ.2.2 k)), (1, .int v1), (2, .int v2)]) : W p l e rmX0_yearBits s m args below meth c H locs 0 0 (MQ below (QI Γ A B rZ) args s 0 0 (rg Γ)) (F0 m 25 ls []) := by
  unfold fX0_yearBits_25 at h
  refine lv_iinc (v := (v2 + 1)) (lv' := [(2, .int (v2 + 1)), (0, .ref (Γ.2.2 k)), (1, .int v1)]) C.1 C.2.1 dX0_yearBits_25 hl (k := 2) rfl rfl (by decide) rfl (fun ls hl => ?_)
  refine lv_goto (tgt := 4) C.1 C.2.1 dX0_yearBits_28 (by decide) ?_
  exact hr4 _ _ _ _ _ h  hW (lv_sub hl [1, 2, 0] rfl)
def fX0_yearBits_4  (A : Me) (k : Nat) : Nat → Int32 → Int32 → Option (Int32)
  | 0, _, _ => none
  | n + 1, v1, v2 => if 10 ≤ v2 then (some v1) else (ck (inb v2 10) <| if (A (k + 1) v2.toNatClampNeg) ≤ 0 then (fX0_yearBits_25 (fun x0 x1 => fX0_yearBits_4 A k n x0 x1) A k v1 v2) else (fX0_yearBits_25 (fun x0 x1 => fX0_yearBits_4 A k n x0 x1) A k (v1 ||| (1 <<< (v2 &&& 31))) v2))
set_option maxRecDepth 100000 in
theorem tX0_yearBits_4 {A B : Me} {k : Nat} {rZ : Int32}  (C : Cx Γ p s m args meth c cX0_yearBits 3 (some .int) RX0 wsX0_yearBits) (hk : kd k = 0)  (n : Nat) : ∀ (v1 : Int32) (v2 : Int32) (H : Heap) (locs : List Loc) (ls : Array Slot), fX0_yearBits_4 A k n v1 v2 = some rZ → Wd Γ A B s.heap H locs → lv_has ls 3 [(0, .ref (Γ.2.2 k)), (1, .int v1), (2, .int v2)] → W p l e rmX0_yearBits s m args below meth c H locs 0 0 (MQ below (QI Γ A B rZ) args s 0 0 (rg Γ)) (F0 m 4 ls []) := by
  induction n with
  | zero =>
    intro _ _ H locs ls h
    exact nomatch (show (none : Option (Int32)) = some rZ from h)
  | succ n ih =>
    intro v1 v2 H locs ls h  hW hl
    rw [fX0_yearBits_4] at h
    refine lv_iload_n C.1 C.2.1 dX0_yearBits_4 rfl (lv_at hl 2 rfl) ?_
    refine lv_bipush (v := 10) C.1 C.2.1 dX0_yearBits_5 (by decide) ?_
    refine lv_icmp_ge (tgt := 31) C.1 C.2.1 dX0_yearBits_7 (by decide) (fun c_7 => ?_) (fun c_7 => ?_)
    · have h := if_y h c_7
      refine lv_iload_n C.1 C.2.1 dX0_yearBits_31 rfl (lv_at hl 1 rfl) ?_
      cases h
      exact z_iret C hW dX0_yearBits_32
    · have h := if_n h c_7
      refine lv_aload_n C.1 C.2.1 dX0_yearBits_10 rfl (lv_at hl 0 rfl) ?_
      refine gX0_0 C hW hk iX0_yearBits_c0 wX0_yearBits_0 dX0_yearBits_11 ?_
      refine lv_iload_n C.1 C.2.1 dX0_yearBits_14 rfl (lv_at hl 2 rfl) ?_
      obtain ⟨hi15, h⟩ := ck_s h
      refine la6 C hW (kd_0r hk) hi15 dX0_yearBits_15 ?_
      refine lv_if_le (tgt := 25) C.1 C.2.1 dX0_yearBits_16 (by decide) (fun c_16 => ?_) (fun c_16 => ?_)
      · have h := if_y h c_16
        exact tX0_yearBits_25 C hk ih h  hW (lv_sub hl [0, 1, 2] rfl)
      · have h := if_n h c_16
        refine lv_iload_n C.1 C.2.1 dX0_yearBits_19 rfl (lv_at hl 1 rfl) ?_
        refine lv_iconst (v := 1) C.1 C.2.1 dX0_yearBits_20 (by decide) ?_
        refine lv_iload_n C.1 C.2.1 dX0_yearBits_21 rfl (lv_at hl 2 rfl) ?_
        refine lv_ishl C.1 C.2.1 dX0_yearBits_22 ?_
        refine lv_ior C.1 C.2.1 dX0_yearBits_23 ?_
        refine lv_istore_n (lv' := [(1, .int (v1 ||| (1 <<< (v2 &&& 31)))), (0, .ref (Γ.2.2 k)), (2, .int v2)]) C.1 C.2.1 dX0_yearBits_24 rfl hl (by decide) rfl (fun ls hl => ?_)
        exact tX0_yearBits_25 C hk ih h  hW (lv_sub hl [1, 0, 2] rfl)
def fX0_yearBits  (A : Me) (k : Nat)  : Option (Int32) := fX0_yearBits_4 A k FU 0 0
set_option maxRecDepth 100000 in
theorem tX0_yearBits_0 {A B : Me} {k : Nat} {H : Heap} {locs : List Loc} {ls : Array Slot}  {rZ : Int32}  (C : Cx Γ p s m args meth c cX0_yearBits 3 (some .int) RX0 wsX0_yearBits) (hk : kd k = 0)  (h : fX0_yearBits A k = some rZ)  (hW : Wd Γ A B s.heap H locs) (hl : lv_has ls 3 [(0, .ref (Γ.2.2 k))]) : W p l e rmX0_yearBits s m args below meth c H locs 0 0 (MQ below (QI Γ A B rZ) args s 0 0 (rg Γ)) (F0 m 0 ls []) := by
  unfold fX0_yearBits at h
  refine lv_iconst (v := 0) C.1 C.2.1 dX0_yearBits_0 (by decide) ?_
  refine lv_istore_n (lv' := [(1, .int 0), (0, .ref (Γ.2.2 k))]) C.1 C.2.1 dX0_yearBits_1 rfl hl (by decide) rfl (fun ls hl => ?_)
  refine lv_iconst (v := 0) C.1 C.2.1 dX0_yearBits_2 (by decide) ?_
  refine lv_istore_n (lv' := [(2, .int 0), (1, .int 0), (0, .ref (Γ.2.2 k))]) C.1 C.2.1 dX0_yearBits_3 rfl hl (by decide) rfl (fun ls hl => ?_)
  exact tX0_yearBits_4 C hk FU _ _ _ _ _ h  hW (lv_sub hl [2, 1, 0] rfl)
theorem mt_X0_yearBits {l : Launch} {Γ : Gm} {A B : Me} {k : Nat}  {rZ : Int32} (hk : kd k = 0) (h : fX0_yearBits A k = some rZ) : Met l yX0_yearBits wsX0_yearBits rmX0_yearBits (PC Γ A B [.ref (Γ.2.2 k)]) (QI Γ A B rZ) 0 0 (rg Γ) :=
  met_of (by decide) rfl (Nat.le_of_ble_eq_true rfl) (fun p e s m below meth c ls C hW hl => tX0_yearBits_0 C hk h  hW (lv_sub (l := [(0, .ref (Γ.2.2 k))]) hl [0] rfl))
abbrev rmX0_commonestYear : Room := { frames := 0, cells := 0, slots := 0, locals := 0 }
set_option maxRecDepth 100000 in
theorem iX0_commonestYear_c0 : ∀ w ∈ wsX00, w ∈ wsX0_commonestYear := by decide +kernel
set_option maxRecDepth 100000 in
theorem wX0_commonestYear_0 : Cond.fieldLink RX0 9 "WineByYears$Cask" "ofYear" "[I" ∈ wsX0_commonestYear := by decide +kernel
def fX0_commonestYear_27 (j4 : Int32 → Int32 → Option (Int32)) (A : Me) (k : Nat) (v1 : Int32) (v2 : Int32) : Option (Int32) := j4 v1 (v2 + 1)
set_option maxRecDepth 100000 in
theorem tX0_commonestYear_27 {A B : Me} {k : Nat} {H : Heap} {locs : List Loc} {ls : Array Slot} {v1 : Int32} {v2 : Int32} {rZ : Int32} {j4 : Int32 → Int32 → Option (Int32)} (C : Cx Γ p s m args meth c cX0_commonestYear 3 (some .int) RX0 wsX0_commonestYear) (hk : kd k = 0) (hr4 : ∀ (v1 : Int32) (v2 : Int32) (H : Heap) (locs : List Loc) (ls : Array Slot), j4 v1 v2 = some rZ → Wd Γ A B s.heap H locs → lv_has ls 3 [(0, .ref (Γ.2.2 k)), (1, .int v1), (2, .int v2)] → W p l e rmX0_commonestYear s m args below meth c H locs 0 0 (MQ below (QI Γ A B rZ) args s 0 0 (rg Γ)) (F0 m 4 ls [])) (h : fX0_commonestYear_27 j4 A k v1 v2 = some rZ)  (hW : Wd Γ A B s.heap H locs) (hl : lv_has ls 3 [(0, .ref (Γ.2.2 k)), (1, .int v1), (2, .int v2)]) : W p l e rmX0_commonestYear s m args below meth c H locs 0 0 (MQ below (QI Γ A B rZ) args s 0 0 (rg Γ)) (F0 m 27 ls []) := by
  unfold fX0_commonestYear_27 at h
  refine lv_iinc (v := (v2 + 1)) (lv' := [(2, .int (v2 + 1)), (0, .ref (Γ.2.2 k)), (1, .int v1)]) C.1 C.2.1 dX0_commonestYear_27 hl (k := 2) rfl rfl (by decide) rfl (fun ls hl => ?_)
  refine lv_goto (tgt := 4) C.1 C.2.1 dX0_commonestYear_30 (by decide) ?_
  exact hr4 _ _ _ _ _ h  hW (lv_sub hl [1, 2, 0] rfl)
def fX0_commonestYear_4  (A : Me) (k : Nat) : Nat → Int32 → Int32 → Option (Int32)
  | 0, _, _ => none
  | n + 1, v1, v2 => if 10 ≤ v2 then (some v1) else (ck (inb v2 10) <| ck (inb v1 10) <| if (A (k + 1) v2.toNatClampNeg) < (A (k + 1) v1.toNatClampNeg) then (fX0_commonestYear_27 (fun x0 x1 => fX0_commonestYear_4 A k n x0 x1) A k v1 v2) else (fX0_commonestYear_27 (fun x0 x1 => fX0_commonestYear_4 A k n x0 x1) A k v2 v2))
set_option maxRecDepth 100000 in
theorem tX0_commonestYear_4 {A B : Me} {k : Nat} {rZ : Int32}  (C : Cx Γ p s m args meth c cX0_commonestYear 3 (some .int) RX0 wsX0_commonestYear) (hk : kd k = 0)  (n : Nat) : ∀ (v1 : Int32) (v2 : Int32) (H : Heap) (locs : List Loc) (ls : Array Slot), fX0_commonestYear_4 A k n v1 v2 = some rZ → Wd Γ A B s.heap H locs → lv_has ls 3 [(0, .ref (Γ.2.2 k)), (1, .int v1), (2, .int v2)] → W p l e rmX0_commonestYear s m args below meth c H locs 0 0 (MQ below (QI Γ A B rZ) args s 0 0 (rg Γ)) (F0 m 4 ls []) := by
  induction n with
  | zero =>
    intro _ _ H locs ls h
    exact nomatch (show (none : Option (Int32)) = some rZ from h)
  | succ n ih =>
    intro v1 v2 H locs ls h  hW hl
    rw [fX0_commonestYear_4] at h
    refine lv_iload_n C.1 C.2.1 dX0_commonestYear_4 rfl (lv_at hl 2 rfl) ?_
    refine lv_bipush (v := 10) C.1 C.2.1 dX0_commonestYear_5 (by decide) ?_
    refine lv_icmp_ge (tgt := 33) C.1 C.2.1 dX0_commonestYear_7 (by decide) (fun c_7 => ?_) (fun c_7 => ?_)
    · have h := if_y h c_7
      refine lv_iload_n C.1 C.2.1 dX0_commonestYear_33 rfl (lv_at hl 1 rfl) ?_
      cases h
      exact z_iret C hW dX0_commonestYear_34
    · have h := if_n h c_7
      refine lv_aload_n C.1 C.2.1 dX0_commonestYear_10 rfl (lv_at hl 0 rfl) ?_
      refine gX0_0 C hW hk iX0_commonestYear_c0 wX0_commonestYear_0 dX0_commonestYear_11 ?_
      refine lv_iload_n C.1 C.2.1 dX0_commonestYear_14 rfl (lv_at hl 2 rfl) ?_
      obtain ⟨hi15, h⟩ := ck_s h
      refine la6 C hW (kd_0r hk) hi15 dX0_commonestYear_15 ?_
      refine lv_aload_n C.1 C.2.1 dX0_commonestYear_16 rfl (lv_at hl 0 rfl) ?_
      refine gX0_0 C hW hk iX0_commonestYear_c0 wX0_commonestYear_0 dX0_commonestYear_17 ?_
      refine lv_iload_n C.1 C.2.1 dX0_commonestYear_20 rfl (lv_at hl 1 rfl) ?_
      obtain ⟨hi21, h⟩ := ck_s h
      refine la6 C hW (kd_0r hk) hi21 dX0_commonestYear_21 ?_
      refine lv_icmp_lt (tgt := 27) C.1 C.2.1 dX0_commonestYear_22 (by decide) (fun c_22 => ?_) (fun c_22 => ?_)
      · have h := if_y h c_22
        exact tX0_commonestYear_27 C hk ih h  hW (lv_sub hl [0, 1, 2] rfl)
      · have h := if_n h c_22
        refine lv_iload_n C.1 C.2.1 dX0_commonestYear_25 rfl (lv_at hl 2 rfl) ?_
        refine lv_istore_n (lv' := [(1, .int v2), (0, .ref (Γ.2.2 k)), (2, .int v2)]) C.1 C.2.1 dX0_commonestYear_26 rfl hl (by decide) rfl (fun ls hl => ?_)
        exact tX0_commonestYear_27 C hk ih h  hW (lv_sub hl [1, 0, 2] rfl)
def fX0_commonestYear  (A : Me) (k : Nat)  : Option (Int32) := fX0_commonestYear_4 A k FU 0 1
set_option maxRecDepth 100000 in
theorem tX0_commonestYear_0 {A B : Me} {k : Nat} {H : Heap} {locs : List Loc} {ls : Array Slot}  {rZ : Int32}  (C : Cx Γ p s m args meth c cX0_commonestYear 3 (some .int) RX0 wsX0_commonestYear) (hk : kd k = 0)  (h : fX0_commonestYear A k = some rZ)  (hW : Wd Γ A B s.heap H locs) (hl : lv_has ls 3 [(0, .ref (Γ.2.2 k))]) : W p l e rmX0_commonestYear s m args below meth c H locs 0 0 (MQ below (QI Γ A B rZ) args s 0 0 (rg Γ)) (F0 m 0 ls []) := by
  unfold fX0_commonestYear at h
  refine lv_iconst (v := 0) C.1 C.2.1 dX0_commonestYear_0 (by decide) ?_
  refine lv_istore_n (lv' := [(1, .int 0), (0, .ref (Γ.2.2 k))]) C.1 C.2.1 dX0_commonestYear_1 rfl hl (by decide) rfl (fun ls hl => ?_)
  refine lv_iconst (v := 1) C.1 C.2.1 dX0_commonestYear_2 (by decide) ?_
  refine lv_istore_n (lv' := [(2, .int 1), (1, .int 0), (0, .ref (Γ.2.2 k))]) C.1 C.2.1 dX0_commonestYear_3 rfl hl (by decide) rfl (fun ls hl => ?_)
  exact tX0_commonestYear_4 C hk FU _ _ _ _ _ h  hW (lv_sub hl [2, 1, 0] rfl)
theorem mt_X0_commonestYear {l : Launch} {Γ : Gm} {A B : Me} {k : Nat}  {rZ : Int32} (hk : kd k = 0) (h : fX0_commonestYear A k = some rZ) : Met l yX0_commonestYear wsX0_commonestYear rmX0_commonestYear (PC Γ A B [.ref (Γ.2.2 k)]) (QI Γ A B rZ) 0 0 (rg Γ) :=
  met_of (by decide) rfl (Nat.le_of_ble_eq_true rfl) (fun p e s m below meth c ls C hW hl => tX0_commonestYear_0 C hk h  hW (lv_sub (l := [(0, .ref (Γ.2.2 k))]) hl [0] rfl))
abbrev rmX0_earliestYear : Room := { frames := 0, cells := 0, slots := 0, locals := 0 }
set_option maxRecDepth 100000 in
theorem iX0_earliestYear_c0 : ∀ w ∈ wsX00, w ∈ wsX0_earliestYear := by decide +kernel
set_option maxRecDepth 100000 in
theorem wX0_earliestYear_0 : Cond.fieldLink RX0 9 "WineByYears$Cask" "ofYear" "[I" ∈ wsX0_earliestYear := by decide +kernel
def fX0_earliestYear_2  (A : Me) (k : Nat) : Nat → Int32 → Option (Int32)
  | 0, _ => none
  | n + 1, v1 => if 10 ≤ v1 then (some (-1)) else (ck (inb v1 10) <| if (A (k + 1) v1.toNatClampNeg) ≤ 0 then (fX0_earliestYear_2 A k n (v1 + 1)) else (some v1))
set_option maxRecDepth 100000 in
theorem tX0_earliestYear_2 {A B : Me} {k : Nat} {rZ : Int32}  (C : Cx Γ p s m args meth c cX0_earliestYear 2 (some .int) RX0 wsX0_earliestYear) (hk : kd k = 0)  (n : Nat) : ∀ (v1 : Int32) (H : Heap) (locs : List Loc) (ls : Array Slot), fX0_earliestYear_2 A k n v1 = some rZ → Wd Γ A B s.heap H locs → lv_has ls 2 [(0, .ref (Γ.2.2 k)), (1, .int v1)] → W p l e rmX0_earliestYear s m args below meth c H locs 0 0 (MQ below (QI Γ A B rZ) args s 0 0 (rg Γ)) (F0 m 2 ls []) := by
  induction n with
  | zero =>
    intro _ H locs ls h
    exact nomatch (show (none : Option (Int32)) = some rZ from h)
  | succ n ih =>
    intro v1 H locs ls h  hW hl
    rw [fX0_earliestYear_2] at h
    refine lv_iload_n C.1 C.2.1 dX0_earliestYear_2 rfl (lv_at hl 1 rfl) ?_
    refine lv_bipush (v := 10) C.1 C.2.1 dX0_earliestYear_3 (by decide) ?_
    refine lv_icmp_ge (tgt := 25) C.1 C.2.1 dX0_earliestYear_5 (by decide) (fun c_5 => ?_) (fun c_5 => ?_)
    · have h := if_y h c_5
      refine lv_iconst (v := (-1)) C.1 C.2.1 dX0_earliestYear_25 (by decide) ?_
      cases h
      exact z_iret C hW dX0_earliestYear_26
    · have h := if_n h c_5
      refine lv_aload_n C.1 C.2.1 dX0_earliestYear_8 rfl (lv_at hl 0 rfl) ?_
      refine gX0_0 C hW hk iX0_earliestYear_c0 wX0_earliestYear_0 dX0_earliestYear_9 ?_
      refine lv_iload_n C.1 C.2.1 dX0_earliestYear_12 rfl (lv_at hl 1 rfl) ?_
      obtain ⟨hi13, h⟩ := ck_s h
      refine la6 C hW (kd_0r hk) hi13 dX0_earliestYear_13 ?_
      refine lv_if_le (tgt := 19) C.1 C.2.1 dX0_earliestYear_14 (by decide) (fun c_14 => ?_) (fun c_14 => ?_)
      · have h := if_y h c_14
        refine lv_iinc (v := (v1 + 1)) (lv' := [(1, .int (v1 + 1)), (0, .ref (Γ.2.2 k))]) C.1 C.2.1 dX0_earliestYear_19 hl (k := 1) rfl rfl (by decide) rfl (fun ls hl => ?_)
        refine lv_goto (tgt := 2) C.1 C.2.1 dX0_earliestYear_22 (by decide) ?_
        exact ih _ _ _ _ h  hW (lv_sub hl [1, 0] rfl)
      · have h := if_n h c_14
        refine lv_iload_n C.1 C.2.1 dX0_earliestYear_17 rfl (lv_at hl 1 rfl) ?_
        cases h
        exact z_iret C hW dX0_earliestYear_18
def fX0_earliestYear  (A : Me) (k : Nat)  : Option (Int32) := fX0_earliestYear_2 A k FU 0
set_option maxRecDepth 100000 in
theorem tX0_earliestYear_0 {A B : Me} {k : Nat} {H : Heap} {locs : List Loc} {ls : Array Slot}  {rZ : Int32}  (C : Cx Γ p s m args meth c cX0_earliestYear 2 (some .int) RX0 wsX0_earliestYear) (hk : kd k = 0)  (h : fX0_earliestYear A k = some rZ)  (hW : Wd Γ A B s.heap H locs) (hl : lv_has ls 2 [(0, .ref (Γ.2.2 k))]) : W p l e rmX0_earliestYear s m args below meth c H locs 0 0 (MQ below (QI Γ A B rZ) args s 0 0 (rg Γ)) (F0 m 0 ls []) := by
  unfold fX0_earliestYear at h
  refine lv_iconst (v := 0) C.1 C.2.1 dX0_earliestYear_0 (by decide) ?_
  refine lv_istore_n (lv' := [(1, .int 0), (0, .ref (Γ.2.2 k))]) C.1 C.2.1 dX0_earliestYear_1 rfl hl (by decide) rfl (fun ls hl => ?_)
  exact tX0_earliestYear_2 C hk FU _ _ _ _ h  hW (lv_sub hl [1, 0] rfl)
theorem mt_X0_earliestYear {l : Launch} {Γ : Gm} {A B : Me} {k : Nat}  {rZ : Int32} (hk : kd k = 0) (h : fX0_earliestYear A k = some rZ) : Met l yX0_earliestYear wsX0_earliestYear rmX0_earliestYear (PC Γ A B [.ref (Γ.2.2 k)]) (QI Γ A B rZ) 0 0 (rg Γ) :=
  met_of (by decide) rfl (Nat.le_of_ble_eq_true rfl) (fun p e s m below meth c ls C hW hl => tX0_earliestYear_0 C hk h  hW (lv_sub (l := [(0, .ref (Γ.2.2 k))]) hl [0] rfl))
abbrev rmX0_yearSum : Room := { frames := 0, cells := 0, slots := 0, locals := 0 }
set_option maxRecDepth 100000 in
theorem iX0_yearSum_c0 : ∀ w ∈ wsX00, w ∈ wsX0_yearSum := by decide +kernel
set_option maxRecDepth 100000 in
theorem wX0_yearSum_0 : Cond.fieldLink RX0 9 "WineByYears$Cask" "ofYear" "[I" ∈ wsX0_yearSum := by decide +kernel
def fX0_yearSum_21 (j4 : Int32 → Int32 → Option (Int32)) (A : Me) (k : Nat) (v1 : Int32) (v2 : Int32) : Option (Int32) := j4 v1 (v2 + 1)
set_option maxRecDepth 100000 in
theorem tX0_yearSum_21 {A B : Me} {k : Nat} {H : Heap} {locs : List Loc} {ls : Array Slot} {v1 : Int32} {v2 : Int32} {rZ : Int32} {j4 : Int32 → Int32 → Option (Int32)} (C : Cx Γ p s m args meth c cX0_yearSum 3 (some .int) RX0 wsX0_yearSum) (hk : kd k = 0) (hr4 : ∀ (v1 : Int32) (v2 : Int32) (H : Heap) (locs : List Loc) (ls : Array Slot), j4 v1 v2 = some rZ → Wd Γ A B s.heap H locs → lv_has ls 3 [(0, .ref (Γ.2.2 k)), (1, .int v1), (2, .int v2)] → W p l e rmX0_yearSum s m args below meth c H locs 0 0 (MQ below (QI Γ A B rZ) args s 0 0 (rg Γ)) (F0 m 4 ls [])) (h : fX0_yearSum_21 j4 A k v1 v2 = some rZ)  (hW : Wd Γ A B s.heap H locs) (hl : lv_has ls 3 [(0, .ref (Γ.2.2 k)), (1, .int v1), (2, .int v2)]) : W p l e rmX0_yearSum s m args below meth c H locs 0 0 (MQ below (QI Γ A B rZ) args s 0 0 (rg Γ)) (F0 m 21 ls []) := by
  unfold fX0_yearSum_21 at h
  refine lv_iinc (v := (v2 + 1)) (lv' := [(2, .int (v2 + 1)), (0, .ref (Γ.2.2 k)), (1, .int v1)]) C.1 C.2.1 dX0_yearSum_21 hl (k := 2) rfl rfl (by decide) rfl (fun ls hl => ?_)
  refine lv_goto (tgt := 4) C.1 C.2.1 dX0_yearSum_24 (by decide) ?_
  exact hr4 _ _ _ _ _ h  hW (lv_sub hl [1, 2, 0] rfl)
def fX0_yearSum_4  (A : Me) (k : Nat) : Nat → Int32 → Int32 → Option (Int32)
  | 0, _, _ => none
  | n + 1, v1, v2 => if 10 ≤ v2 then (some v1) else (ck (inb v2 10) <| fX0_yearSum_21 (fun x0 x1 => fX0_yearSum_4 A k n x0 x1) A k (v1 + (v2 * (A (k + 1) v2.toNatClampNeg))) v2)
set_option maxRecDepth 100000 in
theorem tX0_yearSum_4 {A B : Me} {k : Nat} {rZ : Int32}  (C : Cx Γ p s m args meth c cX0_yearSum 3 (some .int) RX0 wsX0_yearSum) (hk : kd k = 0)  (n : Nat) : ∀ (v1 : Int32) (v2 : Int32) (H : Heap) (locs : List Loc) (ls : Array Slot), fX0_yearSum_4 A k n v1 v2 = some rZ → Wd Γ A B s.heap H locs → lv_has ls 3 [(0, .ref (Γ.2.2 k)), (1, .int v1), (2, .int v2)] → W p l e rmX0_yearSum s m args below meth c H locs 0 0 (MQ below (QI Γ A B rZ) args s 0 0 (rg Γ)) (F0 m 4 ls []) := by
  induction n with
  | zero =>
    intro _ _ H locs ls h
    exact nomatch (show (none : Option (Int32)) = some rZ from h)
  | succ n ih =>
    intro v1 v2 H locs ls h  hW hl
    rw [fX0_yearSum_4] at h
    refine lv_iload_n C.1 C.2.1 dX0_yearSum_4 rfl (lv_at hl 2 rfl) ?_
    refine lv_bipush (v := 10) C.1 C.2.1 dX0_yearSum_5 (by decide) ?_
    refine lv_icmp_ge (tgt := 27) C.1 C.2.1 dX0_yearSum_7 (by decide) (fun c_7 => ?_) (fun c_7 => ?_)
    · have h := if_y h c_7
      refine lv_iload_n C.1 C.2.1 dX0_yearSum_27 rfl (lv_at hl 1 rfl) ?_
      cases h
      exact z_iret C hW dX0_yearSum_28
    · have h := if_n h c_7
      refine lv_iload_n C.1 C.2.1 dX0_yearSum_10 rfl (lv_at hl 1 rfl) ?_
      refine lv_iload_n C.1 C.2.1 dX0_yearSum_11 rfl (lv_at hl 2 rfl) ?_
      refine lv_aload_n C.1 C.2.1 dX0_yearSum_12 rfl (lv_at hl 0 rfl) ?_
      refine gX0_0 C hW hk iX0_yearSum_c0 wX0_yearSum_0 dX0_yearSum_13 ?_
      refine lv_iload_n C.1 C.2.1 dX0_yearSum_16 rfl (lv_at hl 2 rfl) ?_
      obtain ⟨hi17, h⟩ := ck_s h
      refine la6 C hW (kd_0r hk) hi17 dX0_yearSum_17 ?_
      refine lv_imul C.1 C.2.1 dX0_yearSum_18 ?_
      refine lv_iadd C.1 C.2.1 dX0_yearSum_19 ?_
      refine lv_istore_n (lv' := [(1, .int (v1 + (v2 * (A (k + 1) v2.toNatClampNeg)))), (0, .ref (Γ.2.2 k)), (2, .int v2)]) C.1 C.2.1 dX0_yearSum_20 rfl hl (by decide) rfl (fun ls hl => ?_)
      exact tX0_yearSum_21 C hk ih h  hW (lv_sub hl [1, 0, 2] rfl)
def fX0_yearSum  (A : Me) (k : Nat)  : Option (Int32) := fX0_yearSum_4 A k FU 0 0
set_option maxRecDepth 100000 in
theorem tX0_yearSum_0 {A B : Me} {k : Nat} {H : Heap} {locs : List Loc} {ls : Array Slot}  {rZ : Int32}  (C : Cx Γ p s m args meth c cX0_yearSum 3 (some .int) RX0 wsX0_yearSum) (hk : kd k = 0)  (h : fX0_yearSum A k = some rZ)  (hW : Wd Γ A B s.heap H locs) (hl : lv_has ls 3 [(0, .ref (Γ.2.2 k))]) : W p l e rmX0_yearSum s m args below meth c H locs 0 0 (MQ below (QI Γ A B rZ) args s 0 0 (rg Γ)) (F0 m 0 ls []) := by
  unfold fX0_yearSum at h
  refine lv_iconst (v := 0) C.1 C.2.1 dX0_yearSum_0 (by decide) ?_
  refine lv_istore_n (lv' := [(1, .int 0), (0, .ref (Γ.2.2 k))]) C.1 C.2.1 dX0_yearSum_1 rfl hl (by decide) rfl (fun ls hl => ?_)
  refine lv_iconst (v := 0) C.1 C.2.1 dX0_yearSum_2 (by decide) ?_
  refine lv_istore_n (lv' := [(2, .int 0), (1, .int 0), (0, .ref (Γ.2.2 k))]) C.1 C.2.1 dX0_yearSum_3 rfl hl (by decide) rfl (fun ls hl => ?_)
  exact tX0_yearSum_4 C hk FU _ _ _ _ _ h  hW (lv_sub hl [2, 1, 0] rfl)
theorem mt_X0_yearSum {l : Launch} {Γ : Gm} {A B : Me} {k : Nat}  {rZ : Int32} (hk : kd k = 0) (h : fX0_yearSum A k = some rZ) : Met l yX0_yearSum wsX0_yearSum rmX0_yearSum (PC Γ A B [.ref (Γ.2.2 k)]) (QI Γ A B rZ) 0 0 (rg Γ) :=
  met_of (by decide) rfl (Nat.le_of_ble_eq_true rfl) (fun p e s m below meth c ls C hW hl => tX0_yearSum_0 C hk h  hW (lv_sub (l := [(0, .ref (Γ.2.2 k))]) hl [0] rfl))
abbrev rmX0_age : Room := { frames := 1, cells := 0, slots := 0, locals := 22 }
set_option maxRecDepth 100000 in
theorem iX0_age_c0 : ∀ w ∈ wsX00, w ∈ wsX0_age := by decide +kernel
set_option maxRecDepth 100000 in
theorem wX0_age_0 : Cond.fieldLink RX0 15 "WineByYears$Cask" "litres" "I" ∈ wsX0_age := by decide +kernel
def fX0_age  (A : Me) (k : Nat) (v1 : Int32) : Option (Int32) := if 0 < (A k 1) then (if v1 = 0 then (bi (fX0_latestYear A k) fun r37 => some r37) else if v1 = 1 then (bi (fX0_earliestYear A k) fun r42 => some r42) else if v1 = 2 then (bi (fX0_commonestYear A k) fun r47 => some r47) else (bi (fX0_yearSum A k) fun r52 => ck (nz (A k 1)) <| some (r52 / (A k 1)))) else (some (-1))
set_option maxRecDepth 100000 in
theorem tX0_age_0 {A B : Me} {k : Nat} {H : Heap} {locs : List Loc} {ls : Array Slot} {v1 : Int32} {rZ : Int32}  (C : Cx Γ p s m args meth c cX0_age 2 (some .int) RX0 wsX0_age) (hk : kd k = 0)  (h : fX0_age A k v1 = some rZ)  (hW : Wd Γ A B s.heap H locs) (hl : lv_has ls 2 [(0, .ref (Γ.2.2 k)), (1, .int v1)]) : W p l e rmX0_age s m args below meth c H locs 0 0 (MQ below (QI Γ A B rZ) args s 0 0 (rg Γ)) (F0 m 0 ls []) := by
  unfold fX0_age at h
  refine lv_aload_n C.1 C.2.1 dX0_age_0 rfl (lv_at hl 0 rfl) ?_
  refine gX0_1 C hW hk iX0_age_c0 wX0_age_0 dX0_age_1 ?_
  refine lv_if_gt (tgt := 9) C.1 C.2.1 dX0_age_4 (by decide) (fun c_4 => ?_) (fun c_4 => ?_)
  · have h := if_y h c_4
    refine lv_iload_n C.1 C.2.1 dX0_age_9 rfl (lv_at hl 1 rfl) ?_
    by_cases e_0 : v1 = 0
    · have h := if_y h e_0
      refine lv_tableIn (off := 26) (tgt := 36) C.1 C.2.1 dX0_age_10 (by rw [e_0]; decide) (by rw [e_0]; decide) (by rw [e_0]; decide) (by decide) ?_
      refine lv_aload_n C.1 C.2.1 dX0_age_36 rfl (lv_at hl 0 rfl) ?_
      obtain ⟨r37, hc37, h⟩ := bi_s h
      refine cVi C hW (As := []) (rest := []) (mt_X0_latestYear hk hc37) (cwV 0 C.2.2.2.2.2.1 gX0_age_X0_latestYear rfl rfl rfl (by decide +kernel) ⟨Nat.le_of_ble_eq_true rfl, Nat.le_of_ble_eq_true rfl⟩) (rcv0 C hW hk) rfl hl.1 rfl (Nat.le_of_ble_eq_true rfl) dX0_age_37 (Nat.zero_le _) (Nat.zero_le _) (fun H locs hW => ?_)
      cases h
      exact z_iret C hW dX0_age_40
    have h := if_n h e_0
    by_cases e_1 : v1 = 1
    · have h := if_y h e_1
      refine lv_tableIn (off := 31) (tgt := 41) C.1 C.2.1 dX0_age_10 (by rw [e_1]; decide) (by rw [e_1]; decide) (by rw [e_1]; decide) (by decide) ?_
      refine lv_aload_n C.1 C.2.1 dX0_age_41 rfl (lv_at hl 0 rfl) ?_
      obtain ⟨r42, hc42, h⟩ := bi_s h
      refine cVi C hW (As := []) (rest := []) (mt_X0_earliestYear hk hc42) (cwV 0 C.2.2.2.2.2.1 gX0_age_X0_earliestYear rfl rfl rfl (by decide +kernel) ⟨Nat.le_of_ble_eq_true rfl, Nat.le_of_ble_eq_true rfl⟩) (rcv0 C hW hk) rfl hl.1 rfl (Nat.le_of_ble_eq_true rfl) dX0_age_42 (Nat.zero_le _) (Nat.zero_le _) (fun H locs hW => ?_)
      cases h
      exact z_iret C hW dX0_age_45
    have h := if_n h e_1
    by_cases e_2 : v1 = 2
    · have h := if_y h e_2
      refine lv_tableIn (off := 36) (tgt := 46) C.1 C.2.1 dX0_age_10 (by rw [e_2]; decide) (by rw [e_2]; decide) (by rw [e_2]; decide) (by decide) ?_
      refine lv_aload_n C.1 C.2.1 dX0_age_46 rfl (lv_at hl 0 rfl) ?_
      obtain ⟨r47, hc47, h⟩ := bi_s h
      refine cVi C hW (As := []) (rest := []) (mt_X0_commonestYear hk hc47) (cwV 0 C.2.2.2.2.2.1 gX0_age_X0_commonestYear rfl rfl rfl (by decide +kernel) ⟨Nat.le_of_ble_eq_true rfl, Nat.le_of_ble_eq_true rfl⟩) (rcv0 C hW hk) rfl hl.1 rfl (Nat.le_of_ble_eq_true rfl) dX0_age_47 (Nat.zero_le _) (Nat.zero_le _) (fun H locs hW => ?_)
      cases h
      exact z_iret C hW dX0_age_50
    have h := if_n h e_2
    refine lv_tableOut (tgt := 51) C.1 C.2.1 dX0_age_10 ?_ (by decide) ?_
    · exact tsw0_2 e_0 e_1 e_2
    · refine lv_aload_n C.1 C.2.1 dX0_age_51 rfl (lv_at hl 0 rfl) ?_
      obtain ⟨r52, hc52, h⟩ := bi_s h
      refine cVi C hW (As := []) (rest := []) (mt_X0_yearSum hk hc52) (cwV 0 C.2.2.2.2.2.1 gX0_age_X0_yearSum rfl rfl rfl (by decide +kernel) ⟨Nat.le_of_ble_eq_true rfl, Nat.le_of_ble_eq_true rfl⟩) (rcv0 C hW hk) rfl hl.1 rfl (Nat.le_of_ble_eq_true rfl) dX0_age_52 (Nat.zero_le _) (Nat.zero_le _) (fun H locs hW => ?_)
      refine lv_aload_n C.1 C.2.1 dX0_age_55 rfl (lv_at hl 0 rfl) ?_
      refine gX0_1 C hW hk iX0_age_c0 wX0_age_0 dX0_age_56 ?_
      obtain ⟨hz, h⟩ := ck_s h
      refine lv_idiv C.1 C.2.1 dX0_age_59 (nz_s hz) ?_
      cases h
      exact z_iret C hW dX0_age_60
  · have h := if_n h c_4
    refine lv_iconst (v := (-1)) C.1 C.2.1 dX0_age_7 (by decide) ?_
    cases h
    exact z_iret C hW dX0_age_8
theorem mt_X0_age {l : Launch} {Γ : Gm} {A B : Me} {k : Nat} {v1 : Int32} {rZ : Int32} (hk : kd k = 0) (h : fX0_age A k v1 = some rZ) : Met l yX0_age wsX0_age rmX0_age (PC Γ A B [.ref (Γ.2.2 k), .int v1]) (QI Γ A B rZ) 0 0 (rg Γ) :=
  met_of (by decide) rfl (Nat.le_of_ble_eq_true rfl) (fun p e s m below meth c ls C hW hl => tX0_age_0 C hk h  hW (lv_sub (l := [(0, .ref (Γ.2.2 k)), (1, .int v1)]) hl [0, 1] rfl))
end
