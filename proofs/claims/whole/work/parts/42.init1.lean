/-! ===== the constructors ===== -/
/-- what the constructors need of the tables beside their words -/
def Ex (U : State) : Prop := va_AO RX0 U ∧ va_Nw (.methodLinkNest RX1 33 yX0_init "WineByYears") U ∧ va_Nw (.methodLinkNest RX3 11 yX2_init "WineByYears") U ∧ va_Nw (.methodLinkNest RX3 31 yX0_init "WineByYears") U
theorem Ex.moved {u U : State} (hW : u.WarmedH U.vm) (h : Ex u) : Ex U := ⟨va_AO.moved hW.alike h.1, va_Nw.warmM hW h.2.1, va_Nw.warmM hW h.2.2.1, va_Nw.warmM hW h.2.2.2⟩
theorem Ex.same {u U : State} (e : u.vm = U.vm) (h : Ex u) : Ex U := ⟨va_AO.moved (by rw [e]; exact Vm.Alike.refl _) h.1, va_Nw.same rfl e h.2.1, va_Nw.same rfl e h.2.2.1, va_Nw.same rfl e h.2.2.2⟩
theorem cI_eq {D : va_G} {cl : List vw_C} {tys : List (ClassId × FieldType)} {U : State} {a b : ClassId} (h : va_K D cl tys U) (i j : Nat) (hi : tys[i]? = some (a, .int)) (hj : tys[j]? = some (b, .int)) : a = b := Option.some.inj ((show U.vm.findClass ("[" ++ FieldType.int.toString) = some a from (h.2 i _ hi).2).symm.trans (h.2 j _ hj).2)
theorem cQ_eq {D : va_G} {cl : List vw_C} {tys : List (ClassId × FieldType)} {U : State} {a b : ClassId} {C : String} (h : va_K D cl tys U) (i j : Nat) (hi : tys[i]? = some (a, .object C)) (hj : tys[j]? = some (b, .object C)) : a = b := by
  obtain ⟨_, _, _, _, _, e1⟩ := (h.2 i _ hi).2
  obtain ⟨_, _, _, _, _, e2⟩ := (h.2 j _ hj).2
  exact Option.some.inj (e1.symm.trans e2)
def cks (q : Nat → Nat) : Nat → Option Nat := va_up (va_up (va_up (va_up (va_up (fun _ => none) (0 : Int32).toNatClampNeg (some (q 7))) (1 : Int32).toNatClampNeg (some (q 9))) (2 : Int32).toNatClampNeg (some (q 11))) (3 : Int32).toNatClampNeg (some (q 13))) (4 : Int32).toNatClampNeg (some (q 15))
theorem cks_at (q : Nat → Nat) {i : Nat} (hi : i < 5) : cks q i = some (q (7 + 2 * i)) := by
  have e : ∀ n : Nat, n < 5 → (nI n).toNatClampNeg = n := by decide +kernel
  unfold cks
  rw [show (0 : Int32).toNatClampNeg = 0 from e 0 (by decide), show (1 : Int32).toNatClampNeg = 1 from e 1 (by decide), show (2 : Int32).toNatClampNeg = 2 from e 2 (by decide), show (3 : Int32).toNatClampNeg = 3 from e 3 (by decide), show (4 : Int32).toNatClampNeg = 4 from e 4 (by decide)]
  rcases (show i = 0 ∨ i = 1 ∨ i = 2 ∨ i = 3 ∨ i = 4 by omega) with rfl | rfl | rfl | rfl | rfl <;> rfl
set_option maxHeartbeats 1000000 in
set_option maxRecDepth 100000 in
theorem c_X0_init (l : Launch) (D : va_G) (h0 sz : Nat) : Met l yX0_init wsX0_init ({ frames := 1, cells := 1, slots := 10, locals := 12 }) (va_Pc [.ref h0] (fun U => U.heap.size = sz ∧ va_P D vwCl [(h0, .inr (0, [.null, .int 0]))] U.heap ∧ va_K D vwCl [] U ∧ va_D (fun _ => True) [(h0, .inr (0, [.null, .int 0]))] ∧ Ex U)) (va_Qv (fun _ : Unit => True) (fun _ t => ∃ (q : Nat) (ci : ClassId), va_P D vwCl [(h0, .inr (0, [.ref q, .int 0])), (q, .inl (ci, 10, .inl (fun _ => 0)))] t.heap ∧ va_K D vwCl [(ci, .int)] t ∧ va_D (va_A [(h0, .inr (0, [.null, .int 0]))] sz) [(h0, .inr (0, [.ref q, .int 0])), (q, .inl (ci, 10, .inl (fun _ => 0)))]) (va_A [(h0, .inr (0, [.null, .int 0]))] sz)) 1 10 (va_A [(h0, .inr (0, [.null, .int 0]))] sz) := by
  refine Met.ofW (cc := cX0_init) (maxL := 1) (ret := none) (by decide) rfl ?_
  intro p e s m args below meth c s₁ B hml hv
  obtain ⟨rfl, hsz, hP, hK, hD0, hE⟩ := hv
  have hx := B.exec
  have hb := B.bytes
  have hr := B.returns
  have hts := atoms_spec (ws := wsX0_init) B.pre
  have hown : s.vm.findClass RX0 = some m.cls := findClass_of_methodNamed B.named
  have hlocks := B.notSynchronized
  have hin : meth.name = "<init>" := (name_of_methodNamed B.named B.method).1
  subst hsz
  have hD := hD0.self (sz := s.heap.size)
  generalize hAe : va_A [(h0, .inr (0, [.null, .int 0]))] s.heap.size = A at hD ⊢
  have hA : ∀ q : Nat, s.heap.size ≤ q → A q := fun q h => by rw [← hAe]; exact Or.inr h
  have hS : va_S A s.heap s.heap [] := va_S.rf
  have hP : va_P D vwCl [(h0, .inr (0, [.null, .int 0]))] s.heap := hP
  have hl := lv_entry ([.ref h0]) (n := 1) (Nat.le_of_ble_eq_true rfl)
  rw [lg_entry_eq]
  generalize (lg_sl ([.ref h0]) ++ List.replicate (1 - (lg_sl ([.ref h0])).length) Slot.unset).toArray = ls at hl ⊢
  have hl : lv_has ls 1 [(0, .ref h0)] := hl
  refine lv_aload_n hx hb dX0_init_0 rfl (lv_at hl 0 rfl) ?_
  refine W.objInit hx hb hown (hts (.methodLink RX0 3 objectInit) (List.mem_of_getElem? (i := 1) rfl)) (hts (.instanceMethod objectInit) (List.mem_of_getElem? (i := 2) rfl)) (hts _ (List.mem_of_getElem? (i := 3) rfl)) rfl (by rw [hml]; exact hl.1) rfl dX0_init_1 (Nat.le_of_ble_eq_true rfl) (Nat.le_of_ble_eq_true rfl) ?_
  refine W.eq (g2 := F0 m 4 ls []) rfl ?_
  refine lv_aload_n hx hb dX0_init_4 rfl (lv_at hl 0 rfl) ?_
  refine lv_bipush (v := 10) hx hb dX0_init_5 (by decide) ?_
  refine va_newa (a0 := (10, .inl (fun _ => 0))) (N' := 10) (ty := .int) hx hb ?_ rfl hK hP hD hS hA ?_ ?_ ?_ ?_ ?_ ?_ dX0_init_7 (fun q_a0 c_a0 H hK hP hD hS => ?_)
  · exact hts (.arrayClass .int) (by decide +kernel)
  · exact (fun _ => rfl)
  · decide
  · decide +kernel
  · decide +kernel
  · show 0 + 1 ≤ 1; decide
  · show 0 + 10 ≤ 10; decide
  have hK : va_K D vwCl [(c_a0, .int)] s := hK
  have hP : va_P D vwCl [(h0, .inr (0, [.null, .int 0])), (q_a0, .inl (c_a0, 10, .inl (fun _ => 0)))] H := hP
  have hD : va_D A [(h0, .inr (0, [.null, .int 0])), (q_a0, .inl (c_a0, 10, .inl (fun _ => 0)))] := hD
  refine W.widen (k := 1) (n := 10) (by omega) (by omega) ?_
  refine va_putF (D := D) (cl := vwCl) (ci := 0) (v := .ref q_a0) (ty := (.array .int)) (C := RX0) (T := TX0) (N := 2) hx hb hts (by decide +kernel) tyX0 tyX0_ok nmX0 hown hK hP hD hS 0 rfl rfl 0 (by decide) (hts (.fieldLink RX0 9 "WineByYears$Cask" "ofYear" "[I") (by decide +kernel)) (fun _ h9 => h9) rfl hin rfl (by decide +kernel) rfl rfl (Nat.le_of_ble_eq_true rfl) dX0_init_9 (fun H locs hP hD hS => ?_)
  have hP : va_P D vwCl [(h0, .inr (0, [.ref q_a0, .int 0])), (q_a0, .inl (c_a0, 10, .inl (fun _ => 0)))] H := hP
  have hD : va_D A [(h0, .inr (0, [.ref q_a0, .int 0])), (q_a0, .inl (c_a0, 10, .inl (fun _ => 0)))] := hD
  refine W.widen (k := 1) (n := 10) (by omega) (by omega) ?_
  exact W.vret hx hb hr (fun t ht hW => ⟨⟨(), rfl, trivial, q_a0, c_a0, by rw [ht]; exact hP, va_K.moved hW.alike hK, hD⟩, hS.F ht⟩) hS.2.2 dX0_init_12
set_option maxHeartbeats 1000000 in
set_option maxRecDepth 100000 in
theorem c_X2_init (l : Launch) (D : va_G) (h0 sz : Nat) : Met l yX2_init wsX2_init ({ frames := 1, cells := 1, slots := 18, locals := 12 }) (va_Pc [.ref h0] (fun U => U.heap.size = sz ∧ va_P D vwCl [(h0, .inr (2, [.null, .int 0]))] U.heap ∧ va_K D vwCl [] U ∧ va_D (fun _ => True) [(h0, .inr (2, [.null, .int 0]))] ∧ Ex U)) (va_Qv (fun _ : Unit => True) (fun _ t => ∃ (q : Nat) (ci : ClassId), va_P D vwCl [(h0, .inr (2, [.ref q, .int 0])), (q, .inl (ci, 18, .inl (fun _ => 0)))] t.heap ∧ va_K D vwCl [(ci, .int)] t ∧ va_D (va_A [(h0, .inr (2, [.null, .int 0]))] sz) [(h0, .inr (2, [.ref q, .int 0])), (q, .inl (ci, 18, .inl (fun _ => 0)))]) (va_A [(h0, .inr (2, [.null, .int 0]))] sz)) 1 18 (va_A [(h0, .inr (2, [.null, .int 0]))] sz) := by
  refine Met.ofW (cc := cX2_init) (maxL := 1) (ret := none) (by decide) rfl ?_
  intro p e s m args below meth c s₁ B hml hv
  obtain ⟨rfl, hsz, hP, hK, hD0, hE⟩ := hv
  have hx := B.exec
  have hb := B.bytes
  have hr := B.returns
  have hts := atoms_spec (ws := wsX2_init) B.pre
  have hown : s.vm.findClass RX2 = some m.cls := findClass_of_methodNamed B.named
  have hlocks := B.notSynchronized
  have hin : meth.name = "<init>" := (name_of_methodNamed B.named B.method).1
  subst hsz
  have hD := hD0.self (sz := s.heap.size)
  generalize hAe : va_A [(h0, .inr (2, [.null, .int 0]))] s.heap.size = A at hD ⊢
  have hA : ∀ q : Nat, s.heap.size ≤ q → A q := fun q h => by rw [← hAe]; exact Or.inr h
  have hS : va_S A s.heap s.heap [] := va_S.rf
  have hP : va_P D vwCl [(h0, .inr (2, [.null, .int 0]))] s.heap := hP
  have hl := lv_entry ([.ref h0]) (n := 1) (Nat.le_of_ble_eq_true rfl)
  rw [lg_entry_eq]
  generalize (lg_sl ([.ref h0]) ++ List.replicate (1 - (lg_sl ([.ref h0])).length) Slot.unset).toArray = ls at hl ⊢
  have hl : lv_has ls 1 [(0, .ref h0)] := hl
  refine lv_aload_n hx hb dX2_init_0 rfl (lv_at hl 0 rfl) ?_
  refine W.objInit hx hb hown (hts (.methodLink RX2 1 objectInit) (List.mem_of_getElem? (i := 1) rfl)) (hts (.instanceMethod objectInit) (List.mem_of_getElem? (i := 2) rfl)) (hts _ (List.mem_of_getElem? (i := 3) rfl)) rfl (by rw [hml]; exact hl.1) rfl dX2_init_1 (Nat.le_of_ble_eq_true rfl) (Nat.le_of_ble_eq_true rfl) ?_
  refine W.eq (g2 := F0 m 4 ls []) rfl ?_
  refine lv_aload_n hx hb dX2_init_4 rfl (lv_at hl 0 rfl) ?_
  refine lv_bipush (v := 18) hx hb dX2_init_5 (by decide) ?_
  refine va_newa (a0 := (18, .inl (fun _ => 0))) (N' := 18) (ty := .int) hx hb ?_ rfl hK hP hD hS hA ?_ ?_ ?_ ?_ ?_ ?_ dX2_init_7 (fun q_a0 c_a0 H hK hP hD hS => ?_)
  · exact hts (.arrayClass .int) (by decide +kernel)
  · exact (fun _ => rfl)
  · decide
  · decide +kernel
  · decide +kernel
  · show 0 + 1 ≤ 1; decide
  · show 0 + 18 ≤ 18; decide
  have hK : va_K D vwCl [(c_a0, .int)] s := hK
  have hP : va_P D vwCl [(h0, .inr (2, [.null, .int 0])), (q_a0, .inl (c_a0, 18, .inl (fun _ => 0)))] H := hP
  have hD : va_D A [(h0, .inr (2, [.null, .int 0])), (q_a0, .inl (c_a0, 18, .inl (fun _ => 0)))] := hD
  refine W.widen (k := 1) (n := 18) (by omega) (by omega) ?_
  refine va_putF (D := D) (cl := vwCl) (ci := 2) (v := .ref q_a0) (ty := (.array .int)) (C := RX2) (T := TX2) (N := 2) hx hb hts (by decide +kernel) tyX2 tyX2_ok nmX2 hown hK hP hD hS 0 rfl rfl 0 (by decide) (hts (.fieldLink RX2 9 "WineByYears$Page" "codes" "[I") (by decide +kernel)) (fun _ h9 => h9) rfl hin rfl (by decide +kernel) rfl rfl (Nat.le_of_ble_eq_true rfl) dX2_init_9 (fun H locs hP hD hS => ?_)
  have hP : va_P D vwCl [(h0, .inr (2, [.ref q_a0, .int 0])), (q_a0, .inl (c_a0, 18, .inl (fun _ => 0)))] H := hP
  have hD : va_D A [(h0, .inr (2, [.ref q_a0, .int 0])), (q_a0, .inl (c_a0, 18, .inl (fun _ => 0)))] := hD
  refine W.widen (k := 1) (n := 18) (by omega) (by omega) ?_
  exact W.vret hx hb hr (fun t ht hW => ⟨⟨(), rfl, trivial, q_a0, c_a0, by rw [ht]; exact hP, va_K.moved hW.alike hK, hD⟩, hS.F ht⟩) hS.2.2 dX2_init_12
