set_option maxHeartbeats 1000000 in
set_option maxRecDepth 100000 in
theorem c_X4_init (l : Launch) (D : va_G) (h0 sz : Nat) : Met l yX4_init wsX4_init ({ frames := 1, cells := 15, slots := 240, locals := 12 }) (va_Pc [.ref h0] (fun U => U.heap.size = sz ∧ va_P D vwCl [(h0, .inr (4, [.int 0, .int 0, .int 0, .null, .null, .int 0, .null, .null, .null, .int 0, .null, .null, .int 0, .null, .int 0, .int 0, .null, .null, .int 0, .long 0, .null, .int 0, .int 0, .int 0, .int 0, .null, .null, .null, .null, .long 0]))] U.heap ∧ va_K D vwCl [] U ∧ va_D (fun _ => True) [(h0, .inr (4, [.int 0, .int 0, .int 0, .null, .null, .int 0, .null, .null, .null, .int 0, .null, .null, .int 0, .null, .int 0, .int 0, .null, .null, .int 0, .long 0, .null, .int 0, .int 0, .int 0, .int 0, .null, .null, .null, .null, .long 0]))] ∧ Ex U)) (va_Qv (fun _ : Unit => True) (fun _ t => ∃ (q_a0 : Nat) (q_a1 : Nat) (q_a2 : Nat) (q_a3 : Nat) (q_a4 : Nat) (q_a5 : Nat) (q_a6 : Nat) (q_a7 : Nat) (q_a8 : Nat) (q_a9 : Nat) (q_a10 : Nat) (q_a11 : Nat) (q_a12 : Nat) (q_a13 : Nat) (q_a14 : Nat) (ci : ClassId) (cb : ClassId), va_P D vwCl [(h0, .inr (4, [.int 0, .int 0, .int 0, .ref q_a0, .ref q_a1, .int 0, .ref q_a2, .ref q_a3, .ref q_a4, .int 0, .ref q_a5, .ref q_a6, .int 0, .ref q_a7, .int 0, .int 0, .ref q_a8, .ref q_a9, .int 0, .long 0, .ref q_a10, .int 0, .int 0, .int 0, .int 0, .ref q_a11, .ref q_a12, .ref q_a13, .ref q_a14, .long 0])), (q_a0, .inl (ci, 50, .inl (fun _ => 0))), (q_a1, .inl (ci, 10, .inl (fun _ => 0))), (q_a2, .inl (ci, 5, .inl (fun _ => 0))), (q_a3, .inl (ci, 5, .inl (fun _ => 0))), (q_a4, .inl (ci, 5, .inl (fun _ => 0))), (q_a5, .inl (ci, 8, .inl (fun _ => 0))), (q_a6, .inl (ci, 8, .inl (fun _ => 0))), (q_a7, .inl (cb, 18, .inl (fun _ => 0))), (q_a8, .inl (ci, 5, .inl (fun _ => 0))), (q_a9, .inl (ci, 5, .inl (fun _ => 0))), (q_a10, .inl (ci, 50, .inl (fun _ => 0))), (q_a11, .inl (ci, 50, .inl (fun _ => 0))), (q_a12, .inl (ci, 5, .inl (fun _ => 0))), (q_a13, .inl (ci, 8, .inl (fun _ => 0))), (q_a14, .inl (ci, 8, .inl (fun _ => 0)))] t.heap ∧ va_K D vwCl [(ci, .int), (cb, .byte)] t ∧ va_D (va_A [(h0, .inr (4, [.int 0, .int 0, .int 0, .null, .null, .int 0, .null, .null, .null, .int 0, .null, .null, .int 0, .null, .int 0, .int 0, .null, .null, .int 0, .long 0, .null, .int 0, .int 0, .int 0, .int 0, .null, .null, .null, .null, .long 0]))] sz) [(h0, .inr (4, [.int 0, .int 0, .int 0, .ref q_a0, .ref q_a1, .int 0, .ref q_a2, .ref q_a3, .ref q_a4, .int 0, .ref q_a5, .ref q_a6, .int 0, .ref q_a7, .int 0, .int 0, .ref q_a8, .ref q_a9, .int 0, .long 0, .ref q_a10, .int 0, .int 0, .int 0, .int 0, .ref q_a11, .ref q_a12, .ref q_a13, .ref q_a14, .long 0])), (q_a0, .inl (ci, 50, .inl (fun _ => 0))), (q_a1, .inl (ci, 10, .inl (fun _ => 0))), (q_a2, .inl (ci, 5, .inl (fun _ => 0))), (q_a3, .inl (ci, 5, .inl (fun _ => 0))), (q_a4, .inl (ci, 5, .inl (fun _ => 0))), (q_a5, .inl (ci, 8, .inl (fun _ => 0))), (q_a6, .inl (ci, 8, .inl (fun _ => 0))), (q_a7, .inl (cb, 18, .inl (fun _ => 0))), (q_a8, .inl (ci, 5, .inl (fun _ => 0))), (q_a9, .inl (ci, 5, .inl (fun _ => 0))), (q_a10, .inl (ci, 50, .inl (fun _ => 0))), (q_a11, .inl (ci, 50, .inl (fun _ => 0))), (q_a12, .inl (ci, 5, .inl (fun _ => 0))), (q_a13, .inl (ci, 8, .inl (fun _ => 0))), (q_a14, .inl (ci, 8, .inl (fun _ => 0)))]) (va_A [(h0, .inr (4, [.int 0, .int 0, .int 0, .null, .null, .int 0, .null, .null, .null, .int 0, .null, .null, .int 0, .null, .int 0, .int 0, .null, .null, .int 0, .long 0, .null, .int 0, .int 0, .int 0, .int 0, .null, .null, .null, .null, .long 0]))] sz)) 15 240 (va_A [(h0, .inr (4, [.int 0, .int 0, .int 0, .null, .null, .int 0, .null, .null, .null, .int 0, .null, .null, .int 0, .null, .int 0, .int 0, .null, .null, .int 0, .long 0, .null, .int 0, .int 0, .int 0, .int 0, .null, .null, .null, .null, .long 0]))] sz) := by
  refine Met.ofW (cc := cX4_init) (maxL := 1) (ret := none) (by decide) rfl ?_
  intro p e s m args below meth c s₁ B hml hv
  obtain ⟨rfl, hsz, hP, hK, hD0, hE⟩ := hv
  have hx := B.exec
  have hb := B.bytes
  have hr := B.returns
  have hts := atoms_spec (ws := wsX4_init) B.pre
  have hown : s.vm.findClass RX4 = some m.cls := findClass_of_methodNamed B.named
  have hlocks := B.notSynchronized
  have hin : meth.name = "<init>" := (name_of_methodNamed B.named B.method).1
  subst hsz
  have hD := hD0.self (sz := s.heap.size)
  generalize hAe : va_A [(h0, .inr (4, [.int 0, .int 0, .int 0, .null, .null, .int 0, .null, .null, .null, .int 0, .null, .null, .int 0, .null, .int 0, .int 0, .null, .null, .int 0, .long 0, .null, .int 0, .int 0, .int 0, .int 0, .null, .null, .null, .null, .long 0]))] s.heap.size = A at hD ⊢
  have hA : ∀ q : Nat, s.heap.size ≤ q → A q := fun q h => by rw [← hAe]; exact Or.inr h
  have hS : va_S A s.heap s.heap [] := va_S.rf
  have hP : va_P D vwCl [(h0, .inr (4, [.int 0, .int 0, .int 0, .null, .null, .int 0, .null, .null, .null, .int 0, .null, .null, .int 0, .null, .int 0, .int 0, .null, .null, .int 0, .long 0, .null, .int 0, .int 0, .int 0, .int 0, .null, .null, .null, .null, .long 0]))] s.heap := hP
  have hl := lv_entry ([.ref h0]) (n := 1) (Nat.le_of_ble_eq_true rfl)
  rw [lg_entry_eq]
  generalize (lg_sl ([.ref h0]) ++ List.replicate (1 - (lg_sl ([.ref h0])).length) Slot.unset).toArray = ls at hl ⊢
  have hl : lv_has ls 1 [(0, .ref h0)] := hl
  refine lv_aload_n hx hb dX4_init_0 rfl (lv_at hl 0 rfl) ?_
  refine W.objInit hx hb hown (hts (.methodLink RX4 1 objectInit) (List.mem_of_getElem? (i := 1) rfl)) (hts (.instanceMethod objectInit) (List.mem_of_getElem? (i := 2) rfl)) (hts _ (List.mem_of_getElem? (i := 3) rfl)) rfl (by rw [hml]; exact hl.1) rfl dX4_init_1 (Nat.le_of_ble_eq_true rfl) (Nat.le_of_ble_eq_true rfl) ?_
  refine W.eq (g2 := F0 m 4 ls []) rfl ?_
  refine lv_aload_n hx hb dX4_init_4 rfl (lv_at hl 0 rfl) ?_
  refine lv_bipush (v := 50) hx hb dX4_init_5 (by decide) ?_
  refine va_newa (a0 := (50, .inl (fun _ => 0))) (N' := 50) (ty := .int) hx hb ?_ rfl hK hP hD hS hA ?_ ?_ ?_ ?_ ?_ ?_ dX4_init_7 (fun q_a0 c_a0 H hK hP hD hS => ?_)
  · exact hts (.arrayClass .int) (by decide +kernel)
  · exact (fun _ => rfl)
  · decide
  · decide +kernel
  · decide +kernel
  · show 0 + 1 ≤ 15; decide
  · show 0 + 50 ≤ 240; decide
  have hK : va_K D vwCl [(c_a0, .int)] s := hK
  have hP : va_P D vwCl [(h0, .inr (4, [.int 0, .int 0, .int 0, .null, .null, .int 0, .null, .null, .null, .int 0, .null, .null, .int 0, .null, .int 0, .int 0, .null, .null, .int 0, .long 0, .null, .int 0, .int 0, .int 0, .int 0, .null, .null, .null, .null, .long 0])), (q_a0, .inl (c_a0, 50, .inl (fun _ => 0)))] H := hP
  have hD : va_D A [(h0, .inr (4, [.int 0, .int 0, .int 0, .null, .null, .int 0, .null, .null, .null, .int 0, .null, .null, .int 0, .null, .int 0, .int 0, .null, .null, .int 0, .long 0, .null, .int 0, .int 0, .int 0, .int 0, .null, .null, .null, .null, .long 0])), (q_a0, .inl (c_a0, 50, .inl (fun _ => 0)))] := hD
  refine W.widen (k := 1) (n := 50) (by omega) (by omega) ?_
  refine va_putF (D := D) (cl := vwCl) (ci := 4) (v := .ref q_a0) (ty := (.array .int)) (C := RX4) (T := TX4) (N := 30) hx hb hts (by decide +kernel) tyX4 tyX4_ok nmX4 hown hK hP hD hS 0 rfl rfl 3 (by decide) (hts (.fieldLink RX4 7 "WineByYearsModel" "litresOf" "[I") (by decide +kernel)) (fun _ h9 => h9) rfl hin rfl (by decide +kernel) rfl rfl (Nat.le_of_ble_eq_true rfl) dX4_init_9 (fun H locs hP hD hS => ?_)
  have hP : va_P D vwCl [(h0, .inr (4, [.int 0, .int 0, .int 0, .ref q_a0, .null, .int 0, .null, .null, .null, .int 0, .null, .null, .int 0, .null, .int 0, .int 0, .null, .null, .int 0, .long 0, .null, .int 0, .int 0, .int 0, .int 0, .null, .null, .null, .null, .long 0])), (q_a0, .inl (c_a0, 50, .inl (fun _ => 0)))] H := hP
  have hD : va_D A [(h0, .inr (4, [.int 0, .int 0, .int 0, .ref q_a0, .null, .int 0, .null, .null, .null, .int 0, .null, .null, .int 0, .null, .int 0, .int 0, .null, .null, .int 0, .long 0, .null, .int 0, .int 0, .int 0, .int 0, .null, .null, .null, .null, .long 0])), (q_a0, .inl (c_a0, 50, .inl (fun _ => 0)))] := hD
  refine lv_aload_n hx hb dX4_init_12 rfl (lv_at hl 0 rfl) ?_
  refine lv_bipush (v := 10) hx hb dX4_init_13 (by decide) ?_
  refine va_newa (a0 := (10, .inl (fun _ => 0))) (N' := 10) (ty := .int) hx hb ?_ rfl hK hP hD hS hA ?_ ?_ ?_ ?_ ?_ ?_ dX4_init_15 (fun q_a1 c_a1 H hK hP hD hS => ?_)
  · exact hts (.arrayClass .int) (by decide +kernel)
  · exact (fun _ => rfl)
  · decide
  · decide +kernel
  · decide +kernel
  · show 1 + 1 ≤ 15; decide
  · show 50 + 10 ≤ 240; decide
  obtain h9 : c_a0 = c_a1 := cI_eq hK 0 1 rfl rfl
  subst h9
  have hK := hK.sub (tys' := [(c_a0, .int)]) [0] rfl
  have hP : va_P D vwCl [(h0, .inr (4, [.int 0, .int 0, .int 0, .ref q_a0, .null, .int 0, .null, .null, .null, .int 0, .null, .null, .int 0, .null, .int 0, .int 0, .null, .null, .int 0, .long 0, .null, .int 0, .int 0, .int 0, .int 0, .null, .null, .null, .null, .long 0])), (q_a0, .inl (c_a0, 50, .inl (fun _ => 0))), (q_a1, .inl (c_a0, 10, .inl (fun _ => 0)))] H := hP
  have hD : va_D A [(h0, .inr (4, [.int 0, .int 0, .int 0, .ref q_a0, .null, .int 0, .null, .null, .null, .int 0, .null, .null, .int 0, .null, .int 0, .int 0, .null, .null, .int 0, .long 0, .null, .int 0, .int 0, .int 0, .int 0, .null, .null, .null, .null, .long 0])), (q_a0, .inl (c_a0, 50, .inl (fun _ => 0))), (q_a1, .inl (c_a0, 10, .inl (fun _ => 0)))] := hD
  refine W.widen (k := 2) (n := 60) (by omega) (by omega) ?_
  refine va_putF (D := D) (cl := vwCl) (ci := 4) (v := .ref q_a1) (ty := (.array .int)) (C := RX4) (T := TX4) (N := 30) hx hb hts (by decide +kernel) tyX4 tyX4_ok nmX4 hown hK hP hD hS 0 rfl rfl 4 (by decide) (hts (.fieldLink RX4 13 "WineByYearsModel" "thought" "[I") (by decide +kernel)) (fun _ h9 => h9) rfl hin rfl (by decide +kernel) rfl rfl (Nat.le_of_ble_eq_true rfl) dX4_init_17 (fun H locs hP hD hS => ?_)
  have hP : va_P D vwCl [(h0, .inr (4, [.int 0, .int 0, .int 0, .ref q_a0, .ref q_a1, .int 0, .null, .null, .null, .int 0, .null, .null, .int 0, .null, .int 0, .int 0, .null, .null, .int 0, .long 0, .null, .int 0, .int 0, .int 0, .int 0, .null, .null, .null, .null, .long 0])), (q_a0, .inl (c_a0, 50, .inl (fun _ => 0))), (q_a1, .inl (c_a0, 10, .inl (fun _ => 0)))] H := hP
  have hD : va_D A [(h0, .inr (4, [.int 0, .int 0, .int 0, .ref q_a0, .ref q_a1, .int 0, .null, .null, .null, .int 0, .null, .null, .int 0, .null, .int 0, .int 0, .null, .null, .int 0, .long 0, .null, .int 0, .int 0, .int 0, .int 0, .null, .null, .null, .null, .long 0])), (q_a0, .inl (c_a0, 50, .inl (fun _ => 0))), (q_a1, .inl (c_a0, 10, .inl (fun _ => 0)))] := hD
  refine lv_aload_n hx hb dX4_init_20 rfl (lv_at hl 0 rfl) ?_
  refine lv_iconst (v := 5) hx hb dX4_init_21 (by decide) ?_
  refine va_newa (a0 := (5, .inl (fun _ => 0))) (N' := 5) (ty := .int) hx hb ?_ rfl hK hP hD hS hA ?_ ?_ ?_ ?_ ?_ ?_ dX4_init_22 (fun q_a2 c_a2 H hK hP hD hS => ?_)
  · exact hts (.arrayClass .int) (by decide +kernel)
  · exact (fun _ => rfl)
  · decide
  · decide +kernel
  · decide +kernel
  · show 2 + 1 ≤ 15; decide
  · show 60 + 5 ≤ 240; decide
  obtain h9 : c_a0 = c_a2 := cI_eq hK 0 1 rfl rfl
  subst h9
  have hK := hK.sub (tys' := [(c_a0, .int)]) [0] rfl
  have hP : va_P D vwCl [(h0, .inr (4, [.int 0, .int 0, .int 0, .ref q_a0, .ref q_a1, .int 0, .null, .null, .null, .int 0, .null, .null, .int 0, .null, .int 0, .int 0, .null, .null, .int 0, .long 0, .null, .int 0, .int 0, .int 0, .int 0, .null, .null, .null, .null, .long 0])), (q_a0, .inl (c_a0, 50, .inl (fun _ => 0))), (q_a1, .inl (c_a0, 10, .inl (fun _ => 0))), (q_a2, .inl (c_a0, 5, .inl (fun _ => 0)))] H := hP
  have hD : va_D A [(h0, .inr (4, [.int 0, .int 0, .int 0, .ref q_a0, .ref q_a1, .int 0, .null, .null, .null, .int 0, .null, .null, .int 0, .null, .int 0, .int 0, .null, .null, .int 0, .long 0, .null, .int 0, .int 0, .int 0, .int 0, .null, .null, .null, .null, .long 0])), (q_a0, .inl (c_a0, 50, .inl (fun _ => 0))), (q_a1, .inl (c_a0, 10, .inl (fun _ => 0))), (q_a2, .inl (c_a0, 5, .inl (fun _ => 0)))] := hD
  refine W.widen (k := 3) (n := 65) (by omega) (by omega) ?_
  refine va_putF (D := D) (cl := vwCl) (ci := 4) (v := .ref q_a2) (ty := (.array .int)) (C := RX4) (T := TX4) (N := 30) hx hb hts (by decide +kernel) tyX4 tyX4_ok nmX4 hown hK hP hD hS 0 rfl rfl 6 (by decide) (hts (.fieldLink RX4 16 "WineByYearsModel" "kindOf" "[I") (by decide +kernel)) (fun _ h9 => h9) rfl hin rfl (by decide +kernel) rfl rfl (Nat.le_of_ble_eq_true rfl) dX4_init_24 (fun H locs hP hD hS => ?_)
  have hP : va_P D vwCl [(h0, .inr (4, [.int 0, .int 0, .int 0, .ref q_a0, .ref q_a1, .int 0, .ref q_a2, .null, .null, .int 0, .null, .null, .int 0, .null, .int 0, .int 0, .null, .null, .int 0, .long 0, .null, .int 0, .int 0, .int 0, .int 0, .null, .null, .null, .null, .long 0])), (q_a0, .inl (c_a0, 50, .inl (fun _ => 0))), (q_a1, .inl (c_a0, 10, .inl (fun _ => 0))), (q_a2, .inl (c_a0, 5, .inl (fun _ => 0)))] H := hP
  have hD : va_D A [(h0, .inr (4, [.int 0, .int 0, .int 0, .ref q_a0, .ref q_a1, .int 0, .ref q_a2, .null, .null, .int 0, .null, .null, .int 0, .null, .int 0, .int 0, .null, .null, .int 0, .long 0, .null, .int 0, .int 0, .int 0, .int 0, .null, .null, .null, .null, .long 0])), (q_a0, .inl (c_a0, 50, .inl (fun _ => 0))), (q_a1, .inl (c_a0, 10, .inl (fun _ => 0))), (q_a2, .inl (c_a0, 5, .inl (fun _ => 0)))] := hD
  refine lv_aload_n hx hb dX4_init_27 rfl (lv_at hl 0 rfl) ?_
  refine lv_iconst (v := 5) hx hb dX4_init_28 (by decide) ?_
  refine va_newa (a0 := (5, .inl (fun _ => 0))) (N' := 5) (ty := .int) hx hb ?_ rfl hK hP hD hS hA ?_ ?_ ?_ ?_ ?_ ?_ dX4_init_29 (fun q_a3 c_a3 H hK hP hD hS => ?_)
  · exact hts (.arrayClass .int) (by decide +kernel)
  · exact (fun _ => rfl)
  · decide
  · decide +kernel
  · decide +kernel
  · show 3 + 1 ≤ 15; decide
  · show 65 + 5 ≤ 240; decide
  obtain h9 : c_a0 = c_a3 := cI_eq hK 0 1 rfl rfl
  subst h9
  have hK := hK.sub (tys' := [(c_a0, .int)]) [0] rfl
  have hP : va_P D vwCl [(h0, .inr (4, [.int 0, .int 0, .int 0, .ref q_a0, .ref q_a1, .int 0, .ref q_a2, .null, .null, .int 0, .null, .null, .int 0, .null, .int 0, .int 0, .null, .null, .int 0, .long 0, .null, .int 0, .int 0, .int 0, .int 0, .null, .null, .null, .null, .long 0])), (q_a0, .inl (c_a0, 50, .inl (fun _ => 0))), (q_a1, .inl (c_a0, 10, .inl (fun _ => 0))), (q_a2, .inl (c_a0, 5, .inl (fun _ => 0))), (q_a3, .inl (c_a0, 5, .inl (fun _ => 0)))] H := hP
  have hD : va_D A [(h0, .inr (4, [.int 0, .int 0, .int 0, .ref q_a0, .ref q_a1, .int 0, .ref q_a2, .null, .null, .int 0, .null, .null, .int 0, .null, .int 0, .int 0, .null, .null, .int 0, .long 0, .null, .int 0, .int 0, .int 0, .int 0, .null, .null, .null, .null, .long 0])), (q_a0, .inl (c_a0, 50, .inl (fun _ => 0))), (q_a1, .inl (c_a0, 10, .inl (fun _ => 0))), (q_a2, .inl (c_a0, 5, .inl (fun _ => 0))), (q_a3, .inl (c_a0, 5, .inl (fun _ => 0)))] := hD
  refine W.widen (k := 4) (n := 70) (by omega) (by omega) ?_
  refine va_putF (D := D) (cl := vwCl) (ci := 4) (v := .ref q_a3) (ty := (.array .int)) (C := RX4) (T := TX4) (N := 30) hx hb hts (by decide +kernel) tyX4 tyX4_ok nmX4 hown hK hP hD hS 0 rfl rfl 7 (by decide) (hts (.fieldLink RX4 19 "WineByYearsModel" "bornOf" "[I") (by decide +kernel)) (fun _ h9 => h9) rfl hin rfl (by decide +kernel) rfl rfl (Nat.le_of_ble_eq_true rfl) dX4_init_31 (fun H locs hP hD hS => ?_)
  have hP : va_P D vwCl [(h0, .inr (4, [.int 0, .int 0, .int 0, .ref q_a0, .ref q_a1, .int 0, .ref q_a2, .ref q_a3, .null, .int 0, .null, .null, .int 0, .null, .int 0, .int 0, .null, .null, .int 0, .long 0, .null, .int 0, .int 0, .int 0, .int 0, .null, .null, .null, .null, .long 0])), (q_a0, .inl (c_a0, 50, .inl (fun _ => 0))), (q_a1, .inl (c_a0, 10, .inl (fun _ => 0))), (q_a2, .inl (c_a0, 5, .inl (fun _ => 0))), (q_a3, .inl (c_a0, 5, .inl (fun _ => 0)))] H := hP
  have hD : va_D A [(h0, .inr (4, [.int 0, .int 0, .int 0, .ref q_a0, .ref q_a1, .int 0, .ref q_a2, .ref q_a3, .null, .int 0, .null, .null, .int 0, .null, .int 0, .int 0, .null, .null, .int 0, .long 0, .null, .int 0, .int 0, .int 0, .int 0, .null, .null, .null, .null, .long 0])), (q_a0, .inl (c_a0, 50, .inl (fun _ => 0))), (q_a1, .inl (c_a0, 10, .inl (fun _ => 0))), (q_a2, .inl (c_a0, 5, .inl (fun _ => 0))), (q_a3, .inl (c_a0, 5, .inl (fun _ => 0)))] := hD
  refine lv_aload_n hx hb dX4_init_34 rfl (lv_at hl 0 rfl) ?_
  refine lv_iconst (v := 5) hx hb dX4_init_35 (by decide) ?_
  refine va_newa (a0 := (5, .inl (fun _ => 0))) (N' := 5) (ty := .int) hx hb ?_ rfl hK hP hD hS hA ?_ ?_ ?_ ?_ ?_ ?_ dX4_init_36 (fun q_a4 c_a4 H hK hP hD hS => ?_)
  · exact hts (.arrayClass .int) (by decide +kernel)
  · exact (fun _ => rfl)
  · decide
  · decide +kernel
  · decide +kernel
  · show 4 + 1 ≤ 15; decide
  · show 70 + 5 ≤ 240; decide
  obtain h9 : c_a0 = c_a4 := cI_eq hK 0 1 rfl rfl
  subst h9
  have hK := hK.sub (tys' := [(c_a0, .int)]) [0] rfl
  have hP : va_P D vwCl [(h0, .inr (4, [.int 0, .int 0, .int 0, .ref q_a0, .ref q_a1, .int 0, .ref q_a2, .ref q_a3, .null, .int 0, .null, .null, .int 0, .null, .int 0, .int 0, .null, .null, .int 0, .long 0, .null, .int 0, .int 0, .int 0, .int 0, .null, .null, .null, .null, .long 0])), (q_a0, .inl (c_a0, 50, .inl (fun _ => 0))), (q_a1, .inl (c_a0, 10, .inl (fun _ => 0))), (q_a2, .inl (c_a0, 5, .inl (fun _ => 0))), (q_a3, .inl (c_a0, 5, .inl (fun _ => 0))), (q_a4, .inl (c_a0, 5, .inl (fun _ => 0)))] H := hP
  have hD : va_D A [(h0, .inr (4, [.int 0, .int 0, .int 0, .ref q_a0, .ref q_a1, .int 0, .ref q_a2, .ref q_a3, .null, .int 0, .null, .null, .int 0, .null, .int 0, .int 0, .null, .null, .int 0, .long 0, .null, .int 0, .int 0, .int 0, .int 0, .null, .null, .null, .null, .long 0])), (q_a0, .inl (c_a0, 50, .inl (fun _ => 0))), (q_a1, .inl (c_a0, 10, .inl (fun _ => 0))), (q_a2, .inl (c_a0, 5, .inl (fun _ => 0))), (q_a3, .inl (c_a0, 5, .inl (fun _ => 0))), (q_a4, .inl (c_a0, 5, .inl (fun _ => 0)))] := hD
  refine W.widen (k := 5) (n := 75) (by omega) (by omega) ?_
  refine va_putF (D := D) (cl := vwCl) (ci := 4) (v := .ref q_a4) (ty := (.array .int)) (C := RX4) (T := TX4) (N := 30) hx hb hts (by decide +kernel) tyX4 tyX4_ok nmX4 hown hK hP hD hS 0 rfl rfl 8 (by decide) (hts (.fieldLink RX4 22 "WineByYearsModel" "illOf" "[I") (by decide +kernel)) (fun _ h9 => h9) rfl hin rfl (by decide +kernel) rfl rfl (Nat.le_of_ble_eq_true rfl) dX4_init_38 (fun H locs hP hD hS => ?_)
  have hP : va_P D vwCl [(h0, .inr (4, [.int 0, .int 0, .int 0, .ref q_a0, .ref q_a1, .int 0, .ref q_a2, .ref q_a3, .ref q_a4, .int 0, .null, .null, .int 0, .null, .int 0, .int 0, .null, .null, .int 0, .long 0, .null, .int 0, .int 0, .int 0, .int 0, .null, .null, .null, .null, .long 0])), (q_a0, .inl (c_a0, 50, .inl (fun _ => 0))), (q_a1, .inl (c_a0, 10, .inl (fun _ => 0))), (q_a2, .inl (c_a0, 5, .inl (fun _ => 0))), (q_a3, .inl (c_a0, 5, .inl (fun _ => 0))), (q_a4, .inl (c_a0, 5, .inl (fun _ => 0)))] H := hP
  have hD : va_D A [(h0, .inr (4, [.int 0, .int 0, .int 0, .ref q_a0, .ref q_a1, .int 0, .ref q_a2, .ref q_a3, .ref q_a4, .int 0, .null, .null, .int 0, .null, .int 0, .int 0, .null, .null, .int 0, .long 0, .null, .int 0, .int 0, .int 0, .int 0, .null, .null, .null, .null, .long 0])), (q_a0, .inl (c_a0, 50, .inl (fun _ => 0))), (q_a1, .inl (c_a0, 10, .inl (fun _ => 0))), (q_a2, .inl (c_a0, 5, .inl (fun _ => 0))), (q_a3, .inl (c_a0, 5, .inl (fun _ => 0))), (q_a4, .inl (c_a0, 5, .inl (fun _ => 0)))] := hD
  refine lv_aload_n hx hb dX4_init_41 rfl (lv_at hl 0 rfl) ?_
  refine lv_bipush (v := 8) hx hb dX4_init_42 (by decide) ?_
  refine va_newa (a0 := (8, .inl (fun _ => 0))) (N' := 8) (ty := .int) hx hb ?_ rfl hK hP hD hS hA ?_ ?_ ?_ ?_ ?_ ?_ dX4_init_44 (fun q_a5 c_a5 H hK hP hD hS => ?_)
  · exact hts (.arrayClass .int) (by decide +kernel)
  · exact (fun _ => rfl)
  · decide
  · decide +kernel
  · decide +kernel
  · show 5 + 1 ≤ 15; decide
  · show 75 + 8 ≤ 240; decide
  obtain h9 : c_a0 = c_a5 := cI_eq hK 0 1 rfl rfl
  subst h9
  have hK := hK.sub (tys' := [(c_a0, .int)]) [0] rfl
  have hP : va_P D vwCl [(h0, .inr (4, [.int 0, .int 0, .int 0, .ref q_a0, .ref q_a1, .int 0, .ref q_a2, .ref q_a3, .ref q_a4, .int 0, .null, .null, .int 0, .null, .int 0, .int 0, .null, .null, .int 0, .long 0, .null, .int 0, .int 0, .int 0, .int 0, .null, .null, .null, .null, .long 0])), (q_a0, .inl (c_a0, 50, .inl (fun _ => 0))), (q_a1, .inl (c_a0, 10, .inl (fun _ => 0))), (q_a2, .inl (c_a0, 5, .inl (fun _ => 0))), (q_a3, .inl (c_a0, 5, .inl (fun _ => 0))), (q_a4, .inl (c_a0, 5, .inl (fun _ => 0))), (q_a5, .inl (c_a0, 8, .inl (fun _ => 0)))] H := hP
  have hD : va_D A [(h0, .inr (4, [.int 0, .int 0, .int 0, .ref q_a0, .ref q_a1, .int 0, .ref q_a2, .ref q_a3, .ref q_a4, .int 0, .null, .null, .int 0, .null, .int 0, .int 0, .null, .null, .int 0, .long 0, .null, .int 0, .int 0, .int 0, .int 0, .null, .null, .null, .null, .long 0])), (q_a0, .inl (c_a0, 50, .inl (fun _ => 0))), (q_a1, .inl (c_a0, 10, .inl (fun _ => 0))), (q_a2, .inl (c_a0, 5, .inl (fun _ => 0))), (q_a3, .inl (c_a0, 5, .inl (fun _ => 0))), (q_a4, .inl (c_a0, 5, .inl (fun _ => 0))), (q_a5, .inl (c_a0, 8, .inl (fun _ => 0)))] := hD
  refine W.widen (k := 6) (n := 83) (by omega) (by omega) ?_
  refine va_putF (D := D) (cl := vwCl) (ci := 4) (v := .ref q_a5) (ty := (.array .int)) (C := RX4) (T := TX4) (N := 30) hx hb hts (by decide +kernel) tyX4 tyX4_ok nmX4 hown hK hP hD hS 0 rfl rfl 10 (by decide) (hts (.fieldLink RX4 25 "WineByYearsModel" "trialCask" "[I") (by decide +kernel)) (fun _ h9 => h9) rfl hin rfl (by decide +kernel) rfl rfl (Nat.le_of_ble_eq_true rfl) dX4_init_46 (fun H locs hP hD hS => ?_)
  have hP : va_P D vwCl [(h0, .inr (4, [.int 0, .int 0, .int 0, .ref q_a0, .ref q_a1, .int 0, .ref q_a2, .ref q_a3, .ref q_a4, .int 0, .ref q_a5, .null, .int 0, .null, .int 0, .int 0, .null, .null, .int 0, .long 0, .null, .int 0, .int 0, .int 0, .int 0, .null, .null, .null, .null, .long 0])), (q_a0, .inl (c_a0, 50, .inl (fun _ => 0))), (q_a1, .inl (c_a0, 10, .inl (fun _ => 0))), (q_a2, .inl (c_a0, 5, .inl (fun _ => 0))), (q_a3, .inl (c_a0, 5, .inl (fun _ => 0))), (q_a4, .inl (c_a0, 5, .inl (fun _ => 0))), (q_a5, .inl (c_a0, 8, .inl (fun _ => 0)))] H := hP
  have hD : va_D A [(h0, .inr (4, [.int 0, .int 0, .int 0, .ref q_a0, .ref q_a1, .int 0, .ref q_a2, .ref q_a3, .ref q_a4, .int 0, .ref q_a5, .null, .int 0, .null, .int 0, .int 0, .null, .null, .int 0, .long 0, .null, .int 0, .int 0, .int 0, .int 0, .null, .null, .null, .null, .long 0])), (q_a0, .inl (c_a0, 50, .inl (fun _ => 0))), (q_a1, .inl (c_a0, 10, .inl (fun _ => 0))), (q_a2, .inl (c_a0, 5, .inl (fun _ => 0))), (q_a3, .inl (c_a0, 5, .inl (fun _ => 0))), (q_a4, .inl (c_a0, 5, .inl (fun _ => 0))), (q_a5, .inl (c_a0, 8, .inl (fun _ => 0)))] := hD
  refine lv_aload_n hx hb dX4_init_49 rfl (lv_at hl 0 rfl) ?_
  refine lv_bipush (v := 8) hx hb dX4_init_50 (by decide) ?_
  refine va_newa (a0 := (8, .inl (fun _ => 0))) (N' := 8) (ty := .int) hx hb ?_ rfl hK hP hD hS hA ?_ ?_ ?_ ?_ ?_ ?_ dX4_init_52 (fun q_a6 c_a6 H hK hP hD hS => ?_)
  · exact hts (.arrayClass .int) (by decide +kernel)
  · exact (fun _ => rfl)
  · decide
  · decide +kernel
  · decide +kernel
  · show 6 + 1 ≤ 15; decide
  · show 83 + 8 ≤ 240; decide
  obtain h9 : c_a0 = c_a6 := cI_eq hK 0 1 rfl rfl
  subst h9
  have hK := hK.sub (tys' := [(c_a0, .int)]) [0] rfl
  have hP : va_P D vwCl [(h0, .inr (4, [.int 0, .int 0, .int 0, .ref q_a0, .ref q_a1, .int 0, .ref q_a2, .ref q_a3, .ref q_a4, .int 0, .ref q_a5, .null, .int 0, .null, .int 0, .int 0, .null, .null, .int 0, .long 0, .null, .int 0, .int 0, .int 0, .int 0, .null, .null, .null, .null, .long 0])), (q_a0, .inl (c_a0, 50, .inl (fun _ => 0))), (q_a1, .inl (c_a0, 10, .inl (fun _ => 0))), (q_a2, .inl (c_a0, 5, .inl (fun _ => 0))), (q_a3, .inl (c_a0, 5, .inl (fun _ => 0))), (q_a4, .inl (c_a0, 5, .inl (fun _ => 0))), (q_a5, .inl (c_a0, 8, .inl (fun _ => 0))), (q_a6, .inl (c_a0, 8, .inl (fun _ => 0)))] H := hP
  have hD : va_D A [(h0, .inr (4, [.int 0, .int 0, .int 0, .ref q_a0, .ref q_a1, .int 0, .ref q_a2, .ref q_a3, .ref q_a4, .int 0, .ref q_a5, .null, .int 0, .null, .int 0, .int 0, .null, .null, .int 0, .long 0, .null, .int 0, .int 0, .int 0, .int 0, .null, .null, .null, .null, .long 0])), (q_a0, .inl (c_a0, 50, .inl (fun _ => 0))), (q_a1, .inl (c_a0, 10, .inl (fun _ => 0))), (q_a2, .inl (c_a0, 5, .inl (fun _ => 0))), (q_a3, .inl (c_a0, 5, .inl (fun _ => 0))), (q_a4, .inl (c_a0, 5, .inl (fun _ => 0))), (q_a5, .inl (c_a0, 8, .inl (fun _ => 0))), (q_a6, .inl (c_a0, 8, .inl (fun _ => 0)))] := hD
  refine W.widen (k := 7) (n := 91) (by omega) (by omega) ?_
  refine va_putF (D := D) (cl := vwCl) (ci := 4) (v := .ref q_a6) (ty := (.array .int)) (C := RX4) (T := TX4) (N := 30) hx hb hts (by decide +kernel) tyX4 tyX4_ok nmX4 hown hK hP hD hS 0 rfl rfl 11 (by decide) (hts (.fieldLink RX4 28 "WineByYearsModel" "trialIll" "[I") (by decide +kernel)) (fun _ h9 => h9) rfl hin rfl (by decide +kernel) rfl rfl (Nat.le_of_ble_eq_true rfl) dX4_init_54 (fun H locs hP hD hS => ?_)
  have hP : va_P D vwCl [(h0, .inr (4, [.int 0, .int 0, .int 0, .ref q_a0, .ref q_a1, .int 0, .ref q_a2, .ref q_a3, .ref q_a4, .int 0, .ref q_a5, .ref q_a6, .int 0, .null, .int 0, .int 0, .null, .null, .int 0, .long 0, .null, .int 0, .int 0, .int 0, .int 0, .null, .null, .null, .null, .long 0])), (q_a0, .inl (c_a0, 50, .inl (fun _ => 0))), (q_a1, .inl (c_a0, 10, .inl (fun _ => 0))), (q_a2, .inl (c_a0, 5, .inl (fun _ => 0))), (q_a3, .inl (c_a0, 5, .inl (fun _ => 0))), (q_a4, .inl (c_a0, 5, .inl (fun _ => 0))), (q_a5, .inl (c_a0, 8, .inl (fun _ => 0))), (q_a6, .inl (c_a0, 8, .inl (fun _ => 0)))] H := hP
  have hD : va_D A [(h0, .inr (4, [.int 0, .int 0, .int 0, .ref q_a0, .ref q_a1, .int 0, .ref q_a2, .ref q_a3, .ref q_a4, .int 0, .ref q_a5, .ref q_a6, .int 0, .null, .int 0, .int 0, .null, .null, .int 0, .long 0, .null, .int 0, .int 0, .int 0, .int 0, .null, .null, .null, .null, .long 0])), (q_a0, .inl (c_a0, 50, .inl (fun _ => 0))), (q_a1, .inl (c_a0, 10, .inl (fun _ => 0))), (q_a2, .inl (c_a0, 5, .inl (fun _ => 0))), (q_a3, .inl (c_a0, 5, .inl (fun _ => 0))), (q_a4, .inl (c_a0, 5, .inl (fun _ => 0))), (q_a5, .inl (c_a0, 8, .inl (fun _ => 0))), (q_a6, .inl (c_a0, 8, .inl (fun _ => 0)))] := hD
  refine lv_aload_n hx hb dX4_init_57 rfl (lv_at hl 0 rfl) ?_
  refine lv_bipush (v := 18) hx hb dX4_init_58 (by decide) ?_
  refine va_newa (a0 := (18, .inl (fun _ => 0))) (N' := 18) (ty := .byte) hx hb ?_ rfl hK hP hD hS hA ?_ ?_ ?_ ?_ ?_ ?_ dX4_init_60 (fun q_a7 c_a7 H hK hP hD hS => ?_)
  · exact hts (.arrayClass .byte) (by decide +kernel)
  · exact (fun _ => rfl)
  · decide
  · decide +kernel
  · decide +kernel
  · show 7 + 1 ≤ 15; decide
  · show 91 + 18 ≤ 240; decide
  have hK : va_K D vwCl [(c_a0, .int), (c_a7, .byte)] s := hK
  have hP : va_P D vwCl [(h0, .inr (4, [.int 0, .int 0, .int 0, .ref q_a0, .ref q_a1, .int 0, .ref q_a2, .ref q_a3, .ref q_a4, .int 0, .ref q_a5, .ref q_a6, .int 0, .null, .int 0, .int 0, .null, .null, .int 0, .long 0, .null, .int 0, .int 0, .int 0, .int 0, .null, .null, .null, .null, .long 0])), (q_a0, .inl (c_a0, 50, .inl (fun _ => 0))), (q_a1, .inl (c_a0, 10, .inl (fun _ => 0))), (q_a2, .inl (c_a0, 5, .inl (fun _ => 0))), (q_a3, .inl (c_a0, 5, .inl (fun _ => 0))), (q_a4, .inl (c_a0, 5, .inl (fun _ => 0))), (q_a5, .inl (c_a0, 8, .inl (fun _ => 0))), (q_a6, .inl (c_a0, 8, .inl (fun _ => 0))), (q_a7, .inl (c_a7, 18, .inl (fun _ => 0)))] H := hP
  have hD : va_D A [(h0, .inr (4, [.int 0, .int 0, .int 0, .ref q_a0, .ref q_a1, .int 0, .ref q_a2, .ref q_a3, .ref q_a4, .int 0, .ref q_a5, .ref q_a6, .int 0, .null, .int 0, .int 0, .null, .null, .int 0, .long 0, .null, .int 0, .int 0, .int 0, .int 0, .null, .null, .null, .null, .long 0])), (q_a0, .inl (c_a0, 50, .inl (fun _ => 0))), (q_a1, .inl (c_a0, 10, .inl (fun _ => 0))), (q_a2, .inl (c_a0, 5, .inl (fun _ => 0))), (q_a3, .inl (c_a0, 5, .inl (fun _ => 0))), (q_a4, .inl (c_a0, 5, .inl (fun _ => 0))), (q_a5, .inl (c_a0, 8, .inl (fun _ => 0))), (q_a6, .inl (c_a0, 8, .inl (fun _ => 0))), (q_a7, .inl (c_a7, 18, .inl (fun _ => 0)))] := hD
  refine W.widen (k := 8) (n := 109) (by omega) (by omega) ?_
  refine va_putF (D := D) (cl := vwCl) (ci := 4) (v := .ref q_a7) (ty := (.array .byte)) (C := RX4) (T := TX4) (N := 30) hx hb hts (by decide +kernel) tyX4 tyX4_ok nmX4 hown hK hP hD hS 0 rfl rfl 13 (by decide) (hts (.fieldLink RX4 31 "WineByYearsModel" "page" "[B") (by decide +kernel)) (fun _ h9 => h9) rfl hin rfl (by decide +kernel) rfl rfl (Nat.le_of_ble_eq_true rfl) dX4_init_62 (fun H locs hP hD hS => ?_)
  have hP : va_P D vwCl [(h0, .inr (4, [.int 0, .int 0, .int 0, .ref q_a0, .ref q_a1, .int 0, .ref q_a2, .ref q_a3, .ref q_a4, .int 0, .ref q_a5, .ref q_a6, .int 0, .ref q_a7, .int 0, .int 0, .null, .null, .int 0, .long 0, .null, .int 0, .int 0, .int 0, .int 0, .null, .null, .null, .null, .long 0])), (q_a0, .inl (c_a0, 50, .inl (fun _ => 0))), (q_a1, .inl (c_a0, 10, .inl (fun _ => 0))), (q_a2, .inl (c_a0, 5, .inl (fun _ => 0))), (q_a3, .inl (c_a0, 5, .inl (fun _ => 0))), (q_a4, .inl (c_a0, 5, .inl (fun _ => 0))), (q_a5, .inl (c_a0, 8, .inl (fun _ => 0))), (q_a6, .inl (c_a0, 8, .inl (fun _ => 0))), (q_a7, .inl (c_a7, 18, .inl (fun _ => 0)))] H := hP
  have hD : va_D A [(h0, .inr (4, [.int 0, .int 0, .int 0, .ref q_a0, .ref q_a1, .int 0, .ref q_a2, .ref q_a3, .ref q_a4, .int 0, .ref q_a5, .ref q_a6, .int 0, .ref q_a7, .int 0, .int 0, .null, .null, .int 0, .long 0, .null, .int 0, .int 0, .int 0, .int 0, .null, .null, .null, .null, .long 0])), (q_a0, .inl (c_a0, 50, .inl (fun _ => 0))), (q_a1, .inl (c_a0, 10, .inl (fun _ => 0))), (q_a2, .inl (c_a0, 5, .inl (fun _ => 0))), (q_a3, .inl (c_a0, 5, .inl (fun _ => 0))), (q_a4, .inl (c_a0, 5, .inl (fun _ => 0))), (q_a5, .inl (c_a0, 8, .inl (fun _ => 0))), (q_a6, .inl (c_a0, 8, .inl (fun _ => 0))), (q_a7, .inl (c_a7, 18, .inl (fun _ => 0)))] := hD
  refine lv_aload_n hx hb dX4_init_65 rfl (lv_at hl 0 rfl) ?_
  refine lv_iconst (v := 5) hx hb dX4_init_66 (by decide) ?_
  refine va_newa (a0 := (5, .inl (fun _ => 0))) (N' := 5) (ty := .int) hx hb ?_ rfl hK hP hD hS hA ?_ ?_ ?_ ?_ ?_ ?_ dX4_init_67 (fun q_a8 c_a8 H hK hP hD hS => ?_)
  · exact hts (.arrayClass .int) (by decide +kernel)
  · exact (fun _ => rfl)
  · decide
  · decide +kernel
  · decide +kernel
  · show 8 + 1 ≤ 15; decide
  · show 109 + 5 ≤ 240; decide
  obtain h9 : c_a0 = c_a8 := cI_eq hK 0 2 rfl rfl
  subst h9
  have hK := hK.sub (tys' := [(c_a0, .int), (c_a7, .byte)]) [0, 1] rfl
  have hP : va_P D vwCl [(h0, .inr (4, [.int 0, .int 0, .int 0, .ref q_a0, .ref q_a1, .int 0, .ref q_a2, .ref q_a3, .ref q_a4, .int 0, .ref q_a5, .ref q_a6, .int 0, .ref q_a7, .int 0, .int 0, .null, .null, .int 0, .long 0, .null, .int 0, .int 0, .int 0, .int 0, .null, .null, .null, .null, .long 0])), (q_a0, .inl (c_a0, 50, .inl (fun _ => 0))), (q_a1, .inl (c_a0, 10, .inl (fun _ => 0))), (q_a2, .inl (c_a0, 5, .inl (fun _ => 0))), (q_a3, .inl (c_a0, 5, .inl (fun _ => 0))), (q_a4, .inl (c_a0, 5, .inl (fun _ => 0))), (q_a5, .inl (c_a0, 8, .inl (fun _ => 0))), (q_a6, .inl (c_a0, 8, .inl (fun _ => 0))), (q_a7, .inl (c_a7, 18, .inl (fun _ => 0))), (q_a8, .inl (c_a0, 5, .inl (fun _ => 0)))] H := hP
  have hD : va_D A [(h0, .inr (4, [.int 0, .int 0, .int 0, .ref q_a0, .ref q_a1, .int 0, .ref q_a2, .ref q_a3, .ref q_a4, .int 0, .ref q_a5, .ref q_a6, .int 0, .ref q_a7, .int 0, .int 0, .null, .null, .int 0, .long 0, .null, .int 0, .int 0, .int 0, .int 0, .null, .null, .null, .null, .long 0])), (q_a0, .inl (c_a0, 50, .inl (fun _ => 0))), (q_a1, .inl (c_a0, 10, .inl (fun _ => 0))), (q_a2, .inl (c_a0, 5, .inl (fun _ => 0))), (q_a3, .inl (c_a0, 5, .inl (fun _ => 0))), (q_a4, .inl (c_a0, 5, .inl (fun _ => 0))), (q_a5, .inl (c_a0, 8, .inl (fun _ => 0))), (q_a6, .inl (c_a0, 8, .inl (fun _ => 0))), (q_a7, .inl (c_a7, 18, .inl (fun _ => 0))), (q_a8, .inl (c_a0, 5, .inl (fun _ => 0)))] := hD
  refine W.widen (k := 9) (n := 114) (by omega) (by omega) ?_
  refine va_putF (D := D) (cl := vwCl) (ci := 4) (v := .ref q_a8) (ty := (.array .int)) (C := RX4) (T := TX4) (N := 30) hx hb hts (by decide +kernel) tyX4 tyX4_ok nmX4 hown hK hP hD hS 0 rfl rfl 16 (by decide) (hts (.fieldLink RX4 35 "WineByYearsModel" "mays" "[I") (by decide +kernel)) (fun _ h9 => h9) rfl hin rfl (by decide +kernel) rfl rfl (Nat.le_of_ble_eq_true rfl) dX4_init_69 (fun H locs hP hD hS => ?_)
  have hP : va_P D vwCl [(h0, .inr (4, [.int 0, .int 0, .int 0, .ref q_a0, .ref q_a1, .int 0, .ref q_a2, .ref q_a3, .ref q_a4, .int 0, .ref q_a5, .ref q_a6, .int 0, .ref q_a7, .int 0, .int 0, .ref q_a8, .null, .int 0, .long 0, .null, .int 0, .int 0, .int 0, .int 0, .null, .null, .null, .null, .long 0])), (q_a0, .inl (c_a0, 50, .inl (fun _ => 0))), (q_a1, .inl (c_a0, 10, .inl (fun _ => 0))), (q_a2, .inl (c_a0, 5, .inl (fun _ => 0))), (q_a3, .inl (c_a0, 5, .inl (fun _ => 0))), (q_a4, .inl (c_a0, 5, .inl (fun _ => 0))), (q_a5, .inl (c_a0, 8, .inl (fun _ => 0))), (q_a6, .inl (c_a0, 8, .inl (fun _ => 0))), (q_a7, .inl (c_a7, 18, .inl (fun _ => 0))), (q_a8, .inl (c_a0, 5, .inl (fun _ => 0)))] H := hP
  have hD : va_D A [(h0, .inr (4, [.int 0, .int 0, .int 0, .ref q_a0, .ref q_a1, .int 0, .ref q_a2, .ref q_a3, .ref q_a4, .int 0, .ref q_a5, .ref q_a6, .int 0, .ref q_a7, .int 0, .int 0, .ref q_a8, .null, .int 0, .long 0, .null, .int 0, .int 0, .int 0, .int 0, .null, .null, .null, .null, .long 0])), (q_a0, .inl (c_a0, 50, .inl (fun _ => 0))), (q_a1, .inl (c_a0, 10, .inl (fun _ => 0))), (q_a2, .inl (c_a0, 5, .inl (fun _ => 0))), (q_a3, .inl (c_a0, 5, .inl (fun _ => 0))), (q_a4, .inl (c_a0, 5, .inl (fun _ => 0))), (q_a5, .inl (c_a0, 8, .inl (fun _ => 0))), (q_a6, .inl (c_a0, 8, .inl (fun _ => 0))), (q_a7, .inl (c_a7, 18, .inl (fun _ => 0))), (q_a8, .inl (c_a0, 5, .inl (fun _ => 0)))] := hD
  refine lv_aload_n hx hb dX4_init_72 rfl (lv_at hl 0 rfl) ?_
  refine lv_iconst (v := 5) hx hb dX4_init_73 (by decide) ?_
  refine va_newa (a0 := (5, .inl (fun _ => 0))) (N' := 5) (ty := .int) hx hb ?_ rfl hK hP hD hS hA ?_ ?_ ?_ ?_ ?_ ?_ dX4_init_74 (fun q_a9 c_a9 H hK hP hD hS => ?_)
  · exact hts (.arrayClass .int) (by decide +kernel)
  · exact (fun _ => rfl)
  · decide
  · decide +kernel
  · decide +kernel
  · show 9 + 1 ≤ 15; decide
  · show 114 + 5 ≤ 240; decide
  obtain h9 : c_a0 = c_a9 := cI_eq hK 0 2 rfl rfl
  subst h9
  have hK := hK.sub (tys' := [(c_a0, .int), (c_a7, .byte)]) [0, 1] rfl
  have hP : va_P D vwCl [(h0, .inr (4, [.int 0, .int 0, .int 0, .ref q_a0, .ref q_a1, .int 0, .ref q_a2, .ref q_a3, .ref q_a4, .int 0, .ref q_a5, .ref q_a6, .int 0, .ref q_a7, .int 0, .int 0, .ref q_a8, .null, .int 0, .long 0, .null, .int 0, .int 0, .int 0, .int 0, .null, .null, .null, .null, .long 0])), (q_a0, .inl (c_a0, 50, .inl (fun _ => 0))), (q_a1, .inl (c_a0, 10, .inl (fun _ => 0))), (q_a2, .inl (c_a0, 5, .inl (fun _ => 0))), (q_a3, .inl (c_a0, 5, .inl (fun _ => 0))), (q_a4, .inl (c_a0, 5, .inl (fun _ => 0))), (q_a5, .inl (c_a0, 8, .inl (fun _ => 0))), (q_a6, .inl (c_a0, 8, .inl (fun _ => 0))), (q_a7, .inl (c_a7, 18, .inl (fun _ => 0))), (q_a8, .inl (c_a0, 5, .inl (fun _ => 0))), (q_a9, .inl (c_a0, 5, .inl (fun _ => 0)))] H := hP
  have hD : va_D A [(h0, .inr (4, [.int 0, .int 0, .int 0, .ref q_a0, .ref q_a1, .int 0, .ref q_a2, .ref q_a3, .ref q_a4, .int 0, .ref q_a5, .ref q_a6, .int 0, .ref q_a7, .int 0, .int 0, .ref q_a8, .null, .int 0, .long 0, .null, .int 0, .int 0, .int 0, .int 0, .null, .null, .null, .null, .long 0])), (q_a0, .inl (c_a0, 50, .inl (fun _ => 0))), (q_a1, .inl (c_a0, 10, .inl (fun _ => 0))), (q_a2, .inl (c_a0, 5, .inl (fun _ => 0))), (q_a3, .inl (c_a0, 5, .inl (fun _ => 0))), (q_a4, .inl (c_a0, 5, .inl (fun _ => 0))), (q_a5, .inl (c_a0, 8, .inl (fun _ => 0))), (q_a6, .inl (c_a0, 8, .inl (fun _ => 0))), (q_a7, .inl (c_a7, 18, .inl (fun _ => 0))), (q_a8, .inl (c_a0, 5, .inl (fun _ => 0))), (q_a9, .inl (c_a0, 5, .inl (fun _ => 0)))] := hD
  refine W.widen (k := 10) (n := 119) (by omega) (by omega) ?_
  refine va_putF (D := D) (cl := vwCl) (ci := 4) (v := .ref q_a9) (ty := (.array .int)) (C := RX4) (T := TX4) (N := 30) hx hb hts (by decide +kernel) tyX4 tyX4_ok nmX4 hown hK hP hD hS 0 rfl rfl 17 (by decide) (hts (.fieldLink RX4 38 "WineByYearsModel" "left" "[I") (by decide +kernel)) (fun _ h9 => h9) rfl hin rfl (by decide +kernel) rfl rfl (Nat.le_of_ble_eq_true rfl) dX4_init_76 (fun H locs hP hD hS => ?_)
  have hP : va_P D vwCl [(h0, .inr (4, [.int 0, .int 0, .int 0, .ref q_a0, .ref q_a1, .int 0, .ref q_a2, .ref q_a3, .ref q_a4, .int 0, .ref q_a5, .ref q_a6, .int 0, .ref q_a7, .int 0, .int 0, .ref q_a8, .ref q_a9, .int 0, .long 0, .null, .int 0, .int 0, .int 0, .int 0, .null, .null, .null, .null, .long 0])), (q_a0, .inl (c_a0, 50, .inl (fun _ => 0))), (q_a1, .inl (c_a0, 10, .inl (fun _ => 0))), (q_a2, .inl (c_a0, 5, .inl (fun _ => 0))), (q_a3, .inl (c_a0, 5, .inl (fun _ => 0))), (q_a4, .inl (c_a0, 5, .inl (fun _ => 0))), (q_a5, .inl (c_a0, 8, .inl (fun _ => 0))), (q_a6, .inl (c_a0, 8, .inl (fun _ => 0))), (q_a7, .inl (c_a7, 18, .inl (fun _ => 0))), (q_a8, .inl (c_a0, 5, .inl (fun _ => 0))), (q_a9, .inl (c_a0, 5, .inl (fun _ => 0)))] H := hP
  have hD : va_D A [(h0, .inr (4, [.int 0, .int 0, .int 0, .ref q_a0, .ref q_a1, .int 0, .ref q_a2, .ref q_a3, .ref q_a4, .int 0, .ref q_a5, .ref q_a6, .int 0, .ref q_a7, .int 0, .int 0, .ref q_a8, .ref q_a9, .int 0, .long 0, .null, .int 0, .int 0, .int 0, .int 0, .null, .null, .null, .null, .long 0])), (q_a0, .inl (c_a0, 50, .inl (fun _ => 0))), (q_a1, .inl (c_a0, 10, .inl (fun _ => 0))), (q_a2, .inl (c_a0, 5, .inl (fun _ => 0))), (q_a3, .inl (c_a0, 5, .inl (fun _ => 0))), (q_a4, .inl (c_a0, 5, .inl (fun _ => 0))), (q_a5, .inl (c_a0, 8, .inl (fun _ => 0))), (q_a6, .inl (c_a0, 8, .inl (fun _ => 0))), (q_a7, .inl (c_a7, 18, .inl (fun _ => 0))), (q_a8, .inl (c_a0, 5, .inl (fun _ => 0))), (q_a9, .inl (c_a0, 5, .inl (fun _ => 0)))] := hD
  refine lv_aload_n hx hb dX4_init_79 rfl (lv_at hl 0 rfl) ?_
  refine lv_bipush (v := 50) hx hb dX4_init_80 (by decide) ?_
  refine va_newa (a0 := (50, .inl (fun _ => 0))) (N' := 50) (ty := .int) hx hb ?_ rfl hK hP hD hS hA ?_ ?_ ?_ ?_ ?_ ?_ dX4_init_82 (fun q_a10 c_a10 H hK hP hD hS => ?_)
  · exact hts (.arrayClass .int) (by decide +kernel)
  · exact (fun _ => rfl)
  · decide
  · decide +kernel
  · decide +kernel
  · show 10 + 1 ≤ 15; decide
  · show 119 + 50 ≤ 240; decide
  obtain h9 : c_a0 = c_a10 := cI_eq hK 0 2 rfl rfl
  subst h9
  have hK := hK.sub (tys' := [(c_a0, .int), (c_a7, .byte)]) [0, 1] rfl
  have hP : va_P D vwCl [(h0, .inr (4, [.int 0, .int 0, .int 0, .ref q_a0, .ref q_a1, .int 0, .ref q_a2, .ref q_a3, .ref q_a4, .int 0, .ref q_a5, .ref q_a6, .int 0, .ref q_a7, .int 0, .int 0, .ref q_a8, .ref q_a9, .int 0, .long 0, .null, .int 0, .int 0, .int 0, .int 0, .null, .null, .null, .null, .long 0])), (q_a0, .inl (c_a0, 50, .inl (fun _ => 0))), (q_a1, .inl (c_a0, 10, .inl (fun _ => 0))), (q_a2, .inl (c_a0, 5, .inl (fun _ => 0))), (q_a3, .inl (c_a0, 5, .inl (fun _ => 0))), (q_a4, .inl (c_a0, 5, .inl (fun _ => 0))), (q_a5, .inl (c_a0, 8, .inl (fun _ => 0))), (q_a6, .inl (c_a0, 8, .inl (fun _ => 0))), (q_a7, .inl (c_a7, 18, .inl (fun _ => 0))), (q_a8, .inl (c_a0, 5, .inl (fun _ => 0))), (q_a9, .inl (c_a0, 5, .inl (fun _ => 0))), (q_a10, .inl (c_a0, 50, .inl (fun _ => 0)))] H := hP
  have hD : va_D A [(h0, .inr (4, [.int 0, .int 0, .int 0, .ref q_a0, .ref q_a1, .int 0, .ref q_a2, .ref q_a3, .ref q_a4, .int 0, .ref q_a5, .ref q_a6, .int 0, .ref q_a7, .int 0, .int 0, .ref q_a8, .ref q_a9, .int 0, .long 0, .null, .int 0, .int 0, .int 0, .int 0, .null, .null, .null, .null, .long 0])), (q_a0, .inl (c_a0, 50, .inl (fun _ => 0))), (q_a1, .inl (c_a0, 10, .inl (fun _ => 0))), (q_a2, .inl (c_a0, 5, .inl (fun _ => 0))), (q_a3, .inl (c_a0, 5, .inl (fun _ => 0))), (q_a4, .inl (c_a0, 5, .inl (fun _ => 0))), (q_a5, .inl (c_a0, 8, .inl (fun _ => 0))), (q_a6, .inl (c_a0, 8, .inl (fun _ => 0))), (q_a7, .inl (c_a7, 18, .inl (fun _ => 0))), (q_a8, .inl (c_a0, 5, .inl (fun _ => 0))), (q_a9, .inl (c_a0, 5, .inl (fun _ => 0))), (q_a10, .inl (c_a0, 50, .inl (fun _ => 0)))] := hD
  refine W.widen (k := 11) (n := 169) (by omega) (by omega) ?_
  refine va_putF (D := D) (cl := vwCl) (ci := 4) (v := .ref q_a10) (ty := (.array .int)) (C := RX4) (T := TX4) (N := 30) hx hb hts (by decide +kernel) tyX4 tyX4_ok nmX4 hown hK hP hD hS 0 rfl rfl 20 (by decide) (hts (.fieldLink RX4 41 "WineByYearsModel" "saved" "[I") (by decide +kernel)) (fun _ h9 => h9) rfl hin rfl (by decide +kernel) rfl rfl (Nat.le_of_ble_eq_true rfl) dX4_init_84 (fun H locs hP hD hS => ?_)
  have hP : va_P D vwCl [(h0, .inr (4, [.int 0, .int 0, .int 0, .ref q_a0, .ref q_a1, .int 0, .ref q_a2, .ref q_a3, .ref q_a4, .int 0, .ref q_a5, .ref q_a6, .int 0, .ref q_a7, .int 0, .int 0, .ref q_a8, .ref q_a9, .int 0, .long 0, .ref q_a10, .int 0, .int 0, .int 0, .int 0, .null, .null, .null, .null, .long 0])), (q_a0, .inl (c_a0, 50, .inl (fun _ => 0))), (q_a1, .inl (c_a0, 10, .inl (fun _ => 0))), (q_a2, .inl (c_a0, 5, .inl (fun _ => 0))), (q_a3, .inl (c_a0, 5, .inl (fun _ => 0))), (q_a4, .inl (c_a0, 5, .inl (fun _ => 0))), (q_a5, .inl (c_a0, 8, .inl (fun _ => 0))), (q_a6, .inl (c_a0, 8, .inl (fun _ => 0))), (q_a7, .inl (c_a7, 18, .inl (fun _ => 0))), (q_a8, .inl (c_a0, 5, .inl (fun _ => 0))), (q_a9, .inl (c_a0, 5, .inl (fun _ => 0))), (q_a10, .inl (c_a0, 50, .inl (fun _ => 0)))] H := hP
  have hD : va_D A [(h0, .inr (4, [.int 0, .int 0, .int 0, .ref q_a0, .ref q_a1, .int 0, .ref q_a2, .ref q_a3, .ref q_a4, .int 0, .ref q_a5, .ref q_a6, .int 0, .ref q_a7, .int 0, .int 0, .ref q_a8, .ref q_a9, .int 0, .long 0, .ref q_a10, .int 0, .int 0, .int 0, .int 0, .null, .null, .null, .null, .long 0])), (q_a0, .inl (c_a0, 50, .inl (fun _ => 0))), (q_a1, .inl (c_a0, 10, .inl (fun _ => 0))), (q_a2, .inl (c_a0, 5, .inl (fun _ => 0))), (q_a3, .inl (c_a0, 5, .inl (fun _ => 0))), (q_a4, .inl (c_a0, 5, .inl (fun _ => 0))), (q_a5, .inl (c_a0, 8, .inl (fun _ => 0))), (q_a6, .inl (c_a0, 8, .inl (fun _ => 0))), (q_a7, .inl (c_a7, 18, .inl (fun _ => 0))), (q_a8, .inl (c_a0, 5, .inl (fun _ => 0))), (q_a9, .inl (c_a0, 5, .inl (fun _ => 0))), (q_a10, .inl (c_a0, 50, .inl (fun _ => 0)))] := hD
  refine lv_aload_n hx hb dX4_init_87 rfl (lv_at hl 0 rfl) ?_
  refine lv_bipush (v := 50) hx hb dX4_init_88 (by decide) ?_
  refine va_newa (a0 := (50, .inl (fun _ => 0))) (N' := 50) (ty := .int) hx hb ?_ rfl hK hP hD hS hA ?_ ?_ ?_ ?_ ?_ ?_ dX4_init_90 (fun q_a11 c_a11 H hK hP hD hS => ?_)
  · exact hts (.arrayClass .int) (by decide +kernel)
  · exact (fun _ => rfl)
  · decide
  · decide +kernel
  · decide +kernel
  · show 11 + 1 ≤ 15; decide
  · show 169 + 50 ≤ 240; decide
  obtain h9 : c_a0 = c_a11 := cI_eq hK 0 2 rfl rfl
  subst h9
  have hK := hK.sub (tys' := [(c_a0, .int), (c_a7, .byte)]) [0, 1] rfl
  have hP : va_P D vwCl [(h0, .inr (4, [.int 0, .int 0, .int 0, .ref q_a0, .ref q_a1, .int 0, .ref q_a2, .ref q_a3, .ref q_a4, .int 0, .ref q_a5, .ref q_a6, .int 0, .ref q_a7, .int 0, .int 0, .ref q_a8, .ref q_a9, .int 0, .long 0, .ref q_a10, .int 0, .int 0, .int 0, .int 0, .null, .null, .null, .null, .long 0])), (q_a0, .inl (c_a0, 50, .inl (fun _ => 0))), (q_a1, .inl (c_a0, 10, .inl (fun _ => 0))), (q_a2, .inl (c_a0, 5, .inl (fun _ => 0))), (q_a3, .inl (c_a0, 5, .inl (fun _ => 0))), (q_a4, .inl (c_a0, 5, .inl (fun _ => 0))), (q_a5, .inl (c_a0, 8, .inl (fun _ => 0))), (q_a6, .inl (c_a0, 8, .inl (fun _ => 0))), (q_a7, .inl (c_a7, 18, .inl (fun _ => 0))), (q_a8, .inl (c_a0, 5, .inl (fun _ => 0))), (q_a9, .inl (c_a0, 5, .inl (fun _ => 0))), (q_a10, .inl (c_a0, 50, .inl (fun _ => 0))), (q_a11, .inl (c_a0, 50, .inl (fun _ => 0)))] H := hP
  have hD : va_D A [(h0, .inr (4, [.int 0, .int 0, .int 0, .ref q_a0, .ref q_a1, .int 0, .ref q_a2, .ref q_a3, .ref q_a4, .int 0, .ref q_a5, .ref q_a6, .int 0, .ref q_a7, .int 0, .int 0, .ref q_a8, .ref q_a9, .int 0, .long 0, .ref q_a10, .int 0, .int 0, .int 0, .int 0, .null, .null, .null, .null, .long 0])), (q_a0, .inl (c_a0, 50, .inl (fun _ => 0))), (q_a1, .inl (c_a0, 10, .inl (fun _ => 0))), (q_a2, .inl (c_a0, 5, .inl (fun _ => 0))), (q_a3, .inl (c_a0, 5, .inl (fun _ => 0))), (q_a4, .inl (c_a0, 5, .inl (fun _ => 0))), (q_a5, .inl (c_a0, 8, .inl (fun _ => 0))), (q_a6, .inl (c_a0, 8, .inl (fun _ => 0))), (q_a7, .inl (c_a7, 18, .inl (fun _ => 0))), (q_a8, .inl (c_a0, 5, .inl (fun _ => 0))), (q_a9, .inl (c_a0, 5, .inl (fun _ => 0))), (q_a10, .inl (c_a0, 50, .inl (fun _ => 0))), (q_a11, .inl (c_a0, 50, .inl (fun _ => 0)))] := hD
  refine W.widen (k := 12) (n := 219) (by omega) (by omega) ?_
  refine va_putF (D := D) (cl := vwCl) (ci := 4) (v := .ref q_a11) (ty := (.array .int)) (C := RX4) (T := TX4) (N := 30) hx hb hts (by decide +kernel) tyX4 tyX4_ok nmX4 hown hK hP hD hS 0 rfl rfl 25 (by decide) (hts (.fieldLink RX4 44 "WineByYearsModel" "keptLitres" "[I") (by decide +kernel)) (fun _ h9 => h9) rfl hin rfl (by decide +kernel) rfl rfl (Nat.le_of_ble_eq_true rfl) dX4_init_92 (fun H locs hP hD hS => ?_)
  have hP : va_P D vwCl [(h0, .inr (4, [.int 0, .int 0, .int 0, .ref q_a0, .ref q_a1, .int 0, .ref q_a2, .ref q_a3, .ref q_a4, .int 0, .ref q_a5, .ref q_a6, .int 0, .ref q_a7, .int 0, .int 0, .ref q_a8, .ref q_a9, .int 0, .long 0, .ref q_a10, .int 0, .int 0, .int 0, .int 0, .ref q_a11, .null, .null, .null, .long 0])), (q_a0, .inl (c_a0, 50, .inl (fun _ => 0))), (q_a1, .inl (c_a0, 10, .inl (fun _ => 0))), (q_a2, .inl (c_a0, 5, .inl (fun _ => 0))), (q_a3, .inl (c_a0, 5, .inl (fun _ => 0))), (q_a4, .inl (c_a0, 5, .inl (fun _ => 0))), (q_a5, .inl (c_a0, 8, .inl (fun _ => 0))), (q_a6, .inl (c_a0, 8, .inl (fun _ => 0))), (q_a7, .inl (c_a7, 18, .inl (fun _ => 0))), (q_a8, .inl (c_a0, 5, .inl (fun _ => 0))), (q_a9, .inl (c_a0, 5, .inl (fun _ => 0))), (q_a10, .inl (c_a0, 50, .inl (fun _ => 0))), (q_a11, .inl (c_a0, 50, .inl (fun _ => 0)))] H := hP
  have hD : va_D A [(h0, .inr (4, [.int 0, .int 0, .int 0, .ref q_a0, .ref q_a1, .int 0, .ref q_a2, .ref q_a3, .ref q_a4, .int 0, .ref q_a5, .ref q_a6, .int 0, .ref q_a7, .int 0, .int 0, .ref q_a8, .ref q_a9, .int 0, .long 0, .ref q_a10, .int 0, .int 0, .int 0, .int 0, .ref q_a11, .null, .null, .null, .long 0])), (q_a0, .inl (c_a0, 50, .inl (fun _ => 0))), (q_a1, .inl (c_a0, 10, .inl (fun _ => 0))), (q_a2, .inl (c_a0, 5, .inl (fun _ => 0))), (q_a3, .inl (c_a0, 5, .inl (fun _ => 0))), (q_a4, .inl (c_a0, 5, .inl (fun _ => 0))), (q_a5, .inl (c_a0, 8, .inl (fun _ => 0))), (q_a6, .inl (c_a0, 8, .inl (fun _ => 0))), (q_a7, .inl (c_a7, 18, .inl (fun _ => 0))), (q_a8, .inl (c_a0, 5, .inl (fun _ => 0))), (q_a9, .inl (c_a0, 5, .inl (fun _ => 0))), (q_a10, .inl (c_a0, 50, .inl (fun _ => 0))), (q_a11, .inl (c_a0, 50, .inl (fun _ => 0)))] := hD
  refine lv_aload_n hx hb dX4_init_95 rfl (lv_at hl 0 rfl) ?_
  refine lv_iconst (v := 5) hx hb dX4_init_96 (by decide) ?_
  refine va_newa (a0 := (5, .inl (fun _ => 0))) (N' := 5) (ty := .int) hx hb ?_ rfl hK hP hD hS hA ?_ ?_ ?_ ?_ ?_ ?_ dX4_init_97 (fun q_a12 c_a12 H hK hP hD hS => ?_)
  · exact hts (.arrayClass .int) (by decide +kernel)
  · exact (fun _ => rfl)
  · decide
  · decide +kernel
  · decide +kernel
  · show 12 + 1 ≤ 15; decide
  · show 219 + 5 ≤ 240; decide
  obtain h9 : c_a0 = c_a12 := cI_eq hK 0 2 rfl rfl
  subst h9
  have hK := hK.sub (tys' := [(c_a0, .int), (c_a7, .byte)]) [0, 1] rfl
  have hP : va_P D vwCl [(h0, .inr (4, [.int 0, .int 0, .int 0, .ref q_a0, .ref q_a1, .int 0, .ref q_a2, .ref q_a3, .ref q_a4, .int 0, .ref q_a5, .ref q_a6, .int 0, .ref q_a7, .int 0, .int 0, .ref q_a8, .ref q_a9, .int 0, .long 0, .ref q_a10, .int 0, .int 0, .int 0, .int 0, .ref q_a11, .null, .null, .null, .long 0])), (q_a0, .inl (c_a0, 50, .inl (fun _ => 0))), (q_a1, .inl (c_a0, 10, .inl (fun _ => 0))), (q_a2, .inl (c_a0, 5, .inl (fun _ => 0))), (q_a3, .inl (c_a0, 5, .inl (fun _ => 0))), (q_a4, .inl (c_a0, 5, .inl (fun _ => 0))), (q_a5, .inl (c_a0, 8, .inl (fun _ => 0))), (q_a6, .inl (c_a0, 8, .inl (fun _ => 0))), (q_a7, .inl (c_a7, 18, .inl (fun _ => 0))), (q_a8, .inl (c_a0, 5, .inl (fun _ => 0))), (q_a9, .inl (c_a0, 5, .inl (fun _ => 0))), (q_a10, .inl (c_a0, 50, .inl (fun _ => 0))), (q_a11, .inl (c_a0, 50, .inl (fun _ => 0))), (q_a12, .inl (c_a0, 5, .inl (fun _ => 0)))] H := hP
  have hD : va_D A [(h0, .inr (4, [.int 0, .int 0, .int 0, .ref q_a0, .ref q_a1, .int 0, .ref q_a2, .ref q_a3, .ref q_a4, .int 0, .ref q_a5, .ref q_a6, .int 0, .ref q_a7, .int 0, .int 0, .ref q_a8, .ref q_a9, .int 0, .long 0, .ref q_a10, .int 0, .int 0, .int 0, .int 0, .ref q_a11, .null, .null, .null, .long 0])), (q_a0, .inl (c_a0, 50, .inl (fun _ => 0))), (q_a1, .inl (c_a0, 10, .inl (fun _ => 0))), (q_a2, .inl (c_a0, 5, .inl (fun _ => 0))), (q_a3, .inl (c_a0, 5, .inl (fun _ => 0))), (q_a4, .inl (c_a0, 5, .inl (fun _ => 0))), (q_a5, .inl (c_a0, 8, .inl (fun _ => 0))), (q_a6, .inl (c_a0, 8, .inl (fun _ => 0))), (q_a7, .inl (c_a7, 18, .inl (fun _ => 0))), (q_a8, .inl (c_a0, 5, .inl (fun _ => 0))), (q_a9, .inl (c_a0, 5, .inl (fun _ => 0))), (q_a10, .inl (c_a0, 50, .inl (fun _ => 0))), (q_a11, .inl (c_a0, 50, .inl (fun _ => 0))), (q_a12, .inl (c_a0, 5, .inl (fun _ => 0)))] := hD
  refine W.widen (k := 13) (n := 224) (by omega) (by omega) ?_
  refine va_putF (D := D) (cl := vwCl) (ci := 4) (v := .ref q_a12) (ty := (.array .int)) (C := RX4) (T := TX4) (N := 30) hx hb hts (by decide +kernel) tyX4 tyX4_ok nmX4 hown hK hP hD hS 0 rfl rfl 26 (by decide) (hts (.fieldLink RX4 47 "WineByYearsModel" "keptIll" "[I") (by decide +kernel)) (fun _ h9 => h9) rfl hin rfl (by decide +kernel) rfl rfl (Nat.le_of_ble_eq_true rfl) dX4_init_99 (fun H locs hP hD hS => ?_)
  have hP : va_P D vwCl [(h0, .inr (4, [.int 0, .int 0, .int 0, .ref q_a0, .ref q_a1, .int 0, .ref q_a2, .ref q_a3, .ref q_a4, .int 0, .ref q_a5, .ref q_a6, .int 0, .ref q_a7, .int 0, .int 0, .ref q_a8, .ref q_a9, .int 0, .long 0, .ref q_a10, .int 0, .int 0, .int 0, .int 0, .ref q_a11, .ref q_a12, .null, .null, .long 0])), (q_a0, .inl (c_a0, 50, .inl (fun _ => 0))), (q_a1, .inl (c_a0, 10, .inl (fun _ => 0))), (q_a2, .inl (c_a0, 5, .inl (fun _ => 0))), (q_a3, .inl (c_a0, 5, .inl (fun _ => 0))), (q_a4, .inl (c_a0, 5, .inl (fun _ => 0))), (q_a5, .inl (c_a0, 8, .inl (fun _ => 0))), (q_a6, .inl (c_a0, 8, .inl (fun _ => 0))), (q_a7, .inl (c_a7, 18, .inl (fun _ => 0))), (q_a8, .inl (c_a0, 5, .inl (fun _ => 0))), (q_a9, .inl (c_a0, 5, .inl (fun _ => 0))), (q_a10, .inl (c_a0, 50, .inl (fun _ => 0))), (q_a11, .inl (c_a0, 50, .inl (fun _ => 0))), (q_a12, .inl (c_a0, 5, .inl (fun _ => 0)))] H := hP
  have hD : va_D A [(h0, .inr (4, [.int 0, .int 0, .int 0, .ref q_a0, .ref q_a1, .int 0, .ref q_a2, .ref q_a3, .ref q_a4, .int 0, .ref q_a5, .ref q_a6, .int 0, .ref q_a7, .int 0, .int 0, .ref q_a8, .ref q_a9, .int 0, .long 0, .ref q_a10, .int 0, .int 0, .int 0, .int 0, .ref q_a11, .ref q_a12, .null, .null, .long 0])), (q_a0, .inl (c_a0, 50, .inl (fun _ => 0))), (q_a1, .inl (c_a0, 10, .inl (fun _ => 0))), (q_a2, .inl (c_a0, 5, .inl (fun _ => 0))), (q_a3, .inl (c_a0, 5, .inl (fun _ => 0))), (q_a4, .inl (c_a0, 5, .inl (fun _ => 0))), (q_a5, .inl (c_a0, 8, .inl (fun _ => 0))), (q_a6, .inl (c_a0, 8, .inl (fun _ => 0))), (q_a7, .inl (c_a7, 18, .inl (fun _ => 0))), (q_a8, .inl (c_a0, 5, .inl (fun _ => 0))), (q_a9, .inl (c_a0, 5, .inl (fun _ => 0))), (q_a10, .inl (c_a0, 50, .inl (fun _ => 0))), (q_a11, .inl (c_a0, 50, .inl (fun _ => 0))), (q_a12, .inl (c_a0, 5, .inl (fun _ => 0)))] := hD
  refine lv_aload_n hx hb dX4_init_102 rfl (lv_at hl 0 rfl) ?_
  refine lv_bipush (v := 8) hx hb dX4_init_103 (by decide) ?_
  refine va_newa (a0 := (8, .inl (fun _ => 0))) (N' := 8) (ty := .int) hx hb ?_ rfl hK hP hD hS hA ?_ ?_ ?_ ?_ ?_ ?_ dX4_init_105 (fun q_a13 c_a13 H hK hP hD hS => ?_)
  · exact hts (.arrayClass .int) (by decide +kernel)
  · exact (fun _ => rfl)
  · decide
  · decide +kernel
  · decide +kernel
  · show 13 + 1 ≤ 15; decide
  · show 224 + 8 ≤ 240; decide
  obtain h9 : c_a0 = c_a13 := cI_eq hK 0 2 rfl rfl
  subst h9
  have hK := hK.sub (tys' := [(c_a0, .int), (c_a7, .byte)]) [0, 1] rfl
  have hP : va_P D vwCl [(h0, .inr (4, [.int 0, .int 0, .int 0, .ref q_a0, .ref q_a1, .int 0, .ref q_a2, .ref q_a3, .ref q_a4, .int 0, .ref q_a5, .ref q_a6, .int 0, .ref q_a7, .int 0, .int 0, .ref q_a8, .ref q_a9, .int 0, .long 0, .ref q_a10, .int 0, .int 0, .int 0, .int 0, .ref q_a11, .ref q_a12, .null, .null, .long 0])), (q_a0, .inl (c_a0, 50, .inl (fun _ => 0))), (q_a1, .inl (c_a0, 10, .inl (fun _ => 0))), (q_a2, .inl (c_a0, 5, .inl (fun _ => 0))), (q_a3, .inl (c_a0, 5, .inl (fun _ => 0))), (q_a4, .inl (c_a0, 5, .inl (fun _ => 0))), (q_a5, .inl (c_a0, 8, .inl (fun _ => 0))), (q_a6, .inl (c_a0, 8, .inl (fun _ => 0))), (q_a7, .inl (c_a7, 18, .inl (fun _ => 0))), (q_a8, .inl (c_a0, 5, .inl (fun _ => 0))), (q_a9, .inl (c_a0, 5, .inl (fun _ => 0))), (q_a10, .inl (c_a0, 50, .inl (fun _ => 0))), (q_a11, .inl (c_a0, 50, .inl (fun _ => 0))), (q_a12, .inl (c_a0, 5, .inl (fun _ => 0))), (q_a13, .inl (c_a0, 8, .inl (fun _ => 0)))] H := hP
  have hD : va_D A [(h0, .inr (4, [.int 0, .int 0, .int 0, .ref q_a0, .ref q_a1, .int 0, .ref q_a2, .ref q_a3, .ref q_a4, .int 0, .ref q_a5, .ref q_a6, .int 0, .ref q_a7, .int 0, .int 0, .ref q_a8, .ref q_a9, .int 0, .long 0, .ref q_a10, .int 0, .int 0, .int 0, .int 0, .ref q_a11, .ref q_a12, .null, .null, .long 0])), (q_a0, .inl (c_a0, 50, .inl (fun _ => 0))), (q_a1, .inl (c_a0, 10, .inl (fun _ => 0))), (q_a2, .inl (c_a0, 5, .inl (fun _ => 0))), (q_a3, .inl (c_a0, 5, .inl (fun _ => 0))), (q_a4, .inl (c_a0, 5, .inl (fun _ => 0))), (q_a5, .inl (c_a0, 8, .inl (fun _ => 0))), (q_a6, .inl (c_a0, 8, .inl (fun _ => 0))), (q_a7, .inl (c_a7, 18, .inl (fun _ => 0))), (q_a8, .inl (c_a0, 5, .inl (fun _ => 0))), (q_a9, .inl (c_a0, 5, .inl (fun _ => 0))), (q_a10, .inl (c_a0, 50, .inl (fun _ => 0))), (q_a11, .inl (c_a0, 50, .inl (fun _ => 0))), (q_a12, .inl (c_a0, 5, .inl (fun _ => 0))), (q_a13, .inl (c_a0, 8, .inl (fun _ => 0)))] := hD
  refine W.widen (k := 14) (n := 232) (by omega) (by omega) ?_
  refine va_putF (D := D) (cl := vwCl) (ci := 4) (v := .ref q_a13) (ty := (.array .int)) (C := RX4) (T := TX4) (N := 30) hx hb hts (by decide +kernel) tyX4 tyX4_ok nmX4 hown hK hP hD hS 0 rfl rfl 27 (by decide) (hts (.fieldLink RX4 50 "WineByYearsModel" "keptCask" "[I") (by decide +kernel)) (fun _ h9 => h9) rfl hin rfl (by decide +kernel) rfl rfl (Nat.le_of_ble_eq_true rfl) dX4_init_107 (fun H locs hP hD hS => ?_)
  have hP : va_P D vwCl [(h0, .inr (4, [.int 0, .int 0, .int 0, .ref q_a0, .ref q_a1, .int 0, .ref q_a2, .ref q_a3, .ref q_a4, .int 0, .ref q_a5, .ref q_a6, .int 0, .ref q_a7, .int 0, .int 0, .ref q_a8, .ref q_a9, .int 0, .long 0, .ref q_a10, .int 0, .int 0, .int 0, .int 0, .ref q_a11, .ref q_a12, .ref q_a13, .null, .long 0])), (q_a0, .inl (c_a0, 50, .inl (fun _ => 0))), (q_a1, .inl (c_a0, 10, .inl (fun _ => 0))), (q_a2, .inl (c_a0, 5, .inl (fun _ => 0))), (q_a3, .inl (c_a0, 5, .inl (fun _ => 0))), (q_a4, .inl (c_a0, 5, .inl (fun _ => 0))), (q_a5, .inl (c_a0, 8, .inl (fun _ => 0))), (q_a6, .inl (c_a0, 8, .inl (fun _ => 0))), (q_a7, .inl (c_a7, 18, .inl (fun _ => 0))), (q_a8, .inl (c_a0, 5, .inl (fun _ => 0))), (q_a9, .inl (c_a0, 5, .inl (fun _ => 0))), (q_a10, .inl (c_a0, 50, .inl (fun _ => 0))), (q_a11, .inl (c_a0, 50, .inl (fun _ => 0))), (q_a12, .inl (c_a0, 5, .inl (fun _ => 0))), (q_a13, .inl (c_a0, 8, .inl (fun _ => 0)))] H := hP
  have hD : va_D A [(h0, .inr (4, [.int 0, .int 0, .int 0, .ref q_a0, .ref q_a1, .int 0, .ref q_a2, .ref q_a3, .ref q_a4, .int 0, .ref q_a5, .ref q_a6, .int 0, .ref q_a7, .int 0, .int 0, .ref q_a8, .ref q_a9, .int 0, .long 0, .ref q_a10, .int 0, .int 0, .int 0, .int 0, .ref q_a11, .ref q_a12, .ref q_a13, .null, .long 0])), (q_a0, .inl (c_a0, 50, .inl (fun _ => 0))), (q_a1, .inl (c_a0, 10, .inl (fun _ => 0))), (q_a2, .inl (c_a0, 5, .inl (fun _ => 0))), (q_a3, .inl (c_a0, 5, .inl (fun _ => 0))), (q_a4, .inl (c_a0, 5, .inl (fun _ => 0))), (q_a5, .inl (c_a0, 8, .inl (fun _ => 0))), (q_a6, .inl (c_a0, 8, .inl (fun _ => 0))), (q_a7, .inl (c_a7, 18, .inl (fun _ => 0))), (q_a8, .inl (c_a0, 5, .inl (fun _ => 0))), (q_a9, .inl (c_a0, 5, .inl (fun _ => 0))), (q_a10, .inl (c_a0, 50, .inl (fun _ => 0))), (q_a11, .inl (c_a0, 50, .inl (fun _ => 0))), (q_a12, .inl (c_a0, 5, .inl (fun _ => 0))), (q_a13, .inl (c_a0, 8, .inl (fun _ => 0)))] := hD
  refine lv_aload_n hx hb dX4_init_110 rfl (lv_at hl 0 rfl) ?_
  refine lv_bipush (v := 8) hx hb dX4_init_111 (by decide) ?_
  refine va_newa (a0 := (8, .inl (fun _ => 0))) (N' := 8) (ty := .int) hx hb ?_ rfl hK hP hD hS hA ?_ ?_ ?_ ?_ ?_ ?_ dX4_init_113 (fun q_a14 c_a14 H hK hP hD hS => ?_)
  · exact hts (.arrayClass .int) (by decide +kernel)
  · exact (fun _ => rfl)
  · decide
  · decide +kernel
  · decide +kernel
  · show 14 + 1 ≤ 15; decide
  · show 232 + 8 ≤ 240; decide
  obtain h9 : c_a0 = c_a14 := cI_eq hK 0 2 rfl rfl
  subst h9
  have hK := hK.sub (tys' := [(c_a0, .int), (c_a7, .byte)]) [0, 1] rfl
  have hP : va_P D vwCl [(h0, .inr (4, [.int 0, .int 0, .int 0, .ref q_a0, .ref q_a1, .int 0, .ref q_a2, .ref q_a3, .ref q_a4, .int 0, .ref q_a5, .ref q_a6, .int 0, .ref q_a7, .int 0, .int 0, .ref q_a8, .ref q_a9, .int 0, .long 0, .ref q_a10, .int 0, .int 0, .int 0, .int 0, .ref q_a11, .ref q_a12, .ref q_a13, .null, .long 0])), (q_a0, .inl (c_a0, 50, .inl (fun _ => 0))), (q_a1, .inl (c_a0, 10, .inl (fun _ => 0))), (q_a2, .inl (c_a0, 5, .inl (fun _ => 0))), (q_a3, .inl (c_a0, 5, .inl (fun _ => 0))), (q_a4, .inl (c_a0, 5, .inl (fun _ => 0))), (q_a5, .inl (c_a0, 8, .inl (fun _ => 0))), (q_a6, .inl (c_a0, 8, .inl (fun _ => 0))), (q_a7, .inl (c_a7, 18, .inl (fun _ => 0))), (q_a8, .inl (c_a0, 5, .inl (fun _ => 0))), (q_a9, .inl (c_a0, 5, .inl (fun _ => 0))), (q_a10, .inl (c_a0, 50, .inl (fun _ => 0))), (q_a11, .inl (c_a0, 50, .inl (fun _ => 0))), (q_a12, .inl (c_a0, 5, .inl (fun _ => 0))), (q_a13, .inl (c_a0, 8, .inl (fun _ => 0))), (q_a14, .inl (c_a0, 8, .inl (fun _ => 0)))] H := hP
  have hD : va_D A [(h0, .inr (4, [.int 0, .int 0, .int 0, .ref q_a0, .ref q_a1, .int 0, .ref q_a2, .ref q_a3, .ref q_a4, .int 0, .ref q_a5, .ref q_a6, .int 0, .ref q_a7, .int 0, .int 0, .ref q_a8, .ref q_a9, .int 0, .long 0, .ref q_a10, .int 0, .int 0, .int 0, .int 0, .ref q_a11, .ref q_a12, .ref q_a13, .null, .long 0])), (q_a0, .inl (c_a0, 50, .inl (fun _ => 0))), (q_a1, .inl (c_a0, 10, .inl (fun _ => 0))), (q_a2, .inl (c_a0, 5, .inl (fun _ => 0))), (q_a3, .inl (c_a0, 5, .inl (fun _ => 0))), (q_a4, .inl (c_a0, 5, .inl (fun _ => 0))), (q_a5, .inl (c_a0, 8, .inl (fun _ => 0))), (q_a6, .inl (c_a0, 8, .inl (fun _ => 0))), (q_a7, .inl (c_a7, 18, .inl (fun _ => 0))), (q_a8, .inl (c_a0, 5, .inl (fun _ => 0))), (q_a9, .inl (c_a0, 5, .inl (fun _ => 0))), (q_a10, .inl (c_a0, 50, .inl (fun _ => 0))), (q_a11, .inl (c_a0, 50, .inl (fun _ => 0))), (q_a12, .inl (c_a0, 5, .inl (fun _ => 0))), (q_a13, .inl (c_a0, 8, .inl (fun _ => 0))), (q_a14, .inl (c_a0, 8, .inl (fun _ => 0)))] := hD
  refine W.widen (k := 15) (n := 240) (by omega) (by omega) ?_
  refine va_putF (D := D) (cl := vwCl) (ci := 4) (v := .ref q_a14) (ty := (.array .int)) (C := RX4) (T := TX4) (N := 30) hx hb hts (by decide +kernel) tyX4 tyX4_ok nmX4 hown hK hP hD hS 0 rfl rfl 28 (by decide) (hts (.fieldLink RX4 53 "WineByYearsModel" "keptTrialIll" "[I") (by decide +kernel)) (fun _ h9 => h9) rfl hin rfl (by decide +kernel) rfl rfl (Nat.le_of_ble_eq_true rfl) dX4_init_115 (fun H locs hP hD hS => ?_)
  have hP : va_P D vwCl [(h0, .inr (4, [.int 0, .int 0, .int 0, .ref q_a0, .ref q_a1, .int 0, .ref q_a2, .ref q_a3, .ref q_a4, .int 0, .ref q_a5, .ref q_a6, .int 0, .ref q_a7, .int 0, .int 0, .ref q_a8, .ref q_a9, .int 0, .long 0, .ref q_a10, .int 0, .int 0, .int 0, .int 0, .ref q_a11, .ref q_a12, .ref q_a13, .ref q_a14, .long 0])), (q_a0, .inl (c_a0, 50, .inl (fun _ => 0))), (q_a1, .inl (c_a0, 10, .inl (fun _ => 0))), (q_a2, .inl (c_a0, 5, .inl (fun _ => 0))), (q_a3, .inl (c_a0, 5, .inl (fun _ => 0))), (q_a4, .inl (c_a0, 5, .inl (fun _ => 0))), (q_a5, .inl (c_a0, 8, .inl (fun _ => 0))), (q_a6, .inl (c_a0, 8, .inl (fun _ => 0))), (q_a7, .inl (c_a7, 18, .inl (fun _ => 0))), (q_a8, .inl (c_a0, 5, .inl (fun _ => 0))), (q_a9, .inl (c_a0, 5, .inl (fun _ => 0))), (q_a10, .inl (c_a0, 50, .inl (fun _ => 0))), (q_a11, .inl (c_a0, 50, .inl (fun _ => 0))), (q_a12, .inl (c_a0, 5, .inl (fun _ => 0))), (q_a13, .inl (c_a0, 8, .inl (fun _ => 0))), (q_a14, .inl (c_a0, 8, .inl (fun _ => 0)))] H := hP
  have hD : va_D A [(h0, .inr (4, [.int 0, .int 0, .int 0, .ref q_a0, .ref q_a1, .int 0, .ref q_a2, .ref q_a3, .ref q_a4, .int 0, .ref q_a5, .ref q_a6, .int 0, .ref q_a7, .int 0, .int 0, .ref q_a8, .ref q_a9, .int 0, .long 0, .ref q_a10, .int 0, .int 0, .int 0, .int 0, .ref q_a11, .ref q_a12, .ref q_a13, .ref q_a14, .long 0])), (q_a0, .inl (c_a0, 50, .inl (fun _ => 0))), (q_a1, .inl (c_a0, 10, .inl (fun _ => 0))), (q_a2, .inl (c_a0, 5, .inl (fun _ => 0))), (q_a3, .inl (c_a0, 5, .inl (fun _ => 0))), (q_a4, .inl (c_a0, 5, .inl (fun _ => 0))), (q_a5, .inl (c_a0, 8, .inl (fun _ => 0))), (q_a6, .inl (c_a0, 8, .inl (fun _ => 0))), (q_a7, .inl (c_a7, 18, .inl (fun _ => 0))), (q_a8, .inl (c_a0, 5, .inl (fun _ => 0))), (q_a9, .inl (c_a0, 5, .inl (fun _ => 0))), (q_a10, .inl (c_a0, 50, .inl (fun _ => 0))), (q_a11, .inl (c_a0, 50, .inl (fun _ => 0))), (q_a12, .inl (c_a0, 5, .inl (fun _ => 0))), (q_a13, .inl (c_a0, 8, .inl (fun _ => 0))), (q_a14, .inl (c_a0, 8, .inl (fun _ => 0)))] := hD
  refine W.widen (k := 15) (n := 240) (by omega) (by omega) ?_
  exact W.vret hx hb hr (fun t ht hW => ⟨⟨(), rfl, trivial, q_a0, q_a1, q_a2, q_a3, q_a4, q_a5, q_a6, q_a7, q_a8, q_a9, q_a10, q_a11, q_a12, q_a13, q_a14, c_a0, c_a7, by rw [ht]; exact hP, va_K.moved hW.alike hK, hD⟩, hS.F ht⟩) hS.2.2 dX4_init_118
