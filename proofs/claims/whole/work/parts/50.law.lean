/-! ===== the law ===== -/
def R_law : String := "WineByYearsLaw"
def lw_P (b : Addr) (xs : List Int32) (args : Array Value) (s : State) : Prop := args = #[.ref b] ∧ s.IntsAt b xs ∧ xs.length ≤ 256 ∧ (Jvm.Cond.and given_1 narrow_1).before args s = true
def lw_Q (_ : Array Value) (s : State) (o : Outcome) (t : State) : Prop := o = .returned (some (.int 1)) ∧ Framed s o t [] 600000 7302250
def lw_Z (below : List Frame) (a : Array Value) (s : State) : State → Prop := fun t => ∃ o, t.status = .running ∧ Ended t below o ∧ lw_Q a s o t
/-- the law's own end, with 1 on the stack, nothing written that was there before, its room as the claim has it -/
theorem lw_ret {p : Program} {l : Launch} {e : Env} {s : State} {m : MethodId} {below : List Frame} {meth : Method} {c : Code} {b : Nat} (hx : p.tables.exec = Jvm.exec) (hb : c.code = code) (hr : meth.sig.returnType = ret) (hlocks : meth.locks = false) {pc : Nat} {H : Heap} {ls : Array Slot} (hdg : decode code pc = .ok (.ireturn, 1)) : W p l e room_1 s m #[Value.ref b] below meth c H [] 600000 7302250 (lw_Z below #[Value.ref b] s) (F0 m pc ls [.int 1]) := by
  intro T hT X
  obtain ⟨fs, hret, hrun, hended, hW, hframe⟩ := X.leave (v := some (.int 1)) (hlocks := hlocks) (fun h => by rw [hr] at h; cases h)
  have hmeth' : T.vm.method? m = some meth := X.method'
  refine ⟨T.setFrames fs, ?_, .returned (some (.int 1)), hrun, hended, rfl, ⟨_, rfl⟩, hW, hframe⟩
  jvm_step X.here [X.here.top, hx, hb, hdg, hmeth', hr, ret, narrow_b1]
  (try refine ⟨rfl, ?_⟩); (try refine ⟨rfl, ?_⟩)
  first | (intro acts; rw [hret _ acts rfl rfl rfl]) | rw [hret _ _ rfl rfl rfl]
  exact Steps.refl _
/-- what holds at the law's entry: the machine, the code, the tables' words (any of lw_tbl by 'hts w (by decide +kernel)'), the script of L ints xs at the cell b, what the Statement gives of the start (any of its parts by flat_of_before) -/
def lw_At (p : Program) (s : State) (m : MethodId) (meth : Method) (c : Code) (b L : Nat) (xs : Nat → Int32) : Prop :=
  p.tables.exec = Jvm.exec ∧ c.code = code ∧ meth.sig.returnType = ret ∧ c.maxLocals = 4 ∧ s.vm.findClass R_law = some m.cls ∧ (∀ w ∈ lw_tbl, w.before #[Value.ref b] s = true) ∧ va_X b L xs s s.heap ∧ b < s.heap.size ∧ meth.locks = false ∧ (Jvm.Cond.and given_1 narrow_1).before #[Value.ref b] s = true

theorem lz_cmp {p : Program} {l : Launch} {e : Env} {R : Room} {s : State} {m : MethodId} {args : Array Value} {below : List Frame} {meth : Method} {c : Code} {cc : ByteArray} {H : Heap} {locs : List Loc} {cells slots pc : Nat} {ls : Array Slot} {rest : List Value} {Q : State → Prop} (hexec : p.tables.exec = Jvm.exec) (hb : c.code = cc) {x : Int64} (hdg : decode cc pc = .ok (.lcmp, 1))
    (k : W p l e R s m args below meth c H locs cells slots Q (F0 m (pc + 1) ls (.int 0 :: rest))) : W p l e R s m args below meth c H locs cells slots Q (F0 m pc ls (.long x :: .long x :: rest)) := by
  intro T hT X
  obtain ⟨t, a, b⟩ := k T hT X
  refine ⟨t, ?_, b⟩
  jvm_step X.here [X.here.top, hexec, hb, hdg]
  have hx : ¬ x < x := Int64.lt_irrefl
  first | exact a | (simp only [if_neg hx, beq_self_eq_true, if_true]; exact a) | (simp; exact a)
theorem ex_c : ∀ L, L < 257 → ∀ j, j < 65 → (Int32.ofNat L - 4 < nI (4 * j) ↔ L < 4 * j + 4) := by
  intro L hL j hj
  rcases Nat.lt_or_ge L 4 with q | q
  · refine ⟨fun _ => by omega, fun _ => ?_⟩
    have h0 : Int32.ofNat L - 4 < 0 := (by decide +kernel : ∀ L : Fin 4, Int32.ofNat L.val - 4 < 0) ⟨L, q⟩
    have h1 : (0 : Int32) ≤ nI (4 * j) := nI_le (a := 0) (by omega) (by omega)
    rw [Int32.lt_iff_toInt_lt] at h0 ⊢
    rw [Int32.le_iff_toInt_le] at h1
    omega
  · rw [show Int32.ofNat L - 4 = nI (L - 4) from pk_sub (a := L) (b := 4) q, nI_ltI (by omega) (by omega)]
    omega
theorem Rel.up {A B : Me} {N : Nat} (h : Rel A B N) : Rel A B (N + 1) := by
  obtain ⟨c, len, pg, tr, h, hN⟩ := h
  exact ⟨c, len, pg, tr, h, by omega⟩
set_option maxHeartbeats 4000000 in
set_option maxRecDepth 100000 in
theorem law_loop {p : Program} {l : Launch} {e : Env} {s : State} {m : MethodId} {below : List Frame} {meth : Method} {c : Code} {Γ : Gm} {b L : Nat} {xs : Nat → Int32} (hL : L ≤ 256) (C : Cx Γ p s m #[Value.ref b] meth c cL_law 4 ret RL wsL_law) (hX : va_X b L xs s s.heap) (hbl : b < s.heap.size) (hg : ∀ q, rg Γ q → s.heap.size ≤ q) :
    ∀ (n j : Nat) (A B : Me) (H : Heap) (locs : List Loc) (ls : Array Slot), 65 ≤ n + j → j ≤ 64 → Rel A B j → Wd Γ A B s.heap H locs → lv_has ls 4 [(3, .int (nI (4 * j))), (2, .ref (Γ.2.2 58)), (1, .ref (Γ.2.2 0)), (0, .ref b)] → W p l e room_1 s m #[Value.ref b] below meth c H locs 74 634 (lw_Z below #[Value.ref b] s) (F0 m 18 ls []) := by
  have hbA : ¬ rg Γ b := fun q => absurd (hg b q) (Nat.not_le.mpr hbl)
  intro n
  induction n with
  | zero => intro j A B H locs ls h1 h2; omega
  | succ n ih =>
    intro j A B H locs ls hn hj hR hW hl
    have next : ∀ (A' B' : Me) (H : Heap) (locs : List Loc), 4 * j + 4 ≤ L → Rel A' B' (j + 1) → Wd Γ A' B' s.heap H locs → W p l e room_1 s m #[Value.ref b] below meth c H locs 74 634 (lw_Z below #[Value.ref b] s) (F0 m 776 ls []) := fun A' B' H locs hlt hR hW => by
      refine lv_iinc (v := nI (4 * (j + 1))) (lv' := [(3, .int (nI (4 * (j + 1)))), (2, .ref (Γ.2.2 58)), (1, .ref (Γ.2.2 0)), (0, .ref b)]) C.1 C.2.1 dL_law_776 hl (k := 0) rfl (nI_add (4 * j) 4) (by decide) rfl (fun ls hl => ?_)
      refine lv_goto (tgt := 18) C.1 C.2.1 dL_law_779 (by decide) ?_
      exact ih (j + 1) A' B' H locs ls (by omega) (by omega) hR hW hl
    refine lv_iload_n C.1 C.2.1 dL_law_18 rfl (lv_at hl 0 rfl) ?_
    refine lv_aload_n C.1 C.2.1 dL_law_19 rfl (lv_at hl 3 rfl) ?_
    refine va_slen C.1 C.2.1 hX hbl hbA hW.2 dL_law_20 ?_
    refine lv_iconst (v := 4) C.1 C.2.1 dL_law_21 (by decide) ?_
    refine lv_isub C.1 C.2.1 dL_law_22 ?_
    refine lv_icmp_gt (tgt := 782) C.1 C.2.1 dL_law_23 (by decide) (fun c_23 => ?_) (fun c_23 => ?_)
    · refine lv_iconst (v := 1) C.1 C.2.1 dL_law_782 (by decide) ?_
      refine va_forget (fun q hq => hg _ (hW.2.2.2 q hq)) ?_
      refine W.widen (k := 600000) (n := 7302250) (by decide) (by decide) ?_
      exact lw_ret C.1 C.2.1 C.2.2.1 C.2.2.2.2.2.2.1 dL_law_783
    have hlt : 4 * j + 4 ≤ L := by
      rcases Nat.lt_or_ge L (4 * j + 4) with q | q
      · exact absurd ((ex_c L (by omega) j (by omega)).mpr q) c_23
      · exact q
    have k0 : vp_in (nI (4 * j)) L := vp_in_nI (by omega) (by omega)
    have k1 : vp_in (nI (4 * j) + 1) L := by rw [show nI (4 * j) + (1 : Int32) = nI (4 * j + 1) from nI_add _ 1]; exact vp_in_nI (by omega) (by omega)
    have k2 : vp_in (nI (4 * j) + 2) L := by rw [show nI (4 * j) + (2 : Int32) = nI (4 * j + 2) from nI_add _ 2]; exact vp_in_nI (by omega) (by omega)
    have k3 : vp_in (nI (4 * j) + 3) L := by rw [show nI (4 * j) + (3 : Int32) = nI (4 * j + 3) from nI_add _ 3]; exact vp_in_nI (by omega) (by omega)
    refine lv_aload_n C.1 C.2.1 dL_law_26 rfl (lv_at hl 3 rfl) ?_
    refine lv_iload_n C.1 C.2.1 dL_law_27 rfl (lv_at hl 0 rfl) ?_
    refine va_sld C.1 C.2.1 hX hbl hbA hW.2 k0 dL_law_28 ?_
    refine lv_bipush (v := 31) C.1 C.2.1 dL_law_29 (by decide) ?_
    refine lv_iand C.1 C.2.1 dL_law_31 ?_
    generalize (xs (nI (4 * j)).toNatClampNeg &&& 31) = x
    by_cases e_0 : x = 0
    · refine lv_tableIn (off := 108) (tgt := 140) C.1 C.2.1 dL_law_32 (by rw [e_0]; decide) (by rw [e_0]; decide) (by rw [e_0]; decide) (by decide) ?_
      obtain ⟨r, A1, B1, f1, f2, hR1⟩ := st_letter hR (xs (nI (4 * j) + 1).toNatClampNeg)
      refine lv_aload_n C.1 C.2.1 dL_law_140 rfl (lv_at hl 2 rfl) ?_
      refine lv_aload_n C.1 C.2.1 dL_law_141 rfl (lv_at hl 3 rfl) ?_
      refine lv_iload_n C.1 C.2.1 dL_law_142 rfl (lv_at hl 0 rfl) ?_
      refine lv_iconst (v := 1) C.1 C.2.1 dL_law_143 (by decide) ?_
      refine lv_iadd C.1 C.2.1 dL_law_144 ?_
      refine va_sld C.1 C.2.1 hX hbl hbA hW.2 k1 dL_law_145 ?_
      refine cVi C hW (As := [.int (xs (nI (4 * j) + 1).toNatClampNeg)]) (rest := []) (mt_X3_letter f1) (cwV 1 C.2.2.2.2.2.1 gL_law_X3_letter rfl rfl rfl (by decide +kernel) ⟨Nat.le_of_ble_eq_true rfl, Nat.le_of_ble_eq_true rfl⟩) (rcv3 C hW (rfl : kd 0 = 3)) rfl hl.1 rfl (Nat.le_of_ble_eq_true rfl) dL_law_146 (by decide) (by decide) (fun H locs hW => ?_)
      refine lv_aload_n C.1 C.2.1 dL_law_149 rfl (lv_at hl 1 rfl) ?_
      refine lv_aload_n C.1 C.2.1 dL_law_150 rfl (lv_at hl 3 rfl) ?_
      refine lv_iload_n C.1 C.2.1 dL_law_151 rfl (lv_at hl 0 rfl) ?_
      refine lv_iconst (v := 1) C.1 C.2.1 dL_law_152 (by decide) ?_
      refine lv_iadd C.1 C.2.1 dL_law_153 ?_
      refine va_sld C.1 C.2.1 hX hbl hbA hW.2 k1 dL_law_154 ?_
      refine cVi C hW (As := [.int (xs (nI (4 * j) + 1).toNatClampNeg)]) (rest := [.int r]) (mt_X4_letter f2) (cwV 1 C.2.2.2.2.2.1 gL_law_X4_letter rfl rfl rfl (by decide +kernel) ⟨Nat.le_of_ble_eq_true rfl, Nat.le_of_ble_eq_true rfl⟩) (rcv4 C hW (rfl : kd 58 = 4)) rfl hl.1 rfl (Nat.le_of_ble_eq_true rfl) dL_law_155 (by decide) (by decide) (fun H locs hW => ?_)
      refine lv_icmp_eq (tgt := 776) C.1 C.2.1 dL_law_158 (by decide) (fun _ => ?_) (fun q => absurd rfl q)
      exact next A1 B1 H locs hlt hR1 hW
    by_cases e_1 : x = 1
    · refine lv_tableIn (off := 131) (tgt := 163) C.1 C.2.1 dL_law_32 (by rw [e_1]; decide) (by rw [e_1]; decide) (by rw [e_1]; decide) (by decide) ?_
      obtain ⟨r, A1, B1, f1, f2, hR1⟩ := st_blank hR
      refine lv_aload_n C.1 C.2.1 dL_law_163 rfl (lv_at hl 2 rfl) ?_
      refine cVi C hW (As := []) (rest := []) (mt_X3_blank f1) (cwV 0 C.2.2.2.2.2.1 gL_law_X3_blank rfl rfl rfl (by decide +kernel) ⟨Nat.le_of_ble_eq_true rfl, Nat.le_of_ble_eq_true rfl⟩) (rcv3 C hW (rfl : kd 0 = 3)) rfl hl.1 rfl (Nat.le_of_ble_eq_true rfl) dL_law_164 (by decide) (by decide) (fun H locs hW => ?_)
      refine lv_aload_n C.1 C.2.1 dL_law_167 rfl (lv_at hl 1 rfl) ?_
      refine cVi C hW (As := []) (rest := [.int r]) (mt_X4_blank f2) (cwV 0 C.2.2.2.2.2.1 gL_law_X4_blank rfl rfl rfl (by decide +kernel) ⟨Nat.le_of_ble_eq_true rfl, Nat.le_of_ble_eq_true rfl⟩) (rcv4 C hW (rfl : kd 58 = 4)) rfl hl.1 rfl (Nat.le_of_ble_eq_true rfl) dL_law_168 (by decide) (by decide) (fun H locs hW => ?_)
      refine lv_icmp_eq (tgt := 776) C.1 C.2.1 dL_law_171 (by decide) (fun _ => ?_) (fun q => absurd rfl q)
      exact next A1 B1 H locs hlt hR1 hW
    by_cases e_2 : x = 2
    · refine lv_tableIn (off := 144) (tgt := 176) C.1 C.2.1 dL_law_32 (by rw [e_2]; decide) (by rw [e_2]; decide) (by rw [e_2]; decide) (by decide) ?_
      obtain ⟨r, B1, f1, f2, hR1⟩ := st_fault hR
      refine lv_aload_n C.1 C.2.1 dL_law_176 rfl (lv_at hl 2 rfl) ?_
      refine cVi C hW (As := []) (rest := []) (mt_X3_fault f1) (cwV 0 C.2.2.2.2.2.1 gL_law_X3_fault rfl rfl rfl (by decide +kernel) ⟨Nat.le_of_ble_eq_true rfl, Nat.le_of_ble_eq_true rfl⟩) (rcv3 C hW (rfl : kd 0 = 3)) rfl hl.1 rfl (Nat.le_of_ble_eq_true rfl) dL_law_177 (by decide) (by decide) (fun H locs hW => ?_)
      refine lv_aload_n C.1 C.2.1 dL_law_180 rfl (lv_at hl 1 rfl) ?_
      refine cVi C hW (As := []) (rest := [.int r]) (mt_X4_fault f2) (cwV 0 C.2.2.2.2.2.1 gL_law_X4_fault rfl rfl rfl (by decide +kernel) ⟨Nat.le_of_ble_eq_true rfl, Nat.le_of_ble_eq_true rfl⟩) (rcv4 C hW (rfl : kd 58 = 4)) rfl hl.1 rfl (Nat.le_of_ble_eq_true rfl) dL_law_181 (by decide) (by decide) (fun H locs hW => ?_)
      refine lv_icmp_eq (tgt := 776) C.1 C.2.1 dL_law_184 (by decide) (fun _ => ?_) (fun q => absurd rfl q)
      exact next A B1 H locs hlt hR1 hW
    by_cases e_3 : x = 3
    · refine lv_tableIn (off := 157) (tgt := 189) C.1 C.2.1 dL_law_32 (by rw [e_3]; decide) (by rw [e_3]; decide) (by rw [e_3]; decide) (by decide) ?_
      obtain ⟨r, A1, B1, f1, f2, hR1⟩ := st_cellar hR
      refine lv_aload_n C.1 C.2.1 dL_law_189 rfl (lv_at hl 2 rfl) ?_
      refine cVi C hW (As := []) (rest := []) (mt_X3_cellar f1) (cwV 0 C.2.2.2.2.2.1 gL_law_X3_cellar rfl rfl rfl (by decide +kernel) ⟨Nat.le_of_ble_eq_true rfl, Nat.le_of_ble_eq_true rfl⟩) (rcv3 C hW (rfl : kd 0 = 3)) rfl hl.1 rfl (Nat.le_of_ble_eq_true rfl) dL_law_190 (by decide) (by decide) (fun H locs hW => ?_)
      refine lv_aload_n C.1 C.2.1 dL_law_193 rfl (lv_at hl 1 rfl) ?_
      refine cVi C hW (As := []) (rest := [.int r]) (mt_X4_cellar f2) (cwV 0 C.2.2.2.2.2.1 gL_law_X4_cellar rfl rfl rfl (by decide +kernel) ⟨Nat.le_of_ble_eq_true rfl, Nat.le_of_ble_eq_true rfl⟩) (rcv4 C hW (rfl : kd 58 = 4)) rfl hl.1 rfl (Nat.le_of_ble_eq_true rfl) dL_law_194 (by decide) (by decide) (fun H locs hW => ?_)
      refine lv_icmp_eq (tgt := 776) C.1 C.2.1 dL_law_197 (by decide) (fun _ => ?_) (fun q => absurd rfl q)
      exact next A1 B1 H locs hlt hR1 hW
    by_cases e_4 : x = 4
    · refine lv_tableIn (off := 170) (tgt := 202) C.1 C.2.1 dL_law_32 (by rw [e_4]; decide) (by rw [e_4]; decide) (by rw [e_4]; decide) (by decide) ?_
      obtain ⟨r, B1, f1, f2, hR1⟩ := st_cask hR (xs (nI (4 * j) + 1).toNatClampNeg) (xs (nI (4 * j) + 2).toNatClampNeg)
      refine lv_aload_n C.1 C.2.1 dL_law_202 rfl (lv_at hl 2 rfl) ?_
      refine lv_aload_n C.1 C.2.1 dL_law_203 rfl (lv_at hl 3 rfl) ?_
      refine lv_iload_n C.1 C.2.1 dL_law_204 rfl (lv_at hl 0 rfl) ?_
      refine lv_iconst (v := 1) C.1 C.2.1 dL_law_205 (by decide) ?_
      refine lv_iadd C.1 C.2.1 dL_law_206 ?_
      refine va_sld C.1 C.2.1 hX hbl hbA hW.2 k1 dL_law_207 ?_
      refine lv_aload_n C.1 C.2.1 dL_law_208 rfl (lv_at hl 3 rfl) ?_
      refine lv_iload_n C.1 C.2.1 dL_law_209 rfl (lv_at hl 0 rfl) ?_
      refine lv_iconst (v := 2) C.1 C.2.1 dL_law_210 (by decide) ?_
      refine lv_iadd C.1 C.2.1 dL_law_211 ?_
      refine va_sld C.1 C.2.1 hX hbl hbA hW.2 k2 dL_law_212 ?_
      refine cVi C hW (As := [.int (xs (nI (4 * j) + 1).toNatClampNeg), .int (xs (nI (4 * j) + 2).toNatClampNeg)]) (rest := []) (mt_X3_cask f1) (cwV 2 C.2.2.2.2.2.1 gL_law_X3_cask rfl rfl rfl (by decide +kernel) ⟨Nat.le_of_ble_eq_true rfl, Nat.le_of_ble_eq_true rfl⟩) (rcv3 C hW (rfl : kd 0 = 3)) rfl hl.1 rfl (Nat.le_of_ble_eq_true rfl) dL_law_213 (by decide) (by decide) (fun H locs hW => ?_)
      refine lv_aload_n C.1 C.2.1 dL_law_216 rfl (lv_at hl 1 rfl) ?_
      refine lv_aload_n C.1 C.2.1 dL_law_217 rfl (lv_at hl 3 rfl) ?_
      refine lv_iload_n C.1 C.2.1 dL_law_218 rfl (lv_at hl 0 rfl) ?_
      refine lv_iconst (v := 1) C.1 C.2.1 dL_law_219 (by decide) ?_
      refine lv_iadd C.1 C.2.1 dL_law_220 ?_
      refine va_sld C.1 C.2.1 hX hbl hbA hW.2 k1 dL_law_221 ?_
      refine lv_aload_n C.1 C.2.1 dL_law_222 rfl (lv_at hl 3 rfl) ?_
      refine lv_iload_n C.1 C.2.1 dL_law_223 rfl (lv_at hl 0 rfl) ?_
      refine lv_iconst (v := 2) C.1 C.2.1 dL_law_224 (by decide) ?_
      refine lv_iadd C.1 C.2.1 dL_law_225 ?_
      refine va_sld C.1 C.2.1 hX hbl hbA hW.2 k2 dL_law_226 ?_
      refine cVi C hW (As := [.int (xs (nI (4 * j) + 1).toNatClampNeg), .int (xs (nI (4 * j) + 2).toNatClampNeg)]) (rest := [.int r]) (mt_X4_cask f2) (cwV 2 C.2.2.2.2.2.1 gL_law_X4_cask rfl rfl rfl (by decide +kernel) ⟨Nat.le_of_ble_eq_true rfl, Nat.le_of_ble_eq_true rfl⟩) (rcv4 C hW (rfl : kd 58 = 4)) rfl hl.1 rfl (Nat.le_of_ble_eq_true rfl) dL_law_227 (by decide) (by decide) (fun H locs hW => ?_)
      refine lv_icmp_eq (tgt := 776) C.1 C.2.1 dL_law_230 (by decide) (fun _ => ?_) (fun q => absurd rfl q)
      exact next A B1 H locs hlt hR1 hW
    by_cases e_5 : x = 5
    · refine lv_tableIn (off := 203) (tgt := 235) C.1 C.2.1 dL_law_32 (by rw [e_5]; decide) (by rw [e_5]; decide) (by rw [e_5]; decide) (by decide) ?_
      obtain ⟨r, A1, B1, f1, f2, hR1⟩ := st_person hR (xs (nI (4 * j) + 1).toNatClampNeg) (xs (nI (4 * j) + 2).toNatClampNeg)
      refine lv_aload_n C.1 C.2.1 dL_law_235 rfl (lv_at hl 2 rfl) ?_
      refine lv_aload_n C.1 C.2.1 dL_law_236 rfl (lv_at hl 3 rfl) ?_
      refine lv_iload_n C.1 C.2.1 dL_law_237 rfl (lv_at hl 0 rfl) ?_
      refine lv_iconst (v := 1) C.1 C.2.1 dL_law_238 (by decide) ?_
      refine lv_iadd C.1 C.2.1 dL_law_239 ?_
      refine va_sld C.1 C.2.1 hX hbl hbA hW.2 k1 dL_law_240 ?_
      refine lv_aload_n C.1 C.2.1 dL_law_241 rfl (lv_at hl 3 rfl) ?_
      refine lv_iload_n C.1 C.2.1 dL_law_242 rfl (lv_at hl 0 rfl) ?_
      refine lv_iconst (v := 2) C.1 C.2.1 dL_law_243 (by decide) ?_
      refine lv_iadd C.1 C.2.1 dL_law_244 ?_
      refine va_sld C.1 C.2.1 hX hbl hbA hW.2 k2 dL_law_245 ?_
      refine cVi C hW (As := [.int (xs (nI (4 * j) + 1).toNatClampNeg), .int (xs (nI (4 * j) + 2).toNatClampNeg)]) (rest := []) (mt_X3_person f1) (cwV 2 C.2.2.2.2.2.1 gL_law_X3_person rfl rfl rfl (by decide +kernel) ⟨Nat.le_of_ble_eq_true rfl, Nat.le_of_ble_eq_true rfl⟩) (rcv3 C hW (rfl : kd 0 = 3)) rfl hl.1 rfl (Nat.le_of_ble_eq_true rfl) dL_law_246 (by decide) (by decide) (fun H locs hW => ?_)
      refine lv_aload_n C.1 C.2.1 dL_law_249 rfl (lv_at hl 1 rfl) ?_
      refine lv_aload_n C.1 C.2.1 dL_law_250 rfl (lv_at hl 3 rfl) ?_
      refine lv_iload_n C.1 C.2.1 dL_law_251 rfl (lv_at hl 0 rfl) ?_
      refine lv_iconst (v := 1) C.1 C.2.1 dL_law_252 (by decide) ?_
      refine lv_iadd C.1 C.2.1 dL_law_253 ?_
      refine va_sld C.1 C.2.1 hX hbl hbA hW.2 k1 dL_law_254 ?_
      refine lv_aload_n C.1 C.2.1 dL_law_255 rfl (lv_at hl 3 rfl) ?_
      refine lv_iload_n C.1 C.2.1 dL_law_256 rfl (lv_at hl 0 rfl) ?_
      refine lv_iconst (v := 2) C.1 C.2.1 dL_law_257 (by decide) ?_
      refine lv_iadd C.1 C.2.1 dL_law_258 ?_
      refine va_sld C.1 C.2.1 hX hbl hbA hW.2 k2 dL_law_259 ?_
      refine cVi C hW (As := [.int (xs (nI (4 * j) + 1).toNatClampNeg), .int (xs (nI (4 * j) + 2).toNatClampNeg)]) (rest := [.int r]) (mt_X4_person f2) (cwV 2 C.2.2.2.2.2.1 gL_law_X4_person rfl rfl rfl (by decide +kernel) ⟨Nat.le_of_ble_eq_true rfl, Nat.le_of_ble_eq_true rfl⟩) (rcv4 C hW (rfl : kd 58 = 4)) rfl hl.1 rfl (Nat.le_of_ble_eq_true rfl) dL_law_260 (by decide) (by decide) (fun H locs hW => ?_)
      refine lv_icmp_eq (tgt := 776) C.1 C.2.1 dL_law_263 (by decide) (fun _ => ?_) (fun q => absurd rfl q)
      exact next A1 B1 H locs hlt hR1 hW
    by_cases e_6 : x = 6
    · refine lv_tableIn (off := 236) (tgt := 268) C.1 C.2.1 dL_law_32 (by rw [e_6]; decide) (by rw [e_6]; decide) (by rw [e_6]; decide) (by decide) ?_
      obtain ⟨r, B1, f1, f2, hR1⟩ := st_about hR (xs (nI (4 * j) + 1).toNatClampNeg) (xs (nI (4 * j) + 2).toNatClampNeg)
      refine lv_aload_n C.1 C.2.1 dL_law_268 rfl (lv_at hl 2 rfl) ?_
      refine lv_aload_n C.1 C.2.1 dL_law_269 rfl (lv_at hl 3 rfl) ?_
      refine lv_iload_n C.1 C.2.1 dL_law_270 rfl (lv_at hl 0 rfl) ?_
      refine lv_iconst (v := 1) C.1 C.2.1 dL_law_271 (by decide) ?_
      refine lv_iadd C.1 C.2.1 dL_law_272 ?_
      refine va_sld C.1 C.2.1 hX hbl hbA hW.2 k1 dL_law_273 ?_
      refine lv_aload_n C.1 C.2.1 dL_law_274 rfl (lv_at hl 3 rfl) ?_
      refine lv_iload_n C.1 C.2.1 dL_law_275 rfl (lv_at hl 0 rfl) ?_
      refine lv_iconst (v := 2) C.1 C.2.1 dL_law_276 (by decide) ?_
      refine lv_iadd C.1 C.2.1 dL_law_277 ?_
      refine va_sld C.1 C.2.1 hX hbl hbA hW.2 k2 dL_law_278 ?_
      refine cVi C hW (As := [.int (xs (nI (4 * j) + 1).toNatClampNeg), .int (xs (nI (4 * j) + 2).toNatClampNeg)]) (rest := []) (mt_X3_about f1) (cwV 2 C.2.2.2.2.2.1 gL_law_X3_about rfl rfl rfl (by decide +kernel) ⟨Nat.le_of_ble_eq_true rfl, Nat.le_of_ble_eq_true rfl⟩) (rcv3 C hW (rfl : kd 0 = 3)) rfl hl.1 rfl (Nat.le_of_ble_eq_true rfl) dL_law_279 (by decide) (by decide) (fun H locs hW => ?_)
      refine lv_aload_n C.1 C.2.1 dL_law_282 rfl (lv_at hl 1 rfl) ?_
      refine lv_aload_n C.1 C.2.1 dL_law_283 rfl (lv_at hl 3 rfl) ?_
      refine lv_iload_n C.1 C.2.1 dL_law_284 rfl (lv_at hl 0 rfl) ?_
      refine lv_iconst (v := 1) C.1 C.2.1 dL_law_285 (by decide) ?_
      refine lv_iadd C.1 C.2.1 dL_law_286 ?_
      refine va_sld C.1 C.2.1 hX hbl hbA hW.2 k1 dL_law_287 ?_
      refine lv_aload_n C.1 C.2.1 dL_law_288 rfl (lv_at hl 3 rfl) ?_
      refine lv_iload_n C.1 C.2.1 dL_law_289 rfl (lv_at hl 0 rfl) ?_
      refine lv_iconst (v := 2) C.1 C.2.1 dL_law_290 (by decide) ?_
      refine lv_iadd C.1 C.2.1 dL_law_291 ?_
      refine va_sld C.1 C.2.1 hX hbl hbA hW.2 k2 dL_law_292 ?_
      refine cVi C hW (As := [.int (xs (nI (4 * j) + 1).toNatClampNeg), .int (xs (nI (4 * j) + 2).toNatClampNeg)]) (rest := [.int r]) (mt_X4_about f2) (cwV 2 C.2.2.2.2.2.1 gL_law_X4_about rfl rfl rfl (by decide +kernel) ⟨Nat.le_of_ble_eq_true rfl, Nat.le_of_ble_eq_true rfl⟩) (rcv4 C hW (rfl : kd 58 = 4)) rfl hl.1 rfl (Nat.le_of_ble_eq_true rfl) dL_law_293 (by decide) (by decide) (fun H locs hW => ?_)
      refine lv_icmp_eq (tgt := 776) C.1 C.2.1 dL_law_296 (by decide) (fun _ => ?_) (fun q => absurd rfl q)
      exact next A B1 H locs hlt hR1 hW
    by_cases e_7 : x = 7
    · refine lv_tableIn (off := 269) (tgt := 301) C.1 C.2.1 dL_law_32 (by rw [e_7]; decide) (by rw [e_7]; decide) (by rw [e_7]; decide) (by decide) ?_
      obtain ⟨r, f1, f2, hR1⟩ := st_as hR (xs (nI (4 * j) + 1).toNatClampNeg) (xs (nI (4 * j) + 2).toNatClampNeg)
      refine lv_aload_n C.1 C.2.1 dL_law_301 rfl (lv_at hl 2 rfl) ?_
      refine lv_aload_n C.1 C.2.1 dL_law_302 rfl (lv_at hl 3 rfl) ?_
      refine lv_iload_n C.1 C.2.1 dL_law_303 rfl (lv_at hl 0 rfl) ?_
      refine lv_iconst (v := 1) C.1 C.2.1 dL_law_304 (by decide) ?_
      refine lv_iadd C.1 C.2.1 dL_law_305 ?_
      refine va_sld C.1 C.2.1 hX hbl hbA hW.2 k1 dL_law_306 ?_
      refine lv_aload_n C.1 C.2.1 dL_law_307 rfl (lv_at hl 3 rfl) ?_
      refine lv_iload_n C.1 C.2.1 dL_law_308 rfl (lv_at hl 0 rfl) ?_
      refine lv_iconst (v := 2) C.1 C.2.1 dL_law_309 (by decide) ?_
      refine lv_iadd C.1 C.2.1 dL_law_310 ?_
      refine va_sld C.1 C.2.1 hX hbl hbA hW.2 k2 dL_law_311 ?_
      refine cVi C hW (As := [.int (xs (nI (4 * j) + 1).toNatClampNeg), .int (xs (nI (4 * j) + 2).toNatClampNeg)]) (rest := []) (mt_X3_as f1) (cwV 2 C.2.2.2.2.2.1 gL_law_X3_as rfl rfl rfl (by decide +kernel) ⟨Nat.le_of_ble_eq_true rfl, Nat.le_of_ble_eq_true rfl⟩) (rcv3 C hW (rfl : kd 0 = 3)) rfl hl.1 rfl (Nat.le_of_ble_eq_true rfl) dL_law_312 (by decide) (by decide) (fun H locs hW => ?_)
      refine lv_aload_n C.1 C.2.1 dL_law_315 rfl (lv_at hl 1 rfl) ?_
      refine lv_aload_n C.1 C.2.1 dL_law_316 rfl (lv_at hl 3 rfl) ?_
      refine lv_iload_n C.1 C.2.1 dL_law_317 rfl (lv_at hl 0 rfl) ?_
      refine lv_iconst (v := 1) C.1 C.2.1 dL_law_318 (by decide) ?_
      refine lv_iadd C.1 C.2.1 dL_law_319 ?_
      refine va_sld C.1 C.2.1 hX hbl hbA hW.2 k1 dL_law_320 ?_
      refine lv_aload_n C.1 C.2.1 dL_law_321 rfl (lv_at hl 3 rfl) ?_
      refine lv_iload_n C.1 C.2.1 dL_law_322 rfl (lv_at hl 0 rfl) ?_
      refine lv_iconst (v := 2) C.1 C.2.1 dL_law_323 (by decide) ?_
      refine lv_iadd C.1 C.2.1 dL_law_324 ?_
      refine va_sld C.1 C.2.1 hX hbl hbA hW.2 k2 dL_law_325 ?_
      refine cVi C hW (As := [.int (xs (nI (4 * j) + 1).toNatClampNeg), .int (xs (nI (4 * j) + 2).toNatClampNeg)]) (rest := [.int r]) (mt_X4_as f2) (cwV 2 C.2.2.2.2.2.1 gL_law_X4_as rfl rfl rfl (by decide +kernel) ⟨Nat.le_of_ble_eq_true rfl, Nat.le_of_ble_eq_true rfl⟩) (rcv4 C hW (rfl : kd 58 = 4)) rfl hl.1 rfl (Nat.le_of_ble_eq_true rfl) dL_law_326 (by decide) (by decide) (fun H locs hW => ?_)
      refine lv_icmp_eq (tgt := 776) C.1 C.2.1 dL_law_329 (by decide) (fun _ => ?_) (fun q => absurd rfl q)
      exact next A B H locs hlt hR1 hW
    by_cases e_8 : x = 8
    · refine lv_tableIn (off := 302) (tgt := 334) C.1 C.2.1 dL_law_32 (by rw [e_8]; decide) (by rw [e_8]; decide) (by rw [e_8]; decide) (by decide) ?_
      obtain ⟨r, A1, B1, f1, f2, hR1⟩ := st_drink hR (xs (nI (4 * j) + 1).toNatClampNeg) (xs (nI (4 * j) + 2).toNatClampNeg)
      refine lv_aload_n C.1 C.2.1 dL_law_334 rfl (lv_at hl 2 rfl) ?_
      refine lv_aload_n C.1 C.2.1 dL_law_335 rfl (lv_at hl 3 rfl) ?_
      refine lv_iload_n C.1 C.2.1 dL_law_336 rfl (lv_at hl 0 rfl) ?_
      refine lv_iconst (v := 1) C.1 C.2.1 dL_law_337 (by decide) ?_
      refine lv_iadd C.1 C.2.1 dL_law_338 ?_
      refine va_sld C.1 C.2.1 hX hbl hbA hW.2 k1 dL_law_339 ?_
      refine lv_aload_n C.1 C.2.1 dL_law_340 rfl (lv_at hl 3 rfl) ?_
      refine lv_iload_n C.1 C.2.1 dL_law_341 rfl (lv_at hl 0 rfl) ?_
      refine lv_iconst (v := 2) C.1 C.2.1 dL_law_342 (by decide) ?_
      refine lv_iadd C.1 C.2.1 dL_law_343 ?_
      refine va_sld C.1 C.2.1 hX hbl hbA hW.2 k2 dL_law_344 ?_
      refine cVi C hW (As := [.int (xs (nI (4 * j) + 1).toNatClampNeg), .int (xs (nI (4 * j) + 2).toNatClampNeg)]) (rest := []) (mt_X3_drink f1) (cwV 2 C.2.2.2.2.2.1 gL_law_X3_drink rfl rfl rfl (by decide +kernel) ⟨Nat.le_of_ble_eq_true rfl, Nat.le_of_ble_eq_true rfl⟩) (rcv3 C hW (rfl : kd 0 = 3)) rfl hl.1 rfl (Nat.le_of_ble_eq_true rfl) dL_law_345 (by decide) (by decide) (fun H locs hW => ?_)
      refine lv_aload_n C.1 C.2.1 dL_law_348 rfl (lv_at hl 1 rfl) ?_
      refine lv_aload_n C.1 C.2.1 dL_law_349 rfl (lv_at hl 3 rfl) ?_
      refine lv_iload_n C.1 C.2.1 dL_law_350 rfl (lv_at hl 0 rfl) ?_
      refine lv_iconst (v := 1) C.1 C.2.1 dL_law_351 (by decide) ?_
      refine lv_iadd C.1 C.2.1 dL_law_352 ?_
      refine va_sld C.1 C.2.1 hX hbl hbA hW.2 k1 dL_law_353 ?_
      refine lv_aload_n C.1 C.2.1 dL_law_354 rfl (lv_at hl 3 rfl) ?_
      refine lv_iload_n C.1 C.2.1 dL_law_355 rfl (lv_at hl 0 rfl) ?_
      refine lv_iconst (v := 2) C.1 C.2.1 dL_law_356 (by decide) ?_
      refine lv_iadd C.1 C.2.1 dL_law_357 ?_
      refine va_sld C.1 C.2.1 hX hbl hbA hW.2 k2 dL_law_358 ?_
      refine cVi C hW (As := [.int (xs (nI (4 * j) + 1).toNatClampNeg), .int (xs (nI (4 * j) + 2).toNatClampNeg)]) (rest := [.int r]) (mt_X4_drink f2) (cwV 2 C.2.2.2.2.2.1 gL_law_X4_drink rfl rfl rfl (by decide +kernel) ⟨Nat.le_of_ble_eq_true rfl, Nat.le_of_ble_eq_true rfl⟩) (rcv4 C hW (rfl : kd 58 = 4)) rfl hl.1 rfl (Nat.le_of_ble_eq_true rfl) dL_law_359 (by decide) (by decide) (fun H locs hW => ?_)
      refine lv_icmp_eq (tgt := 776) C.1 C.2.1 dL_law_362 (by decide) (fun _ => ?_) (fun q => absurd rfl q)
      exact next A1 B1 H locs hlt hR1 hW
    by_cases e_9 : x = 9
    · refine lv_tableIn (off := 335) (tgt := 367) C.1 C.2.1 dL_law_32 (by rw [e_9]; decide) (by rw [e_9]; decide) (by rw [e_9]; decide) (by decide) ?_
      obtain ⟨r, A1, B1, f1, f2, hR1⟩ := st_pour hR (xs (nI (4 * j) + 1).toNatClampNeg) (xs (nI (4 * j) + 2).toNatClampNeg) (xs (nI (4 * j) + 3).toNatClampNeg)
      refine lv_aload_n C.1 C.2.1 dL_law_367 rfl (lv_at hl 2 rfl) ?_
      refine lv_aload_n C.1 C.2.1 dL_law_368 rfl (lv_at hl 3 rfl) ?_
      refine lv_iload_n C.1 C.2.1 dL_law_369 rfl (lv_at hl 0 rfl) ?_
      refine lv_iconst (v := 1) C.1 C.2.1 dL_law_370 (by decide) ?_
      refine lv_iadd C.1 C.2.1 dL_law_371 ?_
      refine va_sld C.1 C.2.1 hX hbl hbA hW.2 k1 dL_law_372 ?_
      refine lv_aload_n C.1 C.2.1 dL_law_373 rfl (lv_at hl 3 rfl) ?_
      refine lv_iload_n C.1 C.2.1 dL_law_374 rfl (lv_at hl 0 rfl) ?_
      refine lv_iconst (v := 2) C.1 C.2.1 dL_law_375 (by decide) ?_
      refine lv_iadd C.1 C.2.1 dL_law_376 ?_
      refine va_sld C.1 C.2.1 hX hbl hbA hW.2 k2 dL_law_377 ?_
      refine lv_aload_n C.1 C.2.1 dL_law_378 rfl (lv_at hl 3 rfl) ?_
      refine lv_iload_n C.1 C.2.1 dL_law_379 rfl (lv_at hl 0 rfl) ?_
      refine lv_iconst (v := 3) C.1 C.2.1 dL_law_380 (by decide) ?_
      refine lv_iadd C.1 C.2.1 dL_law_381 ?_
      refine va_sld C.1 C.2.1 hX hbl hbA hW.2 k3 dL_law_382 ?_
      refine cVi C hW (As := [.int (xs (nI (4 * j) + 1).toNatClampNeg), .int (xs (nI (4 * j) + 2).toNatClampNeg), .int (xs (nI (4 * j) + 3).toNatClampNeg)]) (rest := []) (mt_X3_pour f1) (cwV 3 C.2.2.2.2.2.1 gL_law_X3_pour rfl rfl rfl (by decide +kernel) ⟨Nat.le_of_ble_eq_true rfl, Nat.le_of_ble_eq_true rfl⟩) (rcv3 C hW (rfl : kd 0 = 3)) rfl hl.1 rfl (Nat.le_of_ble_eq_true rfl) dL_law_383 (by decide) (by decide) (fun H locs hW => ?_)
      refine lv_aload_n C.1 C.2.1 dL_law_386 rfl (lv_at hl 1 rfl) ?_
      refine lv_aload_n C.1 C.2.1 dL_law_387 rfl (lv_at hl 3 rfl) ?_
      refine lv_iload_n C.1 C.2.1 dL_law_388 rfl (lv_at hl 0 rfl) ?_
      refine lv_iconst (v := 1) C.1 C.2.1 dL_law_389 (by decide) ?_
      refine lv_iadd C.1 C.2.1 dL_law_390 ?_
      refine va_sld C.1 C.2.1 hX hbl hbA hW.2 k1 dL_law_391 ?_
      refine lv_aload_n C.1 C.2.1 dL_law_392 rfl (lv_at hl 3 rfl) ?_
      refine lv_iload_n C.1 C.2.1 dL_law_393 rfl (lv_at hl 0 rfl) ?_
      refine lv_iconst (v := 2) C.1 C.2.1 dL_law_394 (by decide) ?_
      refine lv_iadd C.1 C.2.1 dL_law_395 ?_
      refine va_sld C.1 C.2.1 hX hbl hbA hW.2 k2 dL_law_396 ?_
      refine lv_aload_n C.1 C.2.1 dL_law_397 rfl (lv_at hl 3 rfl) ?_
      refine lv_iload_n C.1 C.2.1 dL_law_398 rfl (lv_at hl 0 rfl) ?_
      refine lv_iconst (v := 3) C.1 C.2.1 dL_law_399 (by decide) ?_
      refine lv_iadd C.1 C.2.1 dL_law_400 ?_
      refine va_sld C.1 C.2.1 hX hbl hbA hW.2 k3 dL_law_401 ?_
      refine cVi C hW (As := [.int (xs (nI (4 * j) + 1).toNatClampNeg), .int (xs (nI (4 * j) + 2).toNatClampNeg), .int (xs (nI (4 * j) + 3).toNatClampNeg)]) (rest := [.int r]) (mt_X4_pour f2) (cwV 3 C.2.2.2.2.2.1 gL_law_X4_pour rfl rfl rfl (by decide +kernel) ⟨Nat.le_of_ble_eq_true rfl, Nat.le_of_ble_eq_true rfl⟩) (rcv4 C hW (rfl : kd 58 = 4)) rfl hl.1 rfl (Nat.le_of_ble_eq_true rfl) dL_law_402 (by decide) (by decide) (fun H locs hW => ?_)
      refine lv_icmp_eq (tgt := 776) C.1 C.2.1 dL_law_405 (by decide) (fun _ => ?_) (fun q => absurd rfl q)
      exact next A1 B1 H locs hlt hR1 hW
    by_cases e_10 : x = 10
    · refine lv_tableIn (off := 378) (tgt := 410) C.1 C.2.1 dL_law_32 (by rw [e_10]; decide) (by rw [e_10]; decide) (by rw [e_10]; decide) (by decide) ?_
      obtain ⟨r, A1, B1, f1, f2, hR1⟩ := st_table hR (xs (nI (4 * j) + 1).toNatClampNeg)
      refine lv_aload_n C.1 C.2.1 dL_law_410 rfl (lv_at hl 2 rfl) ?_
      refine lv_aload_n C.1 C.2.1 dL_law_411 rfl (lv_at hl 3 rfl) ?_
      refine lv_iload_n C.1 C.2.1 dL_law_412 rfl (lv_at hl 0 rfl) ?_
      refine lv_iconst (v := 1) C.1 C.2.1 dL_law_413 (by decide) ?_
      refine lv_iadd C.1 C.2.1 dL_law_414 ?_
      refine va_sld C.1 C.2.1 hX hbl hbA hW.2 k1 dL_law_415 ?_
      refine cVi C hW (As := [.int (xs (nI (4 * j) + 1).toNatClampNeg)]) (rest := []) (mt_X3_table f1) (cwV 1 C.2.2.2.2.2.1 gL_law_X3_table rfl rfl rfl (by decide +kernel) ⟨Nat.le_of_ble_eq_true rfl, Nat.le_of_ble_eq_true rfl⟩) (rcv3 C hW (rfl : kd 0 = 3)) rfl hl.1 rfl (Nat.le_of_ble_eq_true rfl) dL_law_416 (by decide) (by decide) (fun H locs hW => ?_)
      refine lv_aload_n C.1 C.2.1 dL_law_419 rfl (lv_at hl 1 rfl) ?_
      refine lv_aload_n C.1 C.2.1 dL_law_420 rfl (lv_at hl 3 rfl) ?_
      refine lv_iload_n C.1 C.2.1 dL_law_421 rfl (lv_at hl 0 rfl) ?_
      refine lv_iconst (v := 1) C.1 C.2.1 dL_law_422 (by decide) ?_
      refine lv_iadd C.1 C.2.1 dL_law_423 ?_
      refine va_sld C.1 C.2.1 hX hbl hbA hW.2 k1 dL_law_424 ?_
      refine cVi C hW (As := [.int (xs (nI (4 * j) + 1).toNatClampNeg)]) (rest := [.int r]) (mt_X4_table f2) (cwV 1 C.2.2.2.2.2.1 gL_law_X4_table rfl rfl rfl (by decide +kernel) ⟨Nat.le_of_ble_eq_true rfl, Nat.le_of_ble_eq_true rfl⟩) (rcv4 C hW (rfl : kd 58 = 4)) rfl hl.1 rfl (Nat.le_of_ble_eq_true rfl) dL_law_425 (by decide) (by decide) (fun H locs hW => ?_)
      refine lv_icmp_eq (tgt := 776) C.1 C.2.1 dL_law_428 (by decide) (fun _ => ?_) (fun q => absurd rfl q)
      exact next A1 B1 H locs hlt hR1 hW
    by_cases e_11 : x = 11
    · refine lv_tableIn (off := 401) (tgt := 433) C.1 C.2.1 dL_law_32 (by rw [e_11]; decide) (by rw [e_11]; decide) (by rw [e_11]; decide) (by decide) ?_
      obtain ⟨r, A1, B1, f1, f2, hR1⟩ := st_blend hR (xs (nI (4 * j) + 1).toNatClampNeg) (xs (nI (4 * j) + 2).toNatClampNeg) (xs (nI (4 * j) + 3).toNatClampNeg)
      refine lv_aload_n C.1 C.2.1 dL_law_433 rfl (lv_at hl 2 rfl) ?_
      refine lv_aload_n C.1 C.2.1 dL_law_434 rfl (lv_at hl 3 rfl) ?_
      refine lv_iload_n C.1 C.2.1 dL_law_435 rfl (lv_at hl 0 rfl) ?_
      refine lv_iconst (v := 1) C.1 C.2.1 dL_law_436 (by decide) ?_
      refine lv_iadd C.1 C.2.1 dL_law_437 ?_
      refine va_sld C.1 C.2.1 hX hbl hbA hW.2 k1 dL_law_438 ?_
      refine lv_aload_n C.1 C.2.1 dL_law_439 rfl (lv_at hl 3 rfl) ?_
      refine lv_iload_n C.1 C.2.1 dL_law_440 rfl (lv_at hl 0 rfl) ?_
      refine lv_iconst (v := 2) C.1 C.2.1 dL_law_441 (by decide) ?_
      refine lv_iadd C.1 C.2.1 dL_law_442 ?_
      refine va_sld C.1 C.2.1 hX hbl hbA hW.2 k2 dL_law_443 ?_
      refine lv_aload_n C.1 C.2.1 dL_law_444 rfl (lv_at hl 3 rfl) ?_
      refine lv_iload_n C.1 C.2.1 dL_law_445 rfl (lv_at hl 0 rfl) ?_
      refine lv_iconst (v := 3) C.1 C.2.1 dL_law_446 (by decide) ?_
      refine lv_iadd C.1 C.2.1 dL_law_447 ?_
      refine va_sld C.1 C.2.1 hX hbl hbA hW.2 k3 dL_law_448 ?_
      refine cVi C hW (As := [.int (xs (nI (4 * j) + 1).toNatClampNeg), .int (xs (nI (4 * j) + 2).toNatClampNeg), .int (xs (nI (4 * j) + 3).toNatClampNeg)]) (rest := []) (mt_X3_blend f1) (cwV 3 C.2.2.2.2.2.1 gL_law_X3_blend rfl rfl rfl (by decide +kernel) ⟨Nat.le_of_ble_eq_true rfl, Nat.le_of_ble_eq_true rfl⟩) (rcv3 C hW (rfl : kd 0 = 3)) rfl hl.1 rfl (Nat.le_of_ble_eq_true rfl) dL_law_449 (by decide) (by decide) (fun H locs hW => ?_)
      refine lv_aload_n C.1 C.2.1 dL_law_452 rfl (lv_at hl 1 rfl) ?_
      refine lv_aload_n C.1 C.2.1 dL_law_453 rfl (lv_at hl 3 rfl) ?_
      refine lv_iload_n C.1 C.2.1 dL_law_454 rfl (lv_at hl 0 rfl) ?_
      refine lv_iconst (v := 1) C.1 C.2.1 dL_law_455 (by decide) ?_
      refine lv_iadd C.1 C.2.1 dL_law_456 ?_
      refine va_sld C.1 C.2.1 hX hbl hbA hW.2 k1 dL_law_457 ?_
      refine lv_aload_n C.1 C.2.1 dL_law_458 rfl (lv_at hl 3 rfl) ?_
      refine lv_iload_n C.1 C.2.1 dL_law_459 rfl (lv_at hl 0 rfl) ?_
      refine lv_iconst (v := 2) C.1 C.2.1 dL_law_460 (by decide) ?_
      refine lv_iadd C.1 C.2.1 dL_law_461 ?_
      refine va_sld C.1 C.2.1 hX hbl hbA hW.2 k2 dL_law_462 ?_
      refine lv_aload_n C.1 C.2.1 dL_law_463 rfl (lv_at hl 3 rfl) ?_
      refine lv_iload_n C.1 C.2.1 dL_law_464 rfl (lv_at hl 0 rfl) ?_
      refine lv_iconst (v := 3) C.1 C.2.1 dL_law_465 (by decide) ?_
      refine lv_iadd C.1 C.2.1 dL_law_466 ?_
      refine va_sld C.1 C.2.1 hX hbl hbA hW.2 k3 dL_law_467 ?_
      refine cVi C hW (As := [.int (xs (nI (4 * j) + 1).toNatClampNeg), .int (xs (nI (4 * j) + 2).toNatClampNeg), .int (xs (nI (4 * j) + 3).toNatClampNeg)]) (rest := [.int r]) (mt_X4_blend f2) (cwV 3 C.2.2.2.2.2.1 gL_law_X4_blend rfl rfl rfl (by decide +kernel) ⟨Nat.le_of_ble_eq_true rfl, Nat.le_of_ble_eq_true rfl⟩) (rcv4 C hW (rfl : kd 58 = 4)) rfl hl.1 rfl (Nat.le_of_ble_eq_true rfl) dL_law_468 (by decide) (by decide) (fun H locs hW => ?_)
      refine lv_icmp_eq (tgt := 776) C.1 C.2.1 dL_law_471 (by decide) (fun _ => ?_) (fun q => absurd rfl q)
      exact next A1 B1 H locs hlt hR1 hW
    by_cases e_12 : x = 12
    · refine lv_tableIn (off := 444) (tgt := 476) C.1 C.2.1 dL_law_32 (by rw [e_12]; decide) (by rw [e_12]; decide) (by rw [e_12]; decide) (by decide) ?_
      obtain ⟨r, A1, B1, f1, f2, hR1⟩ := st_top hR (xs (nI (4 * j) + 1).toNatClampNeg) (xs (nI (4 * j) + 2).toNatClampNeg) (xs (nI (4 * j) + 3).toNatClampNeg)
      refine lv_aload_n C.1 C.2.1 dL_law_476 rfl (lv_at hl 2 rfl) ?_
      refine lv_aload_n C.1 C.2.1 dL_law_477 rfl (lv_at hl 3 rfl) ?_
      refine lv_iload_n C.1 C.2.1 dL_law_478 rfl (lv_at hl 0 rfl) ?_
      refine lv_iconst (v := 1) C.1 C.2.1 dL_law_479 (by decide) ?_
      refine lv_iadd C.1 C.2.1 dL_law_480 ?_
      refine va_sld C.1 C.2.1 hX hbl hbA hW.2 k1 dL_law_481 ?_
      refine lv_aload_n C.1 C.2.1 dL_law_482 rfl (lv_at hl 3 rfl) ?_
      refine lv_iload_n C.1 C.2.1 dL_law_483 rfl (lv_at hl 0 rfl) ?_
      refine lv_iconst (v := 2) C.1 C.2.1 dL_law_484 (by decide) ?_
      refine lv_iadd C.1 C.2.1 dL_law_485 ?_
      refine va_sld C.1 C.2.1 hX hbl hbA hW.2 k2 dL_law_486 ?_
      refine lv_aload_n C.1 C.2.1 dL_law_487 rfl (lv_at hl 3 rfl) ?_
      refine lv_iload_n C.1 C.2.1 dL_law_488 rfl (lv_at hl 0 rfl) ?_
      refine lv_iconst (v := 3) C.1 C.2.1 dL_law_489 (by decide) ?_
      refine lv_iadd C.1 C.2.1 dL_law_490 ?_
      refine va_sld C.1 C.2.1 hX hbl hbA hW.2 k3 dL_law_491 ?_
      refine cVi C hW (As := [.int (xs (nI (4 * j) + 1).toNatClampNeg), .int (xs (nI (4 * j) + 2).toNatClampNeg), .int (xs (nI (4 * j) + 3).toNatClampNeg)]) (rest := []) (mt_X3_top f1) (cwV 3 C.2.2.2.2.2.1 gL_law_X3_top rfl rfl rfl (by decide +kernel) ⟨Nat.le_of_ble_eq_true rfl, Nat.le_of_ble_eq_true rfl⟩) (rcv3 C hW (rfl : kd 0 = 3)) rfl hl.1 rfl (Nat.le_of_ble_eq_true rfl) dL_law_492 (by decide) (by decide) (fun H locs hW => ?_)
      refine lv_aload_n C.1 C.2.1 dL_law_495 rfl (lv_at hl 1 rfl) ?_
      refine lv_aload_n C.1 C.2.1 dL_law_496 rfl (lv_at hl 3 rfl) ?_
      refine lv_iload_n C.1 C.2.1 dL_law_497 rfl (lv_at hl 0 rfl) ?_
      refine lv_iconst (v := 1) C.1 C.2.1 dL_law_498 (by decide) ?_
      refine lv_iadd C.1 C.2.1 dL_law_499 ?_
      refine va_sld C.1 C.2.1 hX hbl hbA hW.2 k1 dL_law_500 ?_
      refine lv_aload_n C.1 C.2.1 dL_law_501 rfl (lv_at hl 3 rfl) ?_
      refine lv_iload_n C.1 C.2.1 dL_law_502 rfl (lv_at hl 0 rfl) ?_
      refine lv_iconst (v := 2) C.1 C.2.1 dL_law_503 (by decide) ?_
      refine lv_iadd C.1 C.2.1 dL_law_504 ?_
      refine va_sld C.1 C.2.1 hX hbl hbA hW.2 k2 dL_law_505 ?_
      refine lv_aload_n C.1 C.2.1 dL_law_506 rfl (lv_at hl 3 rfl) ?_
      refine lv_iload_n C.1 C.2.1 dL_law_507 rfl (lv_at hl 0 rfl) ?_
      refine lv_iconst (v := 3) C.1 C.2.1 dL_law_508 (by decide) ?_
      refine lv_iadd C.1 C.2.1 dL_law_509 ?_
      refine va_sld C.1 C.2.1 hX hbl hbA hW.2 k3 dL_law_510 ?_
      refine cVi C hW (As := [.int (xs (nI (4 * j) + 1).toNatClampNeg), .int (xs (nI (4 * j) + 2).toNatClampNeg), .int (xs (nI (4 * j) + 3).toNatClampNeg)]) (rest := [.int r]) (mt_X4_top f2) (cwV 3 C.2.2.2.2.2.1 gL_law_X4_top rfl rfl rfl (by decide +kernel) ⟨Nat.le_of_ble_eq_true rfl, Nat.le_of_ble_eq_true rfl⟩) (rcv4 C hW (rfl : kd 58 = 4)) rfl hl.1 rfl (Nat.le_of_ble_eq_true rfl) dL_law_511 (by decide) (by decide) (fun H locs hW => ?_)
      refine lv_icmp_eq (tgt := 776) C.1 C.2.1 dL_law_514 (by decide) (fun _ => ?_) (fun q => absurd rfl q)
      exact next A1 B1 H locs hlt hR1 hW
    by_cases e_13 : x = 13
    · by_cases z : xs (nI (4 * j) + 2).toNatClampNeg = 0
      · refine lv_tableIn (off := 487) (tgt := 519) C.1 C.2.1 dL_law_32 (by rw [e_13]; decide) (by rw [e_13]; decide) (by rw [e_13]; decide) (by decide) ?_
        obtain ⟨r, A1, B1, f1, f2, hR1⟩ := st_trial hR (xs (nI (4 * j) + 1).toNatClampNeg) (0)
        refine lv_aload_n C.1 C.2.1 dL_law_519 rfl (lv_at hl 2 rfl) ?_
        refine lv_aload_n C.1 C.2.1 dL_law_520 rfl (lv_at hl 3 rfl) ?_
        refine lv_iload_n C.1 C.2.1 dL_law_521 rfl (lv_at hl 0 rfl) ?_
        refine lv_iconst (v := 1) C.1 C.2.1 dL_law_522 (by decide) ?_
        refine lv_iadd C.1 C.2.1 dL_law_523 ?_
        refine va_sld C.1 C.2.1 hX hbl hbA hW.2 k1 dL_law_524 ?_
        refine lv_aload_n C.1 C.2.1 dL_law_525 rfl (lv_at hl 3 rfl) ?_
        refine lv_iload_n C.1 C.2.1 dL_law_526 rfl (lv_at hl 0 rfl) ?_
        refine lv_iconst (v := 2) C.1 C.2.1 dL_law_527 (by decide) ?_
        refine lv_iadd C.1 C.2.1 dL_law_528 ?_
        refine va_sld C.1 C.2.1 hX hbl hbA hW.2 k2 dL_law_529 ?_
        refine lv_if_eq (tgt := 537) C.1 C.2.1 dL_law_530 (by decide) (fun _ => ?_) (fun q => absurd z q)
        refine lv_iconst (v := 0) C.1 C.2.1 dL_law_537 (by decide) ?_
        refine cVi C hW (As := [.int (xs (nI (4 * j) + 1).toNatClampNeg), .int (0)]) (rest := []) (mt_X3_trial f1) (cwV 2 C.2.2.2.2.2.1 gL_law_X3_trial rfl rfl rfl (by decide +kernel) ⟨Nat.le_of_ble_eq_true rfl, Nat.le_of_ble_eq_true rfl⟩) (rcv3 C hW (rfl : kd 0 = 3)) rfl hl.1 rfl (Nat.le_of_ble_eq_true rfl) dL_law_538 (by decide) (by decide) (fun H locs hW => ?_)
        refine lv_aload_n C.1 C.2.1 dL_law_541 rfl (lv_at hl 1 rfl) ?_
        refine lv_aload_n C.1 C.2.1 dL_law_542 rfl (lv_at hl 3 rfl) ?_
        refine lv_iload_n C.1 C.2.1 dL_law_543 rfl (lv_at hl 0 rfl) ?_
        refine lv_iconst (v := 1) C.1 C.2.1 dL_law_544 (by decide) ?_
        refine lv_iadd C.1 C.2.1 dL_law_545 ?_
        refine va_sld C.1 C.2.1 hX hbl hbA hW.2 k1 dL_law_546 ?_
        refine lv_aload_n C.1 C.2.1 dL_law_547 rfl (lv_at hl 3 rfl) ?_
        refine lv_iload_n C.1 C.2.1 dL_law_548 rfl (lv_at hl 0 rfl) ?_
        refine lv_iconst (v := 2) C.1 C.2.1 dL_law_549 (by decide) ?_
        refine lv_iadd C.1 C.2.1 dL_law_550 ?_
        refine va_sld C.1 C.2.1 hX hbl hbA hW.2 k2 dL_law_551 ?_
        refine lv_if_eq (tgt := 559) C.1 C.2.1 dL_law_552 (by decide) (fun _ => ?_) (fun q => absurd z q)
        refine lv_iconst (v := 0) C.1 C.2.1 dL_law_559 (by decide) ?_
        refine cVi C hW (As := [.int (xs (nI (4 * j) + 1).toNatClampNeg), .int (0)]) (rest := [.int r]) (mt_X4_trial f2) (cwV 2 C.2.2.2.2.2.1 gL_law_X4_trial rfl rfl rfl (by decide +kernel) ⟨Nat.le_of_ble_eq_true rfl, Nat.le_of_ble_eq_true rfl⟩) (rcv4 C hW (rfl : kd 58 = 4)) rfl hl.1 rfl (Nat.le_of_ble_eq_true rfl) dL_law_560 (by decide) (by decide) (fun H locs hW => ?_)
        refine lv_icmp_eq (tgt := 776) C.1 C.2.1 dL_law_563 (by decide) (fun _ => ?_) (fun q => absurd rfl q)
        exact next A1 B1 H locs hlt hR1 hW
      · refine lv_tableIn (off := 487) (tgt := 519) C.1 C.2.1 dL_law_32 (by rw [e_13]; decide) (by rw [e_13]; decide) (by rw [e_13]; decide) (by decide) ?_
        obtain ⟨r, A1, B1, f1, f2, hR1⟩ := st_trial hR (xs (nI (4 * j) + 1).toNatClampNeg) (1)
        refine lv_aload_n C.1 C.2.1 dL_law_519 rfl (lv_at hl 2 rfl) ?_
        refine lv_aload_n C.1 C.2.1 dL_law_520 rfl (lv_at hl 3 rfl) ?_
        refine lv_iload_n C.1 C.2.1 dL_law_521 rfl (lv_at hl 0 rfl) ?_
        refine lv_iconst (v := 1) C.1 C.2.1 dL_law_522 (by decide) ?_
        refine lv_iadd C.1 C.2.1 dL_law_523 ?_
        refine va_sld C.1 C.2.1 hX hbl hbA hW.2 k1 dL_law_524 ?_
        refine lv_aload_n C.1 C.2.1 dL_law_525 rfl (lv_at hl 3 rfl) ?_
        refine lv_iload_n C.1 C.2.1 dL_law_526 rfl (lv_at hl 0 rfl) ?_
        refine lv_iconst (v := 2) C.1 C.2.1 dL_law_527 (by decide) ?_
        refine lv_iadd C.1 C.2.1 dL_law_528 ?_
        refine va_sld C.1 C.2.1 hX hbl hbA hW.2 k2 dL_law_529 ?_
        refine lv_if_eq (tgt := 537) C.1 C.2.1 dL_law_530 (by decide) (fun q => absurd q z) (fun _ => ?_)
        refine lv_iconst (v := 1) C.1 C.2.1 dL_law_533 (by decide) ?_
        refine lv_goto (tgt := 538) C.1 C.2.1 dL_law_534 (by decide) ?_
        refine cVi C hW (As := [.int (xs (nI (4 * j) + 1).toNatClampNeg), .int (1)]) (rest := []) (mt_X3_trial f1) (cwV 2 C.2.2.2.2.2.1 gL_law_X3_trial rfl rfl rfl (by decide +kernel) ⟨Nat.le_of_ble_eq_true rfl, Nat.le_of_ble_eq_true rfl⟩) (rcv3 C hW (rfl : kd 0 = 3)) rfl hl.1 rfl (Nat.le_of_ble_eq_true rfl) dL_law_538 (by decide) (by decide) (fun H locs hW => ?_)
        refine lv_aload_n C.1 C.2.1 dL_law_541 rfl (lv_at hl 1 rfl) ?_
        refine lv_aload_n C.1 C.2.1 dL_law_542 rfl (lv_at hl 3 rfl) ?_
        refine lv_iload_n C.1 C.2.1 dL_law_543 rfl (lv_at hl 0 rfl) ?_
        refine lv_iconst (v := 1) C.1 C.2.1 dL_law_544 (by decide) ?_
        refine lv_iadd C.1 C.2.1 dL_law_545 ?_
        refine va_sld C.1 C.2.1 hX hbl hbA hW.2 k1 dL_law_546 ?_
        refine lv_aload_n C.1 C.2.1 dL_law_547 rfl (lv_at hl 3 rfl) ?_
        refine lv_iload_n C.1 C.2.1 dL_law_548 rfl (lv_at hl 0 rfl) ?_
        refine lv_iconst (v := 2) C.1 C.2.1 dL_law_549 (by decide) ?_
        refine lv_iadd C.1 C.2.1 dL_law_550 ?_
        refine va_sld C.1 C.2.1 hX hbl hbA hW.2 k2 dL_law_551 ?_
        refine lv_if_eq (tgt := 559) C.1 C.2.1 dL_law_552 (by decide) (fun q => absurd q z) (fun _ => ?_)
        refine lv_iconst (v := 1) C.1 C.2.1 dL_law_555 (by decide) ?_
        refine lv_goto (tgt := 560) C.1 C.2.1 dL_law_556 (by decide) ?_
        refine cVi C hW (As := [.int (xs (nI (4 * j) + 1).toNatClampNeg), .int (1)]) (rest := [.int r]) (mt_X4_trial f2) (cwV 2 C.2.2.2.2.2.1 gL_law_X4_trial rfl rfl rfl (by decide +kernel) ⟨Nat.le_of_ble_eq_true rfl, Nat.le_of_ble_eq_true rfl⟩) (rcv4 C hW (rfl : kd 58 = 4)) rfl hl.1 rfl (Nat.le_of_ble_eq_true rfl) dL_law_560 (by decide) (by decide) (fun H locs hW => ?_)
        refine lv_icmp_eq (tgt := 776) C.1 C.2.1 dL_law_563 (by decide) (fun _ => ?_) (fun q => absurd rfl q)
        exact next A1 B1 H locs hlt hR1 hW
    by_cases e_14 : x = 14
    · refine lv_tableIn (off := 536) (tgt := 568) C.1 C.2.1 dL_law_32 (by rw [e_14]; decide) (by rw [e_14]; decide) (by rw [e_14]; decide) (by decide) ?_
      obtain ⟨r, A1, B1, f1, f2, hR1⟩ := st_forget hR
      refine lv_aload_n C.1 C.2.1 dL_law_568 rfl (lv_at hl 2 rfl) ?_
      refine cVi C hW (As := []) (rest := []) (mt_X3_forget f1) (cwV 0 C.2.2.2.2.2.1 gL_law_X3_forget rfl rfl rfl (by decide +kernel) ⟨Nat.le_of_ble_eq_true rfl, Nat.le_of_ble_eq_true rfl⟩) (rcv3 C hW (rfl : kd 0 = 3)) rfl hl.1 rfl (Nat.le_of_ble_eq_true rfl) dL_law_569 (by decide) (by decide) (fun H locs hW => ?_)
      refine lv_aload_n C.1 C.2.1 dL_law_572 rfl (lv_at hl 1 rfl) ?_
      refine cVi C hW (As := []) (rest := [.int r]) (mt_X4_forget f2) (cwV 0 C.2.2.2.2.2.1 gL_law_X4_forget rfl rfl rfl (by decide +kernel) ⟨Nat.le_of_ble_eq_true rfl, Nat.le_of_ble_eq_true rfl⟩) (rcv4 C hW (rfl : kd 58 = 4)) rfl hl.1 rfl (Nat.le_of_ble_eq_true rfl) dL_law_573 (by decide) (by decide) (fun H locs hW => ?_)
      refine lv_icmp_eq (tgt := 776) C.1 C.2.1 dL_law_576 (by decide) (fun _ => ?_) (fun q => absurd rfl q)
      exact next A1 B1 H locs hlt hR1 hW
    by_cases e_15 : x = 15
    · refine lv_tableIn (off := 549) (tgt := 581) C.1 C.2.1 dL_law_32 (by rw [e_15]; decide) (by rw [e_15]; decide) (by rw [e_15]; decide) (by decide) ?_
      obtain ⟨r, B1, f1, f2, hR1⟩ := st_births hR (xs (nI (4 * j) + 1).toNatClampNeg)
      refine lv_aload_n C.1 C.2.1 dL_law_581 rfl (lv_at hl 2 rfl) ?_
      refine lv_aload_n C.1 C.2.1 dL_law_582 rfl (lv_at hl 3 rfl) ?_
      refine lv_iload_n C.1 C.2.1 dL_law_583 rfl (lv_at hl 0 rfl) ?_
      refine lv_iconst (v := 1) C.1 C.2.1 dL_law_584 (by decide) ?_
      refine lv_iadd C.1 C.2.1 dL_law_585 ?_
      refine va_sld C.1 C.2.1 hX hbl hbA hW.2 k1 dL_law_586 ?_
      refine cVi C hW (As := [.int (xs (nI (4 * j) + 1).toNatClampNeg)]) (rest := []) (mt_X3_births f1) (cwV 1 C.2.2.2.2.2.1 gL_law_X3_births rfl rfl rfl (by decide +kernel) ⟨Nat.le_of_ble_eq_true rfl, Nat.le_of_ble_eq_true rfl⟩) (rcv3 C hW (rfl : kd 0 = 3)) rfl hl.1 rfl (Nat.le_of_ble_eq_true rfl) dL_law_587 (by decide) (by decide) (fun H locs hW => ?_)
      refine lv_aload_n C.1 C.2.1 dL_law_590 rfl (lv_at hl 1 rfl) ?_
      refine lv_aload_n C.1 C.2.1 dL_law_591 rfl (lv_at hl 3 rfl) ?_
      refine lv_iload_n C.1 C.2.1 dL_law_592 rfl (lv_at hl 0 rfl) ?_
      refine lv_iconst (v := 1) C.1 C.2.1 dL_law_593 (by decide) ?_
      refine lv_iadd C.1 C.2.1 dL_law_594 ?_
      refine va_sld C.1 C.2.1 hX hbl hbA hW.2 k1 dL_law_595 ?_
      refine cVi C hW (As := [.int (xs (nI (4 * j) + 1).toNatClampNeg)]) (rest := [.int r]) (mt_X4_births f2) (cwV 1 C.2.2.2.2.2.1 gL_law_X4_births rfl rfl rfl (by decide +kernel) ⟨Nat.le_of_ble_eq_true rfl, Nat.le_of_ble_eq_true rfl⟩) (rcv4 C hW (rfl : kd 58 = 4)) rfl hl.1 rfl (Nat.le_of_ble_eq_true rfl) dL_law_596 (by decide) (by decide) (fun H locs hW => ?_)
      refine lv_icmp_eq (tgt := 776) C.1 C.2.1 dL_law_599 (by decide) (fun _ => ?_) (fun q => absurd rfl q)
      exact next A B1 H locs hlt hR1 hW
    by_cases e_16 : x = 16
    · refine lv_tableIn (off := 572) (tgt := 604) C.1 C.2.1 dL_law_32 (by rw [e_16]; decide) (by rw [e_16]; decide) (by rw [e_16]; decide) (by decide) ?_
      obtain ⟨r, B1, f1, f2, hR1⟩ := st_ask hR (xs (nI (4 * j) + 1).toNatClampNeg)
      refine lv_aload_n C.1 C.2.1 dL_law_604 rfl (lv_at hl 2 rfl) ?_
      refine lv_aload_n C.1 C.2.1 dL_law_605 rfl (lv_at hl 3 rfl) ?_
      refine lv_iload_n C.1 C.2.1 dL_law_606 rfl (lv_at hl 0 rfl) ?_
      refine lv_iconst (v := 1) C.1 C.2.1 dL_law_607 (by decide) ?_
      refine lv_iadd C.1 C.2.1 dL_law_608 ?_
      refine va_sld C.1 C.2.1 hX hbl hbA hW.2 k1 dL_law_609 ?_
      refine cVi C hW (As := [.int (xs (nI (4 * j) + 1).toNatClampNeg)]) (rest := []) (mt_X3_ask f1) (cwV 1 C.2.2.2.2.2.1 gL_law_X3_ask rfl rfl rfl (by decide +kernel) ⟨Nat.le_of_ble_eq_true rfl, Nat.le_of_ble_eq_true rfl⟩) (rcv3 C hW (rfl : kd 0 = 3)) rfl hl.1 rfl (Nat.le_of_ble_eq_true rfl) dL_law_610 (by decide) (by decide) (fun H locs hW => ?_)
      refine lv_aload_n C.1 C.2.1 dL_law_613 rfl (lv_at hl 1 rfl) ?_
      refine lv_aload_n C.1 C.2.1 dL_law_614 rfl (lv_at hl 3 rfl) ?_
      refine lv_iload_n C.1 C.2.1 dL_law_615 rfl (lv_at hl 0 rfl) ?_
      refine lv_iconst (v := 1) C.1 C.2.1 dL_law_616 (by decide) ?_
      refine lv_iadd C.1 C.2.1 dL_law_617 ?_
      refine va_sld C.1 C.2.1 hX hbl hbA hW.2 k1 dL_law_618 ?_
      refine cVi C hW (As := [.int (xs (nI (4 * j) + 1).toNatClampNeg)]) (rest := [.int r]) (mt_X4_ask f2) (cwV 1 C.2.2.2.2.2.1 gL_law_X4_ask rfl rfl rfl (by decide +kernel) ⟨Nat.le_of_ble_eq_true rfl, Nat.le_of_ble_eq_true rfl⟩) (rcv4 C hW (rfl : kd 58 = 4)) rfl hl.1 rfl (Nat.le_of_ble_eq_true rfl) dL_law_619 (by decide) (by decide) (fun H locs hW => ?_)
      refine lv_icmp_eq (tgt := 776) C.1 C.2.1 dL_law_622 (by decide) (fun _ => ?_) (fun q => absurd rfl q)
      exact next A B1 H locs hlt hR1 hW
    by_cases e_17 : x = 17
    · refine lv_tableIn (off := 595) (tgt := 627) C.1 C.2.1 dL_law_32 (by rw [e_17]; decide) (by rw [e_17]; decide) (by rw [e_17]; decide) (by decide) ?_
      obtain ⟨r, A1, B1, f1, f2, hR1⟩ := st_topped hR (xs (nI (4 * j) + 1).toNatClampNeg) (xs (nI (4 * j) + 2).toNatClampNeg) (xs (nI (4 * j) + 3).toNatClampNeg)
      refine lv_aload_n C.1 C.2.1 dL_law_627 rfl (lv_at hl 2 rfl) ?_
      refine lv_aload_n C.1 C.2.1 dL_law_628 rfl (lv_at hl 3 rfl) ?_
      refine lv_iload_n C.1 C.2.1 dL_law_629 rfl (lv_at hl 0 rfl) ?_
      refine lv_iconst (v := 1) C.1 C.2.1 dL_law_630 (by decide) ?_
      refine lv_iadd C.1 C.2.1 dL_law_631 ?_
      refine va_sld C.1 C.2.1 hX hbl hbA hW.2 k1 dL_law_632 ?_
      refine lv_aload_n C.1 C.2.1 dL_law_633 rfl (lv_at hl 3 rfl) ?_
      refine lv_iload_n C.1 C.2.1 dL_law_634 rfl (lv_at hl 0 rfl) ?_
      refine lv_iconst (v := 2) C.1 C.2.1 dL_law_635 (by decide) ?_
      refine lv_iadd C.1 C.2.1 dL_law_636 ?_
      refine va_sld C.1 C.2.1 hX hbl hbA hW.2 k2 dL_law_637 ?_
      refine lv_aload_n C.1 C.2.1 dL_law_638 rfl (lv_at hl 3 rfl) ?_
      refine lv_iload_n C.1 C.2.1 dL_law_639 rfl (lv_at hl 0 rfl) ?_
      refine lv_iconst (v := 3) C.1 C.2.1 dL_law_640 (by decide) ?_
      refine lv_iadd C.1 C.2.1 dL_law_641 ?_
      refine va_sld C.1 C.2.1 hX hbl hbA hW.2 k3 dL_law_642 ?_
      refine cVi C hW (As := [.int (xs (nI (4 * j) + 1).toNatClampNeg), .int (xs (nI (4 * j) + 2).toNatClampNeg), .int (xs (nI (4 * j) + 3).toNatClampNeg)]) (rest := []) (mt_X3_topped f1) (cwV 3 C.2.2.2.2.2.1 gL_law_X3_topped rfl rfl rfl (by decide +kernel) ⟨Nat.le_of_ble_eq_true rfl, Nat.le_of_ble_eq_true rfl⟩) (rcv3 C hW (rfl : kd 0 = 3)) rfl hl.1 rfl (Nat.le_of_ble_eq_true rfl) dL_law_643 (by decide) (by decide) (fun H locs hW => ?_)
      refine lv_aload_n C.1 C.2.1 dL_law_646 rfl (lv_at hl 1 rfl) ?_
      refine lv_aload_n C.1 C.2.1 dL_law_647 rfl (lv_at hl 3 rfl) ?_
      refine lv_iload_n C.1 C.2.1 dL_law_648 rfl (lv_at hl 0 rfl) ?_
      refine lv_iconst (v := 1) C.1 C.2.1 dL_law_649 (by decide) ?_
      refine lv_iadd C.1 C.2.1 dL_law_650 ?_
      refine va_sld C.1 C.2.1 hX hbl hbA hW.2 k1 dL_law_651 ?_
      refine lv_aload_n C.1 C.2.1 dL_law_652 rfl (lv_at hl 3 rfl) ?_
      refine lv_iload_n C.1 C.2.1 dL_law_653 rfl (lv_at hl 0 rfl) ?_
      refine lv_iconst (v := 2) C.1 C.2.1 dL_law_654 (by decide) ?_
      refine lv_iadd C.1 C.2.1 dL_law_655 ?_
      refine va_sld C.1 C.2.1 hX hbl hbA hW.2 k2 dL_law_656 ?_
      refine lv_aload_n C.1 C.2.1 dL_law_657 rfl (lv_at hl 3 rfl) ?_
      refine lv_iload_n C.1 C.2.1 dL_law_658 rfl (lv_at hl 0 rfl) ?_
      refine lv_iconst (v := 3) C.1 C.2.1 dL_law_659 (by decide) ?_
      refine lv_iadd C.1 C.2.1 dL_law_660 ?_
      refine va_sld C.1 C.2.1 hX hbl hbA hW.2 k3 dL_law_661 ?_
      refine cVi C hW (As := [.int (xs (nI (4 * j) + 1).toNatClampNeg), .int (xs (nI (4 * j) + 2).toNatClampNeg), .int (xs (nI (4 * j) + 3).toNatClampNeg)]) (rest := [.int r]) (mt_X4_topped f2) (cwV 3 C.2.2.2.2.2.1 gL_law_X4_topped rfl rfl rfl (by decide +kernel) ⟨Nat.le_of_ble_eq_true rfl, Nat.le_of_ble_eq_true rfl⟩) (rcv4 C hW (rfl : kd 58 = 4)) rfl hl.1 rfl (Nat.le_of_ble_eq_true rfl) dL_law_662 (by decide) (by decide) (fun H locs hW => ?_)
      refine lv_icmp_eq (tgt := 776) C.1 C.2.1 dL_law_665 (by decide) (fun _ => ?_) (fun q => absurd rfl q)
      exact next A1 B1 H locs hlt hR1 hW
    by_cases e_18 : x = 18
    · refine lv_tableIn (off := 638) (tgt := 670) C.1 C.2.1 dL_law_32 (by rw [e_18]; decide) (by rw [e_18]; decide) (by rw [e_18]; decide) (by decide) ?_
      obtain ⟨r, A1, B1, f1, f2, hR1⟩ := st_feasts hR (xs (nI (4 * j) + 1).toNatClampNeg) (xs (nI (4 * j) + 2).toNatClampNeg) (xs (nI (4 * j) + 3).toNatClampNeg)
      refine lv_aload_n C.1 C.2.1 dL_law_670 rfl (lv_at hl 2 rfl) ?_
      refine lv_aload_n C.1 C.2.1 dL_law_671 rfl (lv_at hl 3 rfl) ?_
      refine lv_iload_n C.1 C.2.1 dL_law_672 rfl (lv_at hl 0 rfl) ?_
      refine lv_iconst (v := 1) C.1 C.2.1 dL_law_673 (by decide) ?_
      refine lv_iadd C.1 C.2.1 dL_law_674 ?_
      refine va_sld C.1 C.2.1 hX hbl hbA hW.2 k1 dL_law_675 ?_
      refine lv_aload_n C.1 C.2.1 dL_law_676 rfl (lv_at hl 3 rfl) ?_
      refine lv_iload_n C.1 C.2.1 dL_law_677 rfl (lv_at hl 0 rfl) ?_
      refine lv_iconst (v := 2) C.1 C.2.1 dL_law_678 (by decide) ?_
      refine lv_iadd C.1 C.2.1 dL_law_679 ?_
      refine va_sld C.1 C.2.1 hX hbl hbA hW.2 k2 dL_law_680 ?_
      refine lv_aload_n C.1 C.2.1 dL_law_681 rfl (lv_at hl 3 rfl) ?_
      refine lv_iload_n C.1 C.2.1 dL_law_682 rfl (lv_at hl 0 rfl) ?_
      refine lv_iconst (v := 3) C.1 C.2.1 dL_law_683 (by decide) ?_
      refine lv_iadd C.1 C.2.1 dL_law_684 ?_
      refine va_sld C.1 C.2.1 hX hbl hbA hW.2 k3 dL_law_685 ?_
      refine cVi C hW (As := [.int (xs (nI (4 * j) + 1).toNatClampNeg), .int (xs (nI (4 * j) + 2).toNatClampNeg), .int (xs (nI (4 * j) + 3).toNatClampNeg)]) (rest := []) (mt_X3_feasts f1) (cwV 3 C.2.2.2.2.2.1 gL_law_X3_feasts rfl rfl rfl (by decide +kernel) ⟨Nat.le_of_ble_eq_true rfl, Nat.le_of_ble_eq_true rfl⟩) (rcv3 C hW (rfl : kd 0 = 3)) rfl hl.1 rfl (Nat.le_of_ble_eq_true rfl) dL_law_686 (by decide) (by decide) (fun H locs hW => ?_)
      refine lv_aload_n C.1 C.2.1 dL_law_689 rfl (lv_at hl 1 rfl) ?_
      refine lv_aload_n C.1 C.2.1 dL_law_690 rfl (lv_at hl 3 rfl) ?_
      refine lv_iload_n C.1 C.2.1 dL_law_691 rfl (lv_at hl 0 rfl) ?_
      refine lv_iconst (v := 1) C.1 C.2.1 dL_law_692 (by decide) ?_
      refine lv_iadd C.1 C.2.1 dL_law_693 ?_
      refine va_sld C.1 C.2.1 hX hbl hbA hW.2 k1 dL_law_694 ?_
      refine lv_aload_n C.1 C.2.1 dL_law_695 rfl (lv_at hl 3 rfl) ?_
      refine lv_iload_n C.1 C.2.1 dL_law_696 rfl (lv_at hl 0 rfl) ?_
      refine lv_iconst (v := 2) C.1 C.2.1 dL_law_697 (by decide) ?_
      refine lv_iadd C.1 C.2.1 dL_law_698 ?_
      refine va_sld C.1 C.2.1 hX hbl hbA hW.2 k2 dL_law_699 ?_
      refine lv_aload_n C.1 C.2.1 dL_law_700 rfl (lv_at hl 3 rfl) ?_
      refine lv_iload_n C.1 C.2.1 dL_law_701 rfl (lv_at hl 0 rfl) ?_
      refine lv_iconst (v := 3) C.1 C.2.1 dL_law_702 (by decide) ?_
      refine lv_iadd C.1 C.2.1 dL_law_703 ?_
      refine va_sld C.1 C.2.1 hX hbl hbA hW.2 k3 dL_law_704 ?_
      refine cVi C hW (As := [.int (xs (nI (4 * j) + 1).toNatClampNeg), .int (xs (nI (4 * j) + 2).toNatClampNeg), .int (xs (nI (4 * j) + 3).toNatClampNeg)]) (rest := [.int r]) (mt_X4_feasts f2) (cwV 3 C.2.2.2.2.2.1 gL_law_X4_feasts rfl rfl rfl (by decide +kernel) ⟨Nat.le_of_ble_eq_true rfl, Nat.le_of_ble_eq_true rfl⟩) (rcv4 C hW (rfl : kd 58 = 4)) rfl hl.1 rfl (Nat.le_of_ble_eq_true rfl) dL_law_705 (by decide) (by decide) (fun H locs hW => ?_)
      refine lv_icmp_eq (tgt := 776) C.1 C.2.1 dL_law_708 (by decide) (fun _ => ?_) (fun q => absurd rfl q)
      exact next A1 B1 H locs hlt hR1 hW
    by_cases e_19 : x = 19
    · refine lv_tableIn (off := 681) (tgt := 713) C.1 C.2.1 dL_law_32 (by rw [e_19]; decide) (by rw [e_19]; decide) (by rw [e_19]; decide) (by decide) ?_
      obtain ⟨r, A1, B1, f1, f2, hR1⟩ := st_image hR
      refine lv_aload_n C.1 C.2.1 dL_law_713 rfl (lv_at hl 2 rfl) ?_
      refine cVi C hW (As := []) (rest := []) (mt_X3_image f1) (cwV 0 C.2.2.2.2.2.1 gL_law_X3_image rfl rfl rfl (by decide +kernel) ⟨Nat.le_of_ble_eq_true rfl, Nat.le_of_ble_eq_true rfl⟩) (rcv3 C hW (rfl : kd 0 = 3)) rfl hl.1 rfl (Nat.le_of_ble_eq_true rfl) dL_law_714 (by decide) (by decide) (fun H locs hW => ?_)
      refine lv_aload_n C.1 C.2.1 dL_law_717 rfl (lv_at hl 1 rfl) ?_
      refine cVi C hW (As := []) (rest := [.int r]) (mt_X4_image f2) (cwV 0 C.2.2.2.2.2.1 gL_law_X4_image rfl rfl rfl (by decide +kernel) ⟨Nat.le_of_ble_eq_true rfl, Nat.le_of_ble_eq_true rfl⟩) (rcv4 C hW (rfl : kd 58 = 4)) rfl hl.1 rfl (Nat.le_of_ble_eq_true rfl) dL_law_718 (by decide) (by decide) (fun H locs hW => ?_)
      refine lv_icmp_eq (tgt := 776) C.1 C.2.1 dL_law_721 (by decide) (fun _ => ?_) (fun q => absurd rfl q)
      exact next A1 B1 H locs hlt hR1 hW
    by_cases e_20 : x = 20
    · refine lv_tableIn (off := 694) (tgt := 726) C.1 C.2.1 dL_law_32 (by rw [e_20]; decide) (by rw [e_20]; decide) (by rw [e_20]; decide) (by decide) ?_
      obtain ⟨r, A1, B1, f1, f2, hR1⟩ := st_restore hR (by omega)
      refine lv_aload_n C.1 C.2.1 dL_law_726 rfl (lv_at hl 2 rfl) ?_
      refine cVi C hW (As := []) (rest := []) (mt_X3_restore f1) (cwV 0 C.2.2.2.2.2.1 gL_law_X3_restore rfl rfl rfl (by decide +kernel) ⟨Nat.le_of_ble_eq_true rfl, Nat.le_of_ble_eq_true rfl⟩) (rcv3 C hW (rfl : kd 0 = 3)) rfl hl.1 rfl (Nat.le_of_ble_eq_true rfl) dL_law_727 (by decide) (by decide) (fun H locs hW => ?_)
      refine lv_aload_n C.1 C.2.1 dL_law_730 rfl (lv_at hl 1 rfl) ?_
      refine cVi C hW (As := []) (rest := [.int r]) (mt_X4_restore f2) (cwV 0 C.2.2.2.2.2.1 gL_law_X4_restore rfl rfl rfl (by decide +kernel) ⟨Nat.le_of_ble_eq_true rfl, Nat.le_of_ble_eq_true rfl⟩) (rcv4 C hW (rfl : kd 58 = 4)) rfl hl.1 rfl (Nat.le_of_ble_eq_true rfl) dL_law_731 (by decide) (by decide) (fun H locs hW => ?_)
      refine lv_icmp_eq (tgt := 776) C.1 C.2.1 dL_law_734 (by decide) (fun _ => ?_) (fun q => absurd rfl q)
      exact next A1 B1 H locs hlt hR1 hW
    by_cases e_21 : x = 21
    · refine lv_tableIn (off := 707) (tgt := 739) C.1 C.2.1 dL_law_32 (by rw [e_21]; decide) (by rw [e_21]; decide) (by rw [e_21]; decide) (by decide) ?_
      obtain ⟨r, B1, f1, f2, hR1⟩ := st_count hR (xs (nI (4 * j) + 1).toNatClampNeg)
      refine lv_aload_n C.1 C.2.1 dL_law_739 rfl (lv_at hl 2 rfl) ?_
      refine lv_aload_n C.1 C.2.1 dL_law_740 rfl (lv_at hl 3 rfl) ?_
      refine lv_iload_n C.1 C.2.1 dL_law_741 rfl (lv_at hl 0 rfl) ?_
      refine lv_iconst (v := 1) C.1 C.2.1 dL_law_742 (by decide) ?_
      refine lv_iadd C.1 C.2.1 dL_law_743 ?_
      refine va_sld C.1 C.2.1 hX hbl hbA hW.2 k1 dL_law_744 ?_
      refine cVi C hW (As := [.int (xs (nI (4 * j) + 1).toNatClampNeg)]) (rest := []) (mt_X3_count f1) (cwV 1 C.2.2.2.2.2.1 gL_law_X3_count rfl rfl rfl (by decide +kernel) ⟨Nat.le_of_ble_eq_true rfl, Nat.le_of_ble_eq_true rfl⟩) (rcv3 C hW (rfl : kd 0 = 3)) rfl hl.1 rfl (Nat.le_of_ble_eq_true rfl) dL_law_745 (by decide) (by decide) (fun H locs hW => ?_)
      refine lv_aload_n C.1 C.2.1 dL_law_748 rfl (lv_at hl 1 rfl) ?_
      refine lv_aload_n C.1 C.2.1 dL_law_749 rfl (lv_at hl 3 rfl) ?_
      refine lv_iload_n C.1 C.2.1 dL_law_750 rfl (lv_at hl 0 rfl) ?_
      refine lv_iconst (v := 1) C.1 C.2.1 dL_law_751 (by decide) ?_
      refine lv_iadd C.1 C.2.1 dL_law_752 ?_
      refine va_sld C.1 C.2.1 hX hbl hbA hW.2 k1 dL_law_753 ?_
      refine cVi C hW (As := [.int (xs (nI (4 * j) + 1).toNatClampNeg)]) (rest := [.int r]) (mt_X4_count f2) (cwV 1 C.2.2.2.2.2.1 gL_law_X4_count rfl rfl rfl (by decide +kernel) ⟨Nat.le_of_ble_eq_true rfl, Nat.le_of_ble_eq_true rfl⟩) (rcv4 C hW (rfl : kd 58 = 4)) rfl hl.1 rfl (Nat.le_of_ble_eq_true rfl) dL_law_754 (by decide) (by decide) (fun H locs hW => ?_)
      refine lv_icmp_eq (tgt := 776) C.1 C.2.1 dL_law_757 (by decide) (fun _ => ?_) (fun q => absurd rfl q)
      exact next A B1 H locs hlt hR1 hW
    by_cases e_22 : x = 22
    · refine lv_tableIn (off := 730) (tgt := 762) C.1 C.2.1 dL_law_32 (by rw [e_22]; decide) (by rw [e_22]; decide) (by rw [e_22]; decide) (by decide) ?_
      obtain ⟨r, A1, B1, f1, f2, hR1⟩ := st_digest hR
      refine lv_aload_n C.1 C.2.1 dL_law_762 rfl (lv_at hl 2 rfl) ?_
      refine cVl C hW (As := []) (rest := []) (mt_X3_digest f1) (cwV 0 C.2.2.2.2.2.1 gL_law_X3_digest rfl rfl rfl (by decide +kernel) ⟨Nat.le_of_ble_eq_true rfl, Nat.le_of_ble_eq_true rfl⟩) (rcv3 C hW (rfl : kd 0 = 3)) rfl hl.1 rfl (Nat.le_of_ble_eq_true rfl) dL_law_763 (by decide) (by decide) (fun H locs hW => ?_)
      refine lv_aload_n C.1 C.2.1 dL_law_766 rfl (lv_at hl 1 rfl) ?_
      refine cVl C hW (As := []) (rest := [.long r]) (mt_X4_digest f2) (cwV 0 C.2.2.2.2.2.1 gL_law_X4_digest rfl rfl rfl (by decide +kernel) ⟨Nat.le_of_ble_eq_true rfl, Nat.le_of_ble_eq_true rfl⟩) (rcv4 C hW (rfl : kd 58 = 4)) rfl hl.1 rfl (Nat.le_of_ble_eq_true rfl) dL_law_767 (by decide) (by decide) (fun H locs hW => ?_)
      refine lz_cmp C.1 C.2.1 dL_law_770 ?_
      refine lv_if_eq (tgt := 776) C.1 C.2.1 dL_law_771 (by decide) (fun _ => ?_) (fun q => absurd rfl q)
      exact next A1 B1 H locs hlt hR1 hW
    refine lv_tableOut (tgt := 776) C.1 C.2.1 dL_law_32 ?_ (by decide) ?_
    · exact tsw0_22 e_0 e_1 e_2 e_3 e_4 e_5 e_6 e_7 e_8 e_9 e_10 e_11 e_12 e_13 e_14 e_15 e_16 e_17 e_18 e_19 e_20 e_21 e_22
    · exact next A B H locs hlt hR.up hW
