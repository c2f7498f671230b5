/-! ===== feasts ===== -/
def nx (q : Nat) : Nat := (1103515245 * q + 12345) % 2147483648
theorem nx_lt (q : Nat) : nx q < 2 ^ 31 := Nat.mod_lt _ (by decide)
theorem lmask (n : Nat) : lN n &&& (2147483647 : Int64) = lN (n % 2147483648) := by
  apply Int64.toBitVec_inj.mp
  show BitVec.ofNat 64 n &&& BitVec.ofNat 64 2147483647 = BitVec.ofNat 64 (n % 2147483648)
  apply BitVec.eq_of_toNat_eq
  rw [BitVec.toNat_and, BitVec.toNat_ofNat, BitVec.toNat_ofNat, BitVec.toNat_ofNat]
  rw [show 2147483647 % 2 ^ 64 = 2 ^ 31 - 1 from rfl, Nat.and_two_pow_sub_one_eq_mod]
  omega
theorem seed_l {q : Nat} : ((1103515245 : Int64) * lN q + (12345 : Int64)) &&& (2147483647 : Int64) = lN (nx q) := by
  rw [show (1103515245 : Int64) = lN 1103515245 from rfl, show (12345 : Int64) = lN 12345 from rfl, lN_mul, lN_add, lmask]
  rfl
theorem nextSeed {q : Nat} (hq : q < 2 ^ 31) : fX3_nextSeed (nI q) = some (nI (nx q)) := by
  unfold fX3_nextSeed
  rw [nI_l hq, seed_l, lN_i]
def dw (q d : Nat) : Nat := q / 65536 % d
theorem draw_c {q d : Nat} (hq : q < 2 ^ 31) (h0 : 0 < d) (hd : d < 2 ^ 31) : fX3_draw (nI q) (nI d) = some (nI (dw q d)) := by
  have hq2 : q / 65536 < 2 ^ 31 := Nat.lt_of_le_of_lt (Nat.div_le_self _ _) hq
  unfold fX3_draw fX3_draw_15 dw
  rw [if_pos (by rw [show (0 : Int32) = nI 0 from rfl, nI_ltI (by omega) hd]; exact h0), ck_t (by unfold nz; exact decide_eq_true (fun x => by have := (nI_eq0 hd).mp x; omega)), show (65536 : Int32) = nI 65536 from rfl, pk_div hq (by omega) (by omega), pk_rem hq2 h0 hd]
theorem draw_t {B : Me} {q d : Nat} (hq : q < 2 ^ 31) (h0 : 0 < d) (hd : d < 2 ^ 31) (hs : gl (B 58) 19 = lN q) : fX4_draw B (nI d) = some (nI (dw (nx q) d), upl B 58 19 (lN (nx q))) := by
  have h1 := nx_lt q
  have h2 : nx q / 65536 < 2 ^ 63 := Nat.lt_of_le_of_lt (Nat.div_le_self _ _) (by omega)
  unfold fX4_draw dw
  rw [nI_l hd, ck_t (by
    unfold nzl
    apply decide_eq_true
    intro x
    rw [show (0 : Int64) = lN 0 from rfl] at x
    have := (pk_lEQ (by omega) (by omega)).mp x
    omega), hs, seed_l, upl_at, gl_updl, show (65536 : Int64) = lN 65536 from rfl, pk_lDiv (by omega) (by omega) (by omega), pk_lRem h2 h0 (by omega), lN_i]
theorem upl_58 {B : Me} {v : Int64} {k j : Nat} (h : ¬ (k = 58 ∧ (j = 19 ∨ j = 119))) : upl B 58 19 v k j = B k j := by
  unfold upl
  by_cases e : k = 58
  · rw [if_pos e]
    unfold updl upd
    rw [if_neg (fun x => h ⟨e, Or.inr x⟩), if_neg (fun x => h ⟨e, Or.inl x⟩), e]
  · rw [if_neg e]
theorem AgB.upl19 {B : Me} {v : Int64} : AgB B (upl B 58 19 v) := fun k j q => upl_58 (fun x => by
  obtain ⟨rfl, rfl | rfl⟩ := x <;> cases q)
/-- the same people and law, the same litres -/
def Eqv (a b : Ce) : Prop := c_w a = c_w b ∧ c_n a = c_n b ∧ c_l a = c_l b ∧ c_p a = c_p b ∧ c_k a = c_k b ∧ c_b a = c_b b
/-- what the reference keeps beside its litres -/
def G0 (B0 B : Me) : Prop := B 69 = B0 69 ∧ ∀ k j, scr k j = false → ¬ (k = 59 ∧ j < 50) → B k j = B0 k j
theorem G0.agS {B0 B B' : Me} (h : G0 B0 B) (g : Ag S60 B B') : G0 B0 B' := ⟨by rw [g 69 rfl]; exact h.1, fun k j a b => by rw [(AgB.of g) k j a]; exact h.2 k j a b⟩
theorem G0.upl {B0 B : Me} {v : Int64} (h : G0 B0 B) : G0 B0 (upl B 58 19 v) := ⟨by rw [upl_ne (by omega)]; exact h.1, fun k j a b => by rw [AgB.upl19 k j a]; exact h.2 k j a b⟩
section
variable {A B : Me} {c : Ce}
theorem feasts_loop (what ti : Int32) (tN : Nat) (htN : tN ≤ 60) (hti : ti = nI tN) (B0 : Me) : ∀ (d j n n' : Nat) (A B : Me) (ct cm : Ce) (ill : Int32) (q : Nat), RC A 37 ct → RB B cm → Wf ct → Wf cm → Eqv ct cm → 0 < c_p cm → q < 2 ^ 31 → gl (B 58) 19 = lN q → G0 B0 B → j + d = tN → d < n → d < n' →
    ∃ A' B' cmf illf qf, fX3_feasts_60 n A ti what (nI q) ill (nI j) = some (if what = 0 then illf else if what = 1 then nI (lsum (c_l cmf) (c_n cmf)) else nI qf, A') ∧ Ag (SC 37) A A' ∧
      fX4_feastsNow_42 n' B ti what ill (nI j) = (b2 (fX4_litresAll B') fun r137 B137 => fX4_feastsNow_145 FU B137 what illf r137 0) ∧ RB B' cmf ∧ Wf cmf ∧ gl (B' 58) 19 = lN qf ∧ G0 B0 B' ∧ qf < 2 ^ 31 := by
  intro d
  induction d with
  | zero =>
    intro j n n' A B ct cm ill q hA hB hwt hwm he hp hq hs hg hj hn hn'
    obtain ⟨n, rfl, -⟩ := fuel hn
    obtain ⟨n', rfl, -⟩ := fuel hn'
    have hjt : nI tN ≤ nI j := lim_t (by omega)
    refine ⟨A, B, cm, ill, q, ?_, Ag.rf, ?_, hB, hwm, hs, hg, hq⟩
    · rw [fX3_feasts_60, hti, if_pos hjt]
      unfold fX3_feasts_154
      by_cases z : what = 0
      · rw [if_pos z, if_pos z]
      · rw [if_neg z, if_neg z]
        by_cases y : what = 1
        · rw [if_pos y, if_pos y, bi_e (litresInAll hA hwt), he.2.2.1, he.2.1]
        · rw [if_neg y, if_neg y]
    · rw [fX4_feastsNow_42, hti, if_pos hjt]
  | succ d ih =>
    intro j n n' A B ct cm ill q hA hB hwt hwm he hp hq hs hg hj hn hn'
    obtain ⟨n, rfl, hn2⟩ := fuel hn
    obtain ⟨n', rfl, hn2'⟩ := fuel hn'
    have hjt : ¬ nI tN ≤ nI j := lim_f (by omega)
    have hnc : 0 < c_n cm := hwm.2.2.2.2.2 hp
    have hn5 := hwm.1
    have hp5 := hwm.2.1
    have h1 := nx_lt q
    have h2 := nx_lt (nx q)
    -- the two draws
    have hpd : dw (nx q) (c_p cm) < c_p cm := Nat.mod_lt _ hp
    have hcd : dw (nx (nx q)) (c_n cm) < c_n cm := Nat.mod_lt _ hnc
    generalize hP : dw (nx q) (c_p cm) = P at hpd
    generalize hI : dw (nx (nx q)) (c_n cm) = I at hcd
    have hA8 : A 37 8 = nI (c_p cm) := by rw [hA.2.2.1, he.2.2.2.1]
    have hA7 : A 37 7 = nI (c_n cm) := by rw [hA.2.1, he.2.1]
    have eclass : fX3_feasts_60 (n + 1) A ti what (nI q) ill (nI j) = (b2 (fX1_sip A 37 (nI P) (nI I)) fun r118 A118 => fX3_feasts_60 n A118 ti what (nI (nx (nx q))) (ill + r118) (nI (j + 1))) := by
      rw [fX3_feasts_60, hti, if_neg hjt, bi_e (nextSeed hq), hA8, bi_e (draw_c h1 hp (by omega)), bi_e (nextSeed h1), hA7, bi_e (draw_c h2 hnc (by omega)), hP, hI, nI_1]
    let B1 := upl B 58 19 (lN (nx q))
    have hB1 : RB B1 cm := hB.agB AgB.upl19
    have hs1 : gl (B1 58) 19 = lN (nx q) := by show gl (upl B 58 19 (lN (nx q)) 58) 19 = _; rw [upl_at, gl_updl]
    let B2 := upl B1 58 19 (lN (nx (nx q)))
    have hB2 : RB B2 cm := hB1.agB AgB.upl19
    have hs2 : gl (B2 58) 19 = lN (nx (nx q)) := by show gl (upl B1 58 19 (lN (nx (nx q))) 58) 19 = _; rw [upl_at, gl_updl]
    have hg2 : G0 B0 B2 := hg.upl.upl
    obtain ⟨B3, q1, q2, q3⟩ := latestIn hB2 hwm (show I < 5 by omega)
    have hB3 := hB2.ag q2
    have hs3 : gl (B3 58) 19 = lN (nx (nx q)) := by rw [q2 58 rfl]; exact hs2
    have hg3 := hg2.agS q2
    have emodel : fX4_feastsNow_42 (n' + 1) B ti what ill (nI j) = (if ltf (c_l cm I) 10 = (-1) then (fX4_feastsNow_130 (fun m x0 x1 x2 x3 => fX4_feastsNow_42 n' m x0 x1 x2 x3) B3 ti what ill (nI j)) else (ck (inb (nI P) 5) <| ck (inb (nI P) 5) <| bi (fX4_mayThought B3 (B3 61 (nI P).toNatClampNeg) (B3 62 (nI P).toNatClampNeg)) fun r99 => if r99 = 0 then (fX4_feastsNow_110 (fun m x0 x1 x2 x3 => fX4_feastsNow_42 n' m x0 x1 x2 x3) B3 ti what (nI j) (nI I) (ltf (c_l cm I) 10) ill 1) else (fX4_feastsNow_110 (fun m x0 x1 x2 x3 => fX4_feastsNow_42 n' m x0 x1 x2 x3) B3 ti what (nI j) (nI I) (ltf (c_l cm I) 10) ill 0))) := by
      have hb5 : B1 58 2 = nI (c_n cm) := hB1.2.1
      rw [fX4_feastsNow_42, hti, if_neg hjt, hB.2.2.1, b2_e (draw_t hq hp (by omega) hs), hP]
      rw [show upl B 58 19 (lN (nx q)) = B1 from rfl, hb5, b2_e (draw_t h1 hnc (by omega) hs1), hI]
      rw [show upl B1 58 19 (lN (nx (nx q))) = B2 from rfl, b2_e q1]
    rw [eclass, emodel]
    by_cases z : sf (c_l cm I) 10 = 0
    · have zt : sf (c_l ct I) 10 = 0 := by rw [he.2.2.1]; exact z
      rw [b2_e (sip_e hA hwt (by rw [he.2.2.2.1]; exact hpd) (by rw [he.2.1]; exact hcd) zt), if_pos (ltf_0 z), Int32.add_zero]
      unfold fX4_feastsNow_130
      rw [nI_1]
      exact ih (j + 1) n n' A B3 ct cm ill (nx (nx q)) hA hB3 hwt hwm he hp h2 hs3 hg3 (by omega) (by omega) (by omega)
    · have hz : 0 < sf (c_l cm I) 10 := by omega
      have zt : 0 < sf (c_l ct I) 10 := by rw [he.2.2.1]; exact hz
      obtain ⟨A1, p1, p2, p3⟩ := sip hA hwt (p := P) (i := I) (by rw [he.2.2.2.1]; exact hpd) (by rw [he.2.1]; exact hcd) zt
      obtain ⟨e1, e2, e3⟩ := lyf_ok hz
      have hl := hwm.2.2.2.1 I (by omega)
      have hmay : may (c_w ct) (c_l ct I) (c_k ct P) (c_b ct P) = may (c_w cm) (c_l cm I) (c_k cm P) (c_b cm P) := by
        rw [he.1, he.2.2.1, he.2.2.2.2.1, he.2.2.2.2.2]
      have hx := hB3.2.2.2.2.2.1 P hpd
      rw [b2_e p1, hmay, if_neg (by rw [e1]; exact nI_neg (by omega)), ck_t (inb_t (by omega) (by omega)), ck_t (inb_t (by omega) (by omega)), nI_clamp (by omega), hx.1, hx.2.1, bi_e (mayThought q3 (by omega) _ _), hB3.1, e1]
      -- the reference's litres
      let cm' := setL cm (fun j => if j = I then tk (c_l cm I) else c_l cm j)
      have hw' : Wf cm' := by
        have := drk_wf hwm (p := P) (i := I) (by omega) hz
        exact this
      have hwt' : Wf (drk ct P I) := drk_wf hwt (by omega) zt
      have he' : Eqv (drk ct P I) cm' := by
        refine ⟨he.1, he.2.1, ?_, he.2.2.2.1, he.2.2.2.2.1, he.2.2.2.2.2⟩
        show (fun j => if j = I then tk (c_l ct I) else c_l ct j) = (fun j => if j = I then tk (c_l cm I) else c_l cm j)
        rw [he.2.2.1]
      have key : ∀ t : Int32, t = bI (!(may (c_w cm) (c_l cm I) (c_k cm P) (c_b cm P))) → ∃ A' B' cmf illf qf, fX3_feasts_60 n A1 ti what (nI (nx (nx q))) (ill + t) (nI (j + 1)) = some (if what = 0 then illf else if what = 1 then nI (lsum (c_l cmf) (c_n cmf)) else nI qf, A') ∧ Ag (SC 37) A A' ∧
          fX4_feastsNow_110 (fun m x0 x1 x2 x3 => fX4_feastsNow_42 n' m x0 x1 x2 x3) B3 ti what (nI j) (nI I) (nI (lyf (c_l cm I) 10)) ill t = (b2 (fX4_litresAll B') fun r137 B137 => fX4_feastsNow_145 FU B137 what illf r137 0) ∧ RB B' cmf ∧ Wf cmf ∧ gl (B' 58) 19 = lN qf ∧ G0 B0 B' ∧ qf < 2 ^ 31 := by
        intro t ht
        unfold fX4_feastsNow_110 fX4_feastsNow_130
        rw [idx, ck_t (inb_t (by omega) (by omega)), ck_t (inb_t (by omega) (by omega)), nI_clamp (by omega), nI_1]
        have hL := tk_LB (B := B3) hB3.2.2.2.2.1 (show I < 5 by omega) hz rfl
        have hB4 : RB _ cm' := hB3.setL (fun k hk => up2_ne (A := B3) (k := 59) (j := 10 * I + lyf (c_l cm I) 10) (v := B3 59 (10 * I + lyf (c_l cm I) 10) - 1) hk) hL
        have hg4 : G0 B0 (up2 B3 59 (10 * I + lyf (c_l cm I) 10) (B3 59 (10 * I + lyf (c_l cm I) 10) - 1)) := by
          refine ⟨by rw [up2_ne (by omega)]; exact hg3.1, fun k j a b => ?_⟩
          rw [← hg3.2 k j a b]
          unfold up2
          by_cases ek : k = 59
          · rw [if_pos ek]
            unfold upd
            rw [if_neg (fun x => b ⟨ek, by omega⟩), ek]
          · rw [if_neg ek]
        obtain ⟨A', B', cmf, illf, qf, t1, t2, t3⟩ := ih (j + 1) n n' A1 _ (drk ct P I) cm' (ill + t) (nx (nx q)) p2 hB4 hwt' hw' he' hp h2 (by rw [up2_ne (by omega)]; exact hs3) hg4 (by omega) (by omega) (by omega)
        exact ⟨A', B', cmf, illf, qf, t1, p3.tr t2, t3⟩
      cases hm : may (c_w cm) (c_l cm I) (c_k cm P) (c_b cm P)
      · rw [if_pos (by decide)]
        exact key 1 (by rw [hm]; rfl)
      · rw [if_neg (by decide)]
        exact key 0 (by rw [hm]; rfl)
theorem feastsNow_145 (what ill lf : Int32) : ∀ (d i n : Nat) (B : Me), i + d = 50 → d < n → ∃ B', fX4_feastsNow_145 n B what ill lf (nI i) = some (if what = 0 then ill else if what = 1 then lf else (gl (B 58) 19).toInt32, B') ∧ (∀ k, k ≠ 59 → B' k = B k) ∧ (∀ j, i ≤ j → j < 50 → B' 59 j = B 69 j) ∧ ∀ j, (j < i ∨ 50 ≤ j) → B' 59 j = B 59 j := by
  intro d
  induction d with
  | zero =>
    intro i n B hi hn
    obtain ⟨n, rfl, -⟩ := fuel hn
    rw [fX4_feastsNow_145, if_pos (g50_t (by omega))]
    refine ⟨B, ?_, fun _ _ => rfl, fun j h1 h2 => by omega, fun _ _ => rfl⟩
    unfold fX4_feastsNow_196
    by_cases z : what = 0
    · rw [if_pos z, if_pos z]
    · rw [if_neg z, if_neg z]
      by_cases y : what = 1
      · rw [if_pos y, if_pos y]
      · rw [if_neg y, if_neg y]
  | succ d ih =>
    intro i n B hi hn
    obtain ⟨n, rfl, hn2⟩ := fuel hn
    rw [fX4_feastsNow_145, if_neg (g50_f (by omega)), ck_t (inb_t (by omega) (by omega)), ck_t (inb_t (by omega) (by omega)), nI_clamp (by omega), nI_1]
    obtain ⟨B', t1, t2, t3, t4⟩ := ih (i + 1) n (up2 B 59 i (B 69 i)) (by omega) (by omega)
    rw [up2_ne (by omega)] at t1
    refine ⟨B', t1, fun k hk => by rw [t2 k hk, up2_ne hk], fun j h1 h2 => ?_, fun j hj => ?_⟩
    · by_cases e : j = i
      · subst e
        rw [t4 j (by omega), up2_at]
        exact if_pos rfl
      · rw [t3 j (by omega) h2, up2_ne (by omega)]
    · rw [t4 j (by omega), up2_at]
      exact if_neg (by omega)
theorem feastsNow_3 (ti sd what : Int32) : ∀ (d i n : Nat) (B : Me), i + d = 50 → d < n → ∃ B0, fX4_feastsNow_3 n B ti sd what (nI i) = fX4_feastsNow_42 FU (upl B0 58 19 sd.toInt64) ti what 0 0 ∧ (∀ k, k ≠ 69 → B0 k = B k) ∧ (∀ j, i ≤ j → j < 50 → B0 69 j = B 59 j) ∧ ∀ j, j < i → B0 69 j = B 69 j := by
  intro d
  induction d with
  | zero =>
    intro i n B hi hn
    obtain ⟨n, rfl, -⟩ := fuel hn
    rw [fX4_feastsNow_3, if_pos (g50_t (by omega))]
    exact ⟨B, rfl, fun _ _ => rfl, fun j h1 h2 => by omega, fun _ _ => rfl⟩
  | succ d ih =>
    intro i n B hi hn
    obtain ⟨n, rfl, hn2⟩ := fuel hn
    rw [fX4_feastsNow_3, if_neg (g50_f (by omega)), ck_t (inb_t (by omega) (by omega)), ck_t (inb_t (by omega) (by omega)), nI_clamp (by omega), nI_1]
    obtain ⟨B0, t1, t2, t3, t4⟩ := ih (i + 1) n (up2 B 69 i (B 59 i)) (by omega) (by omega)
    refine ⟨B0, t1, fun k hk => by rw [t2 k hk, up2_ne hk], fun j h1 h2 => ?_, fun j hj => ?_⟩
    · by_cases e : j = i
      · subst e
        rw [t4 j (by omega), up2_at]
        exact if_pos rfl
      · rw [t3 j (by omega) h2, up2_ne (by omega)]
    · rw [t4 j (by omega), up2_at]
      exact if_neg (by omega)
/-- feasts of the two, behind the tests of the arguments -/
theorem feasts_both (hA : RC A 3 c) (hB : RB B c) (hw : Wf c) (hp : 0 < c_p c) {tN q : Nat} (ht : tN ≤ 60) (hq : q < 2 ^ 31) (what : Int32) : ∃ r A' B', (bi (fX1_become A 37 3) fun A48 => fX3_feasts_60 FU A48 (nI tN) what (nI q) 0 0) = some (r, A') ∧ Ag (SC 37) A A' ∧ fX4_feastsNow B (nI tN) (nI q) what = some (r, B') ∧ AgB B B' := by
  obtain ⟨A1, q1, q2, q3⟩ := cellarBecome (k := 37) hA hw (by omega)
  obtain ⟨B0, t1, t2, t3, -⟩ := feastsNow_3 (nI tN) (nI q) what 50 0 FU B (by omega) (by decide)
  have gB0 : AgB B B0 := fun k j a => by
    by_cases e : k = 69
    · subst e; cases a
    · rw [t2 k e]
  have hB1 : RB (upl B0 58 19 (nI q).toInt64) c := (hB.agB gB0).agB AgB.upl19
  have hg : G0 B0 (upl B0 58 19 (nI q).toInt64) := (show G0 B0 B0 from ⟨rfl, fun _ _ _ _ => rfl⟩).upl
  obtain ⟨A', B', cmf, illf, qf, u1, u2, u3, u4, u5, u6, u7, u8⟩ := feasts_loop what (nI tN) tN ht rfl B0 tN 0 FU FU A1 _ c c 0 q q2 hB1 hw hw ⟨rfl, rfl, rfl, rfl, rfl, rfl⟩ hp hq (by rw [upl_at, gl_updl, nI_l hq]) hg (by omega) (Nat.lt_of_le_of_lt ht (by decide)) (Nat.lt_of_le_of_lt ht (by decide))
  obtain ⟨B2, v1, v2⟩ := litresAll u4 u5
  obtain ⟨B3, w1, w2, w3, w4⟩ := feastsNow_145 what illf (nI (lsum (c_l cmf) (c_n cmf))) 50 0 FU B2 (by omega) (by decide)
  have hg2 := u7.agS v2
  refine ⟨_, A', B3, by rw [bi_e q1]; exact u1, q3.tr u2, ?_, fun k j a => ?_⟩
  · unfold fX4_feastsNow
    refine t1.trans ?_
    rw [show (0 : Int32) = nI 0 from rfl] at u3
    refine u3.trans ?_
    rw [b2_e v1]
    refine Eq.trans w1 ?_
    rw [v2 58 rfl, u6, lN_i]
  · by_cases e : k = 59
    · subst e
      by_cases l : j < 50
      · rw [w3 j (by omega) l, hg2.1, t3 j (by omega) l]
      · rw [w4 j (Or.inr (by omega)), hg2.2 59 j a (fun x => l x.2), gB0 59 j a]
    · rw [w2 k e, hg2.2 k j a (fun x => e x.1), gB0 k j a]
end
