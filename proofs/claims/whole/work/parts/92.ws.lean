/-! the law's entry: the machine's words as our rows want them -/
theorem arr_k {args : Array Value} {s : State} {ty : FieldType} (h : (Cond.arrayClass ty).before args s = true) : ∃ cA, ArrOfT s cA ty ∧ s.vm.findClass ("[" ++ ty.toString) = some cA := by
  obtain ⟨cA, kA, comp, h1, h2, h3⟩ := Cond.arrayClass_spec h
  exact ⟨cA, fun n z => ⟨fun k h => (by cases h), kA, h2, comp, h3⟩, h1⟩
theorem arr_o {args : Array Value} {s : State} {C : String} (h : (Cond.arrayOver (.object C)).before args s = true) : ∃ cA, ArrOfT s cA (.object C) ∧ va_RA s cA (.object C) := by
  obtain ⟨comp, cA, kA, h1, h2, h3, h4, h5⟩ := Cond.arrayOver_spec h
  exact ⟨cA, fun n z => ⟨fun k h => (by cases h), kA, h3, comp, h4⟩, kA, comp, h3, h4, h1, h5⟩
def tmS (i : Nat) : Term := if i = 0 then Term.string "ChimeDrum$Text" 29 else Term.string "ChimeDrum$Text" 37
def stT : Term := Term.static "ChimeDrum$Tune" "STEPS" "[I"
def dgT : Term := Term.static "ChimeDrum$HammerChoice" "DIGITS" "[I"
def gvL : List Cond := flatC (Jvm.Cond.and given_1 narrow_1)
theorem gv_s1 : Cond.arrayOf stT .int ∈ gvL ∧ Cond.eq (.length stT) (.int (Int32.ofNat 7)) ∈ gvL := by decide +kernel
theorem gv_s2 : ∀ j, j < 7 → Cond.eq (.elem stT (.int (Int32.ofNat j))) (.int (Int32.ofInt (k_steps j))) ∈ gvL := by decide +kernel
theorem gv_d1 : Cond.arrayOf dgT .int ∈ gvL ∧ Cond.eq (.length dgT) (.int (Int32.ofNat 12)) ∈ gvL := by decide +kernel
theorem gv_d2 : ∀ j, j < 12 → Cond.eq (.elem dgT (.int (Int32.ofNat j))) (.int (Int32.ofInt (k_digits j))) ∈ gvL := by decide +kernel
theorem gv_c : Cond.eq (.static "java/lang/String" "COMPACT_STRINGS" "Z") (.int 1) ∈ gvL ∧ Cond.isRef (.static "jdk/internal/util/Preconditions" "SIOOBE_FORMATTER" "Ljava/util/function/BiFunction;") ∈ gvL := by decide +kernel
theorem gv_t1 : ∀ i, i < 2 → Cond.exactly (tmS i) "java/lang/String" ∈ gvL ∧ Cond.eq (.field (tmS i) "java/lang/String" "coder" "B") (.int 0) ∈ gvL ∧ Cond.arrayOf (.field (tmS i) "java/lang/String" "value" "[B") .byte ∈ gvL ∧ Cond.eq (.length (.field (tmS i) "java/lang/String" "value" "[B")) (.int (Int32.ofNat (([12, 12] : List Nat).getD i 0))) ∈ gvL := by decide +kernel
theorem gv_t2 : ∀ i, i < 2 → ∀ j, j < ([12, 12] : List Nat).getD i 0 → Cond.eq (.elem (.field (tmS i) "java/lang/String" "value" "[B") (.int (Int32.ofNat j))) (.int ((([k_bl, k_bs] : List (List Int32)).getD i []).getD j 0)) ∈ gvL := by decide +kernel
theorem gv_t3 : Cond.not (Cond.eq (tmS 0) (tmS 1)) ∈ gvL := by decide +kernel
theorem tb_1 : Cond.laysStatic RX5 "STEPS" "[I" ∈ lw_tbl ∧ Cond.initialized RX5 ∈ lw_tbl ∧ Cond.laysStatic RX2 "DIGITS" "[I" ∈ lw_tbl ∧ Cond.initialized RX2 ∈ lw_tbl ∧ Cond.laysStatic "java/lang/String" "COMPACT_STRINGS" "Z" ∈ lw_tbl ∧ Cond.initialized "java/lang/String" ∈ lw_tbl ∧ Cond.laysStatic "jdk/internal/util/Preconditions" "SIOOBE_FORMATTER" "Ljava/util/function/BiFunction;" ∈ lw_tbl ∧ Cond.initialized "jdk/internal/util/Preconditions" ∈ lw_tbl ∧ Cond.stringRef RX4 29 "ccddeffggaab" ∈ lw_tbl ∧ Cond.stringRef RX4 37 " # #  # # # " ∈ lw_tbl ∧ Cond.arrayOver (.object RX5) ∈ lw_tbl := by decide +kernel
theorem tb_n : ∀ q ∈ nestL, Cond.methodLinkNest q.1 q.2.1 q.2.2.1 q.2.2.2 ∈ lw_tbl := by decide +kernel
theorem X_back (x : Int32) : Int32.ofInt x.toInt = x := Int32.ofInt_toInt x
set_option maxHeartbeats 4000000 in
theorem fx_start {p : Program} {s : State} {m : MethodId} {meth : Method} {c : Code} {b L : Nat} {xs : Nat → Int32} (C0 : lw_At p s m meth c b L xs) : ∃ G : GX, gB G = s.heap.size ∧ gN G = L ∧ gX G = (fun j => (xs j).toInt) ∧ gk G 4 = b ∧ FX G s := by
  obtain ⟨hx, hb, hr, hml, hown, hts, hX, hbl, hlocks, hgv, hnm⟩ := C0
  have hs : ∀ w ∈ gvL, w.before #[Value.ref b] s = true := flat_of_before _ hgv
  have hA : ∀ a : Nat, a < s.heap.size → ¬ (s.heap.size ≤ a) := fun a h => Nat.not_le.mpr h
  have hg : ∀ w ∈ lw_g, w.before #[Value.ref b] s = true := fun w hw => hts w (List.mem_filter.mp hw).1
  obtain ⟨t1, t2, t3, t4, t5, t6, t7, t8, t9, t10, t11⟩ := tb_1
  obtain ⟨c0, i0, k0⟩ := u_known (C := RX0) (T := TX0) (N := 6) (n := 6) hg iwX0 (hg _ wd_134)
  obtain ⟨c1, i1, k1⟩ := u_known (C := RX1) (T := TX1) (N := 9) (n := 9) hg iwX1 (hg _ wd_80)
  obtain ⟨c2, i2, k2⟩ := u_known (C := RX2) (T := TX2) (N := 8) (n := 8) hg iwX2 (hg _ wd_172)
  obtain ⟨c3, i3, k3⟩ := u_known (C := RX3) (T := TX3) (N := 7) (n := 7) hg iwX3 (hg _ wd_166)
  obtain ⟨c4, i4, k4⟩ := u_known (C := RX4) (T := TX4) (N := 2) (n := 2) hg iwX4 (hg _ wd_230)
  obtain ⟨c5, i5, k5⟩ := u_known (C := RX5) (T := TX5) (N := 8) (n := 8) hg iwX5 (hg _ wd_246)
  obtain ⟨c6, i6, k6⟩ := u_known (C := RX6) (T := TX6) (N := 10) (n := 10) hg iwX6 (hg _ wd_72)
  obtain ⟨c7, i7, k7⟩ := u_known (C := RX7) (T := TX7) (N := 40) (n := 40) hg iwX7 (hg _ wd_686)
  obtain ⟨a0, ar0, an0⟩ := arr_k (hg _ wd_131)
  obtain ⟨a1, ar1, an1⟩ := arr_k (hg _ wd_650)
  obtain ⟨a2, ar2, an2⟩ := arr_k (hg _ wd_132)
  obtain ⟨a3, ar3, an3⟩ := arr_o (hts _ t11)
  obtain ⟨s2, e2, T2⟩ := va_Tof (tm := stT) (ty := .int) (N := 7) (f := fun j => .int (Int32.ofInt (k_steps j))) (A := fun q => s.heap.size ≤ q) (by decide) (hs _ gv_s1.1) (va_eqt (hs _ gv_s1.2)) (fun j hj => va_eqt (hs _ (gv_s2 j hj))) hA
  obtain ⟨s3, e3, T3⟩ := va_Tof (tm := dgT) (ty := .int) (N := 12) (f := fun j => .int (Int32.ofInt (k_digits j))) (A := fun q => s.heap.size ≤ q) (by decide) (hs _ gv_d1.1) (va_eqt (hs _ gv_d1.2)) (fun j hj => va_eqt (hs _ (gv_d2 j hj))) hA
  have Z2 : va_Z RX5 "STEPS" "[I" (.ref s2) (fun q => s.heap.size ≤ q) s s.heap := va_Zof (hts _ t1) (hts _ t2) e2 hA
  have Z3 : va_Z RX2 "DIGITS" "[I" (.ref s3) (fun q => s.heap.size ≤ q) s s.heap := va_Zof (hts _ t3) (hts _ t4) e3 hA
  have Zc : va_Z "java/lang/String" "COMPACT_STRINGS" "Z" (.int 1) (fun q => s.heap.size ≤ q) s s.heap := va_Zof (hts _ t5) (hts _ t6) (va_eqi (hs _ gv_c.1)) hA
  have Zq : va_Zq "jdk/internal/util/Preconditions" "SIOOBE_FORMATTER" "Ljava/util/function/BiFunction;" (fun q => s.heap.size ≤ q) s s.heap := va_Zqof (hts _ t7) (hts _ t8) (hs _ gv_c.2) hA
  obtain ⟨adK, adV, hS, hev⟩ := vk_Sof (args := #[Value.ref b]) (s := s) (N := 2) (tm := tmS) (len := [12, 12]) (byt := [k_bl, k_bs]) (A := fun q => s.heap.size ≤ q) (by decide) (fun i hi => hs _ (gv_t1 i hi).1) (fun i hi => hs _ (gv_t1 i hi).2.1) (fun i hi => hs _ (gv_t1 i hi).2.2.1) (fun i hi => hs _ (gv_t1 i hi).2.2.2) (fun i hi j hj => hs _ (gv_t2 i hi j hj)) (fun i j hi hj hne => by
    rcases (by omega : (i = 0 ∧ j = 1) ∨ (i = 1 ∧ j = 0)) with ⟨rfl, rfl⟩ | ⟨rfl, rfl⟩
    · exact Or.inl (hs _ gv_t3)
    · exact Or.inr (hs _ gv_t3)) hA
  refine ⟨(fun k => match k with | 0 => c0 | 1 => c1 | 2 => c2 | 3 => c3 | 4 => c4 | 5 => c5 | 6 => c6 | _ => c7, fun k => match k with | 0 => i0 | 1 => i1 | 2 => i2 | 3 => i3 | 4 => i4 | 5 => i5 | 6 => i6 | _ => i7, fun k => match k with | 0 => a0 | 1 => a1 | 2 => a2 | _ => a3, fun k => match k with | 0 => adK 0 | 1 => adK 1 | 2 => s2 | 3 => s3 | _ => b, adV, s.heap.size, L, fun j => (xs j).toInt), rfl, rfl, rfl, rfl, ?_⟩
  refine ⟨Nat.le_refl _, ⟨fun k q hq => ?_, fun k q hq => ?_⟩, ⟨Z2, T2⟩, ⟨Z3, T3⟩, ⟨vk_R.of (hts _ t9) (hev 0 (by decide)), vk_R.of (hts _ t10) (hev 1 (by decide)), ?_, Zc, Zq, fun q hq => va_Nw.of rfl (hts _ (tb_n q hq))⟩, va_AO.of (hts _ t11), ?_, hbl⟩
  · match k, hq with
    | 0, hq => cases hq; exact k0
    | 1, hq => cases hq; exact k1
    | 2, hq => cases hq; exact k2
    | 3, hq => cases hq; exact k3
    | 4, hq => cases hq; exact k4
    | 5, hq => cases hq; exact k5
    | 6, hq => cases hq; exact k6
    | 7, hq => cases hq; exact k7
    | k + 8, hq => simp [vwCl] at hq
  · match k, hq with
    | 0, hq => cases hq; exact ⟨ar0, an0⟩
    | 1, hq => cases hq; exact ⟨ar1, an1⟩
    | 2, hq => cases hq; exact ⟨ar2, an2⟩
    | 3, hq => cases hq; exact ⟨ar3, an3⟩
    | k + 4, hq => simp [gT] at hq
  · refine ⟨fun i hi => ?_, fun i j hi hj e => ?_⟩
    · rcases (by omega : i = 0 ∨ i = 1) with rfl | rfl
      · exact hS.1 0 (by decide)
      · exact hS.1 1 (by decide)
    · rcases (by omega : i = 0 ∨ i = 1) with rfl | rfl <;> rcases (by omega : j = 0 ∨ j = 1) with rfl | rfl
      · rfl
      · exact hS.2 0 1 (by decide) (by decide) e
      · exact hS.2 1 0 (by decide) (by decide) e
      · rfl
  · have : (fun j => Int32.ofInt ((fun j => (xs j).toInt) j)) = xs := funext (fun j => X_back (xs j))
    show va_X b L (fun j => Int32.ofInt ((fun j => (xs j).toInt) j)) s s.heap
    rw [this]
    exact hX
set_option maxHeartbeats 4000000 in
/-- from the entry, for every script of at most 3072 ints, the law comes to its end with true -/
theorem whole_start {p : Program} {e : Env} {s : State} {m : MethodId} {below : List Frame} {meth : Method} {c : Code} (l : Launch) {b L : Nat} {xs : Nat → Int32} (hL : L ≤ 3072) (C0 : lw_At p s m meth c b L xs) : W p l e room_1 s m #[Value.ref b] below meth c s.heap [] 0 0 (lw_Z below #[Value.ref b] s) (entryFrame m ([Value.ref b] : List Value).toArray 4) := by
  obtain ⟨G, g1, g2, g3, g4, hF⟩ := fx_start C0
  obtain ⟨hx, hb, hr, hml, hown, hts, hX, hbl, hlocks, hgv, hnm⟩ := C0
  have hgW : ∀ q : Nat, gW G q ↔ s.heap.size ≤ q := fun q => by unfold gW; rw [g1]
  have hXo : ∀ j, okI ((fun j => (xs j).toInt) j) := fun j => okI_32 (xs j)
  obtain ⟨r0, w0, ⟨er, ew1, ew2⟩, hx0⟩ := MX.det (fun y args w Q Q' h m => m.mono h) (fun y args w Q h => CallD.det 9 y args w Q h) (law_all (N := L) (X := fun j => (xs j).toInt) hL (w := (0, 0, fun _ => ca 0 0 (fun _ => 0))) rfl rfl)
  have C : FCtx G p room_1 s m #[Value.ref b] meth c cL_law 4 x := ⟨hx, hb, hml, hown, fun w hw => hts w (List.mem_filter.mp hw).1, ⟨hnm, fun _ => ⟨by decide, by decide⟩⟩, hF, by decide, by decide⟩
  have hret : RetOK G p l e room_1 s m #[Value.ref b] below meth c cL_law 2 (lw_Z below #[Value.ref b] s) (fun _ => 0) 0 0 r0 w0 := by
    intro ad H locs ls pc a1 a2 a3 a4 a5 a6 a7 a8
    refine ⟨fun z hz _ hd => ?_, fun z hz => ?_, fun hz => ?_⟩
    · rw [er] at hz
      have ez : z = 1 := by
        have : (vi 1 : MV) = vi z := Option.some.inj hz
        exact (Sum.inl.inj this).symm
      subst ez
      refine va_forget (fun q hq => (hgW _).mp (a8.2.2 q hq)) ?_
      refine W.widen (k := 600000) (n := 7302250) (by omega) (by omega) ?_
      exact lw_ret hx hb hr hlocks hd
    · rw [er] at hz; cases hz
    · rw [er] at hz; cases hz
  have key := frame_sound m_all (snd_all m_all 9) (gp := fun G => gN G = L ∧ gX G = fun j => (xs j).toInt) (y := x) (cc := cL_law) (nL := 4) (rt := 2) (oz_L_law hL hXo) (l := l) (e := e) (R := room_1) (below := below) (Qm := lw_Z below #[Value.ref b] s) (ad0 := fun _ => 0) (n0 := 0) (s0 := 0) ⟨g2, g3⟩ C (by rw [ew1]; decide) (by rw [ew2]; decide) hret (by decide) (by decide) hx0
  have hLR := LR_ini G (fun _ => 0) (args := [vc 4]) (nL := 4) (by decide)
  have em4 : ([vc 4] : List MV).map (em G (fun _ => 0)) = [Value.ref b] := by
    show [Value.ref (gk G 4)] = _
    rw [g4]
  rw [em4] at hLR
  have k2 := key.2 (fun _ => 0) s.heap [] _ (Nat.le_refl _) (Nat.le_refl _) (fun _ _ => rfl) (fun k hk => absurd hk (Nat.not_lt_zero _)) (fun i v hv => ?_) (fun v hv => by cases hv) (fun k q h => by simp [wW] at h) ⟨fun i j p q h => by simp [wW] at h, fun k q h => by simp [wW] at h⟩ va_S.rf hLR
  · rw [lg_entry_eq]
    exact k2
  · match i, hv with
    | 0, hv => cases hv; trivial
    | 1, hv => cases hv
    | 2, hv => cases hv
    | 3, hv => cases hv
    | i + 4, hv => simp [lk] at hv
