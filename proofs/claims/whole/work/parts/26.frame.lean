/-! calls, and a method's whole frame -/
def QcM (G : GX) (ad : Nat → Nat) (w : Wd) (r : Option MV) (w' : Wd) : Array Value → State → Outcome → State → Prop := fun _ st oc t =>
  (∃ ad' : Nat → Nat, (∀ k, k < w.1 → ad' k = ad k) ∧ oc = .returned (r.map (em G ad')) ∧ va_P (gD G) vwCl (wW G ad' w') t.heap ∧ va_D (gW G) (wW G ad' w') ∧ okW w' ∧ (∀ v, r = some v → okV w'.1 v)) ∧ va_F (gW G) st t
def PcM (G : GX) (ad : Nat → Nat) (w : Wd) (args : List MV) : Array Value → State → Prop := va_Pc (args.map (em G ad)) (fun U => FX G U ∧ va_P (gD G) vwCl (wW G ad w) U.heap ∧ va_D (gW G) (wW G ad w))
def rmD (d mc ms : Nat) : Room := { frames := d, cells := mc, slots := ms, locals := 38 * d }
theorem PcM_blind {G : GX} {ad : Nat → Nat} {w : Wd} {args : List MV} : FrameBlind (PcM G ad w args) := fun a U g mk q => by
  obtain ⟨q1, q2, q3, q4⟩ := q
  exact ⟨q1, FX_call q2, q3, q4⟩
theorem callMM {p : Program} {l : Launch} {e : Env} {R : Room} {s : State} {m : MethodId} {args : Array Value} {below : List Frame} {meth : Method} {c : Code} {H : Heap} {locs : List Loc} {cells slots mc ms pc : Nat} {Q : State → Prop} {ls : Array Slot} {rest st0 : List Value} {a : Array Value} {G : GX} {ad : Nat → Nat} {w w' : Wd} {r : Option MV}
    (hr : va_Run p l e R s m args below meth c H locs cells slots mc ms (F0 m pc ls st0) rest (QcM G ad w r w' a) (gW G)) (hS : va_S (gW G) s.heap H locs)
    (kk : ∀ (ad' : Nat → Nat) (H1 : Heap) (locs1 : List Loc), (∀ k, k < w.1 → ad' k = ad k) → va_P (gD G) vwCl (wW G ad' w') H1 → va_D (gW G) (wW G ad' w') → okW w' → (∀ v, r = some v → okV w'.1 v) → va_S (gW G) s.heap H1 locs1 → W p l e R s m args below meth c H1 locs1 (cells + mc) (slots + ms) Q (F0 m (pc + 3) ls ((r.map (em G ad')).toList ++ rest))) : W p l e R s m args below meth c H locs cells slots Q (F0 m pc ls st0) := by
  intro T hT X
  obtain ⟨v, st₀, t, T', L, h0, X', hL, e1, e2, ⟨⟨ad', q1, hv, q2, q3, q4, q5⟩, hz, hk⟩, st⟩ := hr T hT X
  cases hv
  rw [h0] at hz hk
  obtain ⟨t2, a1, b1⟩ := kk ad' T'.heap (locs ++ L) q1 (by rw [e1]; exact q2) q3 q4 q5 ⟨Nat.le_trans hS.1 (by rw [e1]; exact hz), fun q h1 h2 => by rw [e1, hk q (Nat.lt_of_lt_of_le h1 hS.1) h2]; exact hS.2.1 q h1 h2, fun q hq => by
      rcases List.mem_append.mp hq with h | h
      · exact hS.2.2 q h
      · exact hL q h⟩ T' rfl X'
  exact ⟨t2, st t2 a1, b1⟩
def wsM (j : Nat) : List Cond := Cond.code (mname j) (mcode j) (mL j) (mret j) :: lw_g
def rk (t : Option FieldType) : Nat := match t with
  | none => 0
  | some .int => 1
  | some .boolean => 2
  | some .long => 3
  | _ => 9
/-- a call's words -/
def CLK (y : MethodName) (cc : ByteArray) (pc j k nx cv : Nat) : Prop := nx = pc + 3 ∧
  ((∃ (idx ci : Nat) (T : u_T) (N : Nat), cv = ci + 1 ∧ decode cc pc = .ok (.invokevirtual idx, 3) ∧ Cond.methodLink y.cls idx (mname j) ∈ lw_g ∧ Cond.instanceMethod (mname j) ∈ lw_g ∧ Cond.selects (mname j).cls (mname j) (mname j) ∈ lw_g ∧ vwCl[ci]? = some ((mname j).cls, T, N) ∧ (parseMethodDescriptor (mname j).desc).map (fun d => d.parameters.length + 1) = some k) ∨
   (∃ idx : Nat, cv = 0 ∧ decode cc pc = .ok (.invokestatic idx, 3) ∧ Cond.methodLink y.cls idx (mname j) ∈ lw_g ∧ Cond.static (mname j) ∈ lw_g ∧ (parseMethodDescriptor (mname j).desc).map (fun d => d.parameters.length) = some k) ∨
   (∃ idx ci : Nat, cv = ci + 1 ∧ decode cc pc = .ok (.invokespecial idx, 3) ∧ (Cond.methodLink y.cls idx (mname j) ∈ lw_g ∨ ∃ host, (y.cls, idx, mname j, host) ∈ nestL) ∧ Cond.instanceMethod (mname j) ∈ lw_g ∧ (mname j).name = "<init>" ∧ mret j = none ∧ (parseMethodDescriptor (mname j).desc).map (fun d => d.parameters.length + 1) = some k))
def OPK (gp : GX → Prop) (y : MethodName) (cc : ByteArray) (nL rt pc : Nat) (o : MOp) : Prop := match o with
  | Sum.inl f => FM f ∧ FOK gp f y cc nL rt pc
  | Sum.inr (j, k, nx, cv) => CLK y cc pc j k nx cv
def MOK (j : Nat) (e : Nat × (Nat → Option MOp)) : Prop :=
  (mL j = e.1 ∧ e.1 ≤ 19 ∧ plainName (mname j).cls = true ∧ Cond.code (mname j) (mcode j) (mL j) (mret j) ∈ lw_g ∧ Cond.initialized (mname j).cls ∈ lw_g ∧ (mname j).cls ≠ "java/lang/invoke/MethodHandle" ∧ (mname j).cls ≠ "java/lang/invoke/VarHandle" ∧ ((mname j).name = "addNotes" → ∀ d, needB j d → 3 ≤ d)) ∧
  ∀ pc o, e.2 pc = some o → OPK (fun _ => True) (mname j) (mcode j) e.1 (rk (mret j)) pc o
def MAll : Prop := ∀ j e, pgm j = some e → MOK j e
/-- cells only grow -/
theorem MX_grow {CALL : Cq} {c : Nat → Option MOp} (hc : ∀ pc f, c pc = some (Sum.inl f) → FM f) (hC : ∀ y args w Q, CALL y args w Q → ∃ r w', Q r w' ∧ w.1 ≤ w'.1 ∧ w.2.1 ≤ w'.2.1) {Q : Option MV → Wd → Prop} {pc : Nat} {L : Lc} {st : List MV} {w : Wd} (h : MX CALL c Q pc L st w) : ∃ r w', Q r w' ∧ w.1 ≤ w'.1 ∧ w.2.1 ≤ w'.2.1 := by
  refine h (fun pc L st w => ∃ r w', Q r w' ∧ w.1 ≤ w'.1 ∧ w.2.1 ≤ w'.2.1) (fun pc L st w hs => ?_)
  unfold StOK at hs
  cases hcc : c pc with
  | none => rw [hcc] at hs; exact hs.elim
  | some o =>
    rw [hcc] at hs
    cases o with
    | inl f =>
      simp only at hs
      cases hf : f L st w with
      | none => rw [hf] at hs; exact hs.elim
      | some x =>
        have hm := hc pc f hcc L st w x hf
        rw [hf] at hs
        cases x with
        | inl y =>
          obtain ⟨r, w', h1, h2, h3⟩ := hs
          exact ⟨r, w', h1, Nat.le_trans hm.1 h2, Nat.le_trans hm.2 h3⟩
        | inr y => exact ⟨y.1, y.2, hs, hm.1, hm.2⟩
    | inr y =>
      obtain ⟨y, k, nx, cv⟩ := y
      obtain ⟨h1, h2, h3, h4⟩ := hs
      obtain ⟨r1, w1, ⟨r, w', h5, h6, h7⟩, h8, h9⟩ := hC _ _ _ _ h4
      exact ⟨r, w', h5, Nat.le_trans h8 h6, Nat.le_trans h9 h7⟩
theorem CallD_grow (hM : MAll) (d : Nat) : ∀ (j : Nat) (args : List MV) (w : Wd) (Q : Option MV → Wd → Prop), CallD pgm d j args w Q → ∃ r w', Q r w' ∧ w.1 ≤ w'.1 ∧ w.2.1 ≤ w'.2.1 := by
  induction d with
  | zero => intro j args w Q h; exact h.elim
  | succ d ih =>
    intro j args w Q h
    obtain ⟨nL, c, h1, hN, h2, h3⟩ := h
    exact MX_grow (CALL := CallD pgm d) (fun pc f hf => ((hM j _ h1).2 pc _ hf).1) ih h3
theorem CallD_growS (hM : MAll) {d j : Nat} {args : List MV} {w w' : Wd} {r : Option MV} (h : CallD pgm d j args w (fun r1 w1 => r1 = r ∧ w1 = w')) : w.1 ≤ w'.1 ∧ w.2.1 ≤ w'.2.1 := by
  obtain ⟨r1, w1, ⟨-, rfl⟩, h1, h2⟩ := CallD_grow hM d _ _ _ _ h
  exact ⟨h1, h2⟩
/-- what is shown of all methods at depth d -/
def SND (d : Nat) : Prop := ∀ (j : Nat) (args : List MV) (w : Wd) (r : Option MV) (w' : Wd), CallD pgm d j args w (fun r1 w1 => r1 = r ∧ w1 = w') → okW w → okSt w.1 args → ∀ (G : GX) (l : Launch) (ad : Nat → Nat),
  Met l (mname j) (wsM j) (rmD d (w'.1 - w.1) (w'.2.1 - w.2.1)) (PcM G ad w args) (QcM G ad w r w') (w'.1 - w.1) (w'.2.1 - w.2.1) (gW G)
theorem good_wsM {j : Nat} (h : Cond.code (mname j) (mcode j) (mL j) (mret j) ∈ lw_g) : GoodIn lw_g (wsM j) := by
  intro w hw
  rcases List.mem_cons.mp hw with e | e
  · rw [e]; exact ⟨h, good_of_word (List.mem_filter.mp h).2⟩
  · exact ⟨e, good_of_word (List.mem_filter.mp e).2⟩
theorem CallD_in {d j : Nat} {args : List MV} {w : Wd} {Q : Option MV → Wd → Prop} (h : CallD pgm d j args w Q) : ∃ e, pgm j = some e := by
  cases d with
  | zero => exact h.elim
  | succ d => obtain ⟨nL, c, h1, -⟩ := h; exact ⟨_, h1⟩
theorem psh_map {G : GX} {ad : Nat → Nat} (r : Option MV) (l : List MV) : (psh r l).map (em G ad) = (r.map (em G ad)).toList ++ l.map (em G ad) := by cases r <;> rfl
set_option maxHeartbeats 4000000 in
theorem frame_sound (hM : MAll) {d : Nat} (hS : SND d) {gp : GX → Prop} {y : MethodName} {cc : ByteArray} {nL rt : Nat} {c0 : Nat → Option MOp} (hops : ∀ pc o, c0 pc = some o → OPK gp y cc nL rt pc o)
    {G : GX} {p : Program} {l : Launch} {e : Env} {R : Room} {s : State} {m : MethodId} {args : Array Value} {below : List Frame} {meth : Method} {c : Code} {Qm : State → Prop} {ad0 : Nat → Nat} {n0 s0 : Nat} {r0 : Option MV} {w0 : Wd}
    (hgp : gp G) (C : FCtx G p R s m args meth c cc nL y) (hcl : w0.1 - n0 ≤ R.cells) (hsl : w0.2.1 - s0 ≤ R.slots) (hret : RetOK G p l e R s m args below meth c cc rt Qm ad0 n0 s0 r0 w0) (hRf : d + 1 ≤ R.frames) (hRl : 38 * d + 38 ≤ R.locals)
    {pc : Nat} {L : Lc} {st : List MV} {w : Wd} (h : MX (CallD pgm d) c0 (fun r1 w1 => r1 = r0 ∧ w1 = w0) pc L st w) : WPd G p l e R s m args below meth c nL Qm ad0 n0 s0 w0 pc L st w := by
  refine h (WPd G p l e R s m args below meth c nL Qm ad0 n0 s0 w0) (fun pc L st w hs => ?_)
  unfold StOK at hs
  cases hcc : c0 pc with
  | none => rw [hcc] at hs; exact hs.elim
  | some o =>
    rw [hcc] at hs
    have ho := hops pc o hcc
    cases o with
    | inl f =>
      simp only at hs
      refine ho.2 G p l e R s m args below meth c Qm ad0 n0 s0 r0 w0 hgp C hcl hsl hret L st w ?_
      cases hf : f L st w with
      | none => rw [hf] at hs; exact hs.elim
      | some x =>
        rw [hf] at hs
        cases x with
        | inl y => exact hs
        | inr y => exact hs
    | inr q =>
      obtain ⟨j, k, nx, cv⟩ := q
      obtain ⟨h1, h2, h3, h4⟩ := hs
      obtain ⟨r1, w1, hP, h5⟩ := CallD.det d _ _ _ _ h4
      obtain ⟨e1, he1⟩ := CallD_in h5
      obtain ⟨⟨m1, m2, m3, m4, m5, m6, m7, m8⟩, -⟩ := hM j e1 he1
      have hg := CallD_growS hM h5
      obtain ⟨hx, hb, hml, hown, hts, hname, hF, hfr, hlo⟩ := C
      refine ⟨⟨Nat.le_trans hg.1 hP.1.1, Nat.le_trans hg.2 hP.1.2⟩, fun ad H locs ls a1 a2 a3 a4 a5 a6 a7 a8 a9 a10 => ?_⟩
      have hb1 := hP.1.1
      have hb2 := hP.1.2
      have hargs : okSt w.1 (st.take k).reverse := fun v hv => a6 v (List.mem_of_mem_take (List.mem_reverse.mp hv))
      have hrest : okSt w.1 (st.drop k) := fun v hv => a6 v (List.mem_of_mem_drop hv)
      have hMet := hS j _ w r1 w1 h5 a4 hargs G l ad
      have hst : st.map (em G ad) = ((st.take k).reverse.map (em G ad)).reverse ++ (st.drop k).map (em G ad) := by
        rw [List.map_reverse, List.reverse_reverse, ← List.map_append, List.take_append_drop]
      have hlen : ((st.take k).reverse).length = k := by rw [List.length_reverse, List.length_take]; omega
      have hW0 : 2 * (F0 m pc ls (st.map (em G ad))).monitorRoom + (((st.drop k).map (em G ad)).map fun v => v.category).sum ≤ 8 := by
        have := cat_sum ((st.drop k).map (em G ad))
        rw [List.length_map] at this
        show 2 * 0 + _ ≤ 8
        omega
      have hroom : (w.1 - n0) + (w1.1 - w.1) ≤ R.cells ∧ (w.2.1 - s0) + (w1.2.1 - w.2.1) ≤ R.slots := ⟨by omega, by omega⟩
      have hpay : ∀ w ∈ wsM j, ∀ (a' : Array Value) (U : State), s.WarmedH U.vm → w.before a' U = true := pay_in hts (good_wsM m4)
      have hpre : ∀ U : State, U.heap = H → s.WarmedH U.vm → PcM G ad w (st.take k).reverse ((st.take k).reverse.map (em G ad)).toArray U := fun U hU hW => ⟨rfl, FX_go hF a9 hU hW, by rw [hU]; exact a7, a8⟩
      have kk2 : ∀ (ad' : Nat → Nat) (H1 : Heap) (locs1 : List Loc), (∀ k, k < w.1 → ad' k = ad k) → va_P (gD G) vwCl (wW G ad' w1) H1 → va_D (gW G) (wW G ad' w1) → okW w1 → (∀ v, r1 = some v → okV w1.1 v) → va_S (gW G) s.heap H1 locs1 → W p l e R s m args below meth c H1 locs1 ((w.1 - n0) + (w1.1 - w.1)) ((w.2.1 - s0) + (w1.2.1 - w.2.1)) Qm (F0 m (pc + 3) ls ((r1.map (em G ad')).toList ++ (st.drop k).map (em G ad))) := by
        intro ad' H1 locs1 q1 q2 q3 q4 q5 q6
        have k3 := hP.2 ad' H1 locs1 ls (by omega) (by omega) (fun k hk => (q1 k (by omega)).trans (a3 k hk)) q4 (fun i v hv => okV_mono hg.1 (a5 i v hv)) (by
          cases r1 with
          | none => exact fun v hv => okV_mono hg.1 (hrest v hv)
          | some v => exact okS_c (q5 v rfl) (fun v hv => okV_mono hg.1 (hrest v hv))) q2 q3 q6 (LR_congr q1 a5 a10)
        rw [psh_map, emS_congr q1 hrest] at k3
        have z1 : w1.1 - n0 = (w.1 - n0) + (w1.1 - w.1) := by omega
        have z2 : w1.2.1 - s0 = (w.2.1 - s0) + (w1.2.1 - w.2.1) := by omega
        rw [z1, z2] at k3
        have hnx : nx = pc + 3 := ho.1
        rw [hnx] at k3
        exact k3
      have hcb : ∀ (n : Nat), (∀ sig, parseMethodDescriptor (mname j).desc = some sig → n = sig.parameters.length) → ∀ idx, (Cond.methodLink y.cls idx (mname j)).before args s = true → CallB R s args y.cls idx (mname j) (mcode j) (mL j) (mret j) (wsM j) (rmD d (w1.1 - w.1) (w1.2.1 - w.2.1)) (w1.1 - w.1) (w1.2.1 - w.2.1) n := fun n hn idx hl => ⟨rfl, rfl, hRf, by show 8 + (mL j + 11) + 38 * d ≤ _; omega, hpay, List.mem_cons_self, hts _ m4, hts _ m5, ⟨m6, m7⟩, hn, hl⟩
      rcases ho.2 with ⟨idx, ci, T, N, rfl, c2, c3, c4, c5, c6, c7⟩ | ⟨idx, rfl, c2, c3, c4, c7⟩ | ⟨idx, ci, rfl, c2, c3, c4, c5, c6, c7⟩
      · obtain ⟨a, As, fs, e3, e4⟩ := h3
        rw [e3] at hMet hst hpre hlen
        have ha : okV w.1 (vr a) := hargs (vr a) (by rw [e3]; exact List.mem_cons_self)
        have he : (wW G ad w)[a]? = some (ad a, .inr (ci, fs.map (em G ad))) := by rw [wW_at ha, e4]; rfl
        refine callMM (va_runV (Ts := lw_g) (own := y.cls) (index := idx) (C := (mname j).cls) (b := ad a) (As := As.map (em G ad)) (rest := (st.drop k).map (em G ad)) (n := As.length) ⟨hx, hb, hml, hown, hts⟩ hMet ⟨hcb As.length (fun sig hs => ?_) idx (hts _ c3), hts _ c4, hts _ c5⟩ ⟨PcM_blind, va_recv hF.2.1 a7 c6 he, hpre⟩ rfl (List.length_map _) a10.1 (by rw [hst]; simp [em, va_rf]) hW0 c2 hroom) a9 kk2
        rw [hs] at c7
        have c8 : sig.parameters.length + 1 = k := Option.some.inj c7
        simp only [List.length_cons] at hlen
        omega
      · refine callMM (va_runS (Ts := lw_g) (own := y.cls) (index := idx) (As := (st.take k).reverse.map (em G ad)) (rest := (st.drop k).map (em G ad)) (n := k) ⟨hx, hb, hml, hown, hts⟩ hMet ⟨hcb k (fun sig hs => ?_) idx (hts _ c3), hts _ c4⟩ ⟨PcM_blind, hpre⟩ rfl (by rw [List.length_map]; exact hlen) a10.1 hst hW0 c2 hroom) a9 kk2
        rw [hs] at c7
        exact (Option.some.inj c7).symm
      · obtain ⟨a, As, fs, e3, e4⟩ := h3
        rw [e3] at hMet hst hpre hlen
        have hn9 : ∀ sig, parseMethodDescriptor (mname j).desc = some sig → As.length = sig.parameters.length := fun sig hs => by
          rw [hs] at c7
          have c8 : sig.parameters.length + 1 = k := Option.some.inj c7
          simp only [List.length_cons] at hlen
          omega
        rcases c3 with c3 | ⟨host, c3⟩
        · have cb := hcb As.length hn9 idx (hts _ c3)
          rw [c6] at cb
          exact callMM (va_runI (Ts := lw_g) (own := y.cls) (index := idx) (b := ad a) (As := As.map (em G ad)) (rest := (st.drop k).map (em G ad)) (n := As.length) ⟨hx, hb, hml, hown, hts⟩ hMet ⟨cb, c5, hts _ c4⟩ ⟨PcM_blind, hpre⟩ rfl (List.length_map _) a10.1 (by rw [hst]; simp [em, va_rf]) hW0 c2 hroom) a9 kk2
        · have hnest := hF.2.2.2.2.1.2.2.2.2.2 _ c3
          refine callMM (va_runIN (Ts := lw_g) (own := y.cls) (host := host) (index := idx) (bytes := mcode j) (maxL := mL j) (b := ad a) (As := As.map (em G ad)) (rest := (st.drop k).map (em G ad)) (n := As.length) ⟨hx, hb, hml, hown, hts⟩ hMet ⟨⟨⟨rfl, rfl, hRf, by show 8 + (mL j + 11) + 38 * d ≤ _; omega, hpay, by rw [← c6]; exact List.mem_cons_self⟩, by rw [← c6]; exact hts _ m4, hts _ m5, ⟨m6, m7⟩, hn9, va_Nw.use rfl hnest⟩, c5, hts _ c4⟩ ⟨PcM_blind, hpre⟩ rfl (List.length_map _) a10.1 (by rw [hst]; simp [em, va_rf]) hW0 c2 hroom) a9 kk2
