/-! a method's entry, its ends; all methods by induction on the depth -/
theorem lk_rep (n i : Nat) : lk (List.replicate n (none : Option MV)) i = none := by
  induction n generalizing i with
  | zero => rfl
  | succ n ih =>
    cases i with
    | zero => rfl
    | succ i => exact ih i
theorem lk_app : ∀ (A : Lc) (n i : Nat) (v : MV), lk (A ++ List.replicate n none) i = some v → lk A i = some v
  | [], n, i, v, h => by rw [List.nil_append, lk_rep] at h; cases h
  | _ :: _, _, 0, _, h => h
  | _ :: r, n, i + 1, v, h => lk_app r n i v h
theorem slo_mem : ∀ (args : List MV) (i : Nat) (v : MV), lk (slo args) i = some v → v ∈ args
  | [], _, _, h => by simp [slo, lk] at h
  | Sum.inr (Sum.inl z) :: r, i, v, h => by
    match i, h with
    | 0, h => simp only [slo, lk, Option.some.injEq] at h; rw [← h]; exact List.mem_cons_self
    | 1, h => simp [slo, lk] at h
    | i + 2, h => exact List.mem_cons_of_mem _ (slo_mem r i v h)
  | Sum.inl z :: r, i, v, h => by
    match i, h with
    | 0, h => simp only [slo, lk, Option.some.injEq] at h; rw [← h]; exact List.mem_cons_self
    | i + 1, h => exact List.mem_cons_of_mem _ (slo_mem r i v h)
  | Sum.inr (Sum.inr z) :: r, i, v, h => by
    match i, h with
    | 0, h => simp only [slo, lk, Option.some.injEq] at h; rw [← h]; exact List.mem_cons_self
    | i + 1, h => exact List.mem_cons_of_mem _ (slo_mem r i v h)
theorem em_cat1 {G : GX} {ad : Nat → Nat} {x : Option Nat ⊕ Nat} : (em G ad (Sum.inr (Sum.inr x))).category = 1 := by
  rcases x with (_ | a) | k <;> rfl
theorem slo_args (G : GX) (ad : Nat → Nat) : ∀ (args : List MV) (i0 i : Nat) (v : MV), lk (slo args) i = some v → (i0 + i, em G ad v) ∈ lv_args i0 (args.map (em G ad))
  | [], _, _, _, h => by simp [slo, lk] at h
  | Sum.inr (Sum.inl z) :: r, i0, i, v, h => by
    rw [List.map_cons, lv_args, if_pos (show (em G ad (Sum.inr (Sum.inl z))).category = 2 from rfl)]
    match i, h with
    | 0, h => simp only [slo, lk, Option.some.injEq] at h; rw [← h]; exact List.mem_cons_self
    | 1, h => simp [slo, lk] at h
    | i + 2, h =>
      have := slo_args G ad r (i0 + 2) i v h
      rw [show i0 + 2 + i = i0 + (i + 2) by omega] at this
      exact List.mem_cons_of_mem _ this
  | Sum.inl z :: r, i0, i, v, h => by
    rw [List.map_cons, lv_args, if_neg (show ¬ (em G ad (Sum.inl z)).category = 2 from fun q => by cases q)]
    match i, h with
    | 0, h => simp only [slo, lk, Option.some.injEq] at h; rw [← h]; exact List.mem_cons_self
    | i + 1, h =>
      have := slo_args G ad r (i0 + 1) i v h
      rw [show i0 + 1 + i = i0 + (i + 1) by omega] at this
      exact List.mem_cons_of_mem _ this
  | Sum.inr (Sum.inr z) :: r, i0, i, v, h => by
    rw [List.map_cons, lv_args, if_neg (show ¬ (em G ad (Sum.inr (Sum.inr z))).category = 2 from fun q => by rw [em_cat1] at q; cases q)]
    match i, h with
    | 0, h => simp only [slo, lk, Option.some.injEq] at h; rw [← h]; exact List.mem_cons_self
    | i + 1, h =>
      have := slo_args G ad r (i0 + 1) i v h
      rw [show i0 + 1 + i = i0 + (i + 1) by omega] at this
      exact List.mem_cons_of_mem _ this
theorem slo_len (G : GX) (ad : Nat → Nat) : ∀ (args : List MV), (lg_sl (args.map (em G ad))).length = (slo args).length
  | [] => rfl
  | Sum.inr (Sum.inl z) :: r => by
    have := slo_len G ad r
    simp only [lg_sl] at this
    simp only [lg_sl, List.map_cons, List.flatMap_cons, List.length_append, if_pos (show (em G ad (Sum.inr (Sum.inl z))).category = 2 from rfl), this, slo, List.length_cons, List.length_nil]
    omega
  | Sum.inl z :: r => by
    have := slo_len G ad r
    simp only [lg_sl] at this
    simp only [lg_sl, List.map_cons, List.flatMap_cons, List.length_append, if_neg (show ¬ (em G ad (Sum.inl z)).category = 2 from fun q => by cases q), this, slo, List.length_cons, List.length_nil]
    omega
  | Sum.inr (Sum.inr z) :: r => by
    have := slo_len G ad r
    simp only [lg_sl] at this
    simp only [lg_sl, List.map_cons, List.flatMap_cons, List.length_append, if_neg (show ¬ (em G ad (Sum.inr (Sum.inr z))).category = 2 from fun q => by rw [em_cat1] at q; cases q), this, slo, List.length_cons, List.length_nil]
    omega
theorem LR_ini (G : GX) (ad : Nat → Nat) {args : List MV} {nL : Nat} (h : (slo args).length ≤ nL) : LR G ad nL (ini nL args) ((lg_sl (args.map (em G ad)) ++ List.replicate (nL - (lg_sl (args.map (em G ad))).length) Slot.unset).toArray) := by
  obtain ⟨h1, h2, h3⟩ := lv_entry (args.map (em G ad)) (n := nL) (by rw [slo_len]; exact h)
  refine ⟨h1, ?_, h2, fun i v hv => ?_⟩
  · unfold ini; rw [List.length_append, List.length_replicate]; omega
  · have := slo_args G ad args 0 i v (lk_app _ _ _ _ hv)
    rw [Nat.zero_add] at this
    exact h3 _ this
theorem okL_ini {n nL : Nat} {args : List MV} (h : okSt n args) : okLs n (ini nL args) := fun i v hv => h v (slo_mem args i v (lk_app _ _ _ _ hv))
set_option maxHeartbeats 4000000 in
theorem ret_ok {G : GX} {p : Program} {l : Launch} {e : Env} {R : Room} {s : State} {m : MethodId} {args : Array Value} {below : List Frame} {meth : Method} {c : Code} {cc : ByteArray} {ad0 : Nat → Nat} {w w0 : Wd} {r0 : Option MV} {ret : Option FieldType}
    (hx : p.tables.exec = Jvm.exec) (hb : c.code = cc) (hr : meth.sig.returnType = ret) (hlocks : meth.locks = false) : RetOK G p l e R s m args below meth c cc (rk ret) (MQ below (QcM G ad0 w r0 w0) args s (w0.1 - w.1) (w0.2.1 - w.2.1) (gW G)) ad0 w.1 w.2.1 r0 w0 := by
  intro ad H locs ls pc a1 a2 a3 a4 a5 a6 a7 a8
  have hq : ∀ (v : Option Value), v = r0.map (em G ad) → ∀ t : State, t.heap = H → s.WarmedH t.vm → QcM G ad0 w r0 w0 args s (.returned v) t := fun v hv t ht hW => ⟨⟨ad, a3, by rw [hv], by rw [ht]; exact a6, a7, a4, a5⟩, a8.F ht⟩
  refine ⟨fun z hz hrt hd => ?_, fun z hz hrt hd => ?_, fun hz hrt hd => ?_⟩
  · rcases ret with _ | ty
    · rcases hrt with q | q
      · cases q
      · cases q.1
    · refine W.zret (ty := ty) hx hb hr ?_ (hq _ (by rw [hz]; rfl)) a8.2.2 hd
      rcases hrt with q | ⟨q, z0 | z1⟩
      · cases ty <;> first | rfl | (cases q)
      · subst z0; cases ty <;> first | rfl | (cases q)
      · subst z1; cases ty <;> first | rfl | (cases q)
  · have hr3 : ret = some .long := by
      rcases ret with _ | ty
      · cases hrt
      · cases ty <;> first | rfl | (cases hrt)
    exact W.lret hx hb (hr.trans hr3) (hq _ (by rw [hz]; rfl)) a8.2.2 hd
  · have hr0 : ret = none := by
      rcases ret with _ | ty
      · rfl
      · cases ty <;> cases hrt
    exact W.vret hx hb (hr.trans hr0) (hq _ (by rw [hz]; rfl)) a8.2.2 hd
set_option maxHeartbeats 4000000 in
theorem snd_all (hM : MAll) (d : Nat) : SND d := by
  induction d with
  | zero => intro j args w r w' h; exact h.elim
  | succ d ih =>
    intro j args w r w' h hw hargs G l ad
    have hg := CallD_growS hM h
    obtain ⟨nL, c0, hp, hN, hlen, hx0⟩ := h
    obtain ⟨⟨m1, m2, m3, m4, m5, m6, m7, m8⟩, hops⟩ := hM j _ hp
    have m1 : mL j = nL := m1
    have m2 : nL ≤ 19 := m2
    refine Met.ofW (cc := mcode j) (maxL := mL j) (ret := mret j) m3 rfl ?_
    intro p e s m args' below meth c s₁ B hml hv
    obtain ⟨rfl, hF, hP, hD⟩ := hv
    have hts := atoms_spec (ws := wsM j) B.pre
    have C : FCtx G p (headSpec (wsM j) (rmD (d + 1) (w'.1 - w.1) (w'.2.1 - w.2.1))).room s m (args.map (em G ad)).toArray meth c (mcode j) nL (mname j) :=
      ⟨B.exec, B.bytes, hml.trans m1, findClass_of_methodNamed B.named, fun x hx => hts x (List.mem_cons_of_mem _ hx), ⟨(name_of_methodNamed B.named B.method).1, fun hnm => by have := m8 hnm d hN; exact ⟨by show 4 ≤ d + 1; omega, by show 85 ≤ 38 * (d + 1); omega⟩⟩, hF, Nat.le_add_left _ _, by show 38 ≤ 38 * (d + 1); omega⟩
    have key := frame_sound hM ih (gp := fun _ => True) (y := mname j) (cc := mcode j) (nL := nL) (rt := rk (mret j)) hops (l := l) (e := e) (below := below) (Qm := MQ below (QcM G ad w r w') (args.map (em G ad)).toArray s (w'.1 - w.1) (w'.2.1 - w.2.1) (gW G)) (ad0 := ad) (n0 := w.1) (s0 := w.2.1) (r0 := r) (w0 := w') trivial C (Nat.le_refl _) (Nat.le_refl _) (ret_ok B.exec B.bytes B.returns B.notSynchronized) (Nat.le_refl _) (by show 38 * d + 38 ≤ 38 * (d + 1); omega) hx0
    have k2 := key.2 ad s.heap [] _ (Nat.le_refl _) (Nat.le_refl _) (fun _ _ => rfl) hw (okL_ini hargs) (fun v hv => by cases hv) hP hD va_S.rf (LR_ini G ad hlen)
    rw [Nat.sub_self, Nat.sub_self] at k2
    rw [lg_entry_eq, m1]
    exact k2
