section OS2
set_option maxHeartbeats 1000000 in
theorem os_getf {gp : GX → Prop} {y : MethodName} {cc : ByteArray} {nL : Nat} {rt : Nat} {pc : Nat} {C : String} {T : u_T} {N ci k index : Nat} (hc : vwCl[ci]? = some (C, T, N)) (hin : ∀ w ∈ u_ws C T N, w ∈ lw_g) (hk : k < N) (hlink : Cond.fieldLink y.cls index (T k).1 (T k).2.1 (T k).2.2.1 ∈ lw_g) (hd : decode cc pc = .ok (.getfield index, 3)) : FOK gp (o_getf ci k (pc + 3)) y cc nL rt pc := by
  intro G p l e R s m args below meth c Qm ad0 n0 s0 r0 w0 hgp C hcl hsl hret L st w h
  obtain ⟨hx, hb, hml, hown, hts, hname, hF, hfr, hlo⟩ := C
  rcases st with _ | ⟨x | x | (_ | a) | x, r⟩ <;> try exact False.elim h
  rcases hq : hp w a with ⟨t, n, f⟩ | ⟨n, f⟩ | ⟨ci', fs⟩
  · simp only [o_getf, hq] at h
  · simp only [o_getf, hq] at h
  · by_cases hci : ci' = ci
    · subst hci
      rcases hv : fs[k]? with _ | v
      · simp only [o_getf, hq, hv, if_true] at h
      · skip
        have kq : WPd G p l e R s m args below meth c nL Qm ad0 n0 s0 w0 (pc + 3) L (v :: r) w := by
          simp only [o_getf, hq, hv, if_true] at h
          exact h
        refine ⟨kq.1, fun ad H locs ls a1 a2 a3 a4 a5 a6 a7 a8 a9 a10 => ?_⟩
        have ha : a < w.1 := okS_h a6
        have he : (wW G ad w)[a]? = some (ad a, .inr (ci', fs.map (em G ad))) := by rw [wW_at ha, hq]; rfl
        have hok := a4 a ha
        rw [hq] at hok
        refine va_get (D := gD G) (ci := ci') (v := em G ad v) (C := C) (T := T) (N := N) (own := y.cls) hx hb hts hin hown hF.2.1 a7 a he hc k hk (hts _ hlink) (fun _ h9 => h9) (by rw [List.getElem?_map, hv]; rfl) hd ?_
        exact kq.2 ad H locs ls a1 a2 a3 a4 a5 (okS_c (hok v (List.mem_of_getElem? hv)) (okS_t a6)) a7 a8 a9 a10
    · simp only [o_getf, hq, if_neg hci] at h

set_option maxHeartbeats 1000000 in
theorem os_putI {gp : GX → Prop} {y : MethodName} {cc : ByteArray} {nL : Nat} {rt : Nat} {pc : Nat} {C : String} {T : u_T} {N ci k index : Nat} (hc : vwCl[ci]? = some (C, T, N)) (hin : ∀ w ∈ u_ws C T N, w ∈ lw_g) (hk : k < N) (hlink : Cond.fieldLink y.cls index (T k).1 (T k).2.1 (T k).2.2.1 ∈ lw_g) {ty0 : Nat → FieldType} (hty : ∀ k, k < N → parseFieldDescriptor (T k).2.2.1 = some (ty0 k)) (hnm : ∀ a, a < N → ∀ b, b < N → a ≠ b → (T a).2.1 ≠ (T b).2.1) (hfin : (T k).2.2.2 = false) (hpd : parseFieldDescriptor (T k).2.2.1 = some .int) (hd : decode cc pc = .ok (.putfield index, 3)) : FOK gp (o_putI ci k (pc + 3)) y cc nL rt pc := by
  intro G p l e R s m args below meth c Qm ad0 n0 s0 r0 w0 hgp C hcl hsl hret L st w h
  obtain ⟨hx, hb, hml, hown, hts, hname, hF, hfr, hlo⟩ := C
  rcases st with _ | ⟨z | z, _ | ⟨x | x | (_ | a) | x, r⟩⟩ <;> try exact False.elim h
  rcases hq : hp w a with ⟨t, n, f⟩ | ⟨n, f⟩ | ⟨ci', fs⟩
  · simp only [o_putI, hq] at h
  · simp only [o_putI, hq] at h
  · by_cases hci : ci' = ci ∧ k < fs.length
    · obtain ⟨rfl, hl⟩ := hci
      have kq : WPd G p l e R s m args below meth c nL Qm ad0 n0 s0 w0 (pc + 3) L r (pt w a (co ci' (fs.set k (vi z)))) := by
        simp only [o_putI, hq, true_and, if_pos hl] at h
        exact h
      refine ⟨kq.1, fun ad H locs ls a1 a2 a3 a4 a5 a6 a7 a8 a9 a10 => ?_⟩
      have ha : a < w.1 := okS_h (okS_t a6)
      have he : (wW G ad w)[a]? = some (ad a, .inr (ci', fs.map (em G ad))) := by rw [wW_at ha, hq]; rfl
      have hok := a4 a ha
      rw [hq] at hok
      have hok2 : okC w.1 (co ci' (fs.set k (vi z))) := fun u hu => by
        rcases List.mem_or_eq_of_mem_set hu with e | e
        · exact hok u e
        · rw [e]; exact okS_h a6
      have e2 : (wW G ad w).set a (ad a, .inr (ci', (fs.map (em G ad)).set k (.int (Int32.ofInt z)))) = wW G ad (pt w a (co ci' (fs.set k (vi z)))) := by
        rw [← wW_set]
        simp only [eC, List.map_set]
        rfl
      refine va_put (D := gD G) (ci := ci') (v := .int (Int32.ofInt z)) (ty := .int) (C := C) (T := T) (N := N) (own := y.cls) hx hb hts hin ty0 hty hnm hown hF.2.1 a7 a8 a9 a he hc k hk (hts _ hlink) (fun _ h9 => h9) hfin hpd rfl rfl (by rw [List.length_map]; exact hl) hd (fun H1 locs1 b1 b2 b3 => ?_)
      rw [e2] at b1 b2
      exact kq.2 ad H1 locs1 ls a1 a2 a3 (okW_pt a4 hok2) a5 (okS_t (okS_t a6)) b1 b2 b3 a10
    · simp only [o_putI, hq, if_neg hci] at h

set_option maxHeartbeats 1000000 in
theorem os_putR {gp : GX → Prop} {y : MethodName} {cc : ByteArray} {nL : Nat} {rt : Nat} {pc : Nat} {C : String} {T : u_T} {N ci k index : Nat} (hc : vwCl[ci]? = some (C, T, N)) (hin : ∀ w ∈ u_ws C T N, w ∈ lw_g) (hk : k < N) (hlink : Cond.fieldLink y.cls index (T k).1 (T k).2.1 (T k).2.2.1 ∈ lw_g) {ty0 : Nat → FieldType} (hty : ∀ k, k < N → parseFieldDescriptor (T k).2.2.1 = some (ty0 k)) (hnm : ∀ a, a < N → ∀ b, b < N → a ≠ b → (T a).2.1 ≠ (T b).2.1) {ty : FieldType} (hfin : (T k).2.2.2 = false) (hpd : parseFieldDescriptor (T k).2.2.1 = some ty) (hft : ∀ x : Nat, fits ty (.ref x) = true ∧ narrow ty (.ref x) = .ref x) (hd : decode cc pc = .ok (.putfield index, 3)) : FOK gp (o_putR ci k (pc + 3)) y cc nL rt pc := by
  intro G p l e R s m args below meth c Qm ad0 n0 s0 r0 w0 hgp C hcl hsl hret L st w h
  obtain ⟨hx, hb, hml, hown, hts, hname, hF, hfr, hlo⟩ := C
  rcases st with _ | ⟨z | z | (_ | z) | z, _ | ⟨x | x | (_ | a) | x, r⟩⟩ <;> try exact False.elim h
  rcases hq : hp w a with ⟨t, n, f⟩ | ⟨n, f⟩ | ⟨ci', fs⟩
  · simp only [o_putR, hq] at h
  · simp only [o_putR, hq] at h
  · by_cases hci : ci' = ci ∧ k < fs.length
    · obtain ⟨rfl, hl⟩ := hci
      have kq : WPd G p l e R s m args below meth c nL Qm ad0 n0 s0 w0 (pc + 3) L r (pt w a (co ci' (fs.set k (vr z)))) := by
        simp only [o_putR, hq, true_and, if_pos hl] at h
        exact h
      refine ⟨kq.1, fun ad H locs ls a1 a2 a3 a4 a5 a6 a7 a8 a9 a10 => ?_⟩
      have ha : a < w.1 := okS_h (okS_t a6)
      have he : (wW G ad w)[a]? = some (ad a, .inr (ci', fs.map (em G ad))) := by rw [wW_at ha, hq]; rfl
      have hok := a4 a ha
      rw [hq] at hok
      have hok2 : okC w.1 (co ci' (fs.set k (vr z))) := fun u hu => by
        rcases List.mem_or_eq_of_mem_set hu with e | e
        · exact hok u e
        · rw [e]; exact okS_h a6
      have e2 : (wW G ad w).set a (ad a, .inr (ci', (fs.map (em G ad)).set k (.ref (ad z)))) = wW G ad (pt w a (co ci' (fs.set k (vr z)))) := by
        rw [← wW_set]
        simp only [eC, List.map_set]
        rfl
      refine va_put (D := gD G) (ci := ci') (v := .ref (ad z)) (ty := ty) (C := C) (T := T) (N := N) (own := y.cls) hx hb hts hin ty0 hty hnm hown hF.2.1 a7 a8 a9 a he hc k hk (hts _ hlink) (fun _ h9 => h9) hfin hpd (hft _).2 (hft _).1 (by rw [List.length_map]; exact hl) hd (fun H1 locs1 b1 b2 b3 => ?_)
      rw [e2] at b1 b2
      exact kq.2 ad H1 locs1 ls a1 a2 a3 (okW_pt a4 hok2) a5 (okS_t (okS_t a6)) b1 b2 b3 a10
    · simp only [o_putR, hq, if_neg hci] at h

set_option maxHeartbeats 1000000 in
theorem os_putF {gp : GX → Prop} {y : MethodName} {cc : ByteArray} {nL : Nat} {rt : Nat} {pc : Nat} {C : String} {T : u_T} {N ci k index : Nat} (hc : vwCl[ci]? = some (C, T, N)) (hin : ∀ w ∈ u_ws C T N, w ∈ lw_g) (hk : k < N) (hlink : Cond.fieldLink y.cls index (T k).1 (T k).2.1 (T k).2.2.1 ∈ lw_g) {ty0 : Nat → FieldType} (hty : ∀ k, k < N → parseFieldDescriptor (T k).2.2.1 = some (ty0 k)) (hnm : ∀ a, a < N → ∀ b, b < N → a ≠ b → (T a).2.1 ≠ (T b).2.1) {ty : FieldType} (hfin : (T k).2.2.2 = true) (hyi : y.name = "<init>") (hdecl : (T k).1 = y.cls) (hpd : parseFieldDescriptor (T k).2.2.1 = some ty) (hft : ∀ x : Nat, fits ty (.ref x) = true ∧ narrow ty (.ref x) = .ref x) (hd : decode cc pc = .ok (.putfield index, 3)) : FOK gp (o_putR ci k (pc + 3)) y cc nL rt pc := by
  intro G p l e R s m args below meth c Qm ad0 n0 s0 r0 w0 hgp C hcl hsl hret L st w h
  obtain ⟨hx, hb, hml, hown, hts, hname, hF, hfr, hlo⟩ := C
  rcases st with _ | ⟨z | z | (_ | z) | z, _ | ⟨x | x | (_ | a) | x, r⟩⟩ <;> try exact False.elim h
  rcases hq : hp w a with ⟨t, n, f⟩ | ⟨n, f⟩ | ⟨ci', fs⟩
  · simp only [o_putR, hq] at h
  · simp only [o_putR, hq] at h
  · by_cases hci : ci' = ci ∧ k < fs.length
    · obtain ⟨rfl, hl⟩ := hci
      have kq : WPd G p l e R s m args below meth c nL Qm ad0 n0 s0 w0 (pc + 3) L r (pt w a (co ci' (fs.set k (vr z)))) := by
        simp only [o_putR, hq, true_and, if_pos hl] at h
        exact h
      refine ⟨kq.1, fun ad H locs ls a1 a2 a3 a4 a5 a6 a7 a8 a9 a10 => ?_⟩
      have ha : a < w.1 := okS_h (okS_t a6)
      have he : (wW G ad w)[a]? = some (ad a, .inr (ci', fs.map (em G ad))) := by rw [wW_at ha, hq]; rfl
      have hok := a4 a ha
      rw [hq] at hok
      have hok2 : okC w.1 (co ci' (fs.set k (vr z))) := fun u hu => by
        rcases List.mem_or_eq_of_mem_set hu with e | e
        · exact hok u e
        · rw [e]; exact okS_h a6
      have e2 : (wW G ad w).set a (ad a, .inr (ci', (fs.map (em G ad)).set k (.ref (ad z)))) = wW G ad (pt w a (co ci' (fs.set k (vr z)))) := by
        rw [← wW_set]
        simp only [eC, List.map_set]
        rfl
      refine va_putF (D := gD G) (ci := ci') (v := .ref (ad z)) (ty := ty) (C := C) (T := T) (N := N) (own := y.cls) hx hb hts hin ty0 hty hnm hown hF.2.1 a7 a8 a9 a he hc k hk (hts _ hlink) (fun _ h9 => h9) hfin (hname.1.trans hyi) hdecl hpd (hft _).2 (hft _).1 (by rw [List.length_map]; exact hl) hd (fun H1 locs1 b1 b2 b3 => ?_)
      rw [e2] at b1 b2
      exact kq.2 ad H1 locs1 ls a1 a2 a3 (okW_pt a4 hok2) a5 (okS_t (okS_t a6)) b1 b2 b3 a10
    · simp only [o_putR, hq, if_neg hci] at h

set_option maxHeartbeats 1000000 in
theorem os_ald0 {gp : GX → Prop} {y : MethodName} {cc : ByteArray} {nL : Nat} {rt : Nat} {pc : Nat} (hd : decode cc pc = .ok (.iaload, 1)) : FOK gp (o_ald 0 (pc + 1)) y cc nL rt pc := by
  intro G p l e R s m args below meth c Qm ad0 n0 s0 r0 w0 hgp C hcl hsl hret L st w h
  obtain ⟨hx, hb, hml, hown, hts, hname, hF, hfr, hlo⟩ := C
  rcases st with _ | ⟨i | i, _ | ⟨x | x | (_ | a) | x, r⟩⟩ <;> try exact False.elim h
  rcases hq : hp w a with ⟨t, n, f⟩ | ⟨n, f⟩ | ⟨ci', fs⟩
  · by_cases hci : t = 0 ∧ 0 ≤ i ∧ i < n
    · obtain ⟨rfl, h0, h1⟩ := hci
      have kq : WPd G p l e R s m args below meth c nL Qm ad0 n0 s0 w0 (pc + 1) L (vi (f i.toNat) :: r) w := by
        simp only [o_ald, hq, true_and, if_pos (show 0 ≤ i ∧ i < (n : Int) from ⟨h0, h1⟩)] at h
        exact h
      refine ⟨kq.1, fun ad H locs ls a1 a2 a3 a4 a5 a6 a7 a8 a9 a10 => ?_⟩
      have ha : a < w.1 := okS_h (okS_t a6)
      have he : (wW G ad w)[a]? = some (ad a, .inl (gA G 0, n, .inl (fun j => Int32.ofInt (f j)))) := by rw [wW_at ha, hq]; rfl
      have hok := a4 a ha
      rw [hq] at hok
      refine va_iald hx hb hF.2.1 a7 a 0 he rfl (i_in (okS_h a6) h0 h1) hd ?_
      rw [i_cl (okS_h a6) h0]
      exact kq.2 ad H locs ls a1 a2 a3 a4 a5 (okS_c (hok.2.2 _) (okS_t (okS_t a6))) a7 a8 a9 a10
    · simp only [o_ald, hq, if_neg hci] at h
  · simp only [o_ald, hq] at h
  · simp only [o_ald, hq] at h

set_option maxHeartbeats 1000000 in
theorem os_ald1 {gp : GX → Prop} {y : MethodName} {cc : ByteArray} {nL : Nat} {rt : Nat} {pc : Nat} (hd : decode cc pc = .ok (.baload, 1)) : FOK gp (o_ald 1 (pc + 1)) y cc nL rt pc := by
  intro G p l e R s m args below meth c Qm ad0 n0 s0 r0 w0 hgp C hcl hsl hret L st w h
  obtain ⟨hx, hb, hml, hown, hts, hname, hF, hfr, hlo⟩ := C
  rcases st with _ | ⟨i | i, _ | ⟨x | x | (_ | a) | x, r⟩⟩ <;> try exact False.elim h
  rcases hq : hp w a with ⟨t, n, f⟩ | ⟨n, f⟩ | ⟨ci', fs⟩
  · by_cases hci : t = 1 ∧ 0 ≤ i ∧ i < n
    · obtain ⟨rfl, h0, h1⟩ := hci
      have kq : WPd G p l e R s m args below meth c nL Qm ad0 n0 s0 w0 (pc + 1) L (vi (f i.toNat) :: r) w := by
        simp only [o_ald, hq, true_and, if_pos (show 0 ≤ i ∧ i < (n : Int) from ⟨h0, h1⟩)] at h
        exact h
      refine ⟨kq.1, fun ad H locs ls a1 a2 a3 a4 a5 a6 a7 a8 a9 a10 => ?_⟩
      have ha : a < w.1 := okS_h (okS_t a6)
      have he : (wW G ad w)[a]? = some (ad a, .inl (gA G 1, n, .inl (fun j => Int32.ofInt (f j)))) := by rw [wW_at ha, hq]; rfl
      have hok := a4 a ha
      rw [hq] at hok
      refine va_bald hx hb hF.2.1 a7 a 1 he rfl (i_in (okS_h a6) h0 h1) hd ?_
      rw [i_cl (okS_h a6) h0]
      exact kq.2 ad H locs ls a1 a2 a3 a4 a5 (okS_c (hok.2.2 _) (okS_t (okS_t a6))) a7 a8 a9 a10
    · simp only [o_ald, hq, if_neg hci] at h
  · simp only [o_ald, hq] at h
  · simp only [o_ald, hq] at h

set_option maxHeartbeats 1000000 in
theorem os_ald2 {gp : GX → Prop} {y : MethodName} {cc : ByteArray} {nL : Nat} {rt : Nat} {pc : Nat} (hd : decode cc pc = .ok (.baload, 1)) : FOK gp (o_ald 2 (pc + 1)) y cc nL rt pc := by
  intro G p l e R s m args below meth c Qm ad0 n0 s0 r0 w0 hgp C hcl hsl hret L st w h
  obtain ⟨hx, hb, hml, hown, hts, hname, hF, hfr, hlo⟩ := C
  rcases st with _ | ⟨i | i, _ | ⟨x | x | (_ | a) | x, r⟩⟩ <;> try exact False.elim h
  rcases hq : hp w a with ⟨t, n, f⟩ | ⟨n, f⟩ | ⟨ci', fs⟩
  · by_cases hci : t = 2 ∧ 0 ≤ i ∧ i < n
    · obtain ⟨rfl, h0, h1⟩ := hci
      have kq : WPd G p l e R s m args below meth c nL Qm ad0 n0 s0 w0 (pc + 1) L (vi (f i.toNat) :: r) w := by
        simp only [o_ald, hq, true_and, if_pos (show 0 ≤ i ∧ i < (n : Int) from ⟨h0, h1⟩)] at h
        exact h
      refine ⟨kq.1, fun ad H locs ls a1 a2 a3 a4 a5 a6 a7 a8 a9 a10 => ?_⟩
      have ha : a < w.1 := okS_h (okS_t a6)
      have he : (wW G ad w)[a]? = some (ad a, .inl (gA G 2, n, .inl (fun j => Int32.ofInt (f j)))) := by rw [wW_at ha, hq]; rfl
      have hok := a4 a ha
      rw [hq] at hok
      refine va_zald hx hb hF.2.1 a7 a 2 he rfl (i_in (okS_h a6) h0 h1) hd ?_
      rw [i_cl (okS_h a6) h0]
      exact kq.2 ad H locs ls a1 a2 a3 a4 a5 (okS_c (hok.2.2 _) (okS_t (okS_t a6))) a7 a8 a9 a10
    · simp only [o_ald, hq, if_neg hci] at h
  · simp only [o_ald, hq] at h
  · simp only [o_ald, hq] at h

set_option maxHeartbeats 1000000 in
theorem os_ast0 {gp : GX → Prop} {y : MethodName} {cc : ByteArray} {nL : Nat} {rt : Nat} {pc : Nat} (hd : decode cc pc = .ok (.iastore, 1)) : FOK gp (o_ast 0 (pc + 1)) y cc nL rt pc := by
  intro G p l e R s m args below meth c Qm ad0 n0 s0 r0 w0 hgp C hcl hsl hret L st w h
  obtain ⟨hx, hb, hml, hown, hts, hname, hF, hfr, hlo⟩ := C
  rcases st with _ | ⟨x | x, _ | ⟨i | i, _ | ⟨u | u | (_ | a) | u, r⟩⟩⟩ <;> try exact False.elim h
  rcases hq : hp w a with ⟨t, n, f⟩ | ⟨n, f⟩ | ⟨ci', fs⟩
  · by_cases hci : t = 0 ∧ 0 ≤ i ∧ i < n
    · obtain ⟨rfl, h0, h1⟩ := hci
      have kq : WPd G p l e R s m args below meth c nL Qm ad0 n0 s0 w0 (pc + 1) L r (pt w a (ca 0 n (va_up f i.toNat (nar 0 x)))) := by
        simp only [o_ast, hq, true_and, if_pos (show 0 ≤ i ∧ i < (n : Int) from ⟨h0, h1⟩)] at h
        exact h
      refine ⟨kq.1, fun ad H locs ls a1 a2 a3 a4 a5 a6 a7 a8 a9 a10 => ?_⟩
      have ha : a < w.1 := okS_h (okS_t (okS_t a6))
      have he : (wW G ad w)[a]? = some (ad a, .inl (gA G 0, n, .inl (fun j => Int32.ofInt (f j)))) := by rw [wW_at ha, hq]; rfl
      have hok := a4 a ha
      rw [hq] at hok
      have hnv : Int32.ofInt x = Int32.ofInt (nar 0 x) := rfl
      have hok2 : okC w.1 (ca 0 n (va_up f i.toNat (nar 0 x))) := ⟨hok.1, hok.2.1, fun j => by
        unfold va_up
        split
        · exact okS_h a6
        · exact hok.2.2 j⟩
      have e2 : (wW G ad w).set a (ad a, .inl (gA G 0, n, .inl (upd (fun j => Int32.ofInt (f j)) (Int32.ofInt i).toNatClampNeg (Int32.ofInt x)))) = wW G ad (pt w a (ca 0 n (va_up f i.toNat (nar 0 x)))) := by
        rw [← wW_set, i_cl (okS_h (okS_t a6)) h0, hnv]
        have e3 : upd (fun j => Int32.ofInt (f j)) i.toNat (Int32.ofInt (nar 0 x)) = fun j => Int32.ofInt (va_up f i.toNat (nar 0 x) j) := by
          funext j
          simp only [upd, va_up]
          split <;> rfl
        rw [e3]
        rfl
      refine va_iast hx hb hF.2.1 a7 a8 a9 a 0 he rfl (i_in (okS_h (okS_t a6)) h0 h1) hd (fun H1 locs1 b1 b2 b3 => ?_)
      rw [e2] at b1 b2
      exact kq.2 ad H1 locs1 ls a1 a2 a3 (okW_pt a4 hok2) a5 (okS_t (okS_t (okS_t a6))) b1 b2 b3 a10
    · simp only [o_ast, hq, if_neg hci] at h
  · simp only [o_ast, hq] at h
  · simp only [o_ast, hq] at h

set_option maxHeartbeats 1000000 in
theorem os_ast1 {gp : GX → Prop} {y : MethodName} {cc : ByteArray} {nL : Nat} {rt : Nat} {pc : Nat} (hd : decode cc pc = .ok (.bastore, 1)) : FOK gp (o_ast 1 (pc + 1)) y cc nL rt pc := by
  intro G p l e R s m args below meth c Qm ad0 n0 s0 r0 w0 hgp C hcl hsl hret L st w h
  obtain ⟨hx, hb, hml, hown, hts, hname, hF, hfr, hlo⟩ := C
  rcases st with _ | ⟨x | x, _ | ⟨i | i, _ | ⟨u | u | (_ | a) | u, r⟩⟩⟩ <;> try exact False.elim h
  rcases hq : hp w a with ⟨t, n, f⟩ | ⟨n, f⟩ | ⟨ci', fs⟩
  · by_cases hci : t = 1 ∧ 0 ≤ i ∧ i < n
    · obtain ⟨rfl, h0, h1⟩ := hci
      have kq : WPd G p l e R s m args below meth c nL Qm ad0 n0 s0 w0 (pc + 1) L r (pt w a (ca 1 n (va_up f i.toNat (nar 1 x)))) := by
        simp only [o_ast, hq, true_and, if_pos (show 0 ≤ i ∧ i < (n : Int) from ⟨h0, h1⟩)] at h
        exact h
      refine ⟨kq.1, fun ad H locs ls a1 a2 a3 a4 a5 a6 a7 a8 a9 a10 => ?_⟩
      have ha : a < w.1 := okS_h (okS_t (okS_t a6))
      have he : (wW G ad w)[a]? = some (ad a, .inl (gA G 1, n, .inl (fun j => Int32.ofInt (f j)))) := by rw [wW_at ha, hq]; rfl
      have hok := a4 a ha
      rw [hq] at hok
      have hnv : vp_nar .byte (Int32.ofInt x) = Int32.ofInt (nar 1 x) := by show (Int32.ofInt x).toInt8.toInt32 = Int32.ofInt (f_byte x); rw [f_byte, Int32.ofInt_toInt]
      have hok2 : okC w.1 (ca 1 n (va_up f i.toNat (nar 1 x))) := ⟨hok.1, hok.2.1, fun j => by
        unfold va_up
        split
        · exact okI_32 _
        · exact hok.2.2 j⟩
      have e2 : (wW G ad w).set a (ad a, .inl (gA G 1, n, .inl (upd (fun j => Int32.ofInt (f j)) (Int32.ofInt i).toNatClampNeg (vp_nar .byte (Int32.ofInt x))))) = wW G ad (pt w a (ca 1 n (va_up f i.toNat (nar 1 x)))) := by
        rw [← wW_set, i_cl (okS_h (okS_t a6)) h0, hnv]
        have e3 : upd (fun j => Int32.ofInt (f j)) i.toNat (Int32.ofInt (nar 1 x)) = fun j => Int32.ofInt (va_up f i.toNat (nar 1 x) j) := by
          funext j
          simp only [upd, va_up]
          split <;> rfl
        rw [e3]
        rfl
      refine va_bast hx hb hF.2.1 a7 a8 a9 a 1 he rfl (i_in (okS_h (okS_t a6)) h0 h1) hd (fun H1 locs1 b1 b2 b3 => ?_)
      rw [e2] at b1 b2
      exact kq.2 ad H1 locs1 ls a1 a2 a3 (okW_pt a4 hok2) a5 (okS_t (okS_t (okS_t a6))) b1 b2 b3 a10
    · simp only [o_ast, hq, if_neg hci] at h
  · simp only [o_ast, hq] at h
  · simp only [o_ast, hq] at h

set_option maxHeartbeats 1000000 in
theorem os_ast2 {gp : GX → Prop} {y : MethodName} {cc : ByteArray} {nL : Nat} {rt : Nat} {pc : Nat} (hd : decode cc pc = .ok (.bastore, 1)) : FOK gp (o_ast 2 (pc + 1)) y cc nL rt pc := by
  intro G p l e R s m args below meth c Qm ad0 n0 s0 r0 w0 hgp C hcl hsl hret L st w h
  obtain ⟨hx, hb, hml, hown, hts, hname, hF, hfr, hlo⟩ := C
  rcases st with _ | ⟨x | x, _ | ⟨i | i, _ | ⟨u | u | (_ | a) | u, r⟩⟩⟩ <;> try exact False.elim h
  rcases hq : hp w a with ⟨t, n, f⟩ | ⟨n, f⟩ | ⟨ci', fs⟩
  · by_cases hci : t = 2 ∧ 0 ≤ i ∧ i < n
    · obtain ⟨rfl, h0, h1⟩ := hci
      have kq : WPd G p l e R s m args below meth c nL Qm ad0 n0 s0 w0 (pc + 1) L r (pt w a (ca 2 n (va_up f i.toNat (nar 2 x)))) := by
        simp only [o_ast, hq, true_and, if_pos (show 0 ≤ i ∧ i < (n : Int) from ⟨h0, h1⟩)] at h
        exact h
      refine ⟨kq.1, fun ad H locs ls a1 a2 a3 a4 a5 a6 a7 a8 a9 a10 => ?_⟩
      have ha : a < w.1 := okS_h (okS_t (okS_t a6))
      have he : (wW G ad w)[a]? = some (ad a, .inl (gA G 2, n, .inl (fun j => Int32.ofInt (f j)))) := by rw [wW_at ha, hq]; rfl
      have hok := a4 a ha
      rw [hq] at hok
      have hnv : vp_nar .boolean (Int32.ofInt x) = Int32.ofInt (nar 2 x) := by show (Int32.ofInt x &&& 1) = Int32.ofInt (f_and x 1); rw [f_and, Int32.ofInt_toInt]; rfl
      have hok2 : okC w.1 (ca 2 n (va_up f i.toNat (nar 2 x))) := ⟨hok.1, hok.2.1, fun j => by
        unfold va_up
        split
        · exact okI_32 _
        · exact hok.2.2 j⟩
      have e2 : (wW G ad w).set a (ad a, .inl (gA G 2, n, .inl (upd (fun j => Int32.ofInt (f j)) (Int32.ofInt i).toNatClampNeg (vp_nar .boolean (Int32.ofInt x))))) = wW G ad (pt w a (ca 2 n (va_up f i.toNat (nar 2 x)))) := by
        rw [← wW_set, i_cl (okS_h (okS_t a6)) h0, hnv]
        have e3 : upd (fun j => Int32.ofInt (f j)) i.toNat (Int32.ofInt (nar 2 x)) = fun j => Int32.ofInt (va_up f i.toNat (nar 2 x) j) := by
          funext j
          simp only [upd, va_up]
          split <;> rfl
        rw [e3]
        rfl
      refine va_zast hx hb hF.2.1 a7 a8 a9 a 2 he rfl (i_in (okS_h (okS_t a6)) h0 h1) hd (fun H1 locs1 b1 b2 b3 => ?_)
      rw [e2] at b1 b2
      exact kq.2 ad H1 locs1 ls a1 a2 a3 (okW_pt a4 hok2) a5 (okS_t (okS_t (okS_t a6))) b1 b2 b3 a10
    · simp only [o_ast, hq, if_neg hci] at h
  · simp only [o_ast, hq] at h
  · simp only [o_ast, hq] at h

set_option maxHeartbeats 1000000 in
theorem os_aald {gp : GX → Prop} {y : MethodName} {cc : ByteArray} {nL : Nat} {rt : Nat} {pc : Nat} (hd : decode cc pc = .ok (.aaload, 1)) : FOK gp (o_aald (pc + 1)) y cc nL rt pc := by
  intro G p l e R s m args below meth c Qm ad0 n0 s0 r0 w0 hgp C hcl hsl hret L st w h
  obtain ⟨hx, hb, hml, hown, hts, hname, hF, hfr, hlo⟩ := C
  rcases st with _ | ⟨i | i, _ | ⟨x | x | (_ | a) | x, r⟩⟩ <;> try exact False.elim h
  rcases hq : hp w a with ⟨t, n, f⟩ | ⟨n, f⟩ | ⟨ci', fs⟩
  · simp only [o_aald, hq] at h
  · by_cases hci : 0 ≤ i ∧ i < n
    · obtain ⟨h0, h1⟩ := hci
      have kq : WPd G p l e R s m args below meth c nL Qm ad0 n0 s0 w0 (pc + 1) L (vq (f i.toNat) :: r) w := by
        simp only [o_aald, hq, if_pos (show 0 ≤ i ∧ i < (n : Int) from ⟨h0, h1⟩)] at h
        exact h
      refine ⟨kq.1, fun ad H locs ls a1 a2 a3 a4 a5 a6 a7 a8 a9 a10 => ?_⟩
      have ha : a < w.1 := okS_h (okS_t a6)
      have he : (wW G ad w)[a]? = some (ad a, .inl (gA G 3, n, .inr (.inr (.inr (.inr (fun j => (f j).map ad)))))) := by rw [wW_at ha, hq]; rfl
      have hok := a4 a ha
      rw [hq] at hok
      refine va_aldq (C := RX5) hx hb hF.2.1 a7 a 3 he rfl (i_in (okS_h a6) h0 h1) hd ?_
      rw [i_cl (okS_h a6) h0]
      refine kq.2 ad H locs ls a1 a2 a3 a4 a5 (okS_c ?_ (okS_t (okS_t a6))) a7 a8 a9 a10
      cases hv : f i.toNat with
      | none => trivial
      | some b => exact hok.2 _ _ hv
    · simp only [o_aald, hq, if_neg hci] at h
  · simp only [o_aald, hq] at h

set_option maxHeartbeats 1000000 in
theorem os_aast {gp : GX → Prop} {y : MethodName} {cc : ByteArray} {nL : Nat} {rt : Nat} {pc : Nat} (hd : decode cc pc = .ok (.aastore, 1)) : FOK gp (o_aast (pc + 1)) y cc nL rt pc := by
  intro G p l e R s m args below meth c Qm ad0 n0 s0 r0 w0 hgp C hcl hsl hret L st w h
  obtain ⟨hx, hb, hml, hown, hts, hname, hF, hfr, hlo⟩ := C
  rcases st with _ | ⟨x | x | (_ | b) | x, _ | ⟨i | i, _ | ⟨u | u | (_ | a) | u, r⟩⟩⟩ <;> try exact False.elim h
  rcases hq : hp w a with ⟨t, n, f⟩ | ⟨n, f⟩ | ⟨ci', fs⟩
  · simp only [o_aast, hq] at h
  · rcases hq2 : hp w b with ⟨t, n2, f2⟩ | ⟨n2, f2⟩ | ⟨ci', fs⟩
    · simp only [o_aast, hq, hq2] at h
    · simp only [o_aast, hq, hq2] at h
    · by_cases hci : ci' = 5 ∧ 0 ≤ i ∧ i < n
      · obtain ⟨rfl, h0, h1⟩ := hci
        have kq : WPd G p l e R s m args below meth c nL Qm ad0 n0 s0 w0 (pc + 1) L r (pt w a (cq n (va_up f i.toNat (some b)))) := by
          simp only [o_aast, hq, hq2, true_and, if_pos (show 0 ≤ i ∧ i < (n : Int) from ⟨h0, h1⟩)] at h
          exact h
        refine ⟨kq.1, fun ad H locs ls a1 a2 a3 a4 a5 a6 a7 a8 a9 a10 => ?_⟩
        have ha : a < w.1 := okS_h (okS_t (okS_t a6))
        have hb2 : b < w.1 := okS_h a6
        have he : (wW G ad w)[a]? = some (ad a, .inl (gA G 3, n, .inr (.inr (.inr (.inr (fun j => (f j).map ad)))))) := by rw [wW_at ha, hq]; rfl
        have he2 : (wW G ad w)[b]? = some (ad b, .inr (5, fs.map (em G ad))) := by rw [wW_at hb2, hq2]; rfl
        have hok := a4 a ha
        rw [hq] at hok
        have hok2 : okC w.1 (cq n (va_up f i.toNat (some b))) := ⟨hok.1, fun j c hj => by
          unfold va_up at hj
          split at hj
          · cases hj; exact hb2
          · exact hok.2 j c hj⟩
        have e2 : (wW G ad w).set a (ad a, .inl (gA G 3, n, .inr (.inr (.inr (.inr (va_up (fun j => (f j).map ad) (Int32.ofInt i).toNatClampNeg (some (ad b)))))))) = wW G ad (pt w a (cq n (va_up f i.toNat (some b)))) := by
          rw [← wW_set, i_cl (okS_h (okS_t a6)) h0]
          have e3 : va_up (fun j => (f j).map ad) i.toNat (some (ad b)) = fun j => (va_up f i.toNat (some b) j).map ad := by
            funext j
            simp only [va_up]
            split <;> rfl
          rw [e3]
          rfl
        refine va_astq (r := (RX5, TX5, 8)) hx hb hF.2.1 a7 a8 a9 a 3 b 5 he rfl he2 rfl (i_in (okS_h (okS_t a6)) h0 h1) hd (fun H1 locs1 b1 b2 b3 => ?_)
        rw [e2] at b1 b2
        exact kq.2 ad H1 locs1 ls a1 a2 a3 (okW_pt a4 hok2) a5 (okS_t (okS_t (okS_t a6))) b1 b2 b3 a10
      · simp only [o_aast, hq, hq2, if_neg hci] at h
  · simp only [o_aast, hq] at h

set_option maxHeartbeats 1000000 in
theorem os_alen {gp : GX → Prop} {y : MethodName} {cc : ByteArray} {nL : Nat} {rt : Nat} {pc : Nat} (hd : decode cc pc = .ok (.arraylength, 1)) : FOK gp (o_alen (pc + 1)) y cc nL rt pc := by
  intro G p l e R s m args below meth c Qm ad0 n0 s0 r0 w0 hgp C hcl hsl hret L st w h
  obtain ⟨hx, hb, hml, hown, hts, hname, hF, hfr, hlo⟩ := C
  rcases st with _ | ⟨x | x | (_ | a) | x, r⟩ <;> try exact False.elim h
  rcases hq : hp w a with ⟨t, n, f⟩ | ⟨n, f⟩ | ⟨ci', fs⟩
  · skip
    have kq : WPd G p l e R s m args below meth c nL Qm ad0 n0 s0 w0 (pc + 1) L (vi n :: r) w := by
      simp only [o_alen, hq] at h
      exact h
    refine ⟨kq.1, fun ad H locs ls a1 a2 a3 a4 a5 a6 a7 a8 a9 a10 => ?_⟩
    have ha : a < w.1 := okS_h a6
    have he : (wW G ad w)[a]? = some (ad a, .inl (gA G t, n, .inl (fun j => Int32.ofInt (f j)))) := by rw [wW_at ha, hq]; rfl
    have hok := a4 a ha
    rw [hq] at hok
    have k2 := kq.2 ad H locs ls a1 a2 a3 a4 a5 (okS_c (show okI (n : Int) from ⟨by omega, by have := hok.2.1; omega⟩) (okS_t a6)) a7 a8 a9 a10
    have e2 : Int32.ofInt (n : Int) = Int32.ofNat n := Int32.toInt_inj.mp (by rw [tI (show okI (n : Int) from ⟨by omega, by have := hok.2.1; omega⟩)]; exact (nI_toInt (by have := hok.2.1; omega)).symm)
    simp only [List.map_cons, em, e2] at k2
    have ht : t = 0 ∨ t = 1 ∨ t = 2 := by have := hok.1; omega
    rcases ht with rfl | rfl | rfl
    · exact va_alen hx hb hF.2.1 a7 a 0 he rfl rfl hd k2
    · exact va_alen hx hb hF.2.1 a7 a 1 he rfl rfl hd k2
    · exact va_alen hx hb hF.2.1 a7 a 2 he rfl rfl hd k2
  · simp only [o_alen, hq] at h
  · simp only [o_alen, hq] at h
end OS2
