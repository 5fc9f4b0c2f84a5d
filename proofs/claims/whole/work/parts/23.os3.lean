section OS3
theorem cat_sum (l : List Value) : (l.map fun v => v.category).sum ≤ 2 * l.length := by
  induction l with
  | nil => simp
  | cons v l ih =>
    have : v.category = 1 ∨ v.category = 2 := lv_cat v
    simp only [List.map_cons, List.sum_cons, List.length_cons]
    omega
set_option maxHeartbeats 1000000 in
theorem os_gets2 {gp : GX → Prop} {y : MethodName} {cc : ByteArray} {nL : Nat} {rt : Nat} {pc : Nat} {index : Nat} (hlink : Cond.fieldLink y.cls index RX5 "STEPS" "[I" ∈ lw_g) (hd : decode cc pc = .ok (.getstatic index, 3)) : FOK gp (o_push (vc 2) (pc + 3)) y cc nL rt pc := by
  intro G p l e R s m args below meth c Qm ad0 n0 s0 r0 w0 hgp C hcl hsl hret L st w h
  obtain ⟨hx, hb, hml, hown, hts, hname, hF, hfr, hlo⟩ := C
  have kq : WPd G p l e R s m args below meth c nL Qm ad0 n0 s0 w0 (pc + 3) L (vc 2 :: st) w := h
  refine ⟨kq.1, fun ad H locs ls a1 a2 a3 a4 a5 a6 a7 a8 a9 a10 => ?_⟩
  refine va_gets (own := y.cls) hx hb hF.2.2.1.1 a9 hown (hts _ hlink) (fun _ h9 => h9) hd ?_
  exact kq.2 ad H locs ls a1 a2 a3 a4 a5 (okS_c trivial a6) a7 a8 a9 a10

set_option maxHeartbeats 1000000 in
theorem os_gets3 {gp : GX → Prop} {y : MethodName} {cc : ByteArray} {nL : Nat} {rt : Nat} {pc : Nat} {index : Nat} (hlink : Cond.fieldLink y.cls index RX2 "DIGITS" "[I" ∈ lw_g) (hd : decode cc pc = .ok (.getstatic index, 3)) : FOK gp (o_push (vc 3) (pc + 3)) y cc nL rt pc := by
  intro G p l e R s m args below meth c Qm ad0 n0 s0 r0 w0 hgp C hcl hsl hret L st w h
  obtain ⟨hx, hb, hml, hown, hts, hname, hF, hfr, hlo⟩ := C
  have kq : WPd G p l e R s m args below meth c nL Qm ad0 n0 s0 w0 (pc + 3) L (vc 3 :: st) w := h
  refine ⟨kq.1, fun ad H locs ls a1 a2 a3 a4 a5 a6 a7 a8 a9 a10 => ?_⟩
  refine va_gets (own := y.cls) hx hb hF.2.2.2.1.1 a9 hown (hts _ hlink) (fun _ h9 => h9) hd ?_
  exact kq.2 ad H locs ls a1 a2 a3 a4 a5 (okS_c trivial a6) a7 a8 a9 a10

set_option maxHeartbeats 1000000 in
theorem os_ldc0 {gp : GX → Prop} {y : MethodName} {cc : ByteArray} {nL : Nat} {rt : Nat} {pc : Nat} (hy : y.cls = RX4) (hd : decode cc pc = .ok (.ldc 29, 2)) : FOK gp (o_push (vc 0) (pc + 2)) y cc nL rt pc := by
  intro G p l e R s m args below meth c Qm ad0 n0 s0 r0 w0 hgp C hcl hsl hret L st w h
  obtain ⟨hx, hb, hml, hown, hts, hname, hF, hfr, hlo⟩ := C
  have kq : WPd G p l e R s m args below meth c nL Qm ad0 n0 s0 w0 (pc + 2) L (vc 0 :: st) w := h
  refine ⟨kq.1, fun ad H locs ls a1 a2 a3 a4 a5 a6 a7 a8 a9 a10 => ?_⟩
  refine va_ldcS (own := RX4) hx hb (hy ▸ hown) hF.2.2.2.2.1.1 hd ?_
  exact kq.2 ad H locs ls a1 a2 a3 a4 a5 (okS_c trivial a6) a7 a8 a9 a10

set_option maxHeartbeats 1000000 in
theorem os_ldc1 {gp : GX → Prop} {y : MethodName} {cc : ByteArray} {nL : Nat} {rt : Nat} {pc : Nat} (hy : y.cls = RX4) (hd : decode cc pc = .ok (.ldc 37, 2)) : FOK gp (o_push (vc 1) (pc + 2)) y cc nL rt pc := by
  intro G p l e R s m args below meth c Qm ad0 n0 s0 r0 w0 hgp C hcl hsl hret L st w h
  obtain ⟨hx, hb, hml, hown, hts, hname, hF, hfr, hlo⟩ := C
  have kq : WPd G p l e R s m args below meth c nL Qm ad0 n0 s0 w0 (pc + 2) L (vc 1 :: st) w := h
  refine ⟨kq.1, fun ad H locs ls a1 a2 a3 a4 a5 a6 a7 a8 a9 a10 => ?_⟩
  refine va_ldcS (own := RX4) hx hb (hy ▸ hown) hF.2.2.2.2.1.2.1 hd ?_
  exact kq.2 ad H locs ls a1 a2 a3 a4 a5 (okS_c trivial a6) a7 a8 a9 a10

set_option maxHeartbeats 1000000 in
theorem os_kald2 {gp : GX → Prop} {y : MethodName} {cc : ByteArray} {nL : Nat} {rt : Nat} {pc : Nat} (hf : ∀ j, okI (k_steps j)) (hd : decode cc pc = .ok (.iaload, 1)) : FOK gp (o_kald 2 7 k_steps (pc + 1)) y cc nL rt pc := by
  intro G p l e R s m args below meth c Qm ad0 n0 s0 r0 w0 hgp C hcl hsl hret L st w h
  obtain ⟨hx, hb, hml, hown, hts, hname, hF, hfr, hlo⟩ := C
  rcases st with _ | ⟨i | i, _ | ⟨x | x | x | x, r⟩⟩ <;> try exact False.elim h
  by_cases hci : x = 2 ∧ 0 ≤ i ∧ i < (7 : Nat)
  · obtain ⟨rfl, h0, h1⟩ := hci
    have kq : WPd G p l e R s m args below meth c nL Qm ad0 n0 s0 w0 (pc + 1) L (vi (k_steps i.toNat) :: r) w := by
      simp only [o_kald, true_and, if_pos (show 0 ≤ i ∧ i < ((7 : Nat) : Int) from ⟨h0, h1⟩)] at h
      exact h
    refine ⟨kq.1, fun ad H locs ls a1 a2 a3 a4 a5 a6 a7 a8 a9 a10 => ?_⟩
    refine va_ti (N := 7) hx hb hF.2.2.1.2 a9 (i_in (okS_h a6) h0 h1) (v := .int (Int32.ofInt (k_steps i.toNat))) (by rw [i_cl (okS_h a6) h0]) hd ?_
    exact kq.2 ad H locs ls a1 a2 a3 a4 a5 (okS_c (hf _) (okS_t (okS_t a6))) a7 a8 a9 a10
  · simp only [o_kald, if_neg hci] at h

set_option maxHeartbeats 1000000 in
theorem os_kald3 {gp : GX → Prop} {y : MethodName} {cc : ByteArray} {nL : Nat} {rt : Nat} {pc : Nat} (hf : ∀ j, okI (k_digits j)) (hd : decode cc pc = .ok (.iaload, 1)) : FOK gp (o_kald 3 12 k_digits (pc + 1)) y cc nL rt pc := by
  intro G p l e R s m args below meth c Qm ad0 n0 s0 r0 w0 hgp C hcl hsl hret L st w h
  obtain ⟨hx, hb, hml, hown, hts, hname, hF, hfr, hlo⟩ := C
  rcases st with _ | ⟨i | i, _ | ⟨x | x | x | x, r⟩⟩ <;> try exact False.elim h
  by_cases hci : x = 3 ∧ 0 ≤ i ∧ i < (12 : Nat)
  · obtain ⟨rfl, h0, h1⟩ := hci
    have kq : WPd G p l e R s m args below meth c nL Qm ad0 n0 s0 w0 (pc + 1) L (vi (k_digits i.toNat) :: r) w := by
      simp only [o_kald, true_and, if_pos (show 0 ≤ i ∧ i < ((12 : Nat) : Int) from ⟨h0, h1⟩)] at h
      exact h
    refine ⟨kq.1, fun ad H locs ls a1 a2 a3 a4 a5 a6 a7 a8 a9 a10 => ?_⟩
    refine va_ti (N := 12) hx hb hF.2.2.2.1.2 a9 (i_in (okS_h a6) h0 h1) (v := .int (Int32.ofInt (k_digits i.toNat))) (by rw [i_cl (okS_h a6) h0]) hd ?_
    exact kq.2 ad H locs ls a1 a2 a3 a4 a5 (okS_c (hf _) (okS_t (okS_t a6))) a7 a8 a9 a10
  · simp only [o_kald, if_neg hci] at h

set_option maxHeartbeats 1000000 in
theorem os_kald4 {gp : GX → Prop} {y : MethodName} {cc : ByteArray} {nL : Nat} {rt : Nat} {pc : Nat} {N : Nat} {X : Nat → Int} (hgN : ∀ G, gp G → gN G = N ∧ gX G = X) (hX : ∀ j, okI (X j)) (hd : decode cc pc = .ok (.iaload, 1)) : FOK gp (o_kald 4 N X (pc + 1)) y cc nL rt pc := by
  intro G p l e R s m args below meth c Qm ad0 n0 s0 r0 w0 hgp C hcl hsl hret L st w h
  obtain ⟨hx, hb, hml, hown, hts, hname, hF, hfr, hlo⟩ := C
  rcases st with _ | ⟨i | i, _ | ⟨x | x | x | x, r⟩⟩ <;> try exact False.elim h
  by_cases hci : x = 4 ∧ 0 ≤ i ∧ i < (N : Nat)
  · obtain ⟨rfl, h0, h1⟩ := hci
    obtain ⟨rfl, rfl⟩ := hgN G hgp
    have kq : WPd G p l e R s m args below meth c nL Qm ad0 n0 s0 w0 (pc + 1) L (vi (gX G i.toNat) :: r) w := by
      simp only [o_kald, true_and, if_pos (show 0 ≤ i ∧ i < ((gN G : Nat) : Int) from ⟨h0, h1⟩)] at h
      exact h
    refine ⟨kq.1, fun ad H locs ls a1 a2 a3 a4 a5 a6 a7 a8 a9 a10 => ?_⟩
    have hb4 := hF.2.2.2.2.2.2.2
    refine va_sld hx hb hF.2.2.2.2.2.2.1 (Nat.lt_of_lt_of_le hb4 hF.1) (Nat.not_le.mpr hb4) a9 (i_in (okS_h a6) h0 h1) hd ?_
    rw [i_cl (okS_h a6) h0]
    exact kq.2 ad H locs ls a1 a2 a3 a4 a5 (okS_c (hX _) (okS_t (okS_t a6))) a7 a8 a9 a10
  · simp only [o_kald, if_neg hci] at h

set_option maxHeartbeats 1000000 in
theorem os_klen4 {gp : GX → Prop} {y : MethodName} {cc : ByteArray} {nL : Nat} {rt : Nat} {pc : Nat} {N : Nat} {X : Nat → Int} (hgN : ∀ G, gp G → gN G = N ∧ gX G = X) (hN : N ≤ 3072) (hd : decode cc pc = .ok (.arraylength, 1)) : FOK gp (o_klen 4 N (pc + 1)) y cc nL rt pc := by
  intro G p l e R s m args below meth c Qm ad0 n0 s0 r0 w0 hgp C hcl hsl hret L st w h
  obtain ⟨hx, hb, hml, hown, hts, hname, hF, hfr, hlo⟩ := C
  rcases st with _ | ⟨x | x | x | x, r⟩ <;> try exact False.elim h
  by_cases hci : x = 4
  · subst hci
    obtain ⟨rfl, rfl⟩ := hgN G hgp
    have kq : WPd G p l e R s m args below meth c nL Qm ad0 n0 s0 w0 (pc + 1) L (vi (gN G : Nat) :: r) w := by
      simp only [o_klen, if_true] at h
      exact h
    refine ⟨kq.1, fun ad H locs ls a1 a2 a3 a4 a5 a6 a7 a8 a9 a10 => ?_⟩
    have hb4 := hF.2.2.2.2.2.2.2
    have hn : okI ((gN G : Nat) : Int) := ⟨by omega, by omega⟩
    have k2 := kq.2 ad H locs ls a1 a2 a3 a4 a5 (okS_c hn (okS_t a6)) a7 a8 a9 a10
    have e2 : Int32.ofInt ((gN G : Nat) : Int) = Int32.ofNat (gN G) := Int32.toInt_inj.mp (by rw [tI hn]; exact (nI_toInt (by omega)).symm)
    simp only [List.map_cons, em, e2] at k2
    exact va_slen hx hb hF.2.2.2.2.2.2.1 (Nat.lt_of_lt_of_le hb4 hF.1) (Nat.not_le.mpr hb4) a9 hd k2
  · simp only [o_klen, if_neg hci] at h

set_option maxHeartbeats 1000000 in
theorem os_new {gp : GX → Prop} {y : MethodName} {cc : ByteArray} {nL : Nat} {rt : Nat} {pc : Nat} {C : String} {T : u_T} {N ci index : Nat} {ty : Nat → FieldType} {fs : List MV} (hc : vwCl[ci]? = some (C, T, N)) (hin : ∀ w ∈ u_ws C T N, w ∈ lw_g) (hty : ∀ k, k < N → parseFieldDescriptor (T k).2.2.1 = some (ty k)) (hcl0 : Cond.classLink y.cls index C ∈ lw_g) (hins : Cond.instantiable C N ∈ lw_g) (hini : Cond.initialized C ∈ lw_g) (hlen : fs.length = N) (hdf : ∀ (G : GX) (ad : Nat → Nat) (j : Nat), j < N → defaultValue (ty j) = vp_V (fs.map (em G ad)) j) (hokf : ∀ (n : Nat) (v : MV), v ∈ fs → okV n v) (hd : decode cc pc = .ok (.new index, 3)) : FOK gp (o_new ci fs (pc + 3)) y cc nL rt pc := by
  intro G p l e R s m args below meth c Qm ad0 n0 s0 r0 w0 hgp C hcl hsl hret L st w h
  obtain ⟨hx, hb, hml, hown, hts, hname, hF, hfr, hlo⟩ := C
  subst hlen
  have kq : WPd G p l e R s m args below meth c nL Qm ad0 n0 s0 w0 (pc + 3) L (vr w.1 :: st) (nw w fs.length (co ci fs)) := h
  refine ⟨⟨Nat.le_trans (Nat.le_succ _) kq.1.1, Nat.le_trans (Nat.le_add_right _ _) kq.1.2⟩, fun ad H locs ls a1 a2 a3 a4 a5 a6 a7 a8 a9 a10 => ?_⟩
  have q1 : w.1 + 1 ≤ w0.1 := kq.1.1
  have q2 : w.2.1 + fs.length ≤ w0.2.1 := kq.1.2
  refine va_new (D := gD G) (ci := ci) (fs := fs.map (em G ad)) (C := C) (T := T) (N := fs.length) (own := y.cls) hx hb hts hin ty hty hown (hts _ hcl0) (hts _ hins) (hts _ hini) hF.2.1 a7 a8 a9 (fun q h9 => Nat.le_trans hF.1 h9) hc (hdf G ad) (by omega) (by omega) hd (fun q H1 b1 b2 b3 => ?_)
  have e0 : eC G (va_up ad w.1 q) (co ci fs) = .inr (ci, fs.map (em G ad)) := by
    simp only [eC]
    rw [emS_congr (n := w.1) (fun k hk => va_up_ne ad q (by omega)) (fun v hv => hokf _ v hv)]
  rw [← e0] at b1 b2
  have hag : ∀ k, k < w.1 → va_up ad w.1 q k = ad k := fun k hk => va_up_ne ad q (by omega)
  have k2 := kq.2 (va_up ad w.1 q) H1 locs ls (by show n0 ≤ w.1 + 1; omega) (by show s0 ≤ w.2.1 + fs.length; omega) (fun k hk => (hag k (by omega)).trans (a3 k hk)) (okW_nw a4 (fun v hv => hokf _ v hv)) (fun i v hv => okV_mono (Nat.le_succ _) (a5 i v hv)) (okS_c (Nat.lt_succ_self _) (fun v hv => okV_mono (Nat.le_succ _) (a6 v hv))) (by rw [wW_nw a4]; exact b1) (by rw [wW_nw a4]; exact b2) b3 (LR_congr hag a5 a10)
  have e1 : w.1 + 1 - n0 = w.1 - n0 + 1 := by omega
  have e2 : w.2.1 + fs.length - s0 = w.2.1 - s0 + fs.length := by omega
  have e3 : (vr w.1 :: st).map (em G (va_up ad w.1 q)) = .ref q :: st.map (em G ad) := by
    rw [List.map_cons, emS_congr hag a6]
    congr 1
    show va_rf (some (va_up ad w.1 q w.1)) = _
    rw [va_up_self]
    rfl
  rw [e3] at k2
  exact (show W p l e R s m args below meth c H1 locs (w.1 - n0 + 1) (w.2.1 - s0 + fs.length) Qm _ from e1 ▸ e2 ▸ k2)

set_option maxHeartbeats 1000000 in
theorem os_newa0 {gp : GX → Prop} {y : MethodName} {cc : ByteArray} {nL : Nat} {rt : Nat} {pc : Nat} (harr : Cond.arrayClass .int ∈ lw_g) (hd : decode cc pc = .ok (.newarray .int, 2)) : FOK gp (o_newa 0 (pc + 2)) y cc nL rt pc := by
  intro G p l e R s m args below meth c Qm ad0 n0 s0 r0 w0 hgp C hcl hsl hret L st w h
  obtain ⟨hx, hb, hml, hown, hts, hname, hF, hfr, hlo⟩ := C
  rcases st with _ | ⟨z | z, r⟩ <;> try exact False.elim h
  by_cases hz : 0 ≤ z ∧ z ≤ 4000
  · skip
    have kq : WPd G p l e R s m args below meth c nL Qm ad0 n0 s0 w0 (pc + 2) L (vr w.1 :: r) (nw w z.toNat (ca 0 z.toNat (fun _ => 0))) := by
      simp only [o_newa, if_pos hz] at h
      exact h
    refine ⟨⟨Nat.le_trans (Nat.le_succ _) kq.1.1, Nat.le_trans (Nat.le_add_right _ _) kq.1.2⟩, fun ad H locs ls a1 a2 a3 a4 a5 a6 a7 a8 a9 a10 => ?_⟩
    have q1 : w.1 + 1 ≤ w0.1 := kq.1.1
    have q2 : w.2.1 + z.toNat ≤ w0.2.1 := kq.1.2
    have hzo : okI z := okS_h a6
    refine va_newa (D := gD G) (atype := .int) (ty := .int) (a0 := (z.toNat, .inl (fun _ => 0))) (N' := z.toNat) hx hb (hts _ harr) rfl hF.2.1 a7 a8 a9 (fun q h9 => Nat.le_trans hF.1 h9) (fun cA => rfl) (by rw [i_lt0 hzo]; omega) (i_cl hzo hz.1) (by show z.toNat * 4 ≤ _; omega) (by omega) (by omega) hd (fun q cA H1 b0 b1 b2 b3 => ?_)
    have ecA : cA = gA G 0 := Option.some.inj (Eq.trans (Eq.symm (b0.2 4 _ rfl).2) (hF.2.1.2 0 _ rfl).2)
    subst ecA
    have e0 : eC G (va_up ad w.1 q) (ca 0 z.toNat (fun _ => 0)) = .inl (gA G 0, (z.toNat, .inl (fun _ => 0))) := rfl
    rw [← e0] at b1 b2
    have hag : ∀ k, k < w.1 → va_up ad w.1 q k = ad k := fun k hk => va_up_ne ad q (by omega)
    have k2 := kq.2 (va_up ad w.1 q) H1 locs ls (by show n0 ≤ w.1 + 1; omega) (by show s0 ≤ w.2.1 + z.toNat; omega) (fun k hk => (hag k (by omega)).trans (a3 k hk)) (okW_nw a4 (show okC _ (ca 0 z.toNat (fun _ => 0)) from ⟨by omega, by omega, fun _ => okI_0⟩)) (fun i v hv => okV_mono (Nat.le_succ _) (a5 i v hv)) (okS_c (Nat.lt_succ_self _) (fun v hv => okV_mono (Nat.le_succ _) ((okS_t a6) v hv))) (by rw [wW_nw a4]; exact b1) (by rw [wW_nw a4]; exact b2) b3 (LR_congr hag a5 a10)
    have e1 : w.1 + 1 - n0 = w.1 - n0 + 1 := by omega
    have e2 : w.2.1 + z.toNat - s0 = w.2.1 - s0 + z.toNat := by omega
    have e3 : (vr w.1 :: r).map (em G (va_up ad w.1 q)) = .ref q :: r.map (em G ad) := by
      rw [List.map_cons, emS_congr hag (okS_t a6)]
      congr 1
      show va_rf (some (va_up ad w.1 q w.1)) = _
      rw [va_up_self]
      rfl
    rw [e3] at k2
    exact (show W p l e R s m args below meth c H1 locs (w.1 - n0 + 1) (w.2.1 - s0 + z.toNat) Qm _ from e1 ▸ e2 ▸ k2)
  · simp only [o_newa, if_neg hz] at h

set_option maxHeartbeats 1000000 in
theorem os_newa1 {gp : GX → Prop} {y : MethodName} {cc : ByteArray} {nL : Nat} {rt : Nat} {pc : Nat} (harr : Cond.arrayClass .byte ∈ lw_g) (hd : decode cc pc = .ok (.newarray .byte, 2)) : FOK gp (o_newa 1 (pc + 2)) y cc nL rt pc := by
  intro G p l e R s m args below meth c Qm ad0 n0 s0 r0 w0 hgp C hcl hsl hret L st w h
  obtain ⟨hx, hb, hml, hown, hts, hname, hF, hfr, hlo⟩ := C
  rcases st with _ | ⟨z | z, r⟩ <;> try exact False.elim h
  by_cases hz : 0 ≤ z ∧ z ≤ 4000
  · skip
    have kq : WPd G p l e R s m args below meth c nL Qm ad0 n0 s0 w0 (pc + 2) L (vr w.1 :: r) (nw w z.toNat (ca 1 z.toNat (fun _ => 0))) := by
      simp only [o_newa, if_pos hz] at h
      exact h
    refine ⟨⟨Nat.le_trans (Nat.le_succ _) kq.1.1, Nat.le_trans (Nat.le_add_right _ _) kq.1.2⟩, fun ad H locs ls a1 a2 a3 a4 a5 a6 a7 a8 a9 a10 => ?_⟩
    have q1 : w.1 + 1 ≤ w0.1 := kq.1.1
    have q2 : w.2.1 + z.toNat ≤ w0.2.1 := kq.1.2
    have hzo : okI z := okS_h a6
    refine va_newa (D := gD G) (atype := .byte) (ty := .byte) (a0 := (z.toNat, .inl (fun _ => 0))) (N' := z.toNat) hx hb (hts _ harr) rfl hF.2.1 a7 a8 a9 (fun q h9 => Nat.le_trans hF.1 h9) (fun cA => rfl) (by rw [i_lt0 hzo]; omega) (i_cl hzo hz.1) (by show z.toNat * 1 ≤ _; omega) (by omega) (by omega) hd (fun q cA H1 b0 b1 b2 b3 => ?_)
    have ecA : cA = gA G 1 := Option.some.inj (Eq.trans (Eq.symm (b0.2 4 _ rfl).2) (hF.2.1.2 1 _ rfl).2)
    subst ecA
    have e0 : eC G (va_up ad w.1 q) (ca 1 z.toNat (fun _ => 0)) = .inl (gA G 1, (z.toNat, .inl (fun _ => 0))) := rfl
    rw [← e0] at b1 b2
    have hag : ∀ k, k < w.1 → va_up ad w.1 q k = ad k := fun k hk => va_up_ne ad q (by omega)
    have k2 := kq.2 (va_up ad w.1 q) H1 locs ls (by show n0 ≤ w.1 + 1; omega) (by show s0 ≤ w.2.1 + z.toNat; omega) (fun k hk => (hag k (by omega)).trans (a3 k hk)) (okW_nw a4 (show okC _ (ca 1 z.toNat (fun _ => 0)) from ⟨by omega, by omega, fun _ => okI_0⟩)) (fun i v hv => okV_mono (Nat.le_succ _) (a5 i v hv)) (okS_c (Nat.lt_succ_self _) (fun v hv => okV_mono (Nat.le_succ _) ((okS_t a6) v hv))) (by rw [wW_nw a4]; exact b1) (by rw [wW_nw a4]; exact b2) b3 (LR_congr hag a5 a10)
    have e1 : w.1 + 1 - n0 = w.1 - n0 + 1 := by omega
    have e2 : w.2.1 + z.toNat - s0 = w.2.1 - s0 + z.toNat := by omega
    have e3 : (vr w.1 :: r).map (em G (va_up ad w.1 q)) = .ref q :: r.map (em G ad) := by
      rw [List.map_cons, emS_congr hag (okS_t a6)]
      congr 1
      show va_rf (some (va_up ad w.1 q w.1)) = _
      rw [va_up_self]
      rfl
    rw [e3] at k2
    exact (show W p l e R s m args below meth c H1 locs (w.1 - n0 + 1) (w.2.1 - s0 + z.toNat) Qm _ from e1 ▸ e2 ▸ k2)
  · simp only [o_newa, if_neg hz] at h

set_option maxHeartbeats 1000000 in
theorem os_newa2 {gp : GX → Prop} {y : MethodName} {cc : ByteArray} {nL : Nat} {rt : Nat} {pc : Nat} (harr : Cond.arrayClass .boolean ∈ lw_g) (hd : decode cc pc = .ok (.newarray .boolean, 2)) : FOK gp (o_newa 2 (pc + 2)) y cc nL rt pc := by
  intro G p l e R s m args below meth c Qm ad0 n0 s0 r0 w0 hgp C hcl hsl hret L st w h
  obtain ⟨hx, hb, hml, hown, hts, hname, hF, hfr, hlo⟩ := C
  rcases st with _ | ⟨z | z, r⟩ <;> try exact False.elim h
  by_cases hz : 0 ≤ z ∧ z ≤ 4000
  · skip
    have kq : WPd G p l e R s m args below meth c nL Qm ad0 n0 s0 w0 (pc + 2) L (vr w.1 :: r) (nw w z.toNat (ca 2 z.toNat (fun _ => 0))) := by
      simp only [o_newa, if_pos hz] at h
      exact h
    refine ⟨⟨Nat.le_trans (Nat.le_succ _) kq.1.1, Nat.le_trans (Nat.le_add_right _ _) kq.1.2⟩, fun ad H locs ls a1 a2 a3 a4 a5 a6 a7 a8 a9 a10 => ?_⟩
    have q1 : w.1 + 1 ≤ w0.1 := kq.1.1
    have q2 : w.2.1 + z.toNat ≤ w0.2.1 := kq.1.2
    have hzo : okI z := okS_h a6
    refine va_newa (D := gD G) (atype := .boolean) (ty := .boolean) (a0 := (z.toNat, .inl (fun _ => 0))) (N' := z.toNat) hx hb (hts _ harr) rfl hF.2.1 a7 a8 a9 (fun q h9 => Nat.le_trans hF.1 h9) (fun cA => rfl) (by rw [i_lt0 hzo]; omega) (i_cl hzo hz.1) (by show z.toNat * 1 ≤ _; omega) (by omega) (by omega) hd (fun q cA H1 b0 b1 b2 b3 => ?_)
    have ecA : cA = gA G 2 := Option.some.inj (Eq.trans (Eq.symm (b0.2 4 _ rfl).2) (hF.2.1.2 2 _ rfl).2)
    subst ecA
    have e0 : eC G (va_up ad w.1 q) (ca 2 z.toNat (fun _ => 0)) = .inl (gA G 2, (z.toNat, .inl (fun _ => 0))) := rfl
    rw [← e0] at b1 b2
    have hag : ∀ k, k < w.1 → va_up ad w.1 q k = ad k := fun k hk => va_up_ne ad q (by omega)
    have k2 := kq.2 (va_up ad w.1 q) H1 locs ls (by show n0 ≤ w.1 + 1; omega) (by show s0 ≤ w.2.1 + z.toNat; omega) (fun k hk => (hag k (by omega)).trans (a3 k hk)) (okW_nw a4 (show okC _ (ca 2 z.toNat (fun _ => 0)) from ⟨by omega, by omega, fun _ => okI_0⟩)) (fun i v hv => okV_mono (Nat.le_succ _) (a5 i v hv)) (okS_c (Nat.lt_succ_self _) (fun v hv => okV_mono (Nat.le_succ _) ((okS_t a6) v hv))) (by rw [wW_nw a4]; exact b1) (by rw [wW_nw a4]; exact b2) b3 (LR_congr hag a5 a10)
    have e1 : w.1 + 1 - n0 = w.1 - n0 + 1 := by omega
    have e2 : w.2.1 + z.toNat - s0 = w.2.1 - s0 + z.toNat := by omega
    have e3 : (vr w.1 :: r).map (em G (va_up ad w.1 q)) = .ref q :: r.map (em G ad) := by
      rw [List.map_cons, emS_congr hag (okS_t a6)]
      congr 1
      show va_rf (some (va_up ad w.1 q w.1)) = _
      rw [va_up_self]
      rfl
    rw [e3] at k2
    exact (show W p l e R s m args below meth c H1 locs (w.1 - n0 + 1) (w.2.1 - s0 + z.toNat) Qm _ from e1 ▸ e2 ▸ k2)
  · simp only [o_newa, if_neg hz] at h

set_option maxHeartbeats 1000000 in
theorem os_newq {gp : GX → Prop} {y : MethodName} {cc : ByteArray} {nL : Nat} {rt : Nat} {pc : Nat} {index : Nat} (hcl0 : Cond.classLink y.cls index RX5 ∈ lw_g) (hd : decode cc pc = .ok (.anewarray index, 3)) : FOK gp (o_newq (pc + 3)) y cc nL rt pc := by
  intro G p l e R s m args below meth c Qm ad0 n0 s0 r0 w0 hgp C hcl hsl hret L st w h
  obtain ⟨hx, hb, hml, hown, hts, hname, hF, hfr, hlo⟩ := C
  rcases st with _ | ⟨z | z, r⟩ <;> try exact False.elim h
  by_cases hz : 0 ≤ z ∧ z ≤ 4000
  · skip
    have kq : WPd G p l e R s m args below meth c nL Qm ad0 n0 s0 w0 (pc + 3) L (vr w.1 :: r) (nw w z.toNat (cq z.toNat (fun _ => none))) := by
      simp only [o_newq, if_pos hz] at h
      exact h
    refine ⟨⟨Nat.le_trans (Nat.le_succ _) kq.1.1, Nat.le_trans (Nat.le_add_right _ _) kq.1.2⟩, fun ad H locs ls a1 a2 a3 a4 a5 a6 a7 a8 a9 a10 => ?_⟩
    have q1 : w.1 + 1 ≤ w0.1 := kq.1.1
    have q2 : w.2.1 + z.toNat ≤ w0.2.1 := kq.1.2
    have hzo : okI z := okS_h a6
    refine va_newq (D := gD G) (C := RX5) (N' := z.toNat) (own := y.cls) hx hb hown (hts _ hcl0) hF.2.2.2.2.2.1 hF.2.1 a7 a8 a9 (fun q h9 => Nat.le_trans hF.1 h9) (by rw [i_lt0 hzo]; omega) (i_cl hzo hz.1) (by omega) (by omega) (by omega) hd (fun q cA H1 b0 b1 b2 b3 => ?_)
    have ecA : cA = gA G 3 := by
      obtain ⟨k1, c1, -, -, -, u1⟩ := (b0.2 4 _ rfl).2
      obtain ⟨k2, c2, -, -, -, u2⟩ := (hF.2.1.2 3 _ rfl).2
      exact Option.some.inj (u1.symm.trans u2)
    subst ecA
    have e0 : eC G (va_up ad w.1 q) (cq z.toNat (fun _ => none)) = .inl (gA G 3, z.toNat, .inr (.inr (.inr (.inr (fun _ => none))))) := rfl
    rw [← e0] at b1 b2
    have hag : ∀ k, k < w.1 → va_up ad w.1 q k = ad k := fun k hk => va_up_ne ad q (by omega)
    have k2 := kq.2 (va_up ad w.1 q) H1 locs ls (by show n0 ≤ w.1 + 1; omega) (by show s0 ≤ w.2.1 + z.toNat; omega) (fun k hk => (hag k (by omega)).trans (a3 k hk)) (okW_nw a4 (show okC _ (cq z.toNat (fun _ => none)) from ⟨by omega, fun _ _ h9 => by cases h9⟩)) (fun i v hv => okV_mono (Nat.le_succ _) (a5 i v hv)) (okS_c (Nat.lt_succ_self _) (fun v hv => okV_mono (Nat.le_succ _) ((okS_t a6) v hv))) (by rw [wW_nw a4]; exact b1) (by rw [wW_nw a4]; exact b2) b3 (LR_congr hag a5 a10)
    have e1 : w.1 + 1 - n0 = w.1 - n0 + 1 := by omega
    have e2 : w.2.1 + z.toNat - s0 = w.2.1 - s0 + z.toNat := by omega
    have e3 : (vr w.1 :: r).map (em G (va_up ad w.1 q)) = .ref q :: r.map (em G ad) := by
      rw [List.map_cons, emS_congr hag (okS_t a6)]
      congr 1
      show va_rf (some (va_up ad w.1 q w.1)) = _
      rw [va_up_self]
      rfl
    rw [e3] at k2
    exact (show W p l e R s m args below meth c H1 locs (w.1 - n0 + 1) (w.2.1 - s0 + z.toNat) Qm _ from e1 ▸ e2 ▸ k2)
  · simp only [o_newq, if_neg hz] at h

set_option maxHeartbeats 1000000 in
theorem os_oinit {gp : GX → Prop} {y : MethodName} {cc : ByteArray} {nL : Nat} {rt : Nat} {pc : Nat} {index : Nat} (hl0 : Cond.methodLink y.cls index Lib.objectInit ∈ lw_g) (hin0 : Cond.instanceMethod Lib.objectInit ∈ lw_g) (hco0 : Cond.code Lib.objectInit ⟨#[0xb1]⟩ 1 none ∈ lw_g) (hd : decode cc pc = .ok (.invokespecial index, 3)) : FOK gp (o_oinit (pc + 3)) y cc nL rt pc := by
  intro G p l e R s m args below meth c Qm ad0 n0 s0 r0 w0 hgp C hcl hsl hret L st w h
  obtain ⟨hx, hb, hml, hown, hts, hname, hF, hfr, hlo⟩ := C
  rcases st with _ | ⟨x | x | (_ | a) | x, r⟩ <;> try exact False.elim h
  by_cases hz : r.length ≤ 4
  · skip
    have kq : WPd G p l e R s m args below meth c nL Qm ad0 n0 s0 w0 (pc + 3) L r w := by
      simp only [o_oinit, if_pos hz] at h
      exact h
    refine ⟨kq.1, fun ad H locs ls a1 a2 a3 a4 a5 a6 a7 a8 a9 a10 => ?_⟩
    have hcs := cat_sum (r.map (em G ad))
    rw [List.length_map] at hcs
    refine W.objInit (own := y.cls) hx hb hown (hts _ hl0) (hts _ hin0) (hts _ hco0) rfl (by rw [hml]; exact a10.1) rfl hd hfr (by show 2 * 0 + _ + 12 ≤ _; omega) ?_
    exact kq.2 ad H locs ls a1 a2 a3 a4 a5 (okS_t a6) a7 a8 a9 a10
  · simp only [o_oinit, if_neg hz] at h

set_option maxHeartbeats 1000000 in
theorem os_mmax {gp : GX → Prop} {y : MethodName} {cc : ByteArray} {nL : Nat} {rt : Nat} {pc : Nat} {index : Nat} (hl0 : Cond.methodLink y.cls index Lib.Math.max.name ∈ lw_g) (hs0 : Cond.static Lib.Math.max.name ∈ lw_g) (hi0 : Cond.initialized "java/lang/Math" ∈ lw_g) (hco0 : Cond.code Lib.Math.max.name Lib.Math.max.code 2 (some .int) ∈ lw_g) (hd : decode cc pc = .ok (.invokestatic index, 3)) : FOK gp (o_mth f_max (pc + 3)) y cc nL rt pc := by
  intro G p l e R s m args below meth c Qm ad0 n0 s0 r0 w0 hgp C hcl hsl hret L st w h
  obtain ⟨hx, hb, hml, hown, hts, hname, hF, hfr, hlo⟩ := C
  rcases st with _ | ⟨y1 | y1, _ | ⟨x | x, r⟩⟩ <;> try exact False.elim h
  by_cases hz : r.length ≤ 4
  · skip
    have kq : WPd G p l e R s m args below meth c nL Qm ad0 n0 s0 w0 (pc + 3) L (vi (f_max x y1) :: r) w := by
      simp only [o_mth, if_pos hz] at h
      exact h
    refine ⟨kq.1, fun ad H locs ls a1 a2 a3 a4 a5 a6 a7 a8 a9 a10 => ?_⟩
    have hcs := cat_sum (r.map (em G ad))
    rw [List.length_map] at hcs
    have hq1 := kq.1.1
    have hq2 := kq.1.2
    have hyo : okI y1 := okS_h a6
    have hxo : okI x := okS_h (okS_t a6)
    refine va_mmax (own := y.cls) hx hb (by rw [hml]; exact a10.1.symm) hown (hts _ hl0) (hts _ hs0) (hts _ hi0) (hts _ hco0) hfr (by omega) (by omega) (by omega) hd ?_
    have k2 := kq.2 ad H locs ls a1 a2 a3 a4 a5 (okS_c (show okI (f_max x y1) by unfold f_max; split <;> assumption) (okS_t (okS_t a6))) a7 a8 a9 a10
    have e2 : (if Int32.ofInt x < Int32.ofInt y1 then Int32.ofInt y1 else Int32.ofInt x) = Int32.ofInt (f_max x y1) := by
      unfold f_max
      simp only [i_lt hxo hyo]
      split <;> rfl
    rw [e2]
    exact k2
  · simp only [o_mth, if_neg hz] at h

set_option maxHeartbeats 1000000 in
theorem os_mmin {gp : GX → Prop} {y : MethodName} {cc : ByteArray} {nL : Nat} {rt : Nat} {pc : Nat} {index : Nat} (hl0 : Cond.methodLink y.cls index Lib.Math.min.name ∈ lw_g) (hs0 : Cond.static Lib.Math.min.name ∈ lw_g) (hi0 : Cond.initialized "java/lang/Math" ∈ lw_g) (hco0 : Cond.code Lib.Math.min.name Lib.Math.min.code 2 (some .int) ∈ lw_g) (hd : decode cc pc = .ok (.invokestatic index, 3)) : FOK gp (o_mth f_min (pc + 3)) y cc nL rt pc := by
  intro G p l e R s m args below meth c Qm ad0 n0 s0 r0 w0 hgp C hcl hsl hret L st w h
  obtain ⟨hx, hb, hml, hown, hts, hname, hF, hfr, hlo⟩ := C
  rcases st with _ | ⟨y1 | y1, _ | ⟨x | x, r⟩⟩ <;> try exact False.elim h
  by_cases hz : r.length ≤ 4
  · skip
    have kq : WPd G p l e R s m args below meth c nL Qm ad0 n0 s0 w0 (pc + 3) L (vi (f_min x y1) :: r) w := by
      simp only [o_mth, if_pos hz] at h
      exact h
    refine ⟨kq.1, fun ad H locs ls a1 a2 a3 a4 a5 a6 a7 a8 a9 a10 => ?_⟩
    have hcs := cat_sum (r.map (em G ad))
    rw [List.length_map] at hcs
    have hq1 := kq.1.1
    have hq2 := kq.1.2
    have hyo : okI y1 := okS_h a6
    have hxo : okI x := okS_h (okS_t a6)
    refine va_mmin (own := y.cls) hx hb (by rw [hml]; exact a10.1.symm) hown (hts _ hl0) (hts _ hs0) (hts _ hi0) (hts _ hco0) hfr (by omega) (by omega) (by omega) hd ?_
    have k2 := kq.2 ad H locs ls a1 a2 a3 a4 a5 (okS_c (show okI (f_min x y1) by unfold f_min; split <;> assumption) (okS_t (okS_t a6))) a7 a8 a9 a10
    have e2 : (if Int32.ofInt y1 < Int32.ofInt x then Int32.ofInt y1 else Int32.ofInt x) = Int32.ofInt (f_min x y1) := by
      unfold f_min
      simp only [i_lt hyo hxo]
      split <;> rfl
    rw [e2]
    exact k2
  · simp only [o_mth, if_neg hz] at h

set_option maxHeartbeats 1000000 in
theorem os_iret {gp : GX → Prop} {y : MethodName} {cc : ByteArray} {nL : Nat} {pc : Nat} (hd : decode cc pc = .ok (.ireturn, 1)) : FOK gp o_iret y cc nL 1 pc := by
  intro G p l e R s m args below meth c Qm ad0 n0 s0 r0 w0 hgp C hcl hsl hret L st w h
  obtain ⟨hx, hb, hml, hown, hts, hname, hF, hfr, hlo⟩ := C
  rcases st with _ | ⟨z | z, _ | ⟨x, r⟩⟩ <;> try exact False.elim h
  obtain ⟨h1, h2⟩ : some (vi z) = r0 ∧ w = w0 := h
  subst h1; subst h2
  refine ⟨⟨Nat.le_refl _, Nat.le_refl _⟩, fun ad H locs ls a1 a2 a3 a4 a5 a6 a7 a8 a9 a10 => ?_⟩
  exact (hret ad H locs ls pc a1 a2 a3 a4 (fun v e => by cases e; exact okS_h a6) a7 a8 a9).1 z rfl (Or.inl rfl) hd

set_option maxHeartbeats 1000000 in
theorem os_zret {gp : GX → Prop} {y : MethodName} {cc : ByteArray} {nL : Nat} {pc : Nat} (hd : decode cc pc = .ok (.ireturn, 1)) : FOK gp o_zret y cc nL 2 pc := by
  intro G p l e R s m args below meth c Qm ad0 n0 s0 r0 w0 hgp C hcl hsl hret L st w h
  obtain ⟨hx, hb, hml, hown, hts, hname, hF, hfr, hlo⟩ := C
  rcases st with _ | ⟨z | z, _ | ⟨x, r⟩⟩ <;> try exact False.elim h
  by_cases hz : z = 0 ∨ z = 1
  · obtain ⟨h1, h2⟩ : some (vi z) = r0 ∧ w = w0 := by
      simp only [o_zret, if_pos hz] at h
      exact h
    subst h1; subst h2
    refine ⟨⟨Nat.le_refl _, Nat.le_refl _⟩, fun ad H locs ls a1 a2 a3 a4 a5 a6 a7 a8 a9 a10 => ?_⟩
    exact (hret ad H locs ls pc a1 a2 a3 a4 (fun v e => by cases e; exact okS_h a6) a7 a8 a9).1 z rfl (Or.inr ⟨rfl, hz⟩) hd
  · simp only [o_zret, if_neg hz] at h

set_option maxHeartbeats 1000000 in
theorem os_lret {gp : GX → Prop} {y : MethodName} {cc : ByteArray} {nL : Nat} {pc : Nat} (hd : decode cc pc = .ok (.lreturn, 1)) : FOK gp o_lret y cc nL 3 pc := by
  intro G p l e R s m args below meth c Qm ad0 n0 s0 r0 w0 hgp C hcl hsl hret L st w h
  obtain ⟨hx, hb, hml, hown, hts, hname, hF, hfr, hlo⟩ := C
  rcases st with _ | ⟨z | z | z, _ | ⟨x, r⟩⟩ <;> try exact False.elim h
  obtain ⟨h1, h2⟩ : some (vl z) = r0 ∧ w = w0 := h
  subst h1; subst h2
  refine ⟨⟨Nat.le_refl _, Nat.le_refl _⟩, fun ad H locs ls a1 a2 a3 a4 a5 a6 a7 a8 a9 a10 => ?_⟩
  exact (hret ad H locs ls pc a1 a2 a3 a4 (fun v e => by cases e; exact okS_h a6) a7 a8 a9).2.1 z rfl rfl hd

set_option maxHeartbeats 1000000 in
theorem os_vret {gp : GX → Prop} {y : MethodName} {cc : ByteArray} {nL : Nat} {pc : Nat} (hd : decode cc pc = .ok (.return_, 1)) : FOK gp o_vret y cc nL 0 pc := by
  intro G p l e R s m args below meth c Qm ad0 n0 s0 r0 w0 hgp C hcl hsl hret L st w h
  obtain ⟨hx, hb, hml, hown, hts, hname, hF, hfr, hlo⟩ := C
  rcases st with _ | ⟨z, r⟩ <;> try exact False.elim h
  obtain ⟨h1, h2⟩ : none = r0 ∧ w = w0 := h
  subst h1; subst h2
  refine ⟨⟨Nat.le_refl _, Nat.le_refl _⟩, fun ad H locs ls a1 a2 a3 a4 a5 a6 a7 a8 a9 a10 => ?_⟩
  exact (hret ad H locs ls pc a1 a2 a3 a4 (fun v e => by cases e) a7 a8 a9).2.2 rfl rfl hd

set_option maxHeartbeats 1000000 in
theorem os_tsw {gp : GX → Prop} {y : MethodName} {cc : ByteArray} {nL : Nat} {rt : Nat} {pc : Nat} {dflt lo hi : Int} {offs : Array Int} {len df : Nat} {ts : List Nat} (ht : ts.map (fun t : Nat => (t : Int)) = offs.toList.map (fun o => (pc : Int) + o)) (hlen : (offs.size : Int) = hi - lo + 1) (hdf : (pc : Int) + dflt = (df : Int)) (hd : decode cc pc = .ok (.tableswitch dflt lo hi offs, len)) : FOK gp (o_tsw lo ts df) y cc nL rt pc := by
  intro G p l e R s m args below meth c Qm ad0 n0 s0 r0 w0 hgp C hcl hsl hret L st w h
  obtain ⟨hx, hb, hml, hown, hts, hname, hF, hfr, hlo⟩ := C
  rcases st with _ | ⟨x | x, r⟩ <;> try exact False.elim h
  have hl2 : ts.length = offs.size := by
    have := congrArg List.length ht
    simpa using this
  by_cases h1 : x < lo
  · skip
    have kq : WPd G p l e R s m args below meth c nL Qm ad0 n0 s0 w0 df L r w := by
      simp only [o_tsw, tswT, decide_eq_true h1, cond_true] at h
      exact h
    refine ⟨kq.1, fun ad H locs ls a1 a2 a3 a4 a5 a6 a7 a8 a9 a10 => ?_⟩
    exact lv_tableOut hx hb hd (Or.inl (by rw [tI (okS_h a6)]; exact h1)) hdf (kq.2 ad H locs ls a1 a2 a3 a4 a5 (okS_t a6) a7 a8 a9 a10)
  · rcases h2 : ts[(x - lo).toNat]? with _ | t
    · skip
      have kq : WPd G p l e R s m args below meth c nL Qm ad0 n0 s0 w0 df L r w := by
        simp only [o_tsw, tswT, decide_eq_false h1, cond_false, h2] at h
        exact h
      refine ⟨kq.1, fun ad H locs ls a1 a2 a3 a4 a5 a6 a7 a8 a9 a10 => ?_⟩
      have h3 := List.getElem?_eq_none_iff.mp h2
      exact lv_tableOut hx hb hd (Or.inr (by rw [tI (okS_h a6)]; omega)) hdf (kq.2 ad H locs ls a1 a2 a3 a4 a5 (okS_t a6) a7 a8 a9 a10)
    · skip
      have kq : WPd G p l e R s m args below meth c nL Qm ad0 n0 s0 w0 t L r w := by
        simp only [o_tsw, tswT, decide_eq_false h1, cond_false, h2] at h
        exact h
      refine ⟨kq.1, fun ad H locs ls a1 a2 a3 a4 a5 a6 a7 a8 a9 a10 => ?_⟩
      have h3 := (List.getElem?_eq_some_iff.mp h2).1
      have h4 : (ts.map (fun t : Nat => (t : Int)))[(x - lo).toNat]? = some (t : Int) := by rw [List.getElem?_map, h2]; rfl
      rw [ht, List.getElem?_map] at h4
      cases h5 : offs.toList[(x - lo).toNat]? with
      | none => rw [h5] at h4; cases h4
      | some o =>
        rw [h5] at h4
        have h6 : (pc : Int) + o = (t : Int) := Option.some.inj h4
        exact lv_tableIn hx hb hd (by rw [tI (okS_h a6)]; exact h1) (by rw [tI (okS_h a6)]; omega) (off := o) (by rw [tI (okS_h a6), ← Array.getElem?_toList]; exact h5) h6 (kq.2 ad H locs ls a1 a2 a3 a4 a5 (okS_t a6) a7 a8 a9 a10)
end OS3
