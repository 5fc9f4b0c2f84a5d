section OS
set_option maxHeartbeats 1000000 in
theorem os_iconst {gp : GX → Prop} {y : MethodName} {cc : ByteArray} {nL : Nat} {rt : Nat} {pc : Nat} {n z : Int} (hv : Int32.ofInt n = Int32.ofInt z) (hz : decide (-2147483648 ≤ z ∧ z < 2147483648) = true) (hd : decode cc pc = .ok (.iconst n, 1)) : FOK gp (o_push (vi z) (pc + 1)) y cc nL rt pc := by
  intro G p l e R s m args below meth c Qm ad0 n0 s0 r0 w0 hgp C hcl hsl hret L st w h
  obtain ⟨hx, hb, hml, hown, hts, hname, hF, hfr, hlo⟩ := C
  have k : WPd G p l e R s m args below meth c nL Qm ad0 n0 s0 w0 (pc + 1) L (vi z :: st) w := h
  refine ⟨k.1, fun ad H locs ls a1 a2 a3 a4 a5 a6 a7 a8 a9 a10 => ?_⟩
  have hz2 : -2147483648 ≤ z ∧ z < 2147483648 := of_decide_eq_true hz
  refine lv_iconst hx hb hd hv ?_
  exact k.2 ad H locs ls a1 a2 a3 a4 a5 (okS_c (show okI z from hz2) a6) a7 a8 a9 a10

set_option maxHeartbeats 1000000 in
theorem os_bipush {gp : GX → Prop} {y : MethodName} {cc : ByteArray} {nL : Nat} {rt : Nat} {pc : Nat} {n z : Int} (hv : (Int8.ofInt n).toInt32 = Int32.ofInt z) (hz : decide (-2147483648 ≤ z ∧ z < 2147483648) = true) (hd : decode cc pc = .ok (.bipush n, 2)) : FOK gp (o_push (vi z) (pc + 2)) y cc nL rt pc := by
  intro G p l e R s m args below meth c Qm ad0 n0 s0 r0 w0 hgp C hcl hsl hret L st w h
  obtain ⟨hx, hb, hml, hown, hts, hname, hF, hfr, hlo⟩ := C
  have k : WPd G p l e R s m args below meth c nL Qm ad0 n0 s0 w0 (pc + 2) L (vi z :: st) w := h
  refine ⟨k.1, fun ad H locs ls a1 a2 a3 a4 a5 a6 a7 a8 a9 a10 => ?_⟩
  have hz2 : -2147483648 ≤ z ∧ z < 2147483648 := of_decide_eq_true hz
  refine lv_bipush hx hb hd hv ?_
  exact k.2 ad H locs ls a1 a2 a3 a4 a5 (okS_c (show okI z from hz2) a6) a7 a8 a9 a10

set_option maxHeartbeats 1000000 in
theorem os_sipush {gp : GX → Prop} {y : MethodName} {cc : ByteArray} {nL : Nat} {rt : Nat} {pc : Nat} {n z : Int} (hv : (Int16.ofInt n).toInt32 = Int32.ofInt z) (hz : decide (-2147483648 ≤ z ∧ z < 2147483648) = true) (hd : decode cc pc = .ok (.sipush n, 3)) : FOK gp (o_push (vi z) (pc + 3)) y cc nL rt pc := by
  intro G p l e R s m args below meth c Qm ad0 n0 s0 r0 w0 hgp C hcl hsl hret L st w h
  obtain ⟨hx, hb, hml, hown, hts, hname, hF, hfr, hlo⟩ := C
  have k : WPd G p l e R s m args below meth c nL Qm ad0 n0 s0 w0 (pc + 3) L (vi z :: st) w := h
  refine ⟨k.1, fun ad H locs ls a1 a2 a3 a4 a5 a6 a7 a8 a9 a10 => ?_⟩
  have hz2 : -2147483648 ≤ z ∧ z < 2147483648 := of_decide_eq_true hz
  refine lv_sipush hx hb hd hv ?_
  exact k.2 ad H locs ls a1 a2 a3 a4 a5 (okS_c (show okI z from hz2) a6) a7 a8 a9 a10

set_option maxHeartbeats 1000000 in
theorem os_lconst {gp : GX → Prop} {y : MethodName} {cc : ByteArray} {nL : Nat} {rt : Nat} {pc : Nat} {n : Fin 2} {z : Int} (hv : Int64.ofNat (n : Nat) = Int64.ofInt z) (hz : decide (0 ≤ z ∧ z < 2) = true) (hd : decode cc pc = .ok (.lconst n, 1)) : FOK gp (o_push (vl z) (pc + 1)) y cc nL rt pc := by
  intro G p l e R s m args below meth c Qm ad0 n0 s0 r0 w0 hgp C hcl hsl hret L st w h
  obtain ⟨hx, hb, hml, hown, hts, hname, hF, hfr, hlo⟩ := C
  have k : WPd G p l e R s m args below meth c nL Qm ad0 n0 s0 w0 (pc + 1) L (vl z :: st) w := h
  refine ⟨k.1, fun ad H locs ls a1 a2 a3 a4 a5 a6 a7 a8 a9 a10 => ?_⟩
  refine lv_lconst hx hb hd hv ?_
  have hz := of_decide_eq_true hz
  exact k.2 ad H locs ls a1 a2 a3 a4 a5 (okS_c (show okJ z from ⟨by omega, by omega⟩) a6) a7 a8 a9 a10

set_option maxHeartbeats 1000000 in
theorem os_iload_n {gp : GX → Prop} {y : MethodName} {cc : ByteArray} {nL : Nat} {rt : Nat} {pc : Nat} {kk : Fin 4} {i : Nat} (hi : (kk : Nat) = i) (hd : decode cc pc = .ok (.iload_n kk, 1)) : FOK gp (o_iload i (pc + 1)) y cc nL rt pc := by
  intro G p l e R s m args below meth c Qm ad0 n0 s0 r0 w0 hgp C hcl hsl hret L st w h
  obtain ⟨hx, hb, hml, hown, hts, hname, hF, hfr, hlo⟩ := C
  rcases hz : lk L i with _ | z | z
  · simp only [o_iload, hz] at h
  · skip
    have k : WPd G p l e R s m args below meth c nL Qm ad0 n0 s0 w0 (pc + 1) L (vi z :: st) w := by
      simp only [o_iload, hz] at h
      exact h
    refine ⟨k.1, fun ad H locs ls a1 a2 a3 a4 a5 a6 a7 a8 a9 a10 => ?_⟩
    exact lv_iload_n hx hb hd hi (a10.2.2.2 i _ hz) (k.2 ad H locs ls a1 a2 a3 a4 a5 (okS_c (a5 i _ hz) a6) a7 a8 a9 a10)
  · simp only [o_iload, hz] at h

set_option maxHeartbeats 1000000 in
theorem os_iload {gp : GX → Prop} {y : MethodName} {cc : ByteArray} {nL : Nat} {rt : Nat} {pc : Nat} {i : Nat} (hd : decode cc pc = .ok (.iload i, 2)) : FOK gp (o_iload i (pc + 2)) y cc nL rt pc := by
  intro G p l e R s m args below meth c Qm ad0 n0 s0 r0 w0 hgp C hcl hsl hret L st w h
  obtain ⟨hx, hb, hml, hown, hts, hname, hF, hfr, hlo⟩ := C
  rcases hz : lk L i with _ | z | z
  · simp only [o_iload, hz] at h
  · skip
    have k : WPd G p l e R s m args below meth c nL Qm ad0 n0 s0 w0 (pc + 2) L (vi z :: st) w := by
      simp only [o_iload, hz] at h
      exact h
    refine ⟨k.1, fun ad H locs ls a1 a2 a3 a4 a5 a6 a7 a8 a9 a10 => ?_⟩
    exact lv_iload hx hb hd (a10.2.2.2 i _ hz) (k.2 ad H locs ls a1 a2 a3 a4 a5 (okS_c (a5 i _ hz) a6) a7 a8 a9 a10)
  · simp only [o_iload, hz] at h

set_option maxHeartbeats 1000000 in
theorem os_lload_n {gp : GX → Prop} {y : MethodName} {cc : ByteArray} {nL : Nat} {rt : Nat} {pc : Nat} {kk : Fin 4} {i : Nat} (hi : (kk : Nat) = i) (hd : decode cc pc = .ok (.lload_n kk, 1)) : FOK gp (o_lload i (pc + 1)) y cc nL rt pc := by
  intro G p l e R s m args below meth c Qm ad0 n0 s0 r0 w0 hgp C hcl hsl hret L st w h
  obtain ⟨hx, hb, hml, hown, hts, hname, hF, hfr, hlo⟩ := C
  rcases hz : lk L i with _ | z | z | z
  · simp only [o_lload, hz] at h
  · simp only [o_lload, hz] at h
  · skip
    have k : WPd G p l e R s m args below meth c nL Qm ad0 n0 s0 w0 (pc + 1) L (vl z :: st) w := by
      simp only [o_lload, hz] at h
      exact h
    refine ⟨k.1, fun ad H locs ls a1 a2 a3 a4 a5 a6 a7 a8 a9 a10 => ?_⟩
    exact lv_lload_n hx hb hd hi (a10.2.2.2 i _ hz) (k.2 ad H locs ls a1 a2 a3 a4 a5 (okS_c (a5 i _ hz) a6) a7 a8 a9 a10)
  · simp only [o_lload, hz] at h

set_option maxHeartbeats 1000000 in
theorem os_lload {gp : GX → Prop} {y : MethodName} {cc : ByteArray} {nL : Nat} {rt : Nat} {pc : Nat} {i : Nat} (hd : decode cc pc = .ok (.lload i, 2)) : FOK gp (o_lload i (pc + 2)) y cc nL rt pc := by
  intro G p l e R s m args below meth c Qm ad0 n0 s0 r0 w0 hgp C hcl hsl hret L st w h
  obtain ⟨hx, hb, hml, hown, hts, hname, hF, hfr, hlo⟩ := C
  rcases hz : lk L i with _ | z | z | z
  · simp only [o_lload, hz] at h
  · simp only [o_lload, hz] at h
  · skip
    have k : WPd G p l e R s m args below meth c nL Qm ad0 n0 s0 w0 (pc + 2) L (vl z :: st) w := by
      simp only [o_lload, hz] at h
      exact h
    refine ⟨k.1, fun ad H locs ls a1 a2 a3 a4 a5 a6 a7 a8 a9 a10 => ?_⟩
    exact lv_lload hx hb hd (a10.2.2.2 i _ hz) (k.2 ad H locs ls a1 a2 a3 a4 a5 (okS_c (a5 i _ hz) a6) a7 a8 a9 a10)
  · simp only [o_lload, hz] at h

set_option maxHeartbeats 1000000 in
theorem os_aload_n {gp : GX → Prop} {y : MethodName} {cc : ByteArray} {nL : Nat} {rt : Nat} {pc : Nat} {kk : Fin 4} {i : Nat} (hi : (kk : Nat) = i) (hd : decode cc pc = .ok (.aload_n kk, 1)) : FOK gp (o_aload i (pc + 1)) y cc nL rt pc := by
  intro G p l e R s m args below meth c Qm ad0 n0 s0 r0 w0 hgp C hcl hsl hret L st w h
  obtain ⟨hx, hb, hml, hown, hts, hname, hF, hfr, hlo⟩ := C
  rcases hz : lk L i with _ | z | z | v
  · simp only [o_aload, hz] at h
  · simp only [o_aload, hz] at h
  · simp only [o_aload, hz] at h
  · skip
    have k : WPd G p l e R s m args below meth c nL Qm ad0 n0 s0 w0 (pc + 1) L (Sum.inr (Sum.inr v) :: st) w := by
      simp only [o_aload, hz] at h
      exact h
    refine ⟨k.1, fun ad H locs ls a1 a2 a3 a4 a5 a6 a7 a8 a9 a10 => ?_⟩
    have hq := a10.2.2.2 i _ hz
    have kk2 := k.2 ad H locs ls a1 a2 a3 a4 a5 (okS_c (a5 i _ hz) a6) a7 a8 a9 a10
    rcases v with (_ | a) | q
    · exact lv_aload_nN hx hb hd hi hq kk2
    · exact lv_aload_n hx hb hd hi hq kk2
    · exact lv_aload_n hx hb hd hi hq kk2

set_option maxHeartbeats 1000000 in
theorem os_aload {gp : GX → Prop} {y : MethodName} {cc : ByteArray} {nL : Nat} {rt : Nat} {pc : Nat} {i : Nat} (hd : decode cc pc = .ok (.aload i, 2)) : FOK gp (o_aload i (pc + 2)) y cc nL rt pc := by
  intro G p l e R s m args below meth c Qm ad0 n0 s0 r0 w0 hgp C hcl hsl hret L st w h
  obtain ⟨hx, hb, hml, hown, hts, hname, hF, hfr, hlo⟩ := C
  rcases hz : lk L i with _ | z | z | v
  · simp only [o_aload, hz] at h
  · simp only [o_aload, hz] at h
  · simp only [o_aload, hz] at h
  · skip
    have k : WPd G p l e R s m args below meth c nL Qm ad0 n0 s0 w0 (pc + 2) L (Sum.inr (Sum.inr v) :: st) w := by
      simp only [o_aload, hz] at h
      exact h
    refine ⟨k.1, fun ad H locs ls a1 a2 a3 a4 a5 a6 a7 a8 a9 a10 => ?_⟩
    have hq := a10.2.2.2 i _ hz
    have kk2 := k.2 ad H locs ls a1 a2 a3 a4 a5 (okS_c (a5 i _ hz) a6) a7 a8 a9 a10
    rcases v with (_ | a) | q
    · exact lv_aloadN hx hb hd hq kk2
    · exact lv_aload hx hb hd hq kk2
    · exact lv_aload hx hb hd hq kk2

set_option maxHeartbeats 1000000 in
theorem os_istore_n {gp : GX → Prop} {y : MethodName} {cc : ByteArray} {nL : Nat} {rt : Nat} {pc : Nat} {kk : Fin 4} {i : Nat} (hi : (kk : Nat) = i) (hd : decode cc pc = .ok (.istore_n kk, 1)) : FOK gp (o_istore i (pc + 1)) y cc nL rt pc := by
  intro G p l e R s m args below meth c Qm ad0 n0 s0 r0 w0 hgp C hcl hsl hret L st w h
  obtain ⟨hx, hb, hml, hown, hts, hname, hF, hfr, hlo⟩ := C
  rcases st with _ | ⟨z | z, r⟩ <;> try exact False.elim h
  by_cases hc : i < L.length ∧ nol L i = true
  · skip
    have k : WPd G p l e R s m args below meth c nL Qm ad0 n0 s0 w0 (pc + 1) (sto L i (vi z)) r w := by
      simp only [o_istore, if_pos hc] at h
      exact h
    refine ⟨k.1, fun ad H locs ls a1 a2 a3 a4 a5 a6 a7 a8 a9 a10 => ?_⟩
    refine lv_istore_n (nL := nL) (lv := lvL G ad L) hx hb hd hi a10.has (by rw [← a10.2.1]; exact hc.1) rfl (fun ls' hl' => ?_)
    exact k.2 ad H locs ls' a1 a2 a3 a4 (okL_sto a5 (okS_h a6)) (okS_t a6) a7 a8 a9 (LR_sto (v := vi z) a10 hc.2 hl')
  · simp only [o_istore, if_neg hc] at h

set_option maxHeartbeats 1000000 in
theorem os_istore {gp : GX → Prop} {y : MethodName} {cc : ByteArray} {nL : Nat} {rt : Nat} {pc : Nat} {i : Nat} (hd : decode cc pc = .ok (.istore i, 2)) : FOK gp (o_istore i (pc + 2)) y cc nL rt pc := by
  intro G p l e R s m args below meth c Qm ad0 n0 s0 r0 w0 hgp C hcl hsl hret L st w h
  obtain ⟨hx, hb, hml, hown, hts, hname, hF, hfr, hlo⟩ := C
  rcases st with _ | ⟨z | z, r⟩ <;> try exact False.elim h
  by_cases hc : i < L.length ∧ nol L i = true
  · skip
    have k : WPd G p l e R s m args below meth c nL Qm ad0 n0 s0 w0 (pc + 2) (sto L i (vi z)) r w := by
      simp only [o_istore, if_pos hc] at h
      exact h
    refine ⟨k.1, fun ad H locs ls a1 a2 a3 a4 a5 a6 a7 a8 a9 a10 => ?_⟩
    refine lv_istore (nL := nL) (lv := lvL G ad L) hx hb hd a10.has (by rw [← a10.2.1]; exact hc.1) rfl (fun ls' hl' => ?_)
    exact k.2 ad H locs ls' a1 a2 a3 a4 (okL_sto a5 (okS_h a6)) (okS_t a6) a7 a8 a9 (LR_sto (v := vi z) a10 hc.2 hl')
  · simp only [o_istore, if_neg hc] at h

set_option maxHeartbeats 1000000 in
theorem os_lstore_n {gp : GX → Prop} {y : MethodName} {cc : ByteArray} {nL : Nat} {rt : Nat} {pc : Nat} {kk : Fin 4} {i : Nat} (hi : (kk : Nat) = i) (hd : decode cc pc = .ok (.lstore_n kk, 1)) : FOK gp (o_lstore i (pc + 1)) y cc nL rt pc := by
  intro G p l e R s m args below meth c Qm ad0 n0 s0 r0 w0 hgp C hcl hsl hret L st w h
  obtain ⟨hx, hb, hml, hown, hts, hname, hF, hfr, hlo⟩ := C
  rcases st with _ | ⟨z | z | z, r⟩ <;> try exact False.elim h
  by_cases hc : i + 1 < L.length ∧ nol L i = true
  · skip
    have k : WPd G p l e R s m args below meth c nL Qm ad0 n0 s0 w0 (pc + 1) (sto2 L i (vl z)) r w := by
      simp only [o_lstore, if_pos hc] at h
      exact h
    refine ⟨k.1, fun ad H locs ls a1 a2 a3 a4 a5 a6 a7 a8 a9 a10 => ?_⟩
    refine lv_lstore_n (nL := nL) (lv := lvL G ad L) hx hb hd hi a10.has (by rw [← a10.2.1]; exact hc.1) rfl (fun ls' hl' => ?_)
    exact k.2 ad H locs ls' a1 a2 a3 a4 (okL_sto2 hc.1 a5 (okS_h a6)) (okS_t a6) a7 a8 a9 (LR_sto2 (v := vl z) a10 hc.1 hc.2 hl')
  · simp only [o_lstore, if_neg hc] at h

set_option maxHeartbeats 1000000 in
theorem os_lstore {gp : GX → Prop} {y : MethodName} {cc : ByteArray} {nL : Nat} {rt : Nat} {pc : Nat} {i : Nat} (hd : decode cc pc = .ok (.lstore i, 2)) : FOK gp (o_lstore i (pc + 2)) y cc nL rt pc := by
  intro G p l e R s m args below meth c Qm ad0 n0 s0 r0 w0 hgp C hcl hsl hret L st w h
  obtain ⟨hx, hb, hml, hown, hts, hname, hF, hfr, hlo⟩ := C
  rcases st with _ | ⟨z | z | z, r⟩ <;> try exact False.elim h
  by_cases hc : i + 1 < L.length ∧ nol L i = true
  · skip
    have k : WPd G p l e R s m args below meth c nL Qm ad0 n0 s0 w0 (pc + 2) (sto2 L i (vl z)) r w := by
      simp only [o_lstore, if_pos hc] at h
      exact h
    refine ⟨k.1, fun ad H locs ls a1 a2 a3 a4 a5 a6 a7 a8 a9 a10 => ?_⟩
    refine lv_lstore (nL := nL) (lv := lvL G ad L) hx hb hd a10.has (by rw [← a10.2.1]; exact hc.1) rfl (fun ls' hl' => ?_)
    exact k.2 ad H locs ls' a1 a2 a3 a4 (okL_sto2 hc.1 a5 (okS_h a6)) (okS_t a6) a7 a8 a9 (LR_sto2 (v := vl z) a10 hc.1 hc.2 hl')
  · simp only [o_lstore, if_neg hc] at h

set_option maxHeartbeats 1000000 in
theorem os_astore_n {gp : GX → Prop} {y : MethodName} {cc : ByteArray} {nL : Nat} {rt : Nat} {pc : Nat} {kk : Fin 4} {i : Nat} (hi : (kk : Nat) = i) (hd : decode cc pc = .ok (.astore_n kk, 1)) : FOK gp (o_astore i (pc + 1)) y cc nL rt pc := by
  intro G p l e R s m args below meth c Qm ad0 n0 s0 r0 w0 hgp C hcl hsl hret L st w h
  obtain ⟨hx, hb, hml, hown, hts, hname, hF, hfr, hlo⟩ := C
  rcases st with _ | ⟨z | z | z, r⟩ <;> try exact False.elim h
  by_cases hc : i < L.length ∧ nol L i = true
  · skip
    have k : WPd G p l e R s m args below meth c nL Qm ad0 n0 s0 w0 (pc + 1) (sto L i (Sum.inr (Sum.inr z))) r w := by
      simp only [o_astore, if_pos hc] at h
      exact h
    refine ⟨k.1, fun ad H locs ls a1 a2 a3 a4 a5 a6 a7 a8 a9 a10 => ?_⟩
    have kk2 := fun ls' hl' => k.2 ad H locs ls' a1 a2 a3 a4 (okL_sto a5 (okS_h a6)) (okS_t a6) a7 a8 a9 (LR_sto (v := Sum.inr (Sum.inr z)) a10 hc.2 hl')
    rcases z with (_ | a) | q
    · exact lv_astore_nN (nL := nL) (lv := lvL G ad L) hx hb hd hi a10.has (by rw [← a10.2.1]; exact hc.1) rfl kk2
    · exact lv_astore_n (nL := nL) (lv := lvL G ad L) hx hb hd hi a10.has (by rw [← a10.2.1]; exact hc.1) rfl kk2
    · exact lv_astore_n (nL := nL) (lv := lvL G ad L) hx hb hd hi a10.has (by rw [← a10.2.1]; exact hc.1) rfl kk2
  · simp only [o_astore, if_neg hc] at h

set_option maxHeartbeats 1000000 in
theorem os_astore {gp : GX → Prop} {y : MethodName} {cc : ByteArray} {nL : Nat} {rt : Nat} {pc : Nat} {i : Nat} (hd : decode cc pc = .ok (.astore i, 2)) : FOK gp (o_astore i (pc + 2)) y cc nL rt pc := by
  intro G p l e R s m args below meth c Qm ad0 n0 s0 r0 w0 hgp C hcl hsl hret L st w h
  obtain ⟨hx, hb, hml, hown, hts, hname, hF, hfr, hlo⟩ := C
  rcases st with _ | ⟨z | z | z, r⟩ <;> try exact False.elim h
  by_cases hc : i < L.length ∧ nol L i = true
  · skip
    have k : WPd G p l e R s m args below meth c nL Qm ad0 n0 s0 w0 (pc + 2) (sto L i (Sum.inr (Sum.inr z))) r w := by
      simp only [o_astore, if_pos hc] at h
      exact h
    refine ⟨k.1, fun ad H locs ls a1 a2 a3 a4 a5 a6 a7 a8 a9 a10 => ?_⟩
    have kk2 := fun ls' hl' => k.2 ad H locs ls' a1 a2 a3 a4 (okL_sto a5 (okS_h a6)) (okS_t a6) a7 a8 a9 (LR_sto (v := Sum.inr (Sum.inr z)) a10 hc.2 hl')
    rcases z with (_ | a) | q
    · exact lv_astoreN (nL := nL) (lv := lvL G ad L) hx hb hd a10.has (by rw [← a10.2.1]; exact hc.1) rfl kk2
    · exact lv_astore (nL := nL) (lv := lvL G ad L) hx hb hd a10.has (by rw [← a10.2.1]; exact hc.1) rfl kk2
    · exact lv_astore (nL := nL) (lv := lvL G ad L) hx hb hd a10.has (by rw [← a10.2.1]; exact hc.1) rfl kk2
  · simp only [o_astore, if_neg hc] at h

set_option maxHeartbeats 1000000 in
theorem os_iinc {gp : GX → Prop} {y : MethodName} {cc : ByteArray} {nL : Nat} {rt : Nat} {pc : Nat} {i : Nat} {n : Int} (hd : decode cc pc = .ok (.iinc i n, 3)) : FOK gp (o_iinc i n (pc + 3)) y cc nL rt pc := by
  intro G p l e R s m args below meth c Qm ad0 n0 s0 r0 w0 hgp C hcl hsl hret L st w h
  obtain ⟨hx, hb, hml, hown, hts, hname, hF, hfr, hlo⟩ := C
  rcases hz : lk L i with _ | z | z
  · simp only [o_iinc, hz] at h
  · by_cases hc : i < L.length ∧ nol L i = true
    · skip
      have k : WPd G p l e R s m args below meth c nL Qm ad0 n0 s0 w0 (pc + 3) (sto L i (vi (bm (z + n)))) st w := by
        simp only [o_iinc, hz, if_pos hc] at h
        exact h
      refine ⟨k.1, fun ad H locs ls a1 a2 a3 a4 a5 a6 a7 a8 a9 a10 => ?_⟩
      obtain ⟨kx, hkx⟩ := List.getElem?_of_mem (lvL_mem (G := G) (ad := ad) hz)
      refine lv_iinc (nL := nL) (lv := lvL G ad L) (v := Int32.ofInt (bm (z + n))) hx hb hd a10.has hkx (by rw [ofI_bm, Int32.ofInt_add]) (by rw [← a10.2.1]; exact hc.1) rfl (fun ls' hl' => ?_)
      exact k.2 ad H locs ls' a1 a2 a3 a4 (okL_sto a5 (okI_bm _)) a6 a7 a8 a9 (LR_sto (v := vi (bm (z + n))) a10 hc.2 hl')
    · simp only [o_iinc, hz, if_neg hc] at h
  · simp only [o_iinc, hz] at h

set_option maxHeartbeats 1000000 in
theorem os_iadd {gp : GX → Prop} {y : MethodName} {cc : ByteArray} {nL : Nat} {rt : Nat} {pc : Nat} (hd : decode cc pc = .ok (.iadd, 1)) : FOK gp (o_i2 f_add (pc + 1)) y cc nL rt pc := by
  intro G p l e R s m args below meth c Qm ad0 n0 s0 r0 w0 hgp C hcl hsl hret L st w h
  obtain ⟨hx, hb, hml, hown, hts, hname, hF, hfr, hlo⟩ := C
  rcases st with _ | ⟨y | y, _ | ⟨x | x, r⟩⟩ <;> try exact False.elim h
  have k : WPd G p l e R s m args below meth c nL Qm ad0 n0 s0 w0 (pc + 1) L (vi (f_add x y) :: r) w := h
  refine ⟨k.1, fun ad H locs ls a1 a2 a3 a4 a5 a6 a7 a8 a9 a10 => ?_⟩
  refine lv_iadd hx hb hd ?_
  rw [← e_add]
  exact k.2 ad H locs ls a1 a2 a3 a4 a5 (okS_c (okI_bm _) (okS_t (okS_t a6))) a7 a8 a9 a10

set_option maxHeartbeats 1000000 in
theorem os_isub {gp : GX → Prop} {y : MethodName} {cc : ByteArray} {nL : Nat} {rt : Nat} {pc : Nat} (hd : decode cc pc = .ok (.isub, 1)) : FOK gp (o_i2 f_sub (pc + 1)) y cc nL rt pc := by
  intro G p l e R s m args below meth c Qm ad0 n0 s0 r0 w0 hgp C hcl hsl hret L st w h
  obtain ⟨hx, hb, hml, hown, hts, hname, hF, hfr, hlo⟩ := C
  rcases st with _ | ⟨y | y, _ | ⟨x | x, r⟩⟩ <;> try exact False.elim h
  have k : WPd G p l e R s m args below meth c nL Qm ad0 n0 s0 w0 (pc + 1) L (vi (f_sub x y) :: r) w := h
  refine ⟨k.1, fun ad H locs ls a1 a2 a3 a4 a5 a6 a7 a8 a9 a10 => ?_⟩
  refine lv_isub hx hb hd ?_
  rw [← e_sub]
  exact k.2 ad H locs ls a1 a2 a3 a4 a5 (okS_c (okI_bm _) (okS_t (okS_t a6))) a7 a8 a9 a10

set_option maxHeartbeats 1000000 in
theorem os_imul {gp : GX → Prop} {y : MethodName} {cc : ByteArray} {nL : Nat} {rt : Nat} {pc : Nat} (hd : decode cc pc = .ok (.imul, 1)) : FOK gp (o_i2 f_mul (pc + 1)) y cc nL rt pc := by
  intro G p l e R s m args below meth c Qm ad0 n0 s0 r0 w0 hgp C hcl hsl hret L st w h
  obtain ⟨hx, hb, hml, hown, hts, hname, hF, hfr, hlo⟩ := C
  rcases st with _ | ⟨y | y, _ | ⟨x | x, r⟩⟩ <;> try exact False.elim h
  have k : WPd G p l e R s m args below meth c nL Qm ad0 n0 s0 w0 (pc + 1) L (vi (f_mul x y) :: r) w := h
  refine ⟨k.1, fun ad H locs ls a1 a2 a3 a4 a5 a6 a7 a8 a9 a10 => ?_⟩
  refine lv_imul hx hb hd ?_
  rw [← e_mul]
  exact k.2 ad H locs ls a1 a2 a3 a4 a5 (okS_c (okI_bm _) (okS_t (okS_t a6))) a7 a8 a9 a10

set_option maxHeartbeats 1000000 in
theorem os_iand {gp : GX → Prop} {y : MethodName} {cc : ByteArray} {nL : Nat} {rt : Nat} {pc : Nat} (hd : decode cc pc = .ok (.iand, 1)) : FOK gp (o_i2 f_and (pc + 1)) y cc nL rt pc := by
  intro G p l e R s m args below meth c Qm ad0 n0 s0 r0 w0 hgp C hcl hsl hret L st w h
  obtain ⟨hx, hb, hml, hown, hts, hname, hF, hfr, hlo⟩ := C
  rcases st with _ | ⟨y | y, _ | ⟨x | x, r⟩⟩ <;> try exact False.elim h
  have k : WPd G p l e R s m args below meth c nL Qm ad0 n0 s0 w0 (pc + 1) L (vi (f_and x y) :: r) w := h
  refine ⟨k.1, fun ad H locs ls a1 a2 a3 a4 a5 a6 a7 a8 a9 a10 => ?_⟩
  refine lv_iand hx hb hd ?_
  have k2 := k.2 ad H locs ls a1 a2 a3 a4 a5 (okS_c (okI_32 _) (okS_t (okS_t a6))) a7 a8 a9 a10
  simp only [List.map_cons, em, f_and, Int32.ofInt_toInt] at k2
  exact k2

set_option maxHeartbeats 1000000 in
theorem os_ior {gp : GX → Prop} {y : MethodName} {cc : ByteArray} {nL : Nat} {rt : Nat} {pc : Nat} (hd : decode cc pc = .ok (.ior, 1)) : FOK gp (o_i2 f_or (pc + 1)) y cc nL rt pc := by
  intro G p l e R s m args below meth c Qm ad0 n0 s0 r0 w0 hgp C hcl hsl hret L st w h
  obtain ⟨hx, hb, hml, hown, hts, hname, hF, hfr, hlo⟩ := C
  rcases st with _ | ⟨y | y, _ | ⟨x | x, r⟩⟩ <;> try exact False.elim h
  have k : WPd G p l e R s m args below meth c nL Qm ad0 n0 s0 w0 (pc + 1) L (vi (f_or x y) :: r) w := h
  refine ⟨k.1, fun ad H locs ls a1 a2 a3 a4 a5 a6 a7 a8 a9 a10 => ?_⟩
  refine lv_ior hx hb hd ?_
  have k2 := k.2 ad H locs ls a1 a2 a3 a4 a5 (okS_c (okI_32 _) (okS_t (okS_t a6))) a7 a8 a9 a10
  simp only [List.map_cons, em, f_or, Int32.ofInt_toInt] at k2
  exact k2

set_option maxHeartbeats 1000000 in
theorem os_ishl {gp : GX → Prop} {y : MethodName} {cc : ByteArray} {nL : Nat} {rt : Nat} {pc : Nat} (hd : decode cc pc = .ok (.ishl, 1)) : FOK gp (o_i2 f_shl (pc + 1)) y cc nL rt pc := by
  intro G p l e R s m args below meth c Qm ad0 n0 s0 r0 w0 hgp C hcl hsl hret L st w h
  obtain ⟨hx, hb, hml, hown, hts, hname, hF, hfr, hlo⟩ := C
  rcases st with _ | ⟨y | y, _ | ⟨x | x, r⟩⟩ <;> try exact False.elim h
  have k : WPd G p l e R s m args below meth c nL Qm ad0 n0 s0 w0 (pc + 1) L (vi (f_shl x y) :: r) w := h
  refine ⟨k.1, fun ad H locs ls a1 a2 a3 a4 a5 a6 a7 a8 a9 a10 => ?_⟩
  refine lv_ishl hx hb hd ?_
  have k2 := k.2 ad H locs ls a1 a2 a3 a4 a5 (okS_c (okI_32 _) (okS_t (okS_t a6))) a7 a8 a9 a10
  simp only [List.map_cons, em, f_shl, Int32.ofInt_toInt] at k2
  exact k2

set_option maxHeartbeats 1000000 in
theorem os_ishr {gp : GX → Prop} {y : MethodName} {cc : ByteArray} {nL : Nat} {rt : Nat} {pc : Nat} (hd : decode cc pc = .ok (.ishr, 1)) : FOK gp (o_i2 f_shr (pc + 1)) y cc nL rt pc := by
  intro G p l e R s m args below meth c Qm ad0 n0 s0 r0 w0 hgp C hcl hsl hret L st w h
  obtain ⟨hx, hb, hml, hown, hts, hname, hF, hfr, hlo⟩ := C
  rcases st with _ | ⟨y | y, _ | ⟨x | x, r⟩⟩ <;> try exact False.elim h
  have k : WPd G p l e R s m args below meth c nL Qm ad0 n0 s0 w0 (pc + 1) L (vi (f_shr x y) :: r) w := h
  refine ⟨k.1, fun ad H locs ls a1 a2 a3 a4 a5 a6 a7 a8 a9 a10 => ?_⟩
  refine lv_ishr hx hb hd ?_
  have k2 := k.2 ad H locs ls a1 a2 a3 a4 a5 (okS_c (okI_32 _) (okS_t (okS_t a6))) a7 a8 a9 a10
  simp only [List.map_cons, em, f_shr, Int32.ofInt_toInt] at k2
  exact k2

set_option maxHeartbeats 1000000 in
theorem os_idiv {gp : GX → Prop} {y : MethodName} {cc : ByteArray} {nL : Nat} {rt : Nat} {pc : Nat} (hd : decode cc pc = .ok (.idiv, 1)) : FOK gp (o_dv f_div (pc + 1)) y cc nL rt pc := by
  intro G p l e R s m args below meth c Qm ad0 n0 s0 r0 w0 hgp C hcl hsl hret L st w h
  obtain ⟨hx, hb, hml, hown, hts, hname, hF, hfr, hlo⟩ := C
  rcases st with _ | ⟨y | y, _ | ⟨x | x, r⟩⟩ <;> try exact False.elim h
  by_cases hc : y = 0
  · simp only [o_dv, if_pos hc] at h
  · skip
    have k : WPd G p l e R s m args below meth c nL Qm ad0 n0 s0 w0 (pc + 1) L (vi (f_div x y) :: r) w := by
      simp only [o_dv, if_neg hc] at h
      exact h
    refine ⟨k.1, fun ad H locs ls a1 a2 a3 a4 a5 a6 a7 a8 a9 a10 => ?_⟩
    refine lv_idiv hx hb hd (fun q => hc ((i_eq0 (okS_h a6)).mp q)) ?_
    have k2 := k.2 ad H locs ls a1 a2 a3 a4 a5 (okS_c (okI_bm _) (okS_t (okS_t a6))) a7 a8 a9 a10
    have e2 := e_div (okS_h (okS_t a6)) (okS_h a6)
    simp only [List.map_cons, em] at k2
    rw [e2] at k2
    exact k2

set_option maxHeartbeats 1000000 in
theorem os_irem {gp : GX → Prop} {y : MethodName} {cc : ByteArray} {nL : Nat} {rt : Nat} {pc : Nat} (hd : decode cc pc = .ok (.irem, 1)) : FOK gp (o_dv f_rem (pc + 1)) y cc nL rt pc := by
  intro G p l e R s m args below meth c Qm ad0 n0 s0 r0 w0 hgp C hcl hsl hret L st w h
  obtain ⟨hx, hb, hml, hown, hts, hname, hF, hfr, hlo⟩ := C
  rcases st with _ | ⟨y | y, _ | ⟨x | x, r⟩⟩ <;> try exact False.elim h
  by_cases hc : y = 0
  · simp only [o_dv, if_pos hc] at h
  · skip
    have k : WPd G p l e R s m args below meth c nL Qm ad0 n0 s0 w0 (pc + 1) L (vi (f_rem x y) :: r) w := by
      simp only [o_dv, if_neg hc] at h
      exact h
    refine ⟨k.1, fun ad H locs ls a1 a2 a3 a4 a5 a6 a7 a8 a9 a10 => ?_⟩
    refine lv_irem hx hb hd (fun q => hc ((i_eq0 (okS_h a6)).mp q)) ?_
    have k2 := k.2 ad H locs ls a1 a2 a3 a4 a5 (okS_c (okI_rem (okS_h (okS_t a6)) hc) (okS_t (okS_t a6))) a7 a8 a9 a10
    have e2 := e_rem (okS_h (okS_t a6)) (okS_h a6) hc
    simp only [List.map_cons, em] at k2
    rw [e2] at k2
    exact k2

set_option maxHeartbeats 1000000 in
theorem os_ineg {gp : GX → Prop} {y : MethodName} {cc : ByteArray} {nL : Nat} {rt : Nat} {pc : Nat} (hd : decode cc pc = .ok (.ineg, 1)) : FOK gp (o_i1 f_neg (pc + 1)) y cc nL rt pc := by
  intro G p l e R s m args below meth c Qm ad0 n0 s0 r0 w0 hgp C hcl hsl hret L st w h
  obtain ⟨hx, hb, hml, hown, hts, hname, hF, hfr, hlo⟩ := C
  rcases st with _ | ⟨x | x, r⟩ <;> try exact False.elim h
  have k : WPd G p l e R s m args below meth c nL Qm ad0 n0 s0 w0 (pc + 1) L (vi (f_neg x) :: r) w := h
  refine ⟨k.1, fun ad H locs ls a1 a2 a3 a4 a5 a6 a7 a8 a9 a10 => ?_⟩
  refine lv_ineg hx hb hd ?_
  rw [← e_neg]
  exact k.2 ad H locs ls a1 a2 a3 a4 a5 (okS_c (okI_bm _) (okS_t a6)) a7 a8 a9 a10

set_option maxHeartbeats 1000000 in
theorem os_i2b {gp : GX → Prop} {y : MethodName} {cc : ByteArray} {nL : Nat} {rt : Nat} {pc : Nat} (hd : decode cc pc = .ok (.i2b, 1)) : FOK gp (o_i1 f_byte (pc + 1)) y cc nL rt pc := by
  intro G p l e R s m args below meth c Qm ad0 n0 s0 r0 w0 hgp C hcl hsl hret L st w h
  obtain ⟨hx, hb, hml, hown, hts, hname, hF, hfr, hlo⟩ := C
  rcases st with _ | ⟨x | x, r⟩ <;> try exact False.elim h
  have k : WPd G p l e R s m args below meth c nL Qm ad0 n0 s0 w0 (pc + 1) L (vi (f_byte x) :: r) w := h
  refine ⟨k.1, fun ad H locs ls a1 a2 a3 a4 a5 a6 a7 a8 a9 a10 => ?_⟩
  refine lv_i2b hx hb hd rfl ?_
  have k2 := k.2 ad H locs ls a1 a2 a3 a4 a5 (okS_c (okI_32 _) (okS_t a6)) a7 a8 a9 a10
  simp only [List.map_cons, em, f_byte, Int32.ofInt_toInt] at k2
  exact k2

set_option maxHeartbeats 1000000 in
theorem os_lor {gp : GX → Prop} {y : MethodName} {cc : ByteArray} {nL : Nat} {rt : Nat} {pc : Nat} (hd : decode cc pc = .ok (.lor, 1)) : FOK gp (o_l2 f_lor (pc + 1)) y cc nL rt pc := by
  intro G p l e R s m args below meth c Qm ad0 n0 s0 r0 w0 hgp C hcl hsl hret L st w h
  obtain ⟨hx, hb, hml, hown, hts, hname, hF, hfr, hlo⟩ := C
  rcases st with _ | ⟨y | y | y, _ | ⟨x | x | x, r⟩⟩ <;> try exact False.elim h
  have k : WPd G p l e R s m args below meth c nL Qm ad0 n0 s0 w0 (pc + 1) L (vl (f_lor x y) :: r) w := h
  refine ⟨k.1, fun ad H locs ls a1 a2 a3 a4 a5 a6 a7 a8 a9 a10 => ?_⟩
  refine lv_lor hx hb hd ?_
  have k2 := k.2 ad H locs ls a1 a2 a3 a4 a5 (okS_c (okJ_64 _) (okS_t (okS_t a6))) a7 a8 a9 a10
  simp only [List.map_cons, em, f_lor, Int64.ofInt_toInt] at k2
  exact k2

set_option maxHeartbeats 1000000 in
theorem os_land {gp : GX → Prop} {y : MethodName} {cc : ByteArray} {nL : Nat} {rt : Nat} {pc : Nat} (hd : decode cc pc = .ok (.land, 1)) : FOK gp (o_l2 f_land (pc + 1)) y cc nL rt pc := by
  intro G p l e R s m args below meth c Qm ad0 n0 s0 r0 w0 hgp C hcl hsl hret L st w h
  obtain ⟨hx, hb, hml, hown, hts, hname, hF, hfr, hlo⟩ := C
  rcases st with _ | ⟨y | y | y, _ | ⟨x | x | x, r⟩⟩ <;> try exact False.elim h
  have k : WPd G p l e R s m args below meth c nL Qm ad0 n0 s0 w0 (pc + 1) L (vl (f_land x y) :: r) w := h
  refine ⟨k.1, fun ad H locs ls a1 a2 a3 a4 a5 a6 a7 a8 a9 a10 => ?_⟩
  refine lv_land hx hb hd ?_
  have k2 := k.2 ad H locs ls a1 a2 a3 a4 a5 (okS_c (okJ_64 _) (okS_t (okS_t a6))) a7 a8 a9 a10
  simp only [List.map_cons, em, f_land, Int64.ofInt_toInt] at k2
  exact k2

set_option maxHeartbeats 1000000 in
theorem os_lsub {gp : GX → Prop} {y : MethodName} {cc : ByteArray} {nL : Nat} {rt : Nat} {pc : Nat} (hd : decode cc pc = .ok (.lsub, 1)) : FOK gp (o_l2 f_lsub (pc + 1)) y cc nL rt pc := by
  intro G p l e R s m args below meth c Qm ad0 n0 s0 r0 w0 hgp C hcl hsl hret L st w h
  obtain ⟨hx, hb, hml, hown, hts, hname, hF, hfr, hlo⟩ := C
  rcases st with _ | ⟨y | y | y, _ | ⟨x | x | x, r⟩⟩ <;> try exact False.elim h
  have k : WPd G p l e R s m args below meth c nL Qm ad0 n0 s0 w0 (pc + 1) L (vl (f_lsub x y) :: r) w := h
  refine ⟨k.1, fun ad H locs ls a1 a2 a3 a4 a5 a6 a7 a8 a9 a10 => ?_⟩
  refine lv_lsub hx hb hd ?_
  have k2 := k.2 ad H locs ls a1 a2 a3 a4 a5 (okS_c (okJ_64 _) (okS_t (okS_t a6))) a7 a8 a9 a10
  simp only [List.map_cons, em, f_lsub, Int64.ofInt_toInt] at k2
  exact k2

set_option maxHeartbeats 1000000 in
theorem os_lshl {gp : GX → Prop} {y : MethodName} {cc : ByteArray} {nL : Nat} {rt : Nat} {pc : Nat} (hd : decode cc pc = .ok (.lshl, 1)) : FOK gp (o_lsh f_lshl (pc + 1)) y cc nL rt pc := by
  intro G p l e R s m args below meth c Qm ad0 n0 s0 r0 w0 hgp C hcl hsl hret L st w h
  obtain ⟨hx, hb, hml, hown, hts, hname, hF, hfr, hlo⟩ := C
  rcases st with _ | ⟨y | y, _ | ⟨x | x | x, r⟩⟩ <;> try exact False.elim h
  have k : WPd G p l e R s m args below meth c nL Qm ad0 n0 s0 w0 (pc + 1) L (vl (f_lshl x y) :: r) w := h
  refine ⟨k.1, fun ad H locs ls a1 a2 a3 a4 a5 a6 a7 a8 a9 a10 => ?_⟩
  refine lv_lshl hx hb hd rfl ?_
  have k2 := k.2 ad H locs ls a1 a2 a3 a4 a5 (okS_c (okJ_64 _) (okS_t (okS_t a6))) a7 a8 a9 a10
  simp only [List.map_cons, em, f_lshl, Int64.ofInt_toInt] at k2
  exact k2

set_option maxHeartbeats 1000000 in
theorem os_lshr {gp : GX → Prop} {y : MethodName} {cc : ByteArray} {nL : Nat} {rt : Nat} {pc : Nat} (hd : decode cc pc = .ok (.lshr, 1)) : FOK gp (o_lsh f_lshr (pc + 1)) y cc nL rt pc := by
  intro G p l e R s m args below meth c Qm ad0 n0 s0 r0 w0 hgp C hcl hsl hret L st w h
  obtain ⟨hx, hb, hml, hown, hts, hname, hF, hfr, hlo⟩ := C
  rcases st with _ | ⟨y | y, _ | ⟨x | x | x, r⟩⟩ <;> try exact False.elim h
  have k : WPd G p l e R s m args below meth c nL Qm ad0 n0 s0 w0 (pc + 1) L (vl (f_lshr x y) :: r) w := h
  refine ⟨k.1, fun ad H locs ls a1 a2 a3 a4 a5 a6 a7 a8 a9 a10 => ?_⟩
  refine lv_lshr hx hb hd rfl ?_
  have k2 := k.2 ad H locs ls a1 a2 a3 a4 a5 (okS_c (okJ_64 _) (okS_t (okS_t a6))) a7 a8 a9 a10
  simp only [List.map_cons, em, f_lshr, Int64.ofInt_toInt] at k2
  exact k2

set_option maxHeartbeats 1000000 in
theorem os_lcmp {gp : GX → Prop} {y : MethodName} {cc : ByteArray} {nL : Nat} {rt : Nat} {pc : Nat} (hd : decode cc pc = .ok (.lcmp, 1)) : FOK gp (o_lcmp (pc + 1)) y cc nL rt pc := by
  intro G p l e R s m args below meth c Qm ad0 n0 s0 r0 w0 hgp C hcl hsl hret L st w h
  obtain ⟨hx, hb, hml, hown, hts, hname, hF, hfr, hlo⟩ := C
  rcases st with _ | ⟨y | y | y, _ | ⟨x | x | x, r⟩⟩ <;> try exact False.elim h
  have k : WPd G p l e R s m args below meth c nL Qm ad0 n0 s0 w0 (pc + 1) L (vi (if y < x then 1 else if x = y then 0 else -1) :: r) w := h
  refine ⟨k.1, fun ad H locs ls a1 a2 a3 a4 a5 a6 a7 a8 a9 a10 => ?_⟩
  refine W.lcmp hx hb hd ?_
  have hyo : okJ y := okS_h a6
  have hxo : okJ x := okS_h (okS_t a6)
  have k2 := k.2 ad H locs ls a1 a2 a3 a4 a5 (okS_c (show okI _ by unfold okI; constructor <;> (repeat' split) <;> omega) (okS_t (okS_t a6))) a7 a8 a9 a10
  have e2 : lg_cmp (Int64.ofInt x) (Int64.ofInt y) = Int32.ofInt (if y < x then 1 else if x = y then 0 else -1) := by
    unfold lg_cmp
    simp only [gt_iff_lt, Int64.lt_iff_toInt_lt, ← Int64.toInt_inj, tJ hxo, tJ hyo]
    split
    · rfl
    · split <;> rfl
  rw [e2]
  exact k2

set_option maxHeartbeats 1000000 in
theorem os_dup {gp : GX → Prop} {y : MethodName} {cc : ByteArray} {nL : Nat} {rt : Nat} {pc : Nat} (hd : decode cc pc = .ok (.dup, 1)) : FOK gp (o_dup (pc + 1)) y cc nL rt pc := by
  intro G p l e R s m args below meth c Qm ad0 n0 s0 r0 w0 hgp C hcl hsl hret L st w h
  obtain ⟨hx, hb, hml, hown, hts, hname, hF, hfr, hlo⟩ := C
  rcases st with _ | ⟨x | x | (_ | x) | x, r⟩ <;> try exact False.elim h
  · have k : WPd G p l e R s m args below meth c nL Qm ad0 n0 s0 w0 (pc + 1) L (vi x :: vi x :: r) w := h
    refine ⟨k.1, fun ad H locs ls a1 a2 a3 a4 a5 a6 a7 a8 a9 a10 => ?_⟩
    exact lv_dup hx hb hd rfl (k.2 ad H locs ls a1 a2 a3 a4 a5 (okS_c (okS_h a6) a6) a7 a8 a9 a10)
  · have k : WPd G p l e R s m args below meth c nL Qm ad0 n0 s0 w0 (pc + 1) L (vn :: vn :: r) w := h
    refine ⟨k.1, fun ad H locs ls a1 a2 a3 a4 a5 a6 a7 a8 a9 a10 => ?_⟩
    exact lv_dup hx hb hd rfl (k.2 ad H locs ls a1 a2 a3 a4 a5 (okS_c (okS_h a6) a6) a7 a8 a9 a10)
  · have k : WPd G p l e R s m args below meth c nL Qm ad0 n0 s0 w0 (pc + 1) L (vr x :: vr x :: r) w := h
    refine ⟨k.1, fun ad H locs ls a1 a2 a3 a4 a5 a6 a7 a8 a9 a10 => ?_⟩
    exact lv_dup hx hb hd rfl (k.2 ad H locs ls a1 a2 a3 a4 a5 (okS_c (okS_h a6) a6) a7 a8 a9 a10)
  · have k : WPd G p l e R s m args below meth c nL Qm ad0 n0 s0 w0 (pc + 1) L (vc x :: vc x :: r) w := h
    refine ⟨k.1, fun ad H locs ls a1 a2 a3 a4 a5 a6 a7 a8 a9 a10 => ?_⟩
    exact lv_dup hx hb hd rfl (k.2 ad H locs ls a1 a2 a3 a4 a5 (okS_c (okS_h a6) a6) a7 a8 a9 a10)

set_option maxHeartbeats 1000000 in
theorem os_dup2 {gp : GX → Prop} {y : MethodName} {cc : ByteArray} {nL : Nat} {rt : Nat} {pc : Nat} (hd : decode cc pc = .ok (.dup2, 1)) : FOK gp (o_dup2 (pc + 1)) y cc nL rt pc := by
  intro G p l e R s m args below meth c Qm ad0 n0 s0 r0 w0 hgp C hcl hsl hret L st w h
  obtain ⟨hx, hb, hml, hown, hts, hname, hF, hfr, hlo⟩ := C
  rcases st with _ | ⟨x | x, _ | ⟨v | v | v, r⟩⟩ <;> try exact False.elim h
  have k : WPd G p l e R s m args below meth c nL Qm ad0 n0 s0 w0 (pc + 1) L (vi x :: Sum.inr (Sum.inr v) :: vi x :: Sum.inr (Sum.inr v) :: r) w := h
  refine ⟨k.1, fun ad H locs ls a1 a2 a3 a4 a5 a6 a7 a8 a9 a10 => ?_⟩
  refine lv_dup2_11 hx hb hd rfl (by rcases v with (_ | a) | q <;> rfl) ?_
  exact k.2 ad H locs ls a1 a2 a3 a4 a5 (okS_c (okS_h a6) (okS_c (okS_h (okS_t a6)) a6)) a7 a8 a9 a10

set_option maxHeartbeats 1000000 in
theorem os_pop {gp : GX → Prop} {y : MethodName} {cc : ByteArray} {nL : Nat} {rt : Nat} {pc : Nat} (hd : decode cc pc = .ok (.pop, 1)) : FOK gp (o_pop (pc + 1)) y cc nL rt pc := by
  intro G p l e R s m args below meth c Qm ad0 n0 s0 r0 w0 hgp C hcl hsl hret L st w h
  obtain ⟨hx, hb, hml, hown, hts, hname, hF, hfr, hlo⟩ := C
  rcases st with _ | ⟨x | x, r⟩ <;> try exact False.elim h
  have k : WPd G p l e R s m args below meth c nL Qm ad0 n0 s0 w0 (pc + 1) L r w := h
  refine ⟨k.1, fun ad H locs ls a1 a2 a3 a4 a5 a6 a7 a8 a9 a10 => ?_⟩
  exact lv_pop hx hb hd rfl (k.2 ad H locs ls a1 a2 a3 a4 a5 (okS_t a6) a7 a8 a9 a10)

set_option maxHeartbeats 1000000 in
theorem os_goto {gp : GX → Prop} {y : MethodName} {cc : ByteArray} {nL : Nat} {rt : Nat} {pc : Nat} {off : Int} {tgt : Nat} (ht : (pc : Int) + off = (tgt : Int)) (hd : decode cc pc = .ok (.goto off, 3)) : FOK gp (o_goto tgt) y cc nL rt pc := by
  intro G p l e R s m args below meth c Qm ad0 n0 s0 r0 w0 hgp C hcl hsl hret L st w h
  obtain ⟨hx, hb, hml, hown, hts, hname, hF, hfr, hlo⟩ := C
  have k : WPd G p l e R s m args below meth c nL Qm ad0 n0 s0 w0 tgt L st w := h
  refine ⟨k.1, fun ad H locs ls a1 a2 a3 a4 a5 a6 a7 a8 a9 a10 => ?_⟩
  exact lv_goto hx hb hd ht (k.2 ad H locs ls a1 a2 a3 a4 a5 a6 a7 a8 a9 a10)

set_option maxHeartbeats 1000000 in
theorem os_if_eq {gp : GX → Prop} {y : MethodName} {cc : ByteArray} {nL : Nat} {rt : Nat} {pc : Nat} {off : Int} {tgt : Nat} (ht : (pc : Int) + off = (tgt : Int)) (hd : decode cc pc = .ok (.ifCond .eq off, 3)) : FOK gp (o_if 0 tgt (pc + 3)) y cc nL rt pc := by
  intro G p l e R s m args below meth c Qm ad0 n0 s0 r0 w0 hgp C hcl hsl hret L st w h
  obtain ⟨hx, hb, hml, hown, hts, hname, hF, hfr, hlo⟩ := C
  rcases st with _ | ⟨x | x, r⟩ <;> try exact False.elim h
  by_cases hc : x = 0
  · have k : WPd G p l e R s m args below meth c nL Qm ad0 n0 s0 w0 tgt L r w := by
      simp only [o_if, cz, hc, decide_true, Bool.not_true, cond_true, cond_false] at h
      exact h
    refine ⟨k.1, fun ad H locs ls a1 a2 a3 a4 a5 a6 a7 a8 a9 a10 => ?_⟩
    have k2 := k.2 ad H locs ls a1 a2 a3 a4 a5 (okS_t a6) a7 a8 a9 a10
    exact lv_if_eq hx hb hd ht (fun _ => k2) (fun q => False.elim (by rw [i_eq0 (okS_h a6)] at q; omega))
  · have k : WPd G p l e R s m args below meth c nL Qm ad0 n0 s0 w0 (pc + 3) L r w := by
      simp only [o_if, cz, hc, decide_false, Bool.not_false, cond_true, cond_false] at h
      exact h
    refine ⟨k.1, fun ad H locs ls a1 a2 a3 a4 a5 a6 a7 a8 a9 a10 => ?_⟩
    have k2 := k.2 ad H locs ls a1 a2 a3 a4 a5 (okS_t a6) a7 a8 a9 a10
    exact lv_if_eq hx hb hd ht (fun q => False.elim (by rw [i_eq0 (okS_h a6)] at q; omega)) (fun _ => k2)

set_option maxHeartbeats 1000000 in
theorem os_if_ne {gp : GX → Prop} {y : MethodName} {cc : ByteArray} {nL : Nat} {rt : Nat} {pc : Nat} {off : Int} {tgt : Nat} (ht : (pc : Int) + off = (tgt : Int)) (hd : decode cc pc = .ok (.ifCond .ne off, 3)) : FOK gp (o_if 1 tgt (pc + 3)) y cc nL rt pc := by
  intro G p l e R s m args below meth c Qm ad0 n0 s0 r0 w0 hgp C hcl hsl hret L st w h
  obtain ⟨hx, hb, hml, hown, hts, hname, hF, hfr, hlo⟩ := C
  rcases st with _ | ⟨x | x, r⟩ <;> try exact False.elim h
  by_cases hc : x = 0
  · have k : WPd G p l e R s m args below meth c nL Qm ad0 n0 s0 w0 (pc + 3) L r w := by
      simp only [o_if, cz, hc, decide_true, Bool.not_true, cond_true, cond_false] at h
      exact h
    refine ⟨k.1, fun ad H locs ls a1 a2 a3 a4 a5 a6 a7 a8 a9 a10 => ?_⟩
    have k2 := k.2 ad H locs ls a1 a2 a3 a4 a5 (okS_t a6) a7 a8 a9 a10
    exact lv_if_ne hx hb hd ht (fun q => False.elim (by rw [i_eq0 (okS_h a6)] at q; omega)) (fun _ => k2)
  · have k : WPd G p l e R s m args below meth c nL Qm ad0 n0 s0 w0 tgt L r w := by
      simp only [o_if, cz, hc, decide_false, Bool.not_false, cond_true, cond_false] at h
      exact h
    refine ⟨k.1, fun ad H locs ls a1 a2 a3 a4 a5 a6 a7 a8 a9 a10 => ?_⟩
    have k2 := k.2 ad H locs ls a1 a2 a3 a4 a5 (okS_t a6) a7 a8 a9 a10
    exact lv_if_ne hx hb hd ht (fun _ => k2) (fun q => False.elim (by rw [i_eq0 (okS_h a6)] at q; omega))

set_option maxHeartbeats 1000000 in
theorem os_if_lt {gp : GX → Prop} {y : MethodName} {cc : ByteArray} {nL : Nat} {rt : Nat} {pc : Nat} {off : Int} {tgt : Nat} (ht : (pc : Int) + off = (tgt : Int)) (hd : decode cc pc = .ok (.ifCond .lt off, 3)) : FOK gp (o_if 2 tgt (pc + 3)) y cc nL rt pc := by
  intro G p l e R s m args below meth c Qm ad0 n0 s0 r0 w0 hgp C hcl hsl hret L st w h
  obtain ⟨hx, hb, hml, hown, hts, hname, hF, hfr, hlo⟩ := C
  rcases st with _ | ⟨x | x, r⟩ <;> try exact False.elim h
  by_cases hc : x < 0
  · have k : WPd G p l e R s m args below meth c nL Qm ad0 n0 s0 w0 tgt L r w := by
      simp only [o_if, cz, hc, decide_true, Bool.not_true, cond_true, cond_false] at h
      exact h
    refine ⟨k.1, fun ad H locs ls a1 a2 a3 a4 a5 a6 a7 a8 a9 a10 => ?_⟩
    have k2 := k.2 ad H locs ls a1 a2 a3 a4 a5 (okS_t a6) a7 a8 a9 a10
    exact lv_if_lt hx hb hd ht (fun _ => k2) (fun q => False.elim (by rw [i_lt0 (okS_h a6)] at q; omega))
  · have k : WPd G p l e R s m args below meth c nL Qm ad0 n0 s0 w0 (pc + 3) L r w := by
      simp only [o_if, cz, hc, decide_false, Bool.not_false, cond_true, cond_false] at h
      exact h
    refine ⟨k.1, fun ad H locs ls a1 a2 a3 a4 a5 a6 a7 a8 a9 a10 => ?_⟩
    have k2 := k.2 ad H locs ls a1 a2 a3 a4 a5 (okS_t a6) a7 a8 a9 a10
    exact lv_if_lt hx hb hd ht (fun q => False.elim (by rw [i_lt0 (okS_h a6)] at q; omega)) (fun _ => k2)

set_option maxHeartbeats 1000000 in
theorem os_if_ge {gp : GX → Prop} {y : MethodName} {cc : ByteArray} {nL : Nat} {rt : Nat} {pc : Nat} {off : Int} {tgt : Nat} (ht : (pc : Int) + off = (tgt : Int)) (hd : decode cc pc = .ok (.ifCond .ge off, 3)) : FOK gp (o_if 3 tgt (pc + 3)) y cc nL rt pc := by
  intro G p l e R s m args below meth c Qm ad0 n0 s0 r0 w0 hgp C hcl hsl hret L st w h
  obtain ⟨hx, hb, hml, hown, hts, hname, hF, hfr, hlo⟩ := C
  rcases st with _ | ⟨x | x, r⟩ <;> try exact False.elim h
  by_cases hc : x < 0
  · have k : WPd G p l e R s m args below meth c nL Qm ad0 n0 s0 w0 (pc + 3) L r w := by
      simp only [o_if, cz, hc, decide_true, Bool.not_true, cond_true, cond_false] at h
      exact h
    refine ⟨k.1, fun ad H locs ls a1 a2 a3 a4 a5 a6 a7 a8 a9 a10 => ?_⟩
    have k2 := k.2 ad H locs ls a1 a2 a3 a4 a5 (okS_t a6) a7 a8 a9 a10
    exact lv_if_ge hx hb hd ht (fun q => False.elim (by rw [i_ge0 (okS_h a6)] at q; omega)) (fun _ => k2)
  · have k : WPd G p l e R s m args below meth c nL Qm ad0 n0 s0 w0 tgt L r w := by
      simp only [o_if, cz, hc, decide_false, Bool.not_false, cond_true, cond_false] at h
      exact h
    refine ⟨k.1, fun ad H locs ls a1 a2 a3 a4 a5 a6 a7 a8 a9 a10 => ?_⟩
    have k2 := k.2 ad H locs ls a1 a2 a3 a4 a5 (okS_t a6) a7 a8 a9 a10
    exact lv_if_ge hx hb hd ht (fun _ => k2) (fun q => False.elim (by rw [i_ge0 (okS_h a6)] at q; omega))

set_option maxHeartbeats 1000000 in
theorem os_if_gt {gp : GX → Prop} {y : MethodName} {cc : ByteArray} {nL : Nat} {rt : Nat} {pc : Nat} {off : Int} {tgt : Nat} (ht : (pc : Int) + off = (tgt : Int)) (hd : decode cc pc = .ok (.ifCond .gt off, 3)) : FOK gp (o_if 4 tgt (pc + 3)) y cc nL rt pc := by
  intro G p l e R s m args below meth c Qm ad0 n0 s0 r0 w0 hgp C hcl hsl hret L st w h
  obtain ⟨hx, hb, hml, hown, hts, hname, hF, hfr, hlo⟩ := C
  rcases st with _ | ⟨x | x, r⟩ <;> try exact False.elim h
  by_cases hc : 0 < x
  · have k : WPd G p l e R s m args below meth c nL Qm ad0 n0 s0 w0 tgt L r w := by
      simp only [o_if, cz, hc, decide_true, Bool.not_true, cond_true, cond_false] at h
      exact h
    refine ⟨k.1, fun ad H locs ls a1 a2 a3 a4 a5 a6 a7 a8 a9 a10 => ?_⟩
    have k2 := k.2 ad H locs ls a1 a2 a3 a4 a5 (okS_t a6) a7 a8 a9 a10
    exact lv_if_gt hx hb hd ht (fun _ => k2) (fun q => False.elim (by rw [i_gt0 (okS_h a6)] at q; omega))
  · have k : WPd G p l e R s m args below meth c nL Qm ad0 n0 s0 w0 (pc + 3) L r w := by
      simp only [o_if, cz, hc, decide_false, Bool.not_false, cond_true, cond_false] at h
      exact h
    refine ⟨k.1, fun ad H locs ls a1 a2 a3 a4 a5 a6 a7 a8 a9 a10 => ?_⟩
    have k2 := k.2 ad H locs ls a1 a2 a3 a4 a5 (okS_t a6) a7 a8 a9 a10
    exact lv_if_gt hx hb hd ht (fun q => False.elim (by rw [i_gt0 (okS_h a6)] at q; omega)) (fun _ => k2)

set_option maxHeartbeats 1000000 in
theorem os_if_le {gp : GX → Prop} {y : MethodName} {cc : ByteArray} {nL : Nat} {rt : Nat} {pc : Nat} {off : Int} {tgt : Nat} (ht : (pc : Int) + off = (tgt : Int)) (hd : decode cc pc = .ok (.ifCond .le off, 3)) : FOK gp (o_if 5 tgt (pc + 3)) y cc nL rt pc := by
  intro G p l e R s m args below meth c Qm ad0 n0 s0 r0 w0 hgp C hcl hsl hret L st w h
  obtain ⟨hx, hb, hml, hown, hts, hname, hF, hfr, hlo⟩ := C
  rcases st with _ | ⟨x | x, r⟩ <;> try exact False.elim h
  by_cases hc : 0 < x
  · have k : WPd G p l e R s m args below meth c nL Qm ad0 n0 s0 w0 (pc + 3) L r w := by
      simp only [o_if, cz, hc, decide_true, Bool.not_true, cond_true, cond_false] at h
      exact h
    refine ⟨k.1, fun ad H locs ls a1 a2 a3 a4 a5 a6 a7 a8 a9 a10 => ?_⟩
    have k2 := k.2 ad H locs ls a1 a2 a3 a4 a5 (okS_t a6) a7 a8 a9 a10
    exact lv_if_le hx hb hd ht (fun q => False.elim (by rw [i_le0 (okS_h a6)] at q; omega)) (fun _ => k2)
  · have k : WPd G p l e R s m args below meth c nL Qm ad0 n0 s0 w0 tgt L r w := by
      simp only [o_if, cz, hc, decide_false, Bool.not_false, cond_true, cond_false] at h
      exact h
    refine ⟨k.1, fun ad H locs ls a1 a2 a3 a4 a5 a6 a7 a8 a9 a10 => ?_⟩
    have k2 := k.2 ad H locs ls a1 a2 a3 a4 a5 (okS_t a6) a7 a8 a9 a10
    exact lv_if_le hx hb hd ht (fun _ => k2) (fun q => False.elim (by rw [i_le0 (okS_h a6)] at q; omega))

set_option maxHeartbeats 1000000 in
theorem os_ic_eq {gp : GX → Prop} {y : MethodName} {cc : ByteArray} {nL : Nat} {rt : Nat} {pc : Nat} {off : Int} {tgt : Nat} (ht : (pc : Int) + off = (tgt : Int)) (hd : decode cc pc = .ok (.if_icmp .eq off, 3)) : FOK gp (o_ic 0 tgt (pc + 3)) y cc nL rt pc := by
  intro G p l e R s m args below meth c Qm ad0 n0 s0 r0 w0 hgp C hcl hsl hret L st w h
  obtain ⟨hx, hb, hml, hown, hts, hname, hF, hfr, hlo⟩ := C
  rcases st with _ | ⟨y | y, _ | ⟨x | x, r⟩⟩ <;> try exact False.elim h
  by_cases hc : x = y
  · have k : WPd G p l e R s m args below meth c nL Qm ad0 n0 s0 w0 tgt L r w := by
      simp only [o_ic, cc2, hc, decide_true, Bool.not_true, cond_true, cond_false] at h
      exact h
    refine ⟨k.1, fun ad H locs ls a1 a2 a3 a4 a5 a6 a7 a8 a9 a10 => ?_⟩
    have k2 := k.2 ad H locs ls a1 a2 a3 a4 a5 (okS_t (okS_t a6)) a7 a8 a9 a10
    exact lv_icmp_eq hx hb hd ht (fun _ => k2) (fun q => False.elim (by rw [i_eq (okS_h (okS_t a6)) (okS_h a6)] at q; omega))
  · have k : WPd G p l e R s m args below meth c nL Qm ad0 n0 s0 w0 (pc + 3) L r w := by
      simp only [o_ic, cc2, hc, decide_false, Bool.not_false, cond_true, cond_false] at h
      exact h
    refine ⟨k.1, fun ad H locs ls a1 a2 a3 a4 a5 a6 a7 a8 a9 a10 => ?_⟩
    have k2 := k.2 ad H locs ls a1 a2 a3 a4 a5 (okS_t (okS_t a6)) a7 a8 a9 a10
    exact lv_icmp_eq hx hb hd ht (fun q => False.elim (by rw [i_eq (okS_h (okS_t a6)) (okS_h a6)] at q; omega)) (fun _ => k2)

set_option maxHeartbeats 1000000 in
theorem os_ic_ne {gp : GX → Prop} {y : MethodName} {cc : ByteArray} {nL : Nat} {rt : Nat} {pc : Nat} {off : Int} {tgt : Nat} (ht : (pc : Int) + off = (tgt : Int)) (hd : decode cc pc = .ok (.if_icmp .ne off, 3)) : FOK gp (o_ic 1 tgt (pc + 3)) y cc nL rt pc := by
  intro G p l e R s m args below meth c Qm ad0 n0 s0 r0 w0 hgp C hcl hsl hret L st w h
  obtain ⟨hx, hb, hml, hown, hts, hname, hF, hfr, hlo⟩ := C
  rcases st with _ | ⟨y | y, _ | ⟨x | x, r⟩⟩ <;> try exact False.elim h
  by_cases hc : x = y
  · have k : WPd G p l e R s m args below meth c nL Qm ad0 n0 s0 w0 (pc + 3) L r w := by
      simp only [o_ic, cc2, hc, decide_true, Bool.not_true, cond_true, cond_false] at h
      exact h
    refine ⟨k.1, fun ad H locs ls a1 a2 a3 a4 a5 a6 a7 a8 a9 a10 => ?_⟩
    have k2 := k.2 ad H locs ls a1 a2 a3 a4 a5 (okS_t (okS_t a6)) a7 a8 a9 a10
    exact lv_icmp_ne hx hb hd ht (fun q => False.elim (by rw [i_eq (okS_h (okS_t a6)) (okS_h a6)] at q; omega)) (fun _ => k2)
  · have k : WPd G p l e R s m args below meth c nL Qm ad0 n0 s0 w0 tgt L r w := by
      simp only [o_ic, cc2, hc, decide_false, Bool.not_false, cond_true, cond_false] at h
      exact h
    refine ⟨k.1, fun ad H locs ls a1 a2 a3 a4 a5 a6 a7 a8 a9 a10 => ?_⟩
    have k2 := k.2 ad H locs ls a1 a2 a3 a4 a5 (okS_t (okS_t a6)) a7 a8 a9 a10
    exact lv_icmp_ne hx hb hd ht (fun _ => k2) (fun q => False.elim (by rw [i_eq (okS_h (okS_t a6)) (okS_h a6)] at q; omega))

set_option maxHeartbeats 1000000 in
theorem os_ic_lt {gp : GX → Prop} {y : MethodName} {cc : ByteArray} {nL : Nat} {rt : Nat} {pc : Nat} {off : Int} {tgt : Nat} (ht : (pc : Int) + off = (tgt : Int)) (hd : decode cc pc = .ok (.if_icmp .lt off, 3)) : FOK gp (o_ic 2 tgt (pc + 3)) y cc nL rt pc := by
  intro G p l e R s m args below meth c Qm ad0 n0 s0 r0 w0 hgp C hcl hsl hret L st w h
  obtain ⟨hx, hb, hml, hown, hts, hname, hF, hfr, hlo⟩ := C
  rcases st with _ | ⟨y | y, _ | ⟨x | x, r⟩⟩ <;> try exact False.elim h
  by_cases hc : x < y
  · have k : WPd G p l e R s m args below meth c nL Qm ad0 n0 s0 w0 tgt L r w := by
      simp only [o_ic, cc2, hc, decide_true, Bool.not_true, cond_true, cond_false] at h
      exact h
    refine ⟨k.1, fun ad H locs ls a1 a2 a3 a4 a5 a6 a7 a8 a9 a10 => ?_⟩
    have k2 := k.2 ad H locs ls a1 a2 a3 a4 a5 (okS_t (okS_t a6)) a7 a8 a9 a10
    exact lv_icmp_lt hx hb hd ht (fun _ => k2) (fun q => False.elim (by rw [i_lt (okS_h (okS_t a6)) (okS_h a6)] at q; omega))
  · have k : WPd G p l e R s m args below meth c nL Qm ad0 n0 s0 w0 (pc + 3) L r w := by
      simp only [o_ic, cc2, hc, decide_false, Bool.not_false, cond_true, cond_false] at h
      exact h
    refine ⟨k.1, fun ad H locs ls a1 a2 a3 a4 a5 a6 a7 a8 a9 a10 => ?_⟩
    have k2 := k.2 ad H locs ls a1 a2 a3 a4 a5 (okS_t (okS_t a6)) a7 a8 a9 a10
    exact lv_icmp_lt hx hb hd ht (fun q => False.elim (by rw [i_lt (okS_h (okS_t a6)) (okS_h a6)] at q; omega)) (fun _ => k2)

set_option maxHeartbeats 1000000 in
theorem os_ic_ge {gp : GX → Prop} {y : MethodName} {cc : ByteArray} {nL : Nat} {rt : Nat} {pc : Nat} {off : Int} {tgt : Nat} (ht : (pc : Int) + off = (tgt : Int)) (hd : decode cc pc = .ok (.if_icmp .ge off, 3)) : FOK gp (o_ic 3 tgt (pc + 3)) y cc nL rt pc := by
  intro G p l e R s m args below meth c Qm ad0 n0 s0 r0 w0 hgp C hcl hsl hret L st w h
  obtain ⟨hx, hb, hml, hown, hts, hname, hF, hfr, hlo⟩ := C
  rcases st with _ | ⟨y | y, _ | ⟨x | x, r⟩⟩ <;> try exact False.elim h
  by_cases hc : x < y
  · have k : WPd G p l e R s m args below meth c nL Qm ad0 n0 s0 w0 (pc + 3) L r w := by
      simp only [o_ic, cc2, hc, decide_true, Bool.not_true, cond_true, cond_false] at h
      exact h
    refine ⟨k.1, fun ad H locs ls a1 a2 a3 a4 a5 a6 a7 a8 a9 a10 => ?_⟩
    have k2 := k.2 ad H locs ls a1 a2 a3 a4 a5 (okS_t (okS_t a6)) a7 a8 a9 a10
    exact lv_icmp_ge hx hb hd ht (fun q => False.elim (by rw [i_le (okS_h a6) (okS_h (okS_t a6))] at q; omega)) (fun _ => k2)
  · have k : WPd G p l e R s m args below meth c nL Qm ad0 n0 s0 w0 tgt L r w := by
      simp only [o_ic, cc2, hc, decide_false, Bool.not_false, cond_true, cond_false] at h
      exact h
    refine ⟨k.1, fun ad H locs ls a1 a2 a3 a4 a5 a6 a7 a8 a9 a10 => ?_⟩
    have k2 := k.2 ad H locs ls a1 a2 a3 a4 a5 (okS_t (okS_t a6)) a7 a8 a9 a10
    exact lv_icmp_ge hx hb hd ht (fun _ => k2) (fun q => False.elim (by rw [i_le (okS_h a6) (okS_h (okS_t a6))] at q; omega))

set_option maxHeartbeats 1000000 in
theorem os_ic_gt {gp : GX → Prop} {y : MethodName} {cc : ByteArray} {nL : Nat} {rt : Nat} {pc : Nat} {off : Int} {tgt : Nat} (ht : (pc : Int) + off = (tgt : Int)) (hd : decode cc pc = .ok (.if_icmp .gt off, 3)) : FOK gp (o_ic 4 tgt (pc + 3)) y cc nL rt pc := by
  intro G p l e R s m args below meth c Qm ad0 n0 s0 r0 w0 hgp C hcl hsl hret L st w h
  obtain ⟨hx, hb, hml, hown, hts, hname, hF, hfr, hlo⟩ := C
  rcases st with _ | ⟨y | y, _ | ⟨x | x, r⟩⟩ <;> try exact False.elim h
  by_cases hc : y < x
  · have k : WPd G p l e R s m args below meth c nL Qm ad0 n0 s0 w0 tgt L r w := by
      simp only [o_ic, cc2, hc, decide_true, Bool.not_true, cond_true, cond_false] at h
      exact h
    refine ⟨k.1, fun ad H locs ls a1 a2 a3 a4 a5 a6 a7 a8 a9 a10 => ?_⟩
    have k2 := k.2 ad H locs ls a1 a2 a3 a4 a5 (okS_t (okS_t a6)) a7 a8 a9 a10
    exact lv_icmp_gt hx hb hd ht (fun _ => k2) (fun q => False.elim (by rw [i_lt (okS_h a6) (okS_h (okS_t a6))] at q; omega))
  · have k : WPd G p l e R s m args below meth c nL Qm ad0 n0 s0 w0 (pc + 3) L r w := by
      simp only [o_ic, cc2, hc, decide_false, Bool.not_false, cond_true, cond_false] at h
      exact h
    refine ⟨k.1, fun ad H locs ls a1 a2 a3 a4 a5 a6 a7 a8 a9 a10 => ?_⟩
    have k2 := k.2 ad H locs ls a1 a2 a3 a4 a5 (okS_t (okS_t a6)) a7 a8 a9 a10
    exact lv_icmp_gt hx hb hd ht (fun q => False.elim (by rw [i_lt (okS_h a6) (okS_h (okS_t a6))] at q; omega)) (fun _ => k2)

set_option maxHeartbeats 1000000 in
theorem os_ic_le {gp : GX → Prop} {y : MethodName} {cc : ByteArray} {nL : Nat} {rt : Nat} {pc : Nat} {off : Int} {tgt : Nat} (ht : (pc : Int) + off = (tgt : Int)) (hd : decode cc pc = .ok (.if_icmp .le off, 3)) : FOK gp (o_ic 5 tgt (pc + 3)) y cc nL rt pc := by
  intro G p l e R s m args below meth c Qm ad0 n0 s0 r0 w0 hgp C hcl hsl hret L st w h
  obtain ⟨hx, hb, hml, hown, hts, hname, hF, hfr, hlo⟩ := C
  rcases st with _ | ⟨y | y, _ | ⟨x | x, r⟩⟩ <;> try exact False.elim h
  by_cases hc : y < x
  · have k : WPd G p l e R s m args below meth c nL Qm ad0 n0 s0 w0 (pc + 3) L r w := by
      simp only [o_ic, cc2, hc, decide_true, Bool.not_true, cond_true, cond_false] at h
      exact h
    refine ⟨k.1, fun ad H locs ls a1 a2 a3 a4 a5 a6 a7 a8 a9 a10 => ?_⟩
    have k2 := k.2 ad H locs ls a1 a2 a3 a4 a5 (okS_t (okS_t a6)) a7 a8 a9 a10
    exact lv_icmp_le hx hb hd ht (fun q => False.elim (by rw [i_le (okS_h (okS_t a6)) (okS_h a6)] at q; omega)) (fun _ => k2)
  · have k : WPd G p l e R s m args below meth c nL Qm ad0 n0 s0 w0 tgt L r w := by
      simp only [o_ic, cc2, hc, decide_false, Bool.not_false, cond_true, cond_false] at h
      exact h
    refine ⟨k.1, fun ad H locs ls a1 a2 a3 a4 a5 a6 a7 a8 a9 a10 => ?_⟩
    have k2 := k.2 ad H locs ls a1 a2 a3 a4 a5 (okS_t (okS_t a6)) a7 a8 a9 a10
    exact lv_icmp_le hx hb hd ht (fun _ => k2) (fun q => False.elim (by rw [i_le (okS_h (okS_t a6)) (okS_h a6)] at q; omega))
end OS
