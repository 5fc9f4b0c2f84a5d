/-! the calls, one by one: scalars and cells -/
theorem some_vi {x y : Int} (h : x = y) : (some (vi x) : Option MV) = some (vi y) := by rw [h]
theorem PR_at {pin S M : Nat → Int} (h : PR pin S M) {x y : Int} {nt n : Nat} (hnt : nt ≤ 36) (hn : n ≤ 64) (hx : (0 ≤ x ∧ x < nt) ∧ (0 ≤ y ∧ y < n)) : (pin (64 * x + y).toNat = 0 ∧ M (64 * x + y).toNat = -1) ∨ (pin (64 * x + y).toNat = 1 ∧ M (64 * x + y).toNat = S (64 * x + y).toNat ∧ 0 ≤ S (64 * x + y).toNat ∧ S (64 * x + y).toNat ≤ 10000) := h _ (by omega)
section OP
variable {w : Wd} {I : Nat → Int} {A : Nat → Nat → Int} {q S : Nat}
set_option maxHeartbeats 4000000 in
set_option maxRecDepth 100000 in
theorem op_strikes (h : INV w I A q S) (x y : Int) : OPS 78 129 [vi x, vi y] w q S := by
  have hI := h
  obtain ⟨hB, hR, hL, hX, hU, hM, hn, hs, m1, m2⟩ := h
  have hB0 := hB
  have hR0 := hR
  have hX0 := hX
  have hU0 := hU
  obtain ⟨nb, nt, BP, b1, b2, b3, b4, b5, b6, b7, b8, b9, b10, b11, b12, b13, b14⟩ := hB
  obtain ⟨n, nt', M, Kp, pc, r1, r2, r3, r4, r5, r6, r7, r8, r9, r10⟩ := hR
  obtain ⟨tl, Tx, x1, x2, x3, x4, x5⟩ := hX
  obtain ⟨D, T, tn, g, u1, u2, u3, u4, u5, u6, u7, u8, u9, u10, u11⟩ := hU
  have ent : nt = nt' := by omega
  subst ent
  have hnt : nt ≤ 36 := b11.2.1
  have hnb : nb ≤ 12 := b11.1
  have h56 := MSg56 hM
  unfold OPS
  refine c_strikes u1 b3 r4 r5 hnt r3.2 ⟨_, rfl, ⟨_, h56⟩, ?_⟩
  refine m_strikes h56 (MSg63 hM) (MSg64 hM) (by omega) ⟨some_vi ?_, I, A, INV_q hI⟩
  rw [b2, r1]
  by_cases c : (0 ≤ x ∧ x < nt) ∧ (0 ≤ y ∧ y < n)
  · have := PR_at r7 hnt r3.2 c
    rw [if_pos c]
    rcases this with z | z
    · rw [if_neg (fun z' => z'.2 z.1), z.2]
    · rw [if_pos ⟨c, by omega⟩, z.2.1]
  · rw [if_neg c, if_neg (fun z => c z.1)]
set_option maxHeartbeats 4000000 in
set_option maxRecDepth 100000 in
theorem op_rest (h : INV w I A q S) (x : Int) : OPS 75 121 [vi x] w q S := by
  have hI := h
  obtain ⟨hB, hR, hL, hX, hU, hM, hn, hs, m1, m2⟩ := h
  have hB0 := hB
  have hR0 := hR
  have hX0 := hX
  have hU0 := hU
  obtain ⟨nb, nt, BP, b1, b2, b3, b4, b5, b6, b7, b8, b9, b10, b11, b12, b13, b14⟩ := hB
  obtain ⟨n, nt', M, Kp, pc, r1, r2, r3, r4, r5, r6, r7, r8, r9, r10⟩ := hR
  obtain ⟨tl, Tx, x1, x2, x3, x4, x5⟩ := hX
  obtain ⟨D, T, tn, g, u1, u2, u3, u4, u5, u6, u7, u8, u9, u10, u11⟩ := hU
  have ent : nt = nt' := by omega
  subst ent
  have hnt : nt ≤ 36 := b11.2.1
  have hnb : nb ≤ 12 := b11.1
  have h56 := MSg56 hM
  unfold OPS
  refine c_rest u1 r4 (fun c => ?_) (fun c => ?_)
  · refine ⟨_, rfl, ⟨_, (by (repeat (refine hp_pt_of (by first | decide | omega) ?_)); first | assumption | exact hp_pt_same _ _ _)⟩, ?_⟩
    refine m_rest (I := I) (by (repeat (refine hp_pt_of (by first | decide | omega) ?_)); first | assumption | exact hp_pt_same _ _ _) (fun _ => ⟨rfl, va_up I 3 x, A, ?_⟩) (fun c' => absurd c c')
    exact ⟨BG_eq hB0 (fun b _ _ => (by (repeat (refine hp_pt_of (by first | decide | omega) ?_)); first | assumption | exact rfl | exact hp_pt_same _ _ _)) (by (repeat (refine (va_up_ne _ _ (by first | decide | omega)).trans ?_)); exact rfl) (by (repeat (refine (va_up_ne _ _ (by first | decide | omega)).trans ?_)); exact rfl) (fun _ _ _ => rfl), ⟨n, nt, M, Kp, pc, r1, b2, r3, (by (repeat (refine hp_pt_of (by first | decide | omega) ?_)); first | assumption | exact rfl | exact hp_pt_same _ _ _), (by (repeat (refine hp_pt_of (by first | decide | omega) ?_)); first | assumption | exact rfl | exact hp_pt_same _ _ _), (by (repeat (refine hp_pt_of (by first | decide | omega) ?_)); first | assumption | exact rfl | exact hp_pt_same _ _ _), r7, r8, r9, r10⟩, LYR_eq hL (fun b _ _ => (by (repeat (refine hp_pt_of (by first | decide | omega) ?_)); first | assumption | exact rfl | exact hp_pt_same _ _ _)), XG_eq hX0 (fun b _ _ => (by (repeat (refine hp_pt_of (by first | decide | omega) ?_)); first | assumption | exact rfl | exact hp_pt_same _ _ _)) (by (repeat (refine (va_up_ne _ _ (by first | decide | omega)).trans ?_)); exact rfl) rfl, UG_eq hU0 (by (repeat (refine hp_pt_of (by first | decide | omega) ?_)); first | assumption | exact rfl | exact hp_pt_same _ _ _) (fun b _ _ => (by (repeat (refine hp_pt_of (by first | decide | omega) ?_)); first | assumption | exact rfl | exact hp_pt_same _ _ _)) (by (repeat (refine (va_up_ne _ _ (by first | decide | omega)).trans ?_)); exact rfl) (by (repeat (refine (va_up_ne _ _ (by first | decide | omega)).trans ?_)); exact rfl) (by (repeat (refine (va_up_ne _ _ (by first | decide | omega)).trans ?_)); exact rfl) (fun _ _ _ => rfl), MS_I (MS_fr hM (fr_pt (lo := 9) (hi := 10) (fr_rf _ _ _) (by decide) (by decide)) (by decide)), hn, hs, m1, by show I 6 ≤ _; omega⟩
  · exact ⟨_, rfl, ⟨_, h56⟩, m_rest h56 (fun c' => absurd c' c) (fun _ => ⟨rfl, I, A, INV_q hI⟩)⟩
set_option maxHeartbeats 4000000 in
set_option maxRecDepth 100000 in
theorem op_life (h : INV w I A q S) (x : Int) : OPS 66 107 [vi x] w q S := by
  have hI := h
  obtain ⟨hB, hR, hL, hX, hU, hM, hn, hs, m1, m2⟩ := h
  have hB0 := hB
  have hR0 := hR
  have hX0 := hX
  have hU0 := hU
  obtain ⟨nb, nt, BP, b1, b2, b3, b4, b5, b6, b7, b8, b9, b10, b11, b12, b13, b14⟩ := hB
  obtain ⟨n, nt', M, Kp, pc, r1, r2, r3, r4, r5, r6, r7, r8, r9, r10⟩ := hR
  obtain ⟨tl, Tx, x1, x2, x3, x4, x5⟩ := hX
  obtain ⟨D, T, tn, g, u1, u2, u3, u4, u5, u6, u7, u8, u9, u10, u11⟩ := hU
  have ent : nt = nt' := by omega
  subst ent
  have hnt : nt ≤ 36 := b11.2.1
  have hnb : nb ≤ 12 := b11.1
  have h56 := MSg56 hM
  unfold OPS
  refine c_life u1 r4 (fun c => ?_) (fun c => ?_)
  · refine ⟨_, rfl, ⟨_, (by (repeat (refine hp_pt_of (by first | decide | omega) ?_)); first | assumption | exact hp_pt_same _ _ _)⟩, ?_⟩
    refine m_life (I := I) (by (repeat (refine hp_pt_of (by first | decide | omega) ?_)); first | assumption | exact hp_pt_same _ _ _) (fun _ => ⟨rfl, va_up I 5 x, A, ?_⟩) (fun c' => absurd c c')
    exact ⟨BG_eq hB0 (fun b _ _ => (by (repeat (refine hp_pt_of (by first | decide | omega) ?_)); first | assumption | exact rfl | exact hp_pt_same _ _ _)) (by (repeat (refine (va_up_ne _ _ (by first | decide | omega)).trans ?_)); exact rfl) (by (repeat (refine (va_up_ne _ _ (by first | decide | omega)).trans ?_)); exact rfl) (fun _ _ _ => rfl), ⟨n, nt, M, Kp, pc, r1, b2, r3, (by (repeat (refine hp_pt_of (by first | decide | omega) ?_)); first | assumption | exact rfl | exact hp_pt_same _ _ _), (by (repeat (refine hp_pt_of (by first | decide | omega) ?_)); first | assumption | exact rfl | exact hp_pt_same _ _ _), (by (repeat (refine hp_pt_of (by first | decide | omega) ?_)); first | assumption | exact rfl | exact hp_pt_same _ _ _), r7, r8, r9, c⟩, LYR_eq hL (fun b _ _ => (by (repeat (refine hp_pt_of (by first | decide | omega) ?_)); first | assumption | exact rfl | exact hp_pt_same _ _ _)), XG_eq hX0 (fun b _ _ => (by (repeat (refine hp_pt_of (by first | decide | omega) ?_)); first | assumption | exact rfl | exact hp_pt_same _ _ _)) (by (repeat (refine (va_up_ne _ _ (by first | decide | omega)).trans ?_)); exact rfl) rfl, UG_eq hU0 (by (repeat (refine hp_pt_of (by first | decide | omega) ?_)); first | assumption | exact rfl | exact hp_pt_same _ _ _) (fun b _ _ => (by (repeat (refine hp_pt_of (by first | decide | omega) ?_)); first | assumption | exact rfl | exact hp_pt_same _ _ _)) (by (repeat (refine (va_up_ne _ _ (by first | decide | omega)).trans ?_)); exact rfl) (by (repeat (refine (va_up_ne _ _ (by first | decide | omega)).trans ?_)); exact rfl) (by (repeat (refine (va_up_ne _ _ (by first | decide | omega)).trans ?_)); exact rfl) (fun _ _ _ => rfl), MS_I (MS_fr hM (fr_pt (lo := 9) (hi := 10) (fr_rf _ _ _) (by decide) (by decide)) (by decide)), hn, hs, m1, by show I 6 ≤ _; omega⟩
  · exact ⟨_, rfl, ⟨_, h56⟩, m_life h56 (fun c' => absurd c' c) (fun _ => ⟨rfl, I, A, INV_q hI⟩)⟩
set_option maxHeartbeats 4000000 in
set_option maxRecDepth 100000 in
theorem op_force (h : INV w I A q S) (x : Int) : OPS 60 93 [vi x] w q S := by
  have hI := h
  obtain ⟨hB, hR, hL, hX, hU, hM, hn, hs, m1, m2⟩ := h
  have hB0 := hB
  have hR0 := hR
  have hX0 := hX
  have hU0 := hU
  obtain ⟨nb, nt, BP, b1, b2, b3, b4, b5, b6, b7, b8, b9, b10, b11, b12, b13, b14⟩ := hB
  obtain ⟨n, nt', M, Kp, pc, r1, r2, r3, r4, r5, r6, r7, r8, r9, r10⟩ := hR
  obtain ⟨tl, Tx, x1, x2, x3, x4, x5⟩ := hX
  obtain ⟨D, T, tn, g, u1, u2, u3, u4, u5, u6, u7, u8, u9, u10, u11⟩ := hU
  have ent : nt = nt' := by omega
  subst ent
  have hnt : nt ≤ 36 := b11.2.1
  have hnb : nb ≤ 12 := b11.1
  have h56 := MSg56 hM
  unfold OPS
  refine c_force u1 (fun c => ?_) (fun c => ?_)
  · refine ⟨_, rfl, ⟨_, (by (repeat (refine hp_pt_of (by first | decide | omega) ?_)); first | assumption | exact hp_pt_same _ _ _)⟩, ?_⟩
    refine m_force (I := I) (by (repeat (refine hp_pt_of (by first | decide | omega) ?_)); first | assumption | exact hp_pt_same _ _ _) (fun _ => ⟨rfl, va_up I 4 x, A, ?_⟩) (fun c' => absurd c c')
    refine ⟨BG_eq hB0 (fun b _ _ => (by (repeat (refine hp_pt_of (by first | decide | omega) ?_)); first | assumption | exact rfl | exact hp_pt_same _ _ _)) (by (repeat (refine (va_up_ne _ _ (by first | decide | omega)).trans ?_)); exact rfl) (by (repeat (refine (va_up_ne _ _ (by first | decide | omega)).trans ?_)); exact rfl) (fun _ _ _ => rfl), RG_eq hR0 (fun b _ _ => (by (repeat (refine hp_pt_of (by first | decide | omega) ?_)); first | assumption | exact rfl | exact hp_pt_same _ _ _)) (by (repeat (refine (va_up_ne _ _ (by first | decide | omega)).trans ?_)); exact rfl) (by (repeat (refine (va_up_ne _ _ (by first | decide | omega)).trans ?_)); exact rfl) (by (repeat (refine (va_up_ne _ _ (by first | decide | omega)).trans ?_)); exact rfl) (by (repeat (refine (va_up_ne _ _ (by first | decide | omega)).trans ?_)); exact rfl) rfl rfl, LYR_eq hL (fun b _ _ => (by (repeat (refine hp_pt_of (by first | decide | omega) ?_)); first | assumption | exact rfl | exact hp_pt_same _ _ _)), XG_eq hX0 (fun b _ _ => (by (repeat (refine hp_pt_of (by first | decide | omega) ?_)); first | assumption | exact rfl | exact hp_pt_same _ _ _)) (by (repeat (refine (va_up_ne _ _ (by first | decide | omega)).trans ?_)); exact rfl) rfl, ?_, MS_I (MS_fr hM (fr_pt (lo := 0) (hi := 1) (fr_rf _ _ _) (by decide) (by decide)) (by decide)), hn, hs, m1, by show I 6 ≤ _; omega⟩
    have hf : fr 0 1 w (pt w 0 (co 6 [vr 1, vr 9, vr 12, vr 24, vr 26, vr 55, vr D, vi (tn : Int), vi x, vi (I 6)])) := fr_pt (fr_rf _ _ _) (by decide) (by decide)
    have hf2 : fr 56 57 (pt w 0 (co 6 [vr 1, vr 9, vr 12, vr 24, vr 26, vr 55, vr D, vi (tn : Int), vi x, vi (I 6)])) (pt (pt w 0 (co 6 [vr 1, vr 9, vr 12, vr 24, vr 26, vr 55, vr D, vi (tn : Int), vi x, vi (I 6)])) 56 (co 7 (MO (va_up I 4 x)))) := fr_pt (fr_rf _ _ _) (by decide) (by decide)
    obtain ⟨u, nn, sp, pl, fa, L, Pt, Un, u5⟩ := u5
    have hD : 27 ≤ D ∧ D + 4 ≤ 55 := by obtain ⟨k, k1, k2⟩ := u6.1; omega
    exact ⟨D, T, tn, g, (by (repeat (refine hp_pt_of (by first | decide | omega) ?_)); first | assumption | exact rfl | exact hp_pt_same _ _ _), (by (repeat (refine hp_pt_of (by first | decide | omega) ?_)); first | assumption | exact rfl | exact hp_pt_same _ _ _), CT_fr (CT_fr u3 hf (by decide)) hf2 (by decide), u4, ⟨u, nn, sp, pl, fa, L, Pt, Un, TA_eq u5 (fun b _ _ => (by (repeat (refine hp_pt_of (by first | decide | omega) ?_)); first | assumption | exact rfl | exact hp_pt_same _ _ _))⟩, u6, (by (repeat (refine hp_pt_of (by first | decide | omega) ?_)); first | assumption | exact rfl | exact hp_pt_same _ _ _), u8, u9, u10, c.1⟩
  · exact ⟨_, rfl, ⟨_, h56⟩, m_force h56 (fun c' => absurd c' c) (fun _ => ⟨rfl, I, A, INV_q hI⟩)⟩
set_option maxHeartbeats 4000000 in
set_option maxRecDepth 100000 in
theorem op_crack (h : INV w I A q S) (x y : Int) (hy : y = 0 ∨ y = 1) : OPS 57 90 [vi x, vi y] w q S := by
  have hI := h
  obtain ⟨hB, hR, hL, hX, hU, hM, hn, hs, m1, m2⟩ := h
  have hB0 := hB
  have hR0 := hR
  have hX0 := hX
  have hU0 := hU
  obtain ⟨nb, nt, BP, b1, b2, b3, b4, b5, b6, b7, b8, b9, b10, b11, b12, b13, b14⟩ := hB
  obtain ⟨n, nt', M, Kp, pc, r1, r2, r3, r4, r5, r6, r7, r8, r9, r10⟩ := hR
  obtain ⟨tl, Tx, x1, x2, x3, x4, x5⟩ := hX
  obtain ⟨D, T, tn, g, u1, u2, u3, u4, u5, u6, u7, u8, u9, u10, u11⟩ := hU
  have ent : nt = nt' := by omega
  subst ent
  have hnt : nt ≤ 36 := b11.2.1
  have hnb : nb ≤ 12 := b11.1
  have h56 := MSg56 hM
  unfold OPS
  refine c_crack u1 b3 b8 hnb hy (fun c => ?_) (fun c => ?_)
  · refine ⟨_, rfl, ⟨_, (by (repeat (refine hp_pt_of (by first | decide | omega) ?_)); first | assumption | exact hp_pt_same _ _ _)⟩, ?_⟩
    have g62 := MSg62 hM
    refine m_crack (I := I) (A := A) (by (repeat (refine hp_pt_of (by first | decide | omega) ?_)); first | assumption | exact hp_pt_same _ _ _) (by (repeat (refine hp_pt_of (by first | decide | omega) ?_)); first | assumption | exact hp_pt_same _ _ _) (by omega) hy (fun _ => ⟨rfl, I, va_up A 62 (va_up (A 62) x.toNat y), ?_⟩) (fun c' => absurd (by rw [b1]; exact c) c')
    exact ⟨⟨nb, nt, BP, b1, b2, (by (repeat (refine hp_pt_of (by first | decide | omega) ?_)); first | assumption | exact rfl | exact hp_pt_same _ _ _), (by (repeat (refine hp_pt_of (by first | decide | omega) ?_)); first | assumption | exact rfl | exact hp_pt_same _ _ _), (by (repeat (refine hp_pt_of (by first | decide | omega) ?_)); first | assumption | exact rfl | exact hp_pt_same _ _ _), (by (repeat (refine hp_pt_of (by first | decide | omega) ?_)); first | assumption | exact rfl | exact hp_pt_same _ _ _), (by (repeat (refine hp_pt_of (by first | decide | omega) ?_)); first | assumption | exact rfl | exact hp_pt_same _ _ _), (by (repeat (refine hp_pt_of (by first | decide | omega) ?_)); first | assumption | exact rfl | exact hp_pt_same _ _ _), (by (repeat (refine hp_pt_of (by first | decide | omega) ?_)); first | assumption | exact rfl | exact hp_pt_same _ _ _), (by (repeat (refine hp_pt_of (by first | decide | omega) ?_)); first | assumption | exact rfl | exact hp_pt_same _ _ _), b11, b12, b13, b14⟩, RG_eq hR0 (fun b _ _ => (by (repeat (refine hp_pt_of (by first | decide | omega) ?_)); first | assumption | exact rfl | exact hp_pt_same _ _ _)) rfl rfl rfl rfl (by (repeat (refine (va_up_ne _ _ (by first | decide | omega)).trans ?_)); exact rfl) (by (repeat (refine (va_up_ne _ _ (by first | decide | omega)).trans ?_)); exact rfl), LYR_eq hL (fun b _ _ => (by (repeat (refine hp_pt_of (by first | decide | omega) ?_)); first | assumption | exact rfl | exact hp_pt_same _ _ _)), XG_eq hX0 (fun b _ _ => (by (repeat (refine hp_pt_of (by first | decide | omega) ?_)); first | assumption | exact rfl | exact hp_pt_same _ _ _)) rfl (by (repeat (refine (va_up_ne _ _ (by first | decide | omega)).trans ?_)); exact rfl), UG_eq hU0 (by (repeat (refine hp_pt_of (by first | decide | omega) ?_)); first | assumption | exact rfl | exact hp_pt_same _ _ _) (fun b _ _ => (by (repeat (refine hp_pt_of (by first | decide | omega) ?_)); first | assumption | exact rfl | exact hp_pt_same _ _ _)) rfl rfl rfl (fun k _ _ => (by (repeat (refine (va_up_ne _ _ (by first | decide | omega)).trans ?_)); exact rfl)), MS_62 (MS_fr hM (fr_pt (lo := 6) (hi := 7) (fr_rf _ _ _) (by decide) (by decide)) (by decide)), hn, hs, m1, by omega⟩
  · exact ⟨_, rfl, ⟨_, h56⟩, m_crack h56 (MSg62 hM) (by omega) hy (fun c' => absurd (by rw [b1] at c'; exact c') c) (fun _ => ⟨rfl, I, A, INV_q hI⟩)⟩
set_option maxHeartbeats 4000000 in
set_option maxRecDepth 100000 in
theorem op_octet (h : INV w I A q S) (x : Int) : OPS 72 113 [vi x] w q S := by
  have hI := h
  obtain ⟨hB, hR, hL, hX, hU, hM, hn, hs, m1, m2⟩ := h
  have hB0 := hB
  have hR0 := hR
  have hX0 := hX
  have hU0 := hU
  obtain ⟨nb, nt, BP, b1, b2, b3, b4, b5, b6, b7, b8, b9, b10, b11, b12, b13, b14⟩ := hB
  obtain ⟨n, nt', M, Kp, pc, r1, r2, r3, r4, r5, r6, r7, r8, r9, r10⟩ := hR
  obtain ⟨tl, Tx, x1, x2, x3, x4, x5⟩ := hX
  obtain ⟨D, T, tn, g, u1, u2, u3, u4, u5, u6, u7, u8, u9, u10, u11⟩ := hU
  have ent : nt = nt' := by omega
  subst ent
  have hnt : nt ≤ 36 := b11.2.1
  have hnb : nb ≤ 12 := b11.1
  have h56 := MSg56 hM
  unfold OPS
  refine c_octet u1 x1 x2 x4 ⟨_, rfl, ⟨_, h56⟩, ?_⟩
  refine m_octet (n := tl) h56 (MSg79 hM) x3 (by omega) ⟨some_vi ?_, I, A, INV_q hI⟩
  by_cases c : 0 ≤ x ∧ x < tl
  · rw [if_pos c, if_pos c, x5 _ (by omega)]
  · rw [if_neg c, if_neg c]
end OP
