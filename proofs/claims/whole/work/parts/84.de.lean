/-! the calls, one by one: set, bell -/
theorem bAt_snoc (P : Nat → Int) (p : Int) : ∀ n b, bAt P p (n + 1) b = if bAt P p n b = -1 then (if P (b + n) = p then ((b + n : Nat) : Int) else -1) else bAt P p n b
  | 0, b => by
    rw [bAt, bAt, if_pos rfl, Nat.add_zero]; rfl
  | n + 1, b => by
    rw [bAt, bAt_snoc P p n (b + 1), bAt]
    by_cases e : P b = p
    · rw [if_pos e, if_pos e, if_neg (by omega)]
    · rw [if_neg e, if_neg e, show b + 1 + n = b + (n + 1) by omega]
theorem bAt_congr {P P' : Nat → Int} {p : Int} : ∀ n b, (∀ j, b ≤ j → j < b + n → P j = P' j) → bAt P p n b = bAt P' p n b
  | 0, _, _ => rfl
  | n + 1, b, h => by rw [bAt, bAt, h b (by omega) (by omega), bAt_congr n (b + 1) (fun j h1 h2 => h j (by omega) (by omega))]
theorem upN_at (f : Nat → Int) (t : Nat) (v : Int) : ∀ k j, upN f t v k j = if t ≤ j ∧ j < t + k then v else f j
  | 0, j => by rw [if_neg (by omega)]; rfl
  | k + 1, j => by
    rw [upN]
    by_cases e : j = t + k
    · rw [va_up_at _ _ e, if_pos (by omega)]
    · rw [va_up_ne _ _ e, upN_at f t v k j]
      by_cases c : t ≤ j ∧ j < t + k
      · rw [if_pos c, if_pos (by omega)]
      · rw [if_neg c, if_neg (by omega)]
theorem UG_eq2 {w w' : Wd} {I I' : Nat → Int} {A A' : Nat → Nat → Int} (h : UG w I A) (e0 : ∀ D (tn : Int), hp w 0 = co 6 [vr 1, vr 9, vr 12, vr 24, vr 26, vr 55, vr D, vi tn, vi (I 4), vi (I 6)] → hp w' 0 = co 6 [vr 1, vr 9, vr 12, vr 24, vr 26, vr 55, vr D, vi tn, vi (I' 4), vi (I' 6)]) (e : ∀ b, 26 ≤ b → b < 56 → hp w' b = hp w b) (i4 : 1 ≤ I' 4) (i16 : I' 16 = I 16) (a : ∀ k, 65 ≤ k → k ≤ 71 → A' k = A k) : UG w' I' A' := by
  obtain ⟨D, T, tn, g, h1, h2, h3, h4, ⟨u, nn, sp, pl, fa, L, Pt, Un, h5⟩, h6, h7, h8, h9, h10, h11⟩ := h
  have hD : 27 ≤ D ∧ D + 4 ≤ 55 := by obtain ⟨k, k1, k2⟩ := h6.1; omega
  refine ⟨D, T, tn, g, e0 D tn h1, (e 26 (by decide) (by decide)).trans h2, fun j hj => ?_, fun j hj => ?_, ⟨u, nn, sp, pl, fa, L, Pt, Un, TA_eq h5 (fun b b1 b2 => e b (by omega) (by omega))⟩, h6, (e 55 (by decide) (by decide)).trans h7, by rw [a 65 (by decide) (by decide)]; exact h8, i16.trans h9, h10, i4⟩
  · obtain ⟨m1, m2, m3⟩ := mt_eq a j
    rw [m1, m2, m3, a 66 (by decide) (by decide), a 67 (by decide) (by decide), a 68 (by decide) (by decide)]
    obtain ⟨x, x1, x2, ⟨pl, fa, L, Pt, Un, x3, x4⟩, x5⟩ := h3 j hj
    exact ⟨x, x1, x2, ⟨pl, fa, L, Pt, Un, TA_eq x3 (fun b b1 b2 => e b (by omega) (by omega)), x4⟩, x5⟩
  · obtain ⟨m1, m2, m3⟩ := mt_eq a j
    unfold TD
    rw [m1, m2, m3, a 66 (by decide) (by decide), a 67 (by decide) (by decide), a 68 (by decide) (by decide)]
    exact h4 j hj
section OP
variable {w : Wd} {I : Nat → Int} {A : Nat → Nat → Int} {q S : Nat}
set_option maxHeartbeats 4000000 in
set_option maxRecDepth 100000 in
theorem op_set (h : INV w I A q S) (hq : q ≤ 800) (x y : Int) : OPS 76 125 [vi x, vi y] w q S := by
  have hPKs := INV_PK h
  obtain ⟨nb, nt, n, pc, D, tn, T, BP, M, Kp, e0, e1, e2, hP, h11⟩ := hPKs
  have hI := h
  obtain ⟨hB, hR, hL, hX, hU, hM, hn, hs, m1, m2⟩ := h
  unfold OPS
  have hbd := mvV_bd I A nb n x y
  refine c_set hP h11 (by omega) (fun c w' f1 R1 => ?_) (fun c w' M' K' m f1 R1 fb y0 y9 y10 y11 yM ym yc => ?_)
  · have hM' := MS_fr hM f1 (by decide)
    exact ⟨_, rfl, ⟨_, MSg56 hM'⟩, m_set hM' hP.hTD hP.hB e0 e2 hP.hn1 hP.hn2 (by omega) (fun _ w2 I2 A2 hSC => ⟨rfl, I2, A2, INV_sc hI f1 R1 hSC⟩) (fun c' => absurd c c')⟩
  · have hM' := MS_fr hM f1 (by decide)
    refine ⟨_, rfl, ⟨_, MSg56 hM'⟩, m_set hM' hP.hTD hP.hB e0 e2 hP.hn1 hP.hn2 (by omega) (fun c' => absurd c' c) (fun _ w2 I2 A2 s1 s2 s3 s6 s4 s63 s64 => ⟨rfl, I2, A2, ?_⟩)⟩
    have hz : ∀ b, b < 56 → hp w2 b = hp w' b := fun b hb => fr_at b s2 (by omega)
    have a : ∀ k, k < 63 ∨ (64 < k ∧ k < 75) ∨ 78 < k → A2 k = A k := fun k hk => s4 k (by omega) (by omega) (by omega) (by omega) (by omega) (by omega)
    have iq : ∀ k, k ≠ 6 → k ≠ 36 → k ≠ 37 → I2 k = I k := s3
    obtain ⟨n', nt', M0, Kp', pc', r1, r2, r3, r4, r5, r6, r7, r8, r9, r10⟩ := hR
    have en : n' = n := by omega
    have ent : nt' = nt := by omega
    subst en
    subst ent
    have eMM : M0 = M := by
      have := r5.symm.trans hP.h10
      injection this with this
      injection this with _ this
      injection this with _ this
    subst eMM
    have hwn : ∀ c, wn (mWl I A nb n' x.toNat y.toNat) c = if c ∈ mWl I A nb n' x.toNat y.toNat then 1 else 0 := fun _ => rfl
    have hPR' : PR (A2 63) (A2 64) M' := by
      intro j hj
      rw [s63 j hj, s64 j hj, yM j hj, hwn]
      by_cases z : j ∈ mWl I A nb n' x.toNat y.toNat
      · rw [if_pos z, if_pos z]
        have := r7 j hj
        right
        refine ⟨rfl, ?_⟩
        rcases this with ⟨p1, p2⟩ | ⟨p1, p2, p3, p4⟩
        · rw [if_pos ⟨by decide, p1⟩, p2]
          exact ⟨by decide, by decide, by decide⟩
        · rw [if_neg (fun z => by omega), p2]
          refine ⟨?_, p3, p4⟩
          unfold f_max
          split <;> omega
      · rw [if_neg z, if_neg z]
        exact Or.inl ⟨rfl, rfl⟩
    have hcnt : (m : Int) = cn (fun c => decide (¬ A2 63 c = 0)) 2304 0 := by
      rw [ym]
      refine cn_congr _ _ (fun j _ hj => ?_)
      have := hPR' j (by omega)
      by_cases z : M' j = -1
      · have y1 : decide (¬ M' j = -1) = false := decide_eq_false (fun y => y z)
        have y2 : decide (¬ A2 63 j = 0) = false := decide_eq_false (fun y => y (by omega))
        rw [y1, y2]
      · have y1 : decide (¬ M' j = -1) = true := decide_eq_true z
        have y2 : decide (¬ A2 63 j = 0) = true := decide_eq_true (by omega)
        rw [y1, y2]
    have i6 : I2 6 = I 6 + mvV I A nb n' x y := s6
    refine ⟨BG_eq hB (fun b b1 b2 => (hz b (by omega)).trans (fb b b1 b2)) (iq 0 (by decide) (by decide) (by decide)) (iq 1 (by decide) (by decide) (by decide)) (fun k _ _ => a k (by omega)), ⟨n', nt', M', K', m, (iq 2 (by decide) (by decide) (by decide)).trans r1, (iq 1 (by decide) (by decide) (by decide)).trans r2, r3, ?_, (hz 10 (by decide)).trans y10, (hz 11 (by decide)).trans y11, hPR', hcnt, ?_, ?_⟩, LYR_eq R1 (fun b _ _ => hz b (by omega)), XG_eq hX (fun b _ _ => (hz b (by omega)).trans (fr_at b f1 (by omega))) (iq 39 (by decide) (by decide) (by decide)) (a 79 (by decide)), ?_, s1, s2.1.trans (f1.1.trans hn), s2.2.1.trans (f1.2.1.trans hs), by omega, by omega⟩
    · rw [hz 9 (by decide), iq 3 (by decide) (by decide) (by decide), iq 5 (by decide) (by decide) (by decide)]
      exact y9
    · intro t h' ht hh ho
      rw [s63 _ (by omega), hwn]
      by_cases z : 64 * t + h' ∈ mWl I A nb n' x.toNat y.toNat
      · exfalso
        obtain ⟨t1, h1, g1, g2, g3⟩ := yc _ (by omega) z
        omega
      · rw [if_neg z]
    · rw [iq 5 (by decide) (by decide) (by decide)]; exact r10
    · refine UG_eq2 hU (fun D' tn' hd => ?_) (fun b _ _ => (hz b (by omega)).trans (fr_at b f1 (by omega))) (by rw [iq 4 (by decide) (by decide) (by decide)]; exact hP.hF) (iq 16 (by decide) (by decide) (by decide)) (fun k _ _ => a k (by omega))
      have := hd.symm.trans hP.h0
      simp only [Sum.inr.injEq, Prod.mk.injEq, List.cons.injEq, Sum.inl.injEq, Option.some.injEq, and_true, true_and] at this
      obtain ⟨q1, q2⟩ := this
      subst q1
      subst q2
      rw [hz 0 (by decide), iq 4 (by decide) (by decide) (by decide), i6]
      exact y0
set_option maxHeartbeats 4000000 in
set_option maxRecDepth 100000 in
theorem op_bell (h : INV w I A q S) (x y z : Int) : OPS 55 86 [vi x, vi y, vi z] w q S := by
  have hI := h
  obtain ⟨hB, hR, hL, hX, hU, hM, hn, hs, m1, m2⟩ := h
  have hB0 := hB
  have hR0 := hR
  have hX0 := hX
  have hU0 := hU
  obtain ⟨nb, nt, BP, b1, b2, b3, b4, b5, b6, b7, b8, b9, b10, b11, b12, b13, b14⟩ := hB
  obtain ⟨n, nt', M, Kp, pc, r1, r2, r3, r4, r5, r6, r7, r8, r9, r10⟩ := hR
  obtain ⟨tl, Tx, x1, x2, x3, x4, x5⟩ := hX
  obtain ⟨D, T, tn, g, u1, u2, u3, u4, u5, u6, u7, u8, u9, u10, u11⟩ := hU
  have ent : nt = nt' := by omega
  subst ent
  have hnt : nt ≤ 36 := b11.2.1
  have hnb : nb ≤ 12 := b11.1
  have h56 := MSg56 hM
  unfold OPS
  refine c_bell (P := A 57) (Wt := A 58) (Hm := A 59) (Ft := A 60) (BT := A 61) (BP := BP) u1 b3 b4 b5 b6 b7 b9 b10 hnb b14 b13.1 (fun c => ?_) (fun c m w' em y1 y2 y3 y4 y5 y6 y7 y8 yf => ?_)
  · exact ⟨_, rfl, ⟨_, h56⟩, m_bell h56 (MSg57 hM) (MSg58 hM) (MSg59 hM) (MSg60 hM) (MSg61 hM) b1 hnb b2 b14 (fun _ => ⟨rfl, I, A, INV_q hI⟩) (fun c' => absurd c' c)⟩
  · have hM' := MS_fr hM yf (by decide)
    refine ⟨_, rfl, ⟨_, MSg56 hM'⟩, m_bell (I := I) (A := A) (MSg56 hM') (MSg57 hM') (MSg58 hM') (MSg59 hM') (MSg60 hM') (MSg61 hM') b1 hnb b2 b14 (fun c' => absurd c c') (fun _ m' em' => ⟨rfl, va_up (va_up I 1 (nt + m')) 0 (nb + 1), va_up (va_up (va_up (va_up (va_up A 57 (va_up (A 57) nb x)) 58 (va_up (A 58) nb y)) 59 (va_up (A 59) nb m')) 60 (va_up (A 60) nb nt)) 61 (upN (A 61) nt nb m'), ?_⟩)⟩
    have emm : m' = m := by omega
    subst emm
    unfold bellW
    have e2 : ∀ b, b < 1 ∨ (9 ≤ b ∧ b < 56) → hp w' b = hp w b := fun b hb => fr_at b yf (by omega)
    obtain ⟨c1, c2, c3, c4, c5⟩ := c
    have hb := b11.2.2
    refine ⟨⟨nb + 1, nt + m', _, rfl, rfl, (by (repeat (refine hp_pt_of (by first | decide | omega) ?_)); first | assumption | exact hp_pt_same _ _ _), (by (repeat (refine hp_pt_of (by first | decide | omega) ?_)); first | assumption | exact hp_pt_same _ _ _), (by (repeat (refine hp_pt_of (by first | decide | omega) ?_)); first | assumption | exact hp_pt_same _ _ _), (by (repeat (refine hp_pt_of (by first | decide | omega) ?_)); first | assumption | exact hp_pt_same _ _ _), (by (repeat (refine hp_pt_of (by first | decide | omega) ?_)); first | assumption | exact hp_pt_same _ _ _), ?_, (by (repeat (refine hp_pt_of (by first | decide | omega) ?_)); first | assumption | exact hp_pt_same _ _ _), (by (repeat (refine hp_pt_of (by first | decide | omega) ?_)); first | assumption | exact hp_pt_same _ _ _), ?_, ?_, ?_, by omega⟩, ⟨n, nt + m', M, Kp, pc, r1, rfl, r3, ?_, ?_, ?_, r7, r8, fun t h' ht hh ho => r9 t h' ht hh (by omega), r10⟩, LYR_eq hL (fun b h1 h2 => ?_), XG_eq hX0 (fun b h1 h2 => ?_) rfl rfl, UG_eq hU0 ?_ (fun b h1 h2 => ?_) rfl rfl rfl (fun k h1 h2 => (by (repeat (refine (va_up_ne _ _ (by first | decide | omega)).trans ?_)); exact rfl)), MS_I (MS_61 (MS_60 (MS_59 (MS_58 (MS_57 hM'))))), yf.1.trans hn, yf.2.1.trans hs, m1, by show I 6 ≤ _; omega⟩
    · have := y6.trans b8
      exact (by (repeat (refine hp_pt_of (by first | decide | omega) ?_)); first | assumption | exact hp_pt_same _ _ _)
    · -- the bells are what they were, and one more
      refine ⟨by omega, by omega, fun b hbb => ?_⟩
      show (0 ≤ va_up (A 57) nb x b ∧ va_up (A 57) nb x b ≤ 47) ∧ (1 ≤ va_up (A 58) nb y b ∧ va_up (A 58) nb y b ≤ 99) ∧ (1 ≤ va_up (A 59) nb (m' : Int) b ∧ va_up (A 59) nb (m' : Int) b ≤ 3) ∧ 0 ≤ va_up (A 60) nb (nt : Int) b ∧ va_up (A 60) nb (nt : Int) b + va_up (A 59) nb (m' : Int) b ≤ ((nt + m' : Nat) : Int)
      by_cases e : b = nb
      · subst e
        rw [va_up_self, va_up_self, va_up_self, va_up_self]
        omega
      · rw [va_up_ne _ _ e, va_up_ne _ _ e, va_up_ne _ _ e, va_up_ne _ _ e]
        have := hb b (by omega)
        omega
    · show TB (va_up (A 57) nb x) (va_up (A 59) nb (m' : Int)) (va_up (A 60) nb (nt : Int)) (upN (A 61) nt nb m') (nb + 1) (nt + m')
      refine ⟨fun b hbb => ?_, fun t ht => ?_, fun b hbb k hk => ?_⟩
      · rw [bAt_snoc, bAt_congr (P := va_up (A 57) nb x) (P' := A 57) nb 0 (fun j _ hj => va_up_ne _ _ (by omega))]
        by_cases e : b = nb
        · subst e
          rw [va_up_self, if_pos c5, Nat.zero_add, va_up_self, if_pos rfl]
        · rw [va_up_ne _ _ e, b12.1 b (by omega), if_neg (by omega)]
      · rw [upN_at]
        by_cases e : nt ≤ t ∧ t < nt + m'
        · rw [if_pos e, Int.toNat_natCast, va_up_self, va_up_self]
          omega
        · rw [if_neg e]
          have := b12.2.1 t (by omega)
          rw [va_up_ne _ _ (by omega), va_up_ne _ _ (by omega)]
          omega
      · rw [upN_at]
        by_cases e : b = nb
        · subst e
          rw [va_up_self] at hk ⊢
          rw [Int.toNat_natCast, if_pos (by omega)]
        · rw [va_up_ne _ _ e] at hk ⊢
          have := hb b (by omega)
          rw [if_neg (by omega)]
          exact b12.2.2 b (by omega) k hk
    · show BPok (va_up (A 57) nb x) (va_up BP x.toNat nb) (nb + 1)
      refine ⟨fun r hr => ?_, fun b hbb => ?_⟩
      · rw [bAt_snoc, bAt_congr (P := va_up (A 57) nb x) (P' := A 57) nb 0 (fun j _ hj => va_up_ne _ _ (by omega)), Nat.zero_add, va_up_self]
        by_cases e : r = x.toNat
        · rw [va_up_at _ _ e]
          have ex : x = (r : Int) := by omega
          rw [ex] at c5
          rw [if_pos c5, if_pos ex]
        · rw [va_up_ne _ _ e, b13.1 r hr, if_neg (show ¬ x = (r : Int) by omega)]
          split
          · next z => exact z
          · rfl
      · by_cases e : b = nb
        · subst e; rw [va_up_self]; omega
        · rw [va_up_ne _ _ e]; exact b13.2 b (by omega)
    · have := e2 9 (by omega)
      exact (show hp _ 9 = hp w 9 from (by (repeat (refine hp_pt_of (by first | decide | omega) ?_)); first | assumption | exact rfl | exact hp_pt_same _ _ _)).trans r4
    · have := e2 10 (by omega)
      exact (show hp _ 10 = hp w 10 from (by (repeat (refine hp_pt_of (by first | decide | omega) ?_)); first | assumption | exact rfl | exact hp_pt_same _ _ _)).trans r5
    · have := e2 11 (by omega)
      exact (show hp _ 11 = hp w 11 from (by (repeat (refine hp_pt_of (by first | decide | omega) ?_)); first | assumption | exact rfl | exact hp_pt_same _ _ _)).trans r6
    · have := e2 b (by omega)
      exact (by (repeat (refine hp_pt_of (by first | decide | omega) ?_)); first | assumption | exact rfl | exact hp_pt_same _ _ _)
    · have := e2 b (by omega)
      exact (by (repeat (refine hp_pt_of (by first | decide | omega) ?_)); first | assumption | exact rfl | exact hp_pt_same _ _ _)
    · have := e2 0 (by omega)
      exact (by (repeat (refine hp_pt_of (by first | decide | omega) ?_)); first | assumption | exact rfl | exact hp_pt_same _ _ _)
    · have := e2 b (by omega)
      exact (by (repeat (refine hp_pt_of (by first | decide | omega) ?_)); first | assumption | exact rfl | exact hp_pt_same _ _ _)
end OP
