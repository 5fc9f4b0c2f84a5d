/-! the calls, one by one: what is asked -/
theorem pin0 {A : Nat → Nat → Int} {M : Nat → Int} (h : PR (A 63) (A 64) M) (l : Int) {c : Nat} (hc : c < 2304) : decide (0 ≤ M c) = pinB A l 0 c := by
  unfold pinB
  have := h c hc
  by_cases z : A 63 c = 0
  · have y1 : decide (¬ A 63 c = 0) = false := decide_eq_false (fun y => y z)
    rw [y1, Bool.false_and]; exact decide_eq_false (by omega)
  · have y1 : decide (¬ A 63 c = 0) = true := decide_eq_true z
    rw [y1]; exact decide_eq_true (by omega)
theorem pin1 {A : Nat → Nat → Int} {M : Nat → Int} (h : PR (A 63) (A 64) M) {l : Int} (hl : 1 ≤ l) {c : Nat} (hc : c < 2304) : decide (l ≤ M c) = pinB A l 1 c := by
  unfold pinB
  have := h c hc
  by_cases z : A 63 c = 0
  · have y1 : decide (¬ A 63 c = 0) = false := decide_eq_false (fun y => y z)
    rw [y1, Bool.false_and]; exact decide_eq_false (by omega)
  · have y1 : decide (¬ A 63 c = 0) = true := decide_eq_true z
    rw [y1]
    by_cases y : l ≤ M c
    · have y2 : ¬ A 64 c < l := by omega
      rw [decide_eq_true y, decide_eq_true y2]; rfl
    · have y2 : ¬ ¬ A 64 c < l := by omega
      rw [decide_eq_false y, decide_eq_false y2]; rfl
theorem lookF_congr {P Wt Hm Ft Cr : Nat → Int} {nb : Nat} {g h g' h' : Nat → Bool} {b what : Int} (hr : ∀ j, j < nb → 0 ≤ Ft j ∧ 1 ≤ Hm j ∧ Ft j + Hm j ≤ 36) (hg : ∀ c, c < 2304 → g c = g' c) (hh : ∀ c, c < 2304 → h c = h' c) : lookF P Wt Hm Ft Cr nb g h b what = lookF P Wt Hm Ft Cr nb g' h' b what := by
  unfold lookF
  by_cases c : 0 ≤ b ∧ b < nb
  · have := hr b.toNat (by omega)
    rw [cn_congr (g := g) (g' := g') _ _ (fun j h1 h2 => hg j (by omega)), cn_congr (g := h) (g' := h') _ _ (fun j h1 h2 => hh j (by omega))]
  · rw [if_neg c, if_neg c]
theorem lowF_congr {tp tp' : Nat → Int} : ∀ n, (∀ k, k < n → tp k = tp' k) → lowF tp n = lowF tp' n ∧ highF tp n = highF tp' n
  | 0, _ => ⟨rfl, rfl⟩
  | n + 1, h => by
    obtain ⟨a, b⟩ := lowF_congr n (fun k hk => h k (by omega))
    rw [lowF, lowF, highF, highF, a, b, h n (by omega)]
    exact ⟨rfl, rfl⟩
section OP
variable {w : Wd} {I : Nat → Int} {A : Nat → Nat → Int} {q S : Nat}
set_option maxHeartbeats 4000000 in
set_option maxRecDepth 100000 in
theorem op_look (h : INV w I A q S) (x y : Int) : OPS 67 108 [vi x, vi y] w q S := by
  have hI := h
  obtain ⟨hB, hR, hL, hX, hU, hM, hn, hs, m1, m2⟩ := h
  have hB0 := hB
  have hR0 := hR
  have hX0 := hX
  have hU0 := hU
  obtain ⟨nb, nt, BP, b1, b2, b3, b4, b5, b6, b7, b8, b9, b10, b11, b12, b13, b14⟩ := hB
  obtain ⟨n, nt', M, Kp, pc, r1, r2, r3, r4, r5, r6, r7, r8, r9, r10⟩ := hR
  obtain ⟨tl, Tx, x1, x2, x3, x4, x5⟩ := hX
  obtain ⟨D, T, tn, g, u1, u2, u3, u4, u5, u6, u7, u8, u9, u10, u11⟩ := hU
  have ent : nt = nt' := by omega
  subst ent
  have hnt : nt ≤ 36 := b11.2.1
  have hnb : nb ≤ 12 := b11.1
  have h56 := MSg56 hM
  unfold OPS
  have hr : ∀ j, j < nb → 0 ≤ A 60 j ∧ 1 ≤ A 59 j ∧ A 60 j + A 59 j ≤ 36 := fun j hj => by have := b11.2.2 j hj; omega
  refine c_look u1 b3 b4 b5 b6 b7 b8 r4 r5 hnb r3.2 (by omega) hr (fun t h' ht hh ho => ?_) ⟨_, rfl, ⟨_, h56⟩, ?_⟩
  · have := r9 t h' ht hh (Or.inr ho)
    have := r7 (64 * t + h') (by omega)
    omega
  refine m_look hM b1 hnb hr ⟨some_vi ?_, I, A, INV_q hI⟩
  exact (lookF_congr hr (fun c hc => pin0 r7 (I 5) hc) (fun c hc => pin1 r7 r10.1 hc)).symm
set_option maxHeartbeats 4000000 in
set_option maxRecDepth 100000 in
theorem op_count (h : INV w I A q S) (x : Int) : OPS 56 89 [vi x] w q S := by
  have hI := h
  obtain ⟨hB, hR, hL, hX, hU, hM, hn, hs, m1, m2⟩ := h
  have hB0 := hB
  have hR0 := hR
  have hX0 := hX
  have hU0 := hU
  obtain ⟨nb, nt, BP, b1, b2, b3, b4, b5, b6, b7, b8, b9, b10, b11, b12, b13, b14⟩ := hB
  obtain ⟨n, nt', M, Kp, pc, r1, r2, r3, r4, r5, r6, r7, r8, r9, r10⟩ := hR
  obtain ⟨tl, Tx, x1, x2, x3, x4, x5⟩ := hX
  obtain ⟨D, T, tn, g, u1, u2, u3, u4, u5, u6, u7, u8, u9, u10, u11⟩ := hU
  have ent : nt = nt' := by omega
  subst ent
  have hnt : nt ≤ 36 := b11.2.1
  have hnb : nb ≤ 12 := b11.1
  have h56 := MSg56 hM
  unfold OPS
  refine c_count u1 b3 r4 r5 hnt r3.2 (by omega) (fun t h' ht hh ho => ?_) ⟨_, rfl, ⟨_, h56⟩, ?_⟩
  · have := r9 t h' ht hh (Or.inr ho)
    have := r7 (64 * t + h') (by omega)
    omega
  refine m_count hM b2 hnt ⟨some_vi ?_, I, A, INV_q hI⟩
  have e1 : cn (pinB A (I 5) 0) (64 * nt) 0 = pc := by
    rw [r8, show 2304 = 64 * nt + (2304 - 64 * nt) by omega, cn_add, cn_zero (g := fun c => decide (¬ A 63 c = 0)) (2304 - 64 * nt)]
    · rw [Int.add_zero]
      exact cn_congr _ _ (fun j _ hj => by unfold pinB; rw [decide_eq_true (rfl : (0 : Int) = 0), Bool.true_or, Bool.and_true])
    · intro j h1 h2
      refine decide_eq_false (fun z => z ?_)
      have := r9 (j / 64) (j % 64) (by omega) (by omega) (Or.inl (by omega))
      rw [show 64 * (j / 64) + j % 64 = j by omega] at this
      exact this
  have e2 : cn (pinB A (I 5) 1) (64 * nt) 0 = cn (fun c => decide (I 5 ≤ M c)) (64 * nt) 0 := cn_congr _ _ (fun j _ hj => (pin1 r7 r10.1 (by omega)).symm)
  rw [e1, e2, b1, b2, r1, u9]
set_option maxHeartbeats 4000000 in
set_option maxRecDepth 100000 in
theorem op_told (h : INV w I A q S) (x y : Int) : OPS 80 131 [vi x, vi y] w q S := by
  have hI := h
  obtain ⟨hB, hR, hL, hX, hU, hM, hn, hs, m1, m2⟩ := h
  have hB0 := hB
  have hR0 := hR
  have hX0 := hX
  have hU0 := hU
  obtain ⟨nb, nt, BP, b1, b2, b3, b4, b5, b6, b7, b8, b9, b10, b11, b12, b13, b14⟩ := hB
  obtain ⟨n, nt', M, Kp, pc, r1, r2, r3, r4, r5, r6, r7, r8, r9, r10⟩ := hR
  obtain ⟨tl, Tx, x1, x2, x3, x4, x5⟩ := hX
  obtain ⟨D, T, tn, g, u1, u2, u3, u4, u5, u6, u7, u8, u9, u10, u11⟩ := hU
  have ent : nt = nt' := by omega
  subst ent
  have hnt : nt ≤ 36 := b11.2.1
  have hnb : nb ≤ 12 := b11.1
  have h56 := MSg56 hM
  unfold OPS
  by_cases c : 0 ≤ x ∧ x < 6
  · obtain ⟨t, rfl⟩ : ∃ t : Nat, x = t := ⟨x.toNat, by omega⟩
    obtain ⟨a, t1, t2, ⟨pl, fa, L, Pt, Un, ⟨t3, t4, t5, t6⟩, t7, t8⟩, t9⟩ := u3 t (by omega)
    obtain ⟨d1, d2, d3, d4⟩ := u4 t (by omega)
    obtain ⟨K1, K2, K3, K4, K5, K6⟩ := d1
    refine c_told (nn := (A 67 t).toNat) u1 u2 t1 (by omega) t3 t5 K2 (fun k hk => by rw [(t7 k hk).1]; exact (K4 k hk).1) ⟨_, rfl, ⟨_, h56⟩, ?_⟩
    refine m_told (nn := (A 67 t).toNat) h56 (MSg66 hM) (MSg67 hM) (MSg68 hM) (MSg71 hM) (by omega) (by omega) (by omega) ⟨some_vi ?_, I, A, INV_q hI⟩
    obtain ⟨l1, l2⟩ := lowF_congr (tp := Pt) (tp' := fun k => A 71 (32 * t + k)) (A 67 t).toNat (fun k hk => (t7 k hk).1)
    rw [l1, l2, show ((A 66 t).toNat : Int) = A 66 t by omega, show ((A 68 t).toNat : Int) = A 68 t by omega]
  · exact c_toldX u1 c ⟨_, rfl, ⟨_, h56⟩, m_toldX c ⟨rfl, I, A, INV_q hI⟩⟩
set_option maxHeartbeats 4000000 in
set_option maxRecDepth 100000 in
theorem op_shift (h : INV w I A q S) (x : Int) : OPS 77 126 [vi x] w q S := by
  have hI := h
  obtain ⟨hB, hR, hL, hX, hU, hM, hn, hs, m1, m2⟩ := h
  have hB0 := hB
  have hR0 := hR
  have hX0 := hX
  have hU0 := hU
  obtain ⟨nb, nt, BP, b1, b2, b3, b4, b5, b6, b7, b8, b9, b10, b11, b12, b13, b14⟩ := hB
  obtain ⟨n, nt', M, Kp, pc, r1, r2, r3, r4, r5, r6, r7, r8, r9, r10⟩ := hR
  obtain ⟨tl, Tx, x1, x2, x3, x4, x5⟩ := hX
  obtain ⟨D, T, tn, g, u1, u2, u3, u4, u5, u6, u7, u8, u9, u10, u11⟩ := hU
  have ent : nt = nt' := by omega
  subst ent
  have hnt : nt ≤ 36 := b11.2.1
  have hnb : nb ≤ 12 := b11.1
  have h56 := MSg56 hM
  unfold OPS
  have hU : ∀ j, j < 6 → ∃ a nn s p f, T j = some a ∧ hp w a = co 5 [vr (a + 1), vr (a + 2), vr (a + 3), vi (A 66 j), vi nn, vi s, vi p, vi f] := by
    intro j hj
    obtain ⟨a, t1, t2, ⟨pl, fa, L, Pt, Un, ⟨t3, t4, t5, t6⟩, t7, t8⟩, t9⟩ := u3 j hj
    have d2 := (u4 j hj).2.1
    rw [show ((A 66 j).toNat : Int) = A 66 j by omega] at t3
    exact ⟨a, _, _, _, _, t1, t3⟩
  by_cases c : (0 ≤ x ∧ x < 6) ∧ 0 < A 66 x.toNat
  · obtain ⟨t, rfl⟩ : ∃ t : Nat, x = t := ⟨x.toNat, by omega⟩
    rw [Int.toNat_natCast] at c
    obtain ⟨a, t1, t2, ⟨pl, fa, L, Pt, Un, ⟨t3, t4, t5, t6⟩, t7, t8⟩, t9⟩ := u3 t (by omega)
    obtain ⟨d1, d2, d3, d4⟩ := u4 t (by omega)
    obtain ⟨K1, K2, K3, K4, K5, K6⟩ := d1
    rw [show ((A 66 t).toNat : Int) = A 66 t by omega] at t3
    refine c_shift (P := A 57) (nn := (A 67 t).toNat) u1 u2 hU b3 b8 b10 hnb b13 t1 (by omega) c.2 t3 t5 K2 (fun k hk => by rw [(t7 k hk).1]; exact K4 k hk) ⟨_, rfl, ⟨_, h56⟩, ?_⟩
    refine m_shift (nn := (A 67 t).toNat) hM (by omega) c.2 (by omega) (by omega) b1 hnb (fun k hk => K4 k hk) ⟨some_vi ?_, I, A, INV_q hI⟩
    exact (pSh_congr (fun k hk => (t7 k hk).1)).symm
  · exact c_shiftX u1 u2 hU c ⟨_, rfl, ⟨_, h56⟩, m_shiftX h56 (MSg66 hM) c ⟨rfl, I, A, INV_q hI⟩⟩
set_option maxHeartbeats 4000000 in
set_option maxRecDepth 100000 in
theorem op_turn (h : INV w I A q S) (x y : Int) : OPS 82 134 [vi x, vi y] w q S := by
  have hI := h
  obtain ⟨hB, hR, hL, hX, hU, hM, hn, hs, m1, m2⟩ := h
  have hB0 := hB
  have hR0 := hR
  have hX0 := hX
  have hU0 := hU
  obtain ⟨nb, nt, BP, b1, b2, b3, b4, b5, b6, b7, b8, b9, b10, b11, b12, b13, b14⟩ := hB
  obtain ⟨n, nt', M, Kp, pc, r1, r2, r3, r4, r5, r6, r7, r8, r9, r10⟩ := hR
  obtain ⟨tl, Tx, x1, x2, x3, x4, x5⟩ := hX
  obtain ⟨D, T, tn, g, u1, u2, u3, u4, u5, u6, u7, u8, u9, u10, u11⟩ := hU
  have ent : nt = nt' := by omega
  subst ent
  have hnt : nt ≤ 36 := b11.2.1
  have hnb : nb ≤ 12 := b11.1
  have h56 := MSg56 hM
  unfold OPS
  by_cases c : (0 ≤ x ∧ x < n) ∧ (1 ≤ y ∧ y ≤ 640)
  · obtain ⟨ho, rfl⟩ : ∃ t : Nat, x = t := ⟨x.toNat, by omega⟩
    obtain ⟨ma, rfl⟩ : ∃ t : Nat, y = t := ⟨y.toNat, by omega⟩
    have hBT : ∀ t, t < nt → 0 ≤ A 61 t ∧ A 61 t < 12 := fun t ht => by have := b12.2.1 t ht; omega
    refine c_turn u1 r4 r5 b3 b8 b9 r10.2 hnt hBT r3.2 (fun j hj => by have := r7 j hj; omega) (by omega) (by omega) (by omega) (fun w' y10 yf => ?_)
    have hM' := MS_fr hM yf (by decide)
    refine ⟨_, rfl, ⟨_, MSg56 hM'⟩, ?_⟩
    refine m_turn hM' r7 b2 hnt r1 r3.1 r3.2 rfl r10.2 hBT (by omega) (by omega) (by omega) (fun S' hS' => ⟨rfl, I, va_up A 64 S', ?_⟩)
    have e2 : ∀ b, b < 10 ∨ (11 ≤ b ∧ b < 56) → hp (pt w' 64 (ca 0 2304 S')) b = hp w b := fun b hb => hp_pt_of (by omega) (fr_at b yf (by omega))
    exact ⟨BG_eq hB0 (fun b _ _ => e2 b (by omega)) rfl rfl (fun k _ _ => (by (repeat (refine (va_up_ne _ _ (by first | decide | omega)).trans ?_)); exact rfl)), ⟨n, nt, _, Kp, pc, r1, b2, r3, (e2 9 (by omega)).trans r4, hp_pt_of (by decide) y10, (e2 11 (by omega)).trans r6, hS', r8, r9, r10⟩, LYR_eq hL (fun b _ _ => e2 b (by omega)), XG_eq hX0 (fun b _ _ => e2 b (by omega)) rfl (by (repeat (refine (va_up_ne _ _ (by first | decide | omega)).trans ?_)); exact rfl), UG_eq hU0 (e2 0 (by omega)) (fun b _ _ => e2 b (by omega)) rfl rfl rfl (fun k _ _ => (by (repeat (refine (va_up_ne _ _ (by first | decide | omega)).trans ?_)); exact rfl)), MS_64 hM', yf.1.trans hn, yf.2.1.trans hs, m1, by omega⟩
  · exact c_turnX u1 r4 c ⟨_, rfl, ⟨_, h56⟩, m_turnX h56 (by rw [r1]; exact c) ⟨rfl, I, A, INV_q hI⟩⟩
set_option maxHeartbeats 4000000 in
set_option maxRecDepth 100000 in
theorem op_read (h : INV w I A q S) (x y : Int) : OPS 74 117 [vi x, vi y] w q S := by
  have hI := h
  obtain ⟨hB, hR, hL, hX, hU, hM, hn, hs, m1, m2⟩ := h
  have hB0 := hB
  have hR0 := hR
  have hX0 := hX
  have hU0 := hU
  obtain ⟨nb, nt, BP, b1, b2, b3, b4, b5, b6, b7, b8, b9, b10, b11, b12, b13, b14⟩ := hB
  obtain ⟨n, nt', M, Kp, pc, r1, r2, r3, r4, r5, r6, r7, r8, r9, r10⟩ := hR
  obtain ⟨tl, Tx, x1, x2, x3, x4, x5⟩ := hX
  obtain ⟨D, T, tn, g, u1, u2, u3, u4, u5, u6, u7, u8, u9, u10, u11⟩ := hU
  have ent : nt = nt' := by omega
  subst ent
  have hnt : nt ≤ 36 := b11.2.1
  have hnb : nb ≤ 12 := b11.1
  have h56 := MSg56 hM
  unfold OPS
  by_cases c : (0 ≤ x ∧ x < n) ∧ (1 ≤ y ∧ y ≤ n)
  · obtain ⟨ho, rfl⟩ : ∃ t : Nat, x = t := ⟨x.toNat, by omega⟩
    obtain ⟨ma, rfl⟩ : ∃ t : Nat, y = t := ⟨y.toNat, by omega⟩
    refine c_read (P := A 57) (Wt := A 58) (Hm := A 59) (Ft := A 60) (nt := nt) u1 b3 b4 b8 b9 r4 r5 x1 x2 r3.2 b11 b12 (by omega) (by omega) (fun w' T' hCR => ?_)
    obtain ⟨k1, k2, k3, k4⟩ := hCR
    have hM' := MS_fr hM k3 (by decide)
    refine ⟨_, rfl, ⟨_, MSg56 hM'⟩, ?_⟩
    refine m_read (nt := nt) hM' r7 b1 r1 r3.2 b11 (by omega) (by omega) (fun w2 I2 A2 hSR => ⟨rfl, I2, A2, ?_⟩)
    obtain ⟨s1, s2, s3, s4, s5, s6⟩ := hSR
    have e2 : ∀ b, b < 24 ∨ (26 ≤ b ∧ b < 56) → hp w2 b = hp w b := fun b hb => (fr_at b s2 (by omega)).trans (fr_at b k3 (by omega))
    have hlen := rTx_len (M := M) (P := A 57) (Cr := A 62) (Ft := A 60) (Hm := A 59) (lv := I 5) (nb := nb) (n := n) (h := ho) (many := ma) hnb
    have i6 := s3 6 (by decide)
    refine ⟨BG_eq hB0 (fun b _ _ => e2 b (by omega)) (s3 0 (by decide)) (s3 1 (by decide)) (fun k _ _ => s4 k (by omega)), RG_eq hR0 (fun b _ _ => e2 b (by omega)) (s3 1 (by decide)) (s3 2 (by decide)) (s3 3 (by decide)) (s3 5 (by decide)) (s4 63 (by decide)) (s4 64 (by decide)), LYR_eq hL (fun b _ _ => e2 b (by omega)), ⟨_, T', (fr_at 24 s2 (by omega)).trans k1, (fr_at 25 s2 (by omega)).trans k2, s5, by omega, fun j hj => ?_⟩, UG_eq hU0 (e2 0 (by omega)) (fun b _ _ => e2 b (by omega)) (s3 4 (by decide)) i6 (s3 16 (by decide)) (fun k _ _ => s4 k (by omega)), s1, s2.1.trans (k3.1.trans hn), s2.2.1.trans (k3.2.1.trans hs), by omega, by omega⟩
    have hx := List.getElem?_eq_getElem hj
    rw [s6 j _ hx, k4 j _ hx]
  · exact c_readX u1 r4 c ⟨_, rfl, ⟨_, h56⟩, m_readX hM (by rw [r1]; exact c) ⟨rfl, I, A, INV_q hI⟩⟩
/-- nothing but scratch rows has changed on both sides -/
theorem INV_sc {w1 w2 : Wd} {I' : Nat → Int} {A' : Nat → Nat → Int} (h : INV w I A q S) (hf : fr 12 24 w w1) (hR : LYR w1) (hS : SC w1 I A w2 I' A') : INV w2 I' A' (q + 1) S := by
  obtain ⟨hB, _, hL, hX, hU, hM, hn, hs, m1, m2⟩ := h
  rename_i hRG
  obtain ⟨s1, s2, s3, s4⟩ := hS
  have e2 : ∀ b, b < 12 ∨ (24 ≤ b ∧ b < 56) → hp w2 b = hp w b := fun b hb => (fr_at b s2 (by omega)).trans (fr_at b hf (by omega))
  have i6 := s3 6 (by decide) (by decide)
  have a : ∀ k, k < 75 ∨ 78 < k → A' k = A k := fun k hk => s4 k (by omega) (by omega) (by omega) (by omega)
  exact ⟨BG_eq hB (fun b _ _ => e2 b (by omega)) (s3 0 (by decide) (by decide)) (s3 1 (by decide) (by decide)) (fun k _ _ => a k (by omega)), RG_eq hRG (fun b _ _ => e2 b (by omega)) (s3 1 (by decide) (by decide)) (s3 2 (by decide) (by decide)) (s3 3 (by decide) (by decide)) (s3 5 (by decide) (by decide)) (a 63 (by decide)) (a 64 (by decide)), LYR_fr hR s2 (by decide), XG_eq hX (fun b _ _ => e2 b (by omega)) (s3 39 (by decide) (by decide)) (a 79 (by decide)), UG_eq hU (e2 0 (by omega)) (fun b _ _ => e2 b (by omega)) (s3 4 (by decide) (by decide)) i6 (s3 16 (by decide) (by decide)) (fun k _ _ => a k (by omega)), s1, s2.1.trans (hf.1.trans hn), s2.2.1.trans (hf.2.1.trans hs), by omega, by omega⟩
set_option maxHeartbeats 4000000 in
set_option maxRecDepth 100000 in
theorem op_moves (h : INV w I A q S) (x y : Int) : OPS 70 111 [vi x, vi y] w q S := by
  obtain ⟨nb, nt, n, pc, D, tn, T, BP, M, Kp, e0, e1, e2, hP, h11⟩ := INV_PK h
  have hM := h.2.2.2.2.2.1
  unfold OPS
  refine c_moves hP (fun w' f1 R1 => ?_)
  have hM' := MS_fr hM f1 (by decide)
  exact ⟨_, rfl, ⟨_, MSg56 hM'⟩, m_moves hM' hP.hTD hP.hB e0 e2 hP.hn1 hP.hn2 (fun w2 I2 A2 hSC _ => ⟨rfl, I2, A2, INV_sc h f1 R1 hSC⟩)⟩
set_option maxHeartbeats 4000000 in
set_option maxRecDepth 100000 in
theorem op_nearest (h : INV w I A q S) (y : Int) : OPS 71 112 [vi y] w q S := by
  obtain ⟨nb, nt, n, pc, D, tn, T, BP, M, Kp, e0, e1, e2, hP, h11⟩ := INV_PK h
  have hM := h.2.2.2.2.2.1
  unfold OPS
  refine c_nearest hP (fun w' f1 R1 => ?_)
  have hM' := MS_fr hM f1 (by decide)
  exact ⟨_, rfl, ⟨_, MSg56 hM'⟩, m_nearest hM' hP.hTD hP.hB e0 e2 hP.hn1 hP.hn2 (fun w2 I2 A2 hSC => ⟨rfl, I2, A2, INV_sc h f1 R1 hSC⟩)⟩
set_option maxHeartbeats 4000000 in
set_option maxRecDepth 100000 in
theorem op_why (h : INV w I A q S) (x y : Int) : OPS 83 136 [vi x, vi y] w q S := by
  obtain ⟨nb, nt, n, pc, D, tn, T, BP, M, Kp, e0, e1, e2, hP, h11⟩ := INV_PK h
  have hM := h.2.2.2.2.2.1
  unfold OPS
  refine c_why hP (fun c => ?_) (fun c r hr w' f1 R1 => ?_)
  · exact ⟨_, rfl, ⟨_, MSg56 hM⟩, m_why hM hP.hTD hP.hB e0 e2 hP.hn1 hP.hn2 (fun _ => ⟨rfl, I, A, INV_q h⟩) (fun c' => absurd c' c)⟩
  · have hM' := MS_fr hM f1 (by decide)
    exact ⟨_, rfl, ⟨_, MSg56 hM'⟩, m_why hM' hP.hTD hP.hB e0 e2 hP.hn1 hP.hn2 (fun c' => absurd c c') (fun _ r' hr' w2 I2 A2 hSC _ => ⟨some_vi (pCode_one hr' hr), I2, A2, INV_sc h f1 R1 hSC⟩)⟩
end OP
