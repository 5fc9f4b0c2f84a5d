/-! what holds between class and reference from call to call -/
def BG (w : Wd) (I : Nat → Int) (A : Nat → Nat → Int) : Prop := ∃ (nb nt : Nat) (BP : Nat → Int), I 0 = nb ∧ I 1 = nt ∧ hp w 1 = co 1 [vr 2, vr 3, vr 4, vr 5, vr 6, vr 7, vr 8, vi (nb : Int), vi (nt : Int)] ∧ hp w 2 = ca 0 12 (A 57) ∧ hp w 3 = ca 0 12 (A 58) ∧ hp w 4 = ca 0 12 (A 59) ∧ hp w 5 = ca 0 12 (A 60) ∧ hp w 6 = ca 2 12 (A 62) ∧ hp w 7 = ca 0 36 (A 61) ∧ hp w 8 = ca 0 48 BP ∧ BOK (A 57) (A 58) (A 59) (A 60) nb nt ∧ TB (A 57) (A 59) (A 60) (A 61) nb nt ∧ BPok (A 57) BP nb ∧ nt ≤ 3 * nb
def RG (w : Wd) (I : Nat → Int) (A : Nat → Nat → Int) : Prop := ∃ (n nt : Nat) (M Kp : Nat → Int) (pc : Int), I 2 = n ∧ I 1 = nt ∧ (8 ≤ n ∧ n ≤ 64) ∧ hp w 9 = co 0 [vr 10, vr 11, vi (n : Int), vi (I 3), vi (I 5), vi pc] ∧ hp w 10 = ca 0 2304 M ∧ hp w 11 = ca 0 30 Kp ∧ PR (A 63) (A 64) M ∧ pc = cn (fun c => decide (¬ A 63 c = 0)) 2304 0 ∧ (∀ t h, t < 36 → h < 64 → nt ≤ t ∨ n ≤ h → A 63 (64 * t + h) = 0) ∧ (1 ≤ I 5 ∧ I 5 ≤ 10000)
def XG (w : Wd) (I : Nat → Int) (A : Nat → Nat → Int) : Prop := ∃ (tl : Nat) (Tx : Nat → Int), hp w 24 = co 4 [vr 25, vi (tl : Int)] ∧ hp w 25 = ca 0 2496 Tx ∧ I 39 = tl ∧ tl ≤ 2496 ∧ ∀ j, j < tl → A 79 j = Tx j
def AD (T : Nat → Option Nat) (D : Nat) : Prop := (∃ k, k < 7 ∧ D = 27 + 4 * k) ∧ (∀ j, j < 6 → ∃ k, k < 7 ∧ T j = some (27 + 4 * k)) ∧ (∀ j j', j < 6 → j' < 6 → ¬ j = j' → ¬ T j = T j') ∧ ∀ j, j < 6 → ¬ T j = some D
def UG (w : Wd) (I : Nat → Int) (A : Nat → Nat → Int) : Prop := ∃ (D : Nat) (T : Nat → Option Nat) (tn : Nat) (g : Nat → Int), hp w 0 = co 6 [vr 1, vr 9, vr 12, vr 24, vr 26, vr 55, vr D, vi (tn : Int), vi (I 4), vi (I 6)] ∧ hp w 26 = cq 6 T ∧ CT w A T ∧ (∀ j, j < 6 → TD A j) ∧ (∃ u nn sp pl fa L Pt Un, TA w D u nn sp pl fa L Pt Un) ∧ AD T D ∧ hp w 55 = ca 0 80 g ∧ TPE (A 65) g ∧ I 16 = tn ∧ tn ≤ 80 ∧ 1 ≤ I 4
def INV (w : Wd) (I : Nat → Int) (A : Nat → Nat → Int) (q S : Nat) : Prop := BG w I A ∧ RG w I A ∧ LYR w ∧ XG w I A ∧ UG w I A ∧ MS w I A ∧ w.1 = 80 ∧ w.2.1 = S ∧ 0 ≤ I 6 ∧ I 6 ≤ 2304 * q
theorem BG_eq {w w' : Wd} {I I' : Nat → Int} {A A' : Nat → Nat → Int} (h : BG w I A) (e : ∀ b, 1 ≤ b → b < 9 → hp w' b = hp w b) (i0 : I' 0 = I 0) (i1 : I' 1 = I 1) (a : ∀ k, 57 ≤ k → k ≤ 62 → A' k = A k) : BG w' I' A' := by
  obtain ⟨nb, nt, BP, h1, h2, h3, h4, h5, h6, h7, h8, h9, h10, h11, h12, h13, h14⟩ := h
  refine ⟨nb, nt, BP, i0.trans h1, i1.trans h2, ?_⟩
  rw [a 57 (by decide) (by decide), a 58 (by decide) (by decide), a 59 (by decide) (by decide), a 60 (by decide) (by decide), a 61 (by decide) (by decide), a 62 (by decide) (by decide), e 1 (by decide) (by decide), e 2 (by decide) (by decide), e 3 (by decide) (by decide), e 4 (by decide) (by decide), e 5 (by decide) (by decide), e 6 (by decide) (by decide), e 7 (by decide) (by decide), e 8 (by decide) (by decide)]
  exact ⟨h3, h4, h5, h6, h7, h8, h9, h10, h11, h12, h13, h14⟩
theorem RG_eq {w w' : Wd} {I I' : Nat → Int} {A A' : Nat → Nat → Int} (h : RG w I A) (e : ∀ b, 9 ≤ b → b < 12 → hp w' b = hp w b) (i1 : I' 1 = I 1) (i2 : I' 2 = I 2) (i3 : I' 3 = I 3) (i5 : I' 5 = I 5) (a63 : A' 63 = A 63) (a64 : A' 64 = A 64) : RG w' I' A' := by
  obtain ⟨n, nt, M, Kp, pc, h1, h2, h3, h4, h5, h6, h7, h8, h9, h10⟩ := h
  refine ⟨n, nt, M, Kp, pc, i2.trans h1, i1.trans h2, h3, ?_⟩
  rw [e 9 (by decide) (by decide), e 10 (by decide) (by decide), e 11 (by decide) (by decide), i3, i5, a63, a64]
  exact ⟨h4, h5, h6, h7, h8, h9, h10⟩
theorem XG_eq {w w' : Wd} {I I' : Nat → Int} {A A' : Nat → Nat → Int} (h : XG w I A) (e : ∀ b, 24 ≤ b → b < 26 → hp w' b = hp w b) (i : I' 39 = I 39) (a : A' 79 = A 79) : XG w' I' A' := by
  obtain ⟨tl, Tx, h1, h2, h3, h4, h5⟩ := h
  refine ⟨tl, Tx, ?_⟩
  rw [e 24 (by decide) (by decide), e 25 (by decide) (by decide), i, a]
  exact ⟨h1, h2, h3, h4, h5⟩
theorem mt_eq {A A' : Nat → Nat → Int} (a : ∀ k, 65 ≤ k → k ≤ 71 → A' k = A k) (j : Nat) : mtp A' j = mtp A j ∧ mtu A' j = mtu A j ∧ mta A' j = mta A j := by
  unfold mtp mtu mta
  rw [a 69 (by decide) (by decide), a 70 (by decide) (by decide), a 71 (by decide) (by decide)]
  exact ⟨rfl, rfl, rfl⟩
theorem UG_eq {w w' : Wd} {I I' : Nat → Int} {A A' : Nat → Nat → Int} (h : UG w I A) (e0 : hp w' 0 = hp w 0) (e : ∀ b, 26 ≤ b → b < 56 → hp w' b = hp w b) (i4 : I' 4 = I 4) (i6 : I' 6 = I 6) (i16 : I' 16 = I 16) (a : ∀ k, 65 ≤ k → k ≤ 71 → A' k = A k) : UG w' I' A' := by
  obtain ⟨D, T, tn, g, h1, h2, h3, h4, ⟨u, nn, sp, pl, fa, L, Pt, Un, h5⟩, h6, h7, h8, h9, h10, h11⟩ := h
  have hD : 27 ≤ D ∧ D + 4 ≤ 55 := by obtain ⟨k, k1, k2⟩ := h6.1; omega
  refine ⟨D, T, tn, g, ?_, (e 26 (by decide) (by decide)).trans h2, fun j hj => ?_, fun j hj => ?_, ⟨u, nn, sp, pl, fa, L, Pt, Un, TA_eq h5 (fun b b1 b2 => e b (by omega) (by omega))⟩, h6, (e 55 (by decide) (by decide)).trans h7, by rw [a 65 (by decide) (by decide)]; exact h8, i16.trans h9, h10, by rw [i4]; exact h11⟩
  · rw [e0, i4, i6]; exact h1
  · obtain ⟨m1, m2, m3⟩ := mt_eq a j
    rw [m1, m2, m3, a 66 (by decide) (by decide), a 67 (by decide) (by decide), a 68 (by decide) (by decide)]
    obtain ⟨x, x1, x2, ⟨pl, fa, L, Pt, Un, x3, x4⟩, x5⟩ := h3 j hj
    exact ⟨x, x1, x2, ⟨pl, fa, L, Pt, Un, TA_eq x3 (fun b b1 b2 => e b (by omega) (by omega)), x4⟩, x5⟩
  · obtain ⟨m1, m2, m3⟩ := mt_eq a j
    unfold TD
    rw [m1, m2, m3, a 66 (by decide) (by decide), a 67 (by decide) (by decide), a 68 (by decide) (by decide)]
    exact h4 j hj
theorem INV_PK {w : Wd} {I : Nat → Int} {A : Nat → Nat → Int} {q S : Nat} (h : INV w I A q S) : ∃ (nb nt n : Nat) (pc : Int) (D tn : Nat) (T : Nat → Option Nat) (BP M Kp : Nat → Int), I 0 = nb ∧ I 1 = nt ∧ I 2 = n ∧ PK w I A nb nt n (I 5) pc D tn (I 6) T BP M ∧ hp w 11 = ca 0 30 Kp := by
  obtain ⟨⟨nb, nt, BP, b1, b2, b3, b4, b5, b6, b7, b8, b9, b10, b11, b12, b13, b14⟩, ⟨n, nt', M, Kp, pc, r1, r2, r3, r4, r5, r6, r7, r8, r9, r10⟩, hL, _, ⟨D, T, tn, g, u1, u2, u3, u4, u5, u6, u7, u8, u9, u10, u11⟩, _⟩ := h
  refine ⟨nb, nt, n, pc, D, tn, T, BP, M, Kp, b1, b2, r1, ?_, r6⟩
  unfold PK
  exact ⟨u1, u2, hL, b3, b5, b6, b7, b8, b10, r4, r5, u3, u4, b11, b12, b13, u11, r3.1, r3.2, r7, r8⟩
/-- one call on both, compared -/
def OPS (y y' : Nat) (as : List MV) (w : Wd) (q S : Nat) : Prop := CallD pgm 9 y (vr 0 :: as) w (fun r w1 => ∃ v, r = some (vi v) ∧ (∃ fs, hp w1 56 = co 7 fs) ∧ CallD pgm 9 y' (vr 56 :: as) w1 (fun r' w2 => r' = some (vi v) ∧ ∃ I A, INV w2 I A (q + 1) S))
/-- class and reference answered alike, the class has changed w to w1 -/
theorem INV_q {w : Wd} {I : Nat → Int} {A : Nat → Nat → Int} {q S : Nat} (h : INV w I A q S) : INV w I A (q + 1) S := by
  obtain ⟨h1, h2, h3, h4, h5, h6, h7, h8, h9, h10⟩ := h
  exact ⟨h1, h2, h3, h4, h5, h6, h7, h8, h9, by omega⟩
