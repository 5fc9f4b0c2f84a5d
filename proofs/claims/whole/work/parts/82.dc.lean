/-! the calls, one by one: pins, bells, the tape -/
section OP
variable {w : Wd} {I : Nat → Int} {A : Nat → Nat → Int} {q S : Nat}
theorem PR_up0 {pin S M : Nat → Int} (h : PR pin S M) {c : Nat} (hc : pin c = 1) : PR pin (va_up S c 0) (va_up M c 0) := by
  intro j hj
  by_cases e : j = c
  · subst e; rw [va_up_self, va_up_self]; exact Or.inr ⟨hc, rfl, by omega, by omega⟩
  · rw [va_up_ne _ _ e, va_up_ne _ _ e]; exact h j hj
set_option maxHeartbeats 4000000 in
set_option maxRecDepth 100000 in
theorem op_mend (h : INV w I A q S) (x y : Int) : OPS 68 109 [vi x, vi y] w q S := by
  have hI := h
  obtain ⟨hB, hR, hL, hX, hU, hM, hn, hs, m1, m2⟩ := h
  have hB0 := hB
  have hR0 := hR
  have hX0 := hX
  have hU0 := hU
  obtain ⟨nb, nt, BP, b1, b2, b3, b4, b5, b6, b7, b8, b9, b10, b11, b12, b13, b14⟩ := hB
  obtain ⟨n, nt', M, Kp, pc, r1, r2, r3, r4, r5, r6, r7, r8, r9, r10⟩ := hR
  obtain ⟨tl, Tx, x1, x2, x3, x4, x5⟩ := hX
  obtain ⟨D, T, tn, g, u1, u2, u3, u4, u5, u6, u7, u8, u9, u10, u11⟩ := hU
  have ent : nt = nt' := by omega
  subst ent
  have hnt : nt ≤ 36 := b11.2.1
  have hnb : nb ≤ 12 := b11.1
  have h56 := MSg56 hM
  unfold OPS
  have pr := fun c => PR_at (x := x) (y := y) r7 hnt r3.2 c
  refine c_mend u1 b3 r4 r5 hnt r3.2 (fun c => ?_) (fun c => ?_)
  · have g63 := MSg63 hM
    have g64 := MSg64 hM
    have pz := pr c.1
    have c' : ((0 ≤ x ∧ x < I 1) ∧ (0 ≤ y ∧ y < I 2)) ∧ ¬ A 63 (64 * x + y).toNat = 0 := by rw [b2, r1]; exact ⟨c.1, by omega⟩
    refine ⟨_, rfl, ⟨_, (by (repeat (refine hp_pt_of (by first | decide | omega) ?_)); first | assumption | exact hp_pt_same _ _ _)⟩, ?_⟩
    refine m_mend (I := I) (A := A) (by (repeat (refine hp_pt_of (by first | decide | omega) ?_)); first | assumption | exact hp_pt_same _ _ _) (by (repeat (refine hp_pt_of (by first | decide | omega) ?_)); first | assumption | exact hp_pt_same _ _ _) (by (repeat (refine hp_pt_of (by first | decide | omega) ?_)); first | assumption | exact hp_pt_same _ _ _) (by omega) (fun _ => ⟨some_vi (by omega), I, va_up A 64 (va_up (A 64) (64 * x + y).toNat 0), ?_⟩) (fun c2 => absurd c' c2)
    exact ⟨BG_eq hB0 (fun b _ _ => (by (repeat (refine hp_pt_of (by first | decide | omega) ?_)); first | assumption | exact rfl | exact hp_pt_same _ _ _)) rfl rfl (fun k _ _ => (by (repeat (refine (va_up_ne _ _ (by first | decide | omega)).trans ?_)); exact rfl)), ⟨n, nt, _, Kp, pc, r1, b2, r3, (by (repeat (refine hp_pt_of (by first | decide | omega) ?_)); first | assumption | exact rfl | exact hp_pt_same _ _ _), (by (repeat (refine hp_pt_of (by first | decide | omega) ?_)); first | assumption | exact rfl | exact hp_pt_same _ _ _), (by (repeat (refine hp_pt_of (by first | decide | omega) ?_)); first | assumption | exact rfl | exact hp_pt_same _ _ _), PR_up0 r7 (by omega), r8, r9, r10⟩, LYR_eq hL (fun b _ _ => (by (repeat (refine hp_pt_of (by first | decide | omega) ?_)); first | assumption | exact rfl | exact hp_pt_same _ _ _)), XG_eq hX0 (fun b _ _ => (by (repeat (refine hp_pt_of (by first | decide | omega) ?_)); first | assumption | exact rfl | exact hp_pt_same _ _ _)) rfl (by (repeat (refine (va_up_ne _ _ (by first | decide | omega)).trans ?_)); exact rfl), UG_eq hU0 (by (repeat (refine hp_pt_of (by first | decide | omega) ?_)); first | assumption | exact rfl | exact hp_pt_same _ _ _) (fun b _ _ => (by (repeat (refine hp_pt_of (by first | decide | omega) ?_)); first | assumption | exact rfl | exact hp_pt_same _ _ _)) rfl rfl rfl (fun k _ _ => (by (repeat (refine (va_up_ne _ _ (by first | decide | omega)).trans ?_)); exact rfl)), MS_64 (MS_fr hM (fr_pt (lo := 10) (hi := 11) (fr_rf _ _ _) (by decide) (by decide)) (by decide)), hn, hs, m1, by omega⟩
  · refine ⟨_, rfl, ⟨_, h56⟩, m_mend h56 (MSg63 hM) (MSg64 hM) (by omega) (fun c' => absurd ?_ c) (fun _ => ⟨rfl, I, A, INV_q hI⟩)⟩
    rw [b2, r1] at c'
    have := pr c'.1
    exact ⟨c'.1, by omega⟩
set_option maxHeartbeats 4000000 in
set_option maxRecDepth 100000 in
theorem op_holes (h : INV w I A q S) (x : Int) : OPS 61 96 [vi x] w q S := by
  have hI := h
  obtain ⟨hB, hR, hL, hX, hU, hM, hn, hs, m1, m2⟩ := h
  have hB0 := hB
  have hR0 := hR
  have hX0 := hX
  have hU0 := hU
  obtain ⟨nb, nt, BP, b1, b2, b3, b4, b5, b6, b7, b8, b9, b10, b11, b12, b13, b14⟩ := hB
  obtain ⟨n, nt', M, Kp, pc, r1, r2, r3, r4, r5, r6, r7, r8, r9, r10⟩ := hR
  obtain ⟨tl, Tx, x1, x2, x3, x4, x5⟩ := hX
  obtain ⟨D, T, tn, g, u1, u2, u3, u4, u5, u6, u7, u8, u9, u10, u11⟩ := hU
  have ent : nt = nt' := by omega
  subst ent
  have hnt : nt ≤ 36 := b11.2.1
  have hnb : nb ≤ 12 := b11.1
  have h56 := MSg56 hM
  unfold OPS
  refine c_holes u1 r4 r5 (fun c w' f' y9 y10 yf yz => ?_) (fun c => ?_)
  · have hM' := MS_fr hM yf (by decide)
    have e : ∀ b, b < 9 ∨ 11 ≤ b → hp w' b = hp w b := fun b hb => fr_at b yf hb
    refine ⟨_, rfl, ⟨_, MSg56 hM'⟩, ?_⟩
    refine m_holes (I := I) (A := A) (MSg56 hM') (MSg63 hM') (fun _ f hz => ⟨rfl, va_up I 2 x, va_up A 63 f, ?_⟩) (fun c' => absurd c c')
    have e2 : ∀ b, b < 9 ∨ (11 ≤ b ∧ b < 56) → hp (pt (pt w' 56 (co 7 (MO (va_up I 2 x)))) 63 (ca 2 2304 f)) b = hp w b := fun b hb => hp_pt_of (by omega) (hp_pt_of (by omega) (e b (by omega)))
    refine ⟨BG_eq hB0 (fun b _ _ => e2 b (by omega)) (by (repeat (refine (va_up_ne _ _ (by first | decide | omega)).trans ?_)); exact rfl) (by (repeat (refine (va_up_ne _ _ (by first | decide | omega)).trans ?_)); exact rfl) (fun k _ _ => (by (repeat (refine (va_up_ne _ _ (by first | decide | omega)).trans ?_)); exact rfl)), ⟨x.toNat, nt, f', Kp, 0, ?_, b2, by omega, ?_, (by (repeat (refine hp_pt_of (by first | decide | omega) ?_)); first | assumption | exact hp_pt_same _ _ _), (e2 11 (by omega)).trans r6, ?_, ?_, ?_, r10⟩, LYR_eq hL (fun b _ _ => e2 b (by omega)), XG_eq hX0 (fun b _ _ => e2 b (by omega)) (by (repeat (refine (va_up_ne _ _ (by first | decide | omega)).trans ?_)); exact rfl) (by (repeat (refine (va_up_ne _ _ (by first | decide | omega)).trans ?_)); exact rfl), UG_eq hU0 (e2 0 (by omega)) (fun b _ _ => e2 b (by omega)) (by (repeat (refine (va_up_ne _ _ (by first | decide | omega)).trans ?_)); exact rfl) (by (repeat (refine (va_up_ne _ _ (by first | decide | omega)).trans ?_)); exact rfl) (by (repeat (refine (va_up_ne _ _ (by first | decide | omega)).trans ?_)); exact rfl) (fun k _ _ => (by (repeat (refine (va_up_ne _ _ (by first | decide | omega)).trans ?_)); exact rfl)), MS_63 (MS_I hM'), yf.1.trans hn, yf.2.1.trans hs, m1, by show I 6 ≤ _; omega⟩
    · show x = _; omega
    · rw [show ((x.toNat : Nat) : Int) = x by omega]
      exact hp_pt_of (by decide) (hp_pt_of (by decide) y9)
    · intro j hj
      exact Or.inl ⟨hz j hj, yz j hj⟩
    · rw [cn_zero 2304 0 (fun j _ hj => decide_eq_false (fun z => z (hz j (by omega))))]
    · intro t h' ht hh _
      exact hz _ (by omega)
  · exact ⟨_, rfl, ⟨_, h56⟩, m_holes h56 (MSg63 hM) (fun c' => absurd c' c) (fun _ => ⟨rfl, I, A, INV_q hI⟩)⟩
theorem cn_flip {g g' : Nat → Bool} {c0 N : Nat} (hc : c0 < N) (h0 : g c0 = false) (h1 : g' c0 = true) (he : ∀ c, c < N → ¬ c = c0 → g' c = g c) : cn g' N 0 = cn g N 0 + 1 := by
  rw [cn_dj (g1 := g) (g2 := fun c => decide (c0 = c) && true)]
  · rw [cn_one, if_pos ⟨by omega, by omega⟩]; rfl
  · intro j _ hj
    by_cases e : j = c0
    · subst e; rw [h1, h0]; simp
    · rw [he j (by omega) e, decide_eq_false (fun z => e z.symm)]; simp
set_option maxHeartbeats 4000000 in
set_option maxRecDepth 100000 in
theorem op_pin (h : INV w I A q S) (x y v : Int) (hv : v = 0 ∨ v = 1) : OPS 73 114 [vi x, vi y, vi v] w q S := by
  have hI := h
  obtain ⟨hB, hR, hL, hX, hU, hM, hn, hs, m1, m2⟩ := h
  have hB0 := hB
  have hR0 := hR
  have hX0 := hX
  have hU0 := hU
  obtain ⟨nb, nt, BP, b1, b2, b3, b4, b5, b6, b7, b8, b9, b10, b11, b12, b13, b14⟩ := hB
  obtain ⟨n, nt', M, Kp, pc, r1, r2, r3, r4, r5, r6, r7, r8, r9, r10⟩ := hR
  obtain ⟨tl, Tx, x1, x2, x3, x4, x5⟩ := hX
  obtain ⟨D, T, tn, g, u1, u2, u3, u4, u5, u6, u7, u8, u9, u10, u11⟩ := hU
  have ent : nt = nt' := by omega
  subst ent
  have hnt : nt ≤ 36 := b11.2.1
  have hnb : nb ≤ 12 := b11.1
  have h56 := MSg56 hM
  unfold OPS
  have g63 := MSg63 hM
  have g64 := MSg64 hM
  have pr := fun c => PR_at (x := x) (y := y) r7 hnt r3.2 c
  have hpc := cn_bd (fun c => decide (¬ A 63 c = 0)) 2304 0
  rw [← r8] at hpc
  have hcell : ∀ t j : Nat, t < nt → j < n → (A 63 (64 * t + j) = 0 ↔ M (64 * t + j) = -1) := by
    intro t j ht hj
    have := r7 (64 * t + j) (by omega)
    omega
  refine c_pin u1 b3 r4 r5 hnt r3.1 r3.2 (by omega) hv (fun c => ?_) (fun c c0 => ?_) (fun c c0 c3 => ?_) (fun c c0 c3 => ?_)
  · refine ⟨_, rfl, ⟨_, h56⟩, ?_⟩
    have no : ¬ (((0 ≤ x ∧ x < I 1) ∧ (0 ≤ y ∧ y < I 2)) ∧ ¬ A 63 (64 * x + y).toNat = v) := by
      rw [b2, r1]
      intro z
      refine c ⟨z.1, ?_⟩
      have := pr z.1
      split <;> omega
    exact m_pin h56 g63 g64 (by omega) hv (fun _ => ⟨rfl, I, A, INV_q hI⟩) (fun c' => absurd c' no) (fun c' => absurd c' no) (fun c' => absurd c' no)
  · have pz := pr c.1
    have c' : ((0 ≤ x ∧ x < I 1) ∧ (0 ≤ y ∧ y < I 2)) ∧ ¬ A 63 (64 * x + y).toNat = v := by rw [b2, r1]; exact ⟨c.1, by omega⟩
    refine ⟨_, rfl, ⟨_, (by (repeat (refine hp_pt_of (by first | decide | omega) ?_)); first | assumption | exact hp_pt_same _ _ _)⟩, ?_⟩
    refine m_pin (I := I) (A := A) (by (repeat (refine hp_pt_of (by first | decide | omega) ?_)); first | assumption | exact hp_pt_same _ _ _) (by (repeat (refine hp_pt_of (by first | decide | omega) ?_)); first | assumption | exact hp_pt_same _ _ _) (by (repeat (refine hp_pt_of (by first | decide | omega) ?_)); first | assumption | exact hp_pt_same _ _ _) (by omega) hv (fun c2 => absurd c' c2) (fun _ _ => ⟨rfl, I, va_up A 63 (va_up (A 63) (64 * x + y).toNat 0), ?_⟩) (fun _ z => by omega) (fun _ z => by omega)
    have p63 : A 63 (64 * x + y).toNat = 1 := by omega
    obtain ⟨cc, ecc⟩ : ∃ cc, cc = (64 * x + y).toNat := ⟨_, rfl⟩
    rw [← ecc] at pz p63 ⊢
    have hcc : cc < 2304 := by omega
    refine ⟨BG_eq hB0 (fun b _ _ => (by (repeat (refine hp_pt_of (by first | decide | omega) ?_)); first | assumption | exact rfl | exact hp_pt_same _ _ _)) rfl rfl (fun k _ _ => (by (repeat (refine (va_up_ne _ _ (by first | decide | omega)).trans ?_)); exact rfl)), ⟨n, nt, _, Kp, pc - 1, r1, b2, r3, (by (repeat (refine hp_pt_of (by first | decide | omega) ?_)); first | assumption | exact rfl | exact hp_pt_same _ _ _), (by (repeat (refine hp_pt_of (by first | decide | omega) ?_)); first | assumption | exact rfl | exact hp_pt_same _ _ _), (by (repeat (refine hp_pt_of (by first | decide | omega) ?_)); first | assumption | exact rfl | exact hp_pt_same _ _ _), ?_, ?_, ?_, r10⟩, LYR_eq hL (fun b _ _ => (by (repeat (refine hp_pt_of (by first | decide | omega) ?_)); first | assumption | exact rfl | exact hp_pt_same _ _ _)), XG_eq hX0 (fun b _ _ => (by (repeat (refine hp_pt_of (by first | decide | omega) ?_)); first | assumption | exact rfl | exact hp_pt_same _ _ _)) rfl (by (repeat (refine (va_up_ne _ _ (by first | decide | omega)).trans ?_)); exact rfl), UG_eq hU0 (by (repeat (refine hp_pt_of (by first | decide | omega) ?_)); first | assumption | exact rfl | exact hp_pt_same _ _ _) (fun b _ _ => (by (repeat (refine hp_pt_of (by first | decide | omega) ?_)); first | assumption | exact rfl | exact hp_pt_same _ _ _)) rfl rfl rfl (fun k _ _ => (by (repeat (refine (va_up_ne _ _ (by first | decide | omega)).trans ?_)); exact rfl)), MS_63 (MS_fr hM (fr_pt (lo := 9) (hi := 11) (fr_pt (fr_rf _ _ _) (by decide) (by decide)) (by decide) (by decide)) (by decide)), hn, hs, m1, by omega⟩
    · intro j hj
      show (va_up (A 63) cc 0 j = 0 ∧ va_up M cc (-1) j = -1) ∨ (va_up (A 63) cc 0 j = 1 ∧ va_up M cc (-1) j = A 64 j ∧ _)
      by_cases e : j = cc
      · subst e; rw [va_up_self, va_up_self]; exact Or.inl ⟨rfl, rfl⟩
      · rw [va_up_ne _ _ e, va_up_ne _ _ e]; exact r7 j hj
    · have := cn_flip (g := fun c => decide (¬ va_up (A 63) cc 0 c = 0)) (g' := fun c => decide (¬ A 63 c = 0)) (c0 := cc) (N := 2304) hcc (by simp [va_up_self]) (by simp only [decide_eq_true_eq]; omega) (fun c _ hc => by simp only [va_up_ne _ _ hc])
      show pc - 1 = cn (fun c => decide (¬ va_up (A 63) cc 0 c = 0)) 2304 0
      omega
    · intro t h' ht hh ho
      show va_up (A 63) cc 0 (64 * t + h') = 0
      by_cases e : 64 * t + h' = cc
      · rw [e, va_up_self]
      · rw [va_up_ne _ _ e]; exact r9 t h' ht hh ho
  · have pz := pr c.1
    have c' : ((0 ≤ x ∧ x < I 1) ∧ (0 ≤ y ∧ y < I 2)) ∧ ¬ A 63 (64 * x + y).toNat = v := by rw [b2, r1]; exact ⟨c.1, by omega⟩
    refine ⟨_, rfl, ⟨_, h56⟩, ?_⟩
    refine m_pin (I := I) (A := A) h56 g63 g64 (by omega) hv (fun c2 => absurd c' c2) (fun _ z => by omega) (fun _ _ _ => ⟨rfl, I, A, INV_q hI⟩) (fun _ _ z => ?_)
    obtain ⟨j, j1, j2, j3⟩ := c3
    have := hcell x.toNat j (by omega) j1
    rw [r1] at z
    exact absurd j3 (z j (by omega) (fun y => j2 (this.mp y)))
  · have pz := pr c.1
    have c' : ((0 ≤ x ∧ x < I 1) ∧ (0 ≤ y ∧ y < I 2)) ∧ ¬ A 63 (64 * x + y).toNat = v := by rw [b2, r1]; exact ⟨c.1, by omega⟩
    refine ⟨_, rfl, ⟨_, (by (repeat (refine hp_pt_of (by first | decide | omega) ?_)); first | assumption | exact hp_pt_same _ _ _)⟩, ?_⟩
    refine m_pin (I := I) (A := A) (by (repeat (refine hp_pt_of (by first | decide | omega) ?_)); first | assumption | exact hp_pt_same _ _ _) (by (repeat (refine hp_pt_of (by first | decide | omega) ?_)); first | assumption | exact hp_pt_same _ _ _) (by (repeat (refine hp_pt_of (by first | decide | omega) ?_)); first | assumption | exact hp_pt_same _ _ _) (by omega) hv (fun c2 => absurd c' c2) (fun _ z => by omega) (fun _ _ z => ?_) (fun _ _ _ => ⟨rfl, I, va_up (va_up A 63 (va_up (A 63) (64 * x + y).toNat 1)) 64 (va_up (A 64) (64 * x + y).toNat 0), ?_⟩)
    · obtain ⟨j, j1, j2, j3⟩ := z
      rw [r1] at j1 j3
      have := hcell x.toNat j (by omega) (by omega)
      exact absurd j3 (c3 j (by omega) (fun y => j2 (this.mpr y)))
    have p63 : A 63 (64 * x + y).toNat = 0 := by omega
    obtain ⟨cc, ecc⟩ : ∃ cc, cc = (64 * x + y).toNat := ⟨_, rfl⟩
    rw [← ecc] at pz p63 ⊢
    have hcc : cc < 2304 := by omega
    refine ⟨BG_eq hB0 (fun b _ _ => (by (repeat (refine hp_pt_of (by first | decide | omega) ?_)); first | assumption | exact rfl | exact hp_pt_same _ _ _)) rfl rfl (fun k _ _ => (by (repeat (refine (va_up_ne _ _ (by first | decide | omega)).trans ?_)); exact rfl)), ⟨n, nt, _, Kp, pc + 1, r1, b2, r3, (by (repeat (refine hp_pt_of (by first | decide | omega) ?_)); first | assumption | exact rfl | exact hp_pt_same _ _ _), (by (repeat (refine hp_pt_of (by first | decide | omega) ?_)); first | assumption | exact rfl | exact hp_pt_same _ _ _), (by (repeat (refine hp_pt_of (by first | decide | omega) ?_)); first | assumption | exact rfl | exact hp_pt_same _ _ _), ?_, ?_, ?_, r10⟩, LYR_eq hL (fun b _ _ => (by (repeat (refine hp_pt_of (by first | decide | omega) ?_)); first | assumption | exact rfl | exact hp_pt_same _ _ _)), XG_eq hX0 (fun b _ _ => (by (repeat (refine hp_pt_of (by first | decide | omega) ?_)); first | assumption | exact rfl | exact hp_pt_same _ _ _)) rfl (by (repeat (refine (va_up_ne _ _ (by first | decide | omega)).trans ?_)); exact rfl), UG_eq hU0 (by (repeat (refine hp_pt_of (by first | decide | omega) ?_)); first | assumption | exact rfl | exact hp_pt_same _ _ _) (fun b _ _ => (by (repeat (refine hp_pt_of (by first | decide | omega) ?_)); first | assumption | exact rfl | exact hp_pt_same _ _ _)) rfl rfl rfl (fun k _ _ => (by (repeat (refine (va_up_ne _ _ (by first | decide | omega)).trans ?_)); exact rfl)), MS_64 (MS_63 (MS_fr hM (fr_pt (lo := 9) (hi := 11) (fr_pt (fr_rf _ _ _) (by decide) (by decide)) (by decide) (by decide)) (by decide))), hn, hs, m1, by omega⟩
    · intro j hj
      show (va_up (A 63) cc 1 j = 0 ∧ va_up M cc 0 j = -1) ∨ (va_up (A 63) cc 1 j = 1 ∧ va_up M cc 0 j = va_up (A 64) cc 0 j ∧ 0 ≤ va_up (A 64) cc 0 j ∧ va_up (A 64) cc 0 j ≤ 10000)
      by_cases e : j = cc
      · subst e; rw [va_up_self, va_up_self, va_up_self]; exact Or.inr ⟨rfl, rfl, by omega, by omega⟩
      · rw [va_up_ne _ _ e, va_up_ne _ _ e, va_up_ne _ _ e]; exact r7 j hj
    · have := cn_flip (g := fun c => decide (¬ A 63 c = 0)) (g' := fun c => decide (¬ va_up (A 63) cc 1 c = 0)) (c0 := cc) (N := 2304) hcc (by simp only [decide_eq_false_iff_not]; omega) (by simp [va_up_self]) (fun c _ hc => by simp only [va_up_ne _ _ hc])
      show pc + 1 = cn (fun c => decide (¬ va_up (A 63) cc 1 c = 0)) 2304 0
      omega
    · intro t h' ht hh ho
      show va_up (A 63) cc 1 (64 * t + h') = 0
      by_cases e : 64 * t + h' = cc
      · exfalso; omega
      · rw [va_up_ne _ _ e]; exact r9 t h' ht hh ho
set_option maxHeartbeats 4000000 in
set_option maxRecDepth 100000 in
theorem op_feed (h : INV w I A q S) (a b c e f : Int) : OPS 58 91 [vi a, vi b, vi c, vi e, vi f] w q S := by
  have hI := h
  obtain ⟨hB, hR, hL, hX, hU, hM, hn, hs, m1, m2⟩ := h
  have hB0 := hB
  have hR0 := hR
  have hX0 := hX
  have hU0 := hU
  obtain ⟨nb, nt, BP, b1, b2, b3, b4, b5, b6, b7, b8, b9, b10, b11, b12, b13, b14⟩ := hB
  obtain ⟨n, nt', M, Kp, pc, r1, r2, r3, r4, r5, r6, r7, r8, r9, r10⟩ := hR
  obtain ⟨tl, Tx, x1, x2, x3, x4, x5⟩ := hX
  obtain ⟨D, T, tn, g, u1, u2, u3, u4, u5, u6, u7, u8, u9, u10, u11⟩ := hU
  have ent : nt = nt' := by omega
  subst ent
  have hnt : nt ≤ 36 := b11.2.1
  have hnb : nb ≤ 12 := b11.1
  have h56 := MSg56 hM
  unfold OPS
  refine c_feed u1 u7 u10 (fun c1 => ?_) (fun c1 => ?_)
  · exact ⟨_, rfl, ⟨_, h56⟩, m_feed h56 (MSg65 hM) u9 u10 (fun _ => ⟨rfl, I, A, INV_q hI⟩) (fun c2 => by omega)⟩
  · have g65 := MSg65 hM
    refine ⟨_, rfl, ⟨_, (by (repeat (refine hp_pt_of (by first | decide | omega) ?_)); first | assumption | exact hp_pt_same _ _ _)⟩, ?_⟩
    refine m_feed (I := I) (f := A 65) (n := tn) (by (repeat (refine hp_pt_of (by first | decide | omega) ?_)); first | assumption | exact hp_pt_same _ _ _) (by (repeat (refine hp_pt_of (by first | decide | omega) ?_)); first | assumption | exact hp_pt_same _ _ _) u9 u10 (fun c2 => by omega) (fun _ => ⟨rfl, va_up I 16 ((tn + 20 : Nat) : Int), va_up A 65 (tp4 (tp4 (tp4 (tp4 (tp4 (A 65) tn a) (tn + 4) b) (tn + 8) c) (tn + 12) e) (tn + 16) f), ?_⟩)
    unfold feedW
    obtain ⟨u, nn, sp, pl, fa, L, Pt, Un, u5⟩ := u5
    have hD : 27 ≤ D ∧ D + 4 ≤ 55 := by obtain ⟨k, k1, k2⟩ := u6.1; omega
    have hx : ∀ G : Nat → Int, ∀ b', 26 ≤ b' → b' < 55 → ∀ F c2, hp (pt (pt (pt (pt w 55 (ca 0 80 G)) 0 c2) 65 F) 56 (co 7 (MO (va_up I 16 ((tn + 20 : Nat) : Int))))) b' = hp w b' := fun G b' h1 h2 F c2 => (by (repeat (refine hp_pt_of (by first | decide | omega) ?_)); first | assumption | exact rfl | exact hp_pt_same _ _ _)
    refine ⟨BG_eq hB0 (fun b _ _ => (by (repeat (refine hp_pt_of (by first | decide | omega) ?_)); first | assumption | exact rfl | exact hp_pt_same _ _ _)) (by (repeat (refine (va_up_ne _ _ (by first | decide | omega)).trans ?_)); exact rfl) (by (repeat (refine (va_up_ne _ _ (by first | decide | omega)).trans ?_)); exact rfl) (fun k _ _ => (by (repeat (refine (va_up_ne _ _ (by first | decide | omega)).trans ?_)); exact rfl)), RG_eq hR0 (fun b _ _ => (by (repeat (refine hp_pt_of (by first | decide | omega) ?_)); first | assumption | exact rfl | exact hp_pt_same _ _ _)) (by (repeat (refine (va_up_ne _ _ (by first | decide | omega)).trans ?_)); exact rfl) (by (repeat (refine (va_up_ne _ _ (by first | decide | omega)).trans ?_)); exact rfl) (by (repeat (refine (va_up_ne _ _ (by first | decide | omega)).trans ?_)); exact rfl) (by (repeat (refine (va_up_ne _ _ (by first | decide | omega)).trans ?_)); exact rfl) (by (repeat (refine (va_up_ne _ _ (by first | decide | omega)).trans ?_)); exact rfl) (by (repeat (refine (va_up_ne _ _ (by first | decide | omega)).trans ?_)); exact rfl), LYR_eq hL (fun b _ _ => (by (repeat (refine hp_pt_of (by first | decide | omega) ?_)); first | assumption | exact rfl | exact hp_pt_same _ _ _)), XG_eq hX0 (fun b _ _ => (by (repeat (refine hp_pt_of (by first | decide | omega) ?_)); first | assumption | exact rfl | exact hp_pt_same _ _ _)) (by (repeat (refine (va_up_ne _ _ (by first | decide | omega)).trans ?_)); exact rfl) (by (repeat (refine (va_up_ne _ _ (by first | decide | omega)).trans ?_)); exact rfl), ⟨D, T, tn + 20, _, (by (repeat (refine hp_pt_of (by first | decide | omega) ?_)); first | assumption | exact rfl | exact hp_pt_same _ _ _), (by (repeat (refine hp_pt_of (by first | decide | omega) ?_)); first | assumption | exact rfl | exact hp_pt_same _ _ _), fun j hj => ?_, u4, ⟨u, nn, sp, pl, fa, L, Pt, Un, TA_eq u5 (fun b h1 h2 => hx _ b (by omega) (by omega) _ _)⟩, u6, (by (repeat (refine hp_pt_of (by first | decide | omega) ?_)); first | assumption | exact rfl | exact hp_pt_same _ _ _), TPE_4 (TPE_4 (TPE_4 (TPE_4 (TPE_4 u8)))), rfl, by omega, u11⟩, MS_I (MS_65 (MS_fr hM (fr_pt (lo := 0) (hi := 56) (fr_pt (fr_rf _ _ _) (by decide) (by decide)) (by decide) (by decide)) (by decide))), hn, hs, m1, by show I 6 ≤ _; omega⟩
    obtain ⟨x, y1, y2, ⟨pl, fa, L, Pt, Un, y3, y4⟩, y5⟩ := u3 j hj
    exact ⟨x, y1, y2, ⟨pl, fa, L, Pt, Un, TA_eq y3 (fun b h1 h2 => hx _ b (by omega) (by omega) _ _), y4⟩, y5⟩
end OP
