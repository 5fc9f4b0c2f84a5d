/-! counting the cells that are wanted -/
theorem cn_one (p : Nat → Bool) (c0 : Nat) : ∀ n a, cn (fun c => decide (c0 = c) && p c) n a = if a ≤ c0 ∧ c0 < a + n then (if p c0 then 1 else 0) else 0
  | 0, a => by rw [if_neg (by omega)]; rfl
  | n + 1, a => by
    rw [cn_snoc, cn_one p c0 n a]
    by_cases e : c0 = a + n
    · have z1 : ¬ (a ≤ c0 ∧ c0 < a + n) := by omega
      have z2 : a ≤ c0 ∧ c0 < a + (n + 1) := by omega
      rw [if_neg z1, if_pos z2]
      subst e
      simp
    · rw [show (decide (c0 = a + n) && p (a + n)) = false by rw [decide_eq_false e]; rfl]
      by_cases c : a ≤ c0 ∧ c0 < a + n
      · have z2 : a ≤ c0 ∧ c0 < a + (n + 1) := by omega
        rw [if_pos c, if_pos z2]; simp
      · have z2 : ¬ (a ≤ c0 ∧ c0 < a + (n + 1)) := by omega
        rw [if_neg c, if_neg z2]; simp
def img (f : Nat → Nat) : Nat → Nat → Bool
  | 0, _ => false
  | m + 1, c => img f m c || decide (f m = c)
theorem img_iff (f : Nat → Nat) (c : Nat) : ∀ m, img f m c = true ↔ ∃ k, k < m ∧ f k = c
  | 0 => by simp [img]
  | m + 1 => by
    rw [img, Bool.or_eq_true, decide_eq_true_eq, img_iff f c m]
    constructor
    · rintro (⟨k, h1, h2⟩ | h)
      · exact ⟨k, by omega, h2⟩
      · exact ⟨m, by omega, h⟩
    · rintro ⟨k, h1, h2⟩
      by_cases e : k = m
      · subst e; exact Or.inr h2
      · exact Or.inl ⟨k, by omega, h2⟩
theorem img_cn {f : Nat → Nat} {N : Nat} (p : Nat → Bool) : ∀ m, (∀ k, k < m → f k < N) → (∀ k k', k < k' → k' < m → ¬ f k = f k') → cn (fun c => img f m c && p c) N 0 = cn (fun k => p (f k)) m 0
  | 0, _, _ => cn_zero N 0 (fun j _ _ => rfl)
  | m + 1, h1, h2 => by
    rw [cn_snoc, ← img_cn p m (fun k hk => h1 k (by omega)) (fun k k' a b => h2 k k' a (by omega))]
    rw [cn_dj (g1 := fun c => img f m c && p c) (g2 := fun c => decide (f m = c) && p c)]
    · rw [cn_one, if_pos ⟨by omega, by have := h1 m (by omega); omega⟩, Nat.zero_add]
    · intro j _ _
      have hd : img f m j = true → ¬ f m = j := by
        intro a e
        obtain ⟨k, k1, k2⟩ := (img_iff f j m).mp a
        exact h2 k m k1 (by omega) (k2.trans e.symm)
      rw [img]
      cases e1 : img f m j with
      | false => cases p j <;> simp
      | true => rw [decide_eq_false (hd e1)]; cases p j <;> simp
theorem mv_count {pin : Nat → Int} {l : List Nat} {f : Nat → Nat} {nn : Nat} (h1 : ∀ k, k < nn → f k < 2304) (h2 : ∀ k k', k < k' → k' < nn → ¬ f k = f k') (hl : ∀ c, c < 2304 → (c ∈ l ↔ ∃ k, k < nn ∧ f k = c)) (hp : ∀ c, c < 2304 → pin c = 0 ∨ pin c = 1) : mvC pin l = cn (fun c => decide (¬ pin c = 0)) 2304 0 - (nn - cn (fun k => decide (pin (f k) = 0)) nn 0) + cn (fun k => decide (pin (f k) = 0)) nn 0 := by
  have e1 := img_cn (fun c => decide (pin c = 0)) nn h1 h2
  have e2 := img_cn (fun c => decide (¬ pin c = 0)) nn h1 h2
  have e3 : mvC pin l = cn (fun c => img f nn c && decide (pin c = 0)) 2304 0 + cn (fun c => !(img f nn c) && decide (¬ pin c = 0)) 2304 0 := by
    unfold mvC
    refine cn_dj _ _ (fun c _ hc => ?_)
    have hi := img_iff f c nn
    have hlc := hl c (by omega)
    have hpc := hp c (by omega)
    cases e : img f nn c with
    | true =>
      have : c ∈ l := hlc.mpr (hi.mp e)
      unfold wn
      rw [if_pos this]
      rcases hpc with z | z <;> rw [z] <;> decide
    | false =>
      have : ¬ c ∈ l := fun q => by have := hi.mpr (hlc.mp q); rw [e] at this; cases this
      unfold wn
      rw [if_neg this]
      rcases hpc with z | z <;> rw [z] <;> decide
  have e4 : cn (fun c => decide (¬ pin c = 0)) 2304 0 = cn (fun c => img f nn c && decide (¬ pin c = 0)) 2304 0 + cn (fun c => !(img f nn c) && decide (¬ pin c = 0)) 2304 0 := by
    refine cn_dj _ _ (fun c _ hc => ?_)
    cases img f nn c <;> cases decide (¬ pin c = 0) <;> exact ⟨rfl, rfl⟩
  have e5 : cn (fun _ => true) nn 0 = cn (fun k => decide (pin (f k) = 0)) nn 0 + cn (fun k => decide (¬ pin (f k) = 0)) nn 0 := by
    refine cn_dj _ _ (fun c _ hc => ?_)
    by_cases z : pin (f c) = 0
    · rw [decide_eq_true z, decide_eq_false (fun q => q z)]; exact ⟨rfl, rfl⟩
    · rw [decide_eq_false z, decide_eq_true z]; exact ⟨rfl, rfl⟩
  have e6 : ∀ m, cn (fun _ => true) m 0 = m := by
    intro m
    induction m with
    | zero => rfl
    | succ m ih => rw [cn_snoc, ih]; simp
  rw [e6] at e5
  omega
section PL
variable {P Hm Ft pin BT : Nat → Int} {n nb nt : Nat} {R : Int} {tp tu ta : Nat → Int} {nn : Nat} {s : Int} {hole : Nat} {W : Nat → Int}
theorem mem_pWl (c : Nat) : ∀ N, c ∈ pWl P Hm Ft pin n R tp tu ta nn s hole N ↔ ∃ b, b < N ∧ c ∈ pCs P Hm Ft pin n R tp tu ta nn s hole b
  | 0 => by simp [pWl]
  | N + 1 => by
    rw [pWl, List.mem_append, mem_pWl c N]
    constructor
    · rintro (⟨b, h1, h2⟩ | h)
      · exact ⟨b, by omega, h2⟩
      · exact ⟨N, by omega, h⟩
    · rintro ⟨b, h1, h2⟩
      by_cases e : b = N
      · subst e; exact Or.inr h2
      · exact Or.inl ⟨b, by omega, h2⟩
theorem PW_at (hPW : ∀ b, b < nb → PWb P Hm Ft pin n R tp tu ta nn s hole b W) (hHF : ∀ b, b < nb → (1 ≤ Hm b ∧ Hm b ≤ 3) ∧ 0 ≤ Ft b ∧ Ft b + Hm b ≤ 36) {k b : Nat} (hk : k < nn) (hb : b < nb) (e : tp k + s = P b) : ∃ dg : Nat, (dg : Int) < Hm b ∧ W k = (64 * ((Ft b).toNat + dg) + hok tu ta hole n k : Nat) := by
  obtain ⟨l, k0, p1, p2⟩ := hPW b hb
  have hm : k ∈ skl tp s (P b) nn := by
    unfold skl
    rw [List.mem_filter]
    exact ⟨List.mem_range.mpr hk, decide_eq_true e⟩
  obtain ⟨j, hj⟩ := List.getElem?_of_mem hm
  have h2 := p2 j k hj
  obtain ⟨h3, _⟩ := hHF b hb
  have hdl : dgt (Hm b).toNat (skl tp s (P b) nn).length k0 j < (Hm b).toNat := dgt_lt (by omega)
  refine ⟨dgt (Hm b).toNat (skl tp s (P b) nn).length k0 j, by omega, ?_⟩
  rw [h2]
  unfold pC hsb
  rw [hj]
  simp only [Int.toNat_natCast]
theorem PW_mem (hPW : ∀ b, b < nb → PWb P Hm Ft pin n R tp tu ta nn s hole b W) (hbl : ∀ k, k < nn → ∃ b, b < nb ∧ tp k + s = P b) (c : Nat) : c ∈ pWl P Hm Ft pin n R tp tu ta nn s hole nb ↔ ∃ k, k < nn ∧ (W k).toNat = c := by
  rw [mem_pWl]
  constructor
  · rintro ⟨b, hb, hc⟩
    obtain ⟨l, k0, p1, p2⟩ := hPW b hb
    unfold pCs at hc
    rw [p1] at hc
    simp only [List.mem_map, List.mem_range] at hc
    obtain ⟨j, hj, e⟩ := hc
    have hx := List.getElem?_eq_getElem (l := skl tp s (P b) nn) hj
    refine ⟨_, (skl_mem hx).1, ?_⟩
    rw [p2 j _ hx, Int.toNat_natCast]
    exact e
  · rintro ⟨k, hk, e⟩
    obtain ⟨b, hb, eb⟩ := hbl k hk
    refine ⟨b, hb, ?_⟩
    obtain ⟨l, k0, p1, p2⟩ := hPW b hb
    have hm : k ∈ skl tp s (P b) nn := by
      unfold skl
      rw [List.mem_filter]
      exact ⟨List.mem_range.mpr hk, decide_eq_true eb⟩
    obtain ⟨j, hj⟩ := List.getElem?_of_mem hm
    unfold pCs
    rw [p1]
    simp only [List.mem_map, List.mem_range]
    refine ⟨j, (List.getElem?_eq_some_iff.mp hj).1, ?_⟩
    rw [← e, p2 j k hj, Int.toNat_natCast]
theorem PW_inj (hPW : ∀ b, b < nb → PWb P Hm Ft pin n R tp tu ta nn s hole b W) (hHF : ∀ b, b < nb → (1 ≤ Hm b ∧ Hm b ≤ 3) ∧ 0 ≤ Ft b ∧ Ft b + Hm b ≤ 36) (hbl : ∀ k, k < nn → ∃ b, b < nb ∧ tp k + s = P b) (hBT : ∀ b, b < nb → ∀ k : Nat, (k : Int) < Hm b → BT ((Ft b).toNat + k) = b) (hn2 : n ≤ 64) (hh : hole < n) (hRO : ∀ k k', k < k' → k' < nn → tp k = tp k' → ta (tu k).toNat < ta (tu k').toNat) (hta : ∀ k, k < nn → 0 ≤ ta (tu k).toNat ∧ ta (tu k).toNat < n) : ∀ k k', k < k' → k' < nn → ¬ (W k).toNat = (W k').toNat := by
  intro k k' h1 h2 e
  obtain ⟨b, hb, eb⟩ := hbl k (by omega)
  obtain ⟨b', hb', eb'⟩ := hbl k' h2
  obtain ⟨dg, d1, d2⟩ := PW_at hPW hHF (by omega) hb eb
  obtain ⟨dg', d1', d2'⟩ := PW_at hPW hHF h2 hb' eb'
  rw [d2, d2', Int.toNat_natCast, Int.toNat_natCast] at e
  have m1 : hok tu ta hole n k < n := Nat.mod_lt _ (by omega)
  have m2 : hok tu ta hole n k' < n := Nat.mod_lt _ (by omega)
  have et : (Ft b).toNat + dg = (Ft b').toNat + dg' := by omega
  have eh : hok tu ta hole n k = hok tu ta hole n k' := by omega
  have q1 := hBT b hb dg d1
  have q2 := hBT b' hb' dg' d1'
  rw [et, q2] at q1
  have ebb : b' = b := by omega
  subst ebb
  have lt := hRO k k' h1 h2 (by omega)
  have t1 := hta k (by omega)
  have t2 := hta k' h2
  unfold hok at eh
  have fin : ∀ x y : Nat, x < y → y < n → ¬ (hole + x) % n = (hole + y) % n := by
    intro x y hxy hy q
    rcases Nat.lt_or_ge (hole + x) n with c1 | c1
    · rw [Nat.mod_eq_of_lt c1] at q
      rcases Nat.lt_or_ge (hole + y) n with c2 | c2
      · rw [Nat.mod_eq_of_lt c2] at q; omega
      · rw [Nat.mod_eq_sub_mod c2, Nat.mod_eq_of_lt (by omega)] at q; omega
    · rw [Nat.mod_eq_sub_mod c1, Nat.mod_eq_of_lt (by omega), Nat.mod_eq_sub_mod (by omega), Nat.mod_eq_of_lt (by omega)] at q
      omega
  exact fin _ _ (by omega) (by omega) eh
end PL
