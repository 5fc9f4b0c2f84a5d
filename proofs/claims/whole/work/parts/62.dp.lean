/-! hammers chosen stroke by stroke, as mathematics -/
/-- the first h below H with the least q h, 1000 if there is none -/
def fm (q : Nat → Option Int) : Nat → Int × Option Nat
  | 0 => (1000, none)
  | h + 1 => match q h with
    | none => fm q h
    | some z => if z < (fm q h).1 then (z, some h) else fm q h
theorem fm_spec (q : Nat → Option Int) : ∀ H, (∀ h z, h < H → q h = some z → (fm q H).1 ≤ z) ∧ ((fm q H).1 ≤ 1000) ∧ (((fm q H).2 = none ∧ (fm q H).1 = 1000) ∨ ∃ h, h < H ∧ (fm q H).2 = some h ∧ q h = some (fm q H).1 ∧ (fm q H).1 < 1000 ∧ ∀ h' z, h' < h → q h' = some z → (fm q H).1 < z)
  | 0 => ⟨fun h z hh => by omega, by simp [fm], Or.inl ⟨rfl, rfl⟩⟩
  | H + 1 => by
    have ih := fm_spec q H
    cases hq : q H with
    | none =>
      have e : fm q (H + 1) = fm q H := by rw [fm, hq]
      rw [e]
      refine ⟨fun h z hh hz => ?_, ih.2.1, ?_⟩
      · by_cases eh : h = H
        · subst eh; rw [hq] at hz; cases hz
        · exact ih.1 h z (by omega) hz
      · rcases ih.2.2 with a | ⟨h, h1, h2, h3, h4, h5⟩
        · exact Or.inl a
        · exact Or.inr ⟨h, by omega, h2, h3, h4, h5⟩
    | some z0 =>
      by_cases hc : z0 < (fm q H).1
      · have e : fm q (H + 1) = (z0, some H) := by rw [fm, hq]; simp only [if_pos hc]
        rw [e]
        refine ⟨fun h z hh hz => ?_, by show z0 ≤ 1000; omega, Or.inr ⟨H, by omega, rfl, hq, by show z0 < 1000; omega, fun h' z hh hz => ?_⟩⟩
        · by_cases eh : h = H
          · subst eh; rw [hq] at hz; cases hz; exact Int.le_refl _
          · have := ih.1 h z (by omega) hz; show z0 ≤ z; omega
        · have := ih.1 h' z hh hz; show z0 < z; omega
      · have e : fm q (H + 1) = fm q H := by rw [fm, hq]; simp only [if_neg hc]
        rw [e]
        refine ⟨fun h z hh hz => ?_, ih.2.1, ?_⟩
        · by_cases eh : h = H
          · subst eh; rw [hq] at hz; cases hz; omega
          · exact ih.1 h z (by omega) hz
        · rcases ih.2.2 with a | ⟨h, h1, h2, h3, h4, h5⟩
          · exact Or.inl a
          · exact Or.inr ⟨h, by omega, h2, h3, h4, h5⟩
section DP
variable (K : Nat → Nat → Bool) (lk : Nat → Nat → Int) (H : Nat)
/-- hammer h is free for stroke i -/
def okh (i : Nat) (c : Nat → Nat) (h : Nat) : Bool := (List.range i).all (fun j => !(K i j) || !(decide (c j = h)))
def sumL (e : Nat → Nat) : Nat → Nat → Int
  | 0, _ => 0
  | m + 1, i => lk i (e i) + sumL e m (i + 1)
def dV : Nat → Nat → (Nat → Nat) → Int
  | 0, _, _ => 0
  | m + 1, i, c => (fm (fun h => if okh K i c h then some (lk i h + dV m (i + 1) (va_up c i h)) else none) H).1
def dB (m i : Nat) (c : Nat → Nat) : Option Nat := (fm (fun h => if okh K i c h then some (lk i h + dV K lk H m (i + 1) (va_up c i h)) else none) H).2
def dP : Nat → Nat → (Nat → Nat) → Nat → Nat
  | 0, _, c => c
  | m + 1, i, c => match dB K lk H m i c with
    | none => c
    | some h => dP m (i + 1) (va_up c i h)
/-- e goes on from c at stroke i, and is good for m strokes -/
def ext (m i : Nat) (c e : Nat → Nat) : Prop := (∀ k, k < i → e k = c k) ∧ ∀ k, i ≤ k → k < i + m → e k < H ∧ okh K k e (e k) = true
end DP
theorem okh_iff {K : Nat → Nat → Bool} {i : Nat} {c : Nat → Nat} {h : Nat} : okh K i c h = true ↔ ∀ j, j < i → K i j = true → ¬ c j = h := by
  unfold okh
  rw [List.all_eq_true]
  constructor
  · intro a j hj hk e
    have := a j (List.mem_range.mpr hj)
    rw [hk, e] at this
    simp at this
  · intro a j hj
    have := a j (List.mem_range.mp hj)
    cases hk : K i j with
    | false => rfl
    | true => simp [this hk]
theorem okh_congr {K : Nat → Nat → Bool} {i : Nat} {c c' : Nat → Nat} {h : Nat} (hc : ∀ j, j < i → K i j = true → c j = c' j) : okh K i c h = okh K i c' h := by
  rw [Bool.eq_iff_iff, okh_iff, okh_iff]
  constructor
  · intro a j hj hk; rw [← hc j hj hk]; exact a j hj hk
  · intro a j hj hk; rw [hc j hj hk]; exact a j hj hk
theorem sumL_bd {lk : Nat → Nat → Int} (h01 : ∀ i h, 0 ≤ lk i h ∧ lk i h ≤ 1) (e : Nat → Nat) : ∀ m i, 0 ≤ sumL lk e m i ∧ sumL lk e m i ≤ m
  | 0, _ => by simp [sumL]
  | m + 1, i => by
    have := sumL_bd h01 e m (i + 1)
    have := h01 i (e i)
    rw [sumL]
    omega
theorem ext_up {K : Nat → Nat → Bool} {H m i : Nat} {c e : Nat → Nat} (h : ext K H (m + 1) i c e) : ext K H m (i + 1) (va_up c i (e i)) e ∧ e i < H ∧ okh K i c (e i) = true := by
  obtain ⟨h1, h2⟩ := h
  refine ⟨⟨fun k hk => ?_, fun k a b => h2 k (by omega) (by omega)⟩, (h2 i (by omega) (by omega)).1, ?_⟩
  · by_cases ek : k = i
    · subst ek; rw [va_up_self]
    · rw [va_up_ne _ _ ek]; exact h1 k (by omega)
  · rw [← (h2 i (by omega) (by omega)).2]
    exact okh_congr (fun j hj _ => (h1 j hj).symm)
theorem dp_spec {K : Nat → Nat → Bool} {lk : Nat → Nat → Int} {H : Nat} (h01 : ∀ i h, 0 ≤ lk i h ∧ lk i h ≤ 1) : ∀ (m i : Nat) (c : Nat → Nat), m ≤ 12 → (∀ e, ext K H m i c e → dV K lk H m i c ≤ sumL lk e m i) ∧ (dV K lk H m i c < 1000 → ext K H m i c (dP K lk H m i c) ∧ sumL lk (dP K lk H m i c) m i = dV K lk H m i c ∧ ∀ e, ext K H m i c e → sumL lk e m i = dV K lk H m i c → (∀ k, i ≤ k → k < i + m → e k = dP K lk H m i c k) ∨ ∃ k, i ≤ k ∧ k < i + m ∧ (∀ j, i ≤ j → j < k → e j = dP K lk H m i c j) ∧ dP K lk H m i c k < e k)
  | 0, i, c, _ => by
    refine ⟨fun e _ => by simp [dV, sumL], fun _ => ⟨⟨fun k _ => rfl, fun k a b => by omega⟩, by simp [dV, sumL], fun e _ _ => Or.inl (fun k a b => by omega)⟩⟩
  | m + 1, i, c, hm => by
    have fs := fm_spec (fun h => if okh K i c h then some (lk i h + dV K lk H m (i + 1) (va_up c i h)) else none) H
    have eV : dV K lk H (m + 1) i c = (fm (fun h => if okh K i c h then some (lk i h + dV K lk H m (i + 1) (va_up c i h)) else none) H).1 := rfl
    have eB : dB K lk H m i c = (fm (fun h => if okh K i c h then some (lk i h + dV K lk H m (i + 1) (va_up c i h)) else none) H).2 := rfl
    rw [← eV, ← eB] at fs
    have lower : ∀ e, ext K H (m + 1) i c e → dV K lk H (m + 1) i c ≤ lk i (e i) + dV K lk H m (i + 1) (va_up c i (e i)) := by
      intro e he
      have hu := ext_up he
      exact fs.1 (e i) _ hu.2.1 (by simp only [hu.2.2, if_true])
    refine ⟨fun e he => ?_, fun hV => ?_⟩
    · have hu := ext_up he
      have ih := (dp_spec (K := K) (H := H) h01 m (i + 1) (va_up c i (e i)) (by omega)).1 e hu.1
      have := lower e he
      rw [sumL]
      omega
    · rcases fs.2.2 with a | ⟨h, g1, g2, g3, g4, g5⟩
      · omega
      · have eP : dP K lk H (m + 1) i c = dP K lk H m (i + 1) (va_up c i h) := by rw [dP, g2]
        have hok : okh K i c h = true := by
          cases ho : okh K i c h with
          | true => rfl
          | false => simp [ho] at g3
        simp only [hok, if_true, Option.some.injEq] at g3
        have hl := h01 i h
        obtain ⟨p1, p2, p3⟩ := (dp_spec (K := K) (H := H) h01 m (i + 1) (va_up c i h) (by omega)).2 (by omega)
        have ei : dP K lk H m (i + 1) (va_up c i h) i = h := by rw [p1.1 i (by omega), va_up_self]
        rw [eP]
        refine ⟨⟨fun k hk => ?_, fun k a b => ?_⟩, ?_, fun e he hs => ?_⟩
        · rw [p1.1 k (by omega), va_up_ne _ _ (by omega)]
        · by_cases ek : k = i
          · subst ek
            rw [ei]
            refine ⟨g1, ?_⟩
            rw [← hok]
            exact okh_congr (fun j hj _ => by rw [p1.1 j (by omega), va_up_ne _ _ (by omega)])
          · exact p1.2 k (by omega) (by omega)
        · rw [sumL, ei, p2]; exact g3
        · have hu := ext_up he
          have lo := lower e he
          have ihe := (dp_spec (K := K) (H := H) h01 m (i + 1) (va_up c i (e i)) (by omega)).1 e hu.1
          rw [sumL] at hs
          rcases Nat.lt_trichotomy (e i) h with hlt | heq | hgt
          · exfalso
            have := g5 (e i) _ hlt (by simp only [hu.2.2, if_true]; rfl)
            omega
          · rw [heq] at hu hs
            rcases p3 e hu.1 (by omega) with q | ⟨k, k1, k2, k3, k4⟩
            · left
              intro k a b
              by_cases ek : k = i
              · subst ek; rw [ei, heq]
              · exact q k (by omega) (by omega)
            · right
              refine ⟨k, by omega, by omega, fun j a b => ?_, k4⟩
              by_cases ej : j = i
              · subst ej; rw [ei, heq]
              · exact k3 j (by omega) (by omega)
          · right
            exact ⟨i, by omega, by omega, fun j a b => by omega, by rw [ei]; exact hgt⟩
