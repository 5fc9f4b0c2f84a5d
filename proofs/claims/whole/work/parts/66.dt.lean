/-! states of the strokes -/
def nxt (i st h : Nat) : Nat := (if i < 2 then st else st / 9 * 9 + st % 3 * 3) + (if i = 0 then 27 else if i = 1 then 9 else 1) * h
def LG (H i st : Nat) : Prop := ∃ a b x y, st = 27 * a + 9 * b + 3 * x + y ∧ (a < H ∧ b < H ∧ x < H ∧ y < H) ∧ (i = 0 → a = 0) ∧ (i ≤ 1 → b = 0) ∧ (i ≤ 3 → x = 0) ∧ (i ≤ 2 → y = 0)
theorem LG_lt {H i st : Nat} (hH : H ≤ 3) (h : LG H i st) : st < 81 := by
  obtain ⟨a, b, x, y, e, h1, _⟩ := h
  omega
theorem LG_0 {H : Nat} (hH : 0 < H) : LG H 0 0 := ⟨0, 0, 0, 0, rfl, ⟨hH, hH, hH, hH⟩, fun _ => rfl, fun _ => rfl, fun _ => rfl, fun _ => rfl⟩
theorem LG_nxt {H i st h : Nat} (hH : H ≤ 3) (hl : LG H i st) (hh : h < H) : LG H (i + 1) (nxt i st h) := by
  obtain ⟨a, b, x, y, e, ⟨h1, h2, h3, h4⟩, z1, z2, z3, z4⟩ := hl
  unfold nxt
  by_cases c0 : i = 0
  · subst c0
    rw [if_pos (by decide), if_pos rfl]
    have := z1 rfl; have := z2 (by omega); have := z3 (by omega); have := z4 (by omega)
    exact ⟨h, 0, 0, 0, by omega, ⟨hh, by omega, by omega, by omega⟩, fun q => by omega, fun _ => rfl, fun _ => rfl, fun _ => rfl⟩
  · by_cases c1 : i = 1
    · subst c1
      rw [if_pos (by decide), if_neg (by decide), if_pos rfl]
      have := z2 (by omega); have := z3 (by omega); have := z4 (by omega)
      exact ⟨a, h, 0, 0, by omega, ⟨h1, hh, by omega, by omega⟩, fun q => by omega, fun q => by omega, fun _ => rfl, fun _ => rfl⟩
    · rw [if_neg (by omega), if_neg c0, if_neg c1]
      have e9 : st / 9 = 3 * a + b := by omega
      have e3 : st % 3 = y := by omega
      exact ⟨a, b, y, h, by rw [e9, e3]; omega, ⟨h1, h2, h4, hh⟩, fun q => by omega, fun q => by omega, fun q => z4 (by omega), fun q => by omega⟩
theorem dcd_nxt {H i st h : Nat} (hH : H ≤ 3) (hl : LG H i st) (hh : h < H) : ∀ j, j < i + 1 → (j = 0 ∨ j = 1 ∨ j + 1 = i + 1 ∨ j + 2 = i + 1) → va_up (dcd i st) i h j = dcd (i + 1) (nxt i st h) j := by
  obtain ⟨a, b, x, y, e, ⟨h1, h2, h3, h4⟩, z1, z2, z3, z4⟩ := hl
  have e27 : st / 27 = a := by omega
  have e9' : st / 9 = 3 * a + b := by omega
  have e9 : st / 9 % 3 = b := by omega
  have e3 : st % 3 = y := by omega
  have e33 : st / 3 % 3 = x := by omega
  obtain ⟨t, et⟩ : ∃ t, t = nxt i st h := ⟨_, rfl⟩
  have ht : (i = 0 → t = 27 * h) ∧ (i = 1 → t = 27 * a + 9 * h) ∧ (2 ≤ i → t = 27 * a + 9 * b + 3 * y + h) := by
    rw [et]
    unfold nxt
    refine ⟨fun c => ?_, fun c => ?_, fun c => ?_⟩
    · subst c; rw [if_pos (by decide), if_pos rfl]; have := z1 rfl; have := z2 (by omega); have := z3 (by omega); have := z4 (by omega); omega
    · subst c; rw [if_pos (by decide), if_neg (by decide), if_pos rfl]; have := z2 (by omega); have := z3 (by omega); have := z4 (by omega); omega
    · rw [if_neg (by omega), if_neg (by omega), if_neg (by omega), e9', e3]; omega
  rw [← et]
  intro j hj hr
  by_cases ej : j = i
  · subst ej
    rw [va_up_self]
    unfold dcd
    by_cases j0 : j = 0
    · rw [if_pos j0]; have := ht.1 j0; omega
    · rw [if_neg j0]
      by_cases j1 : j = 1
      · rw [if_pos j1]; have := ht.2.1 j1; omega
      · rw [if_neg j1, if_pos rfl]; have := ht.2.2 (by omega); omega
  · rw [va_up_ne _ _ ej]
    unfold dcd
    by_cases j0 : j = 0
    · rw [if_pos j0, if_pos j0]
      by_cases i1 : i = 1
      · have := ht.2.1 i1; omega
      · have := ht.2.2 (by omega); omega
    · rw [if_neg j0, if_neg j0]
      by_cases j1 : j = 1
      · rw [if_pos j1, if_pos j1]; have := ht.2.2 (by omega); omega
      · rw [if_neg j1, if_neg j1]
        have ji : j + 1 = i := by omega
        rw [if_pos ji, if_neg (by omega), if_pos (by omega)]
        have := ht.2.2 (by omega)
        omega
/-- the hammer of stroke i, told by the state behind it -/
def hmo (i st : Nat) : Nat := if i = 0 then st / 27 else if i = 1 then st / 9 % 3 else st % 3
theorem hmo_nxt {H i st h : Nat} (hH : H ≤ 3) (hl : LG H i st) (hh : h < H) : hmo i (nxt i st h) = h := by
  have := dcd_nxt hH hl hh i (by omega) (by omega)
  rw [va_up_self] at this
  refine Eq.trans ?_ this.symm
  clear this
  unfold hmo dcd
  by_cases j0 : i = 0
  · rw [if_pos j0, if_pos j0]
  · rw [if_neg j0, if_neg j0]
    by_cases j1 : i = 1
    · rw [if_pos j1, if_pos j1]
    · rw [if_neg j1, if_neg j1, if_pos rfl]
theorem dP_pre {K : Nat → Nat → Bool} {lk : Nat → Nat → Int} {H : Nat} : ∀ m i (c : Nat → Nat) k, k < i → dP K lk H m i c k = c k
  | 0, _, _, _, _ => rfl
  | m + 1, i, c, k, hk => by
    rw [dP]
    cases dB K lk H m i c with
    | none => rfl
    | some h => show dP K lk H m (i + 1) (va_up c i h) k = c k; rw [dP_pre m (i + 1) _ k (by omega), va_up_ne _ _ (by omega)]
theorem dB_congr {K : Nat → Nat → Bool} {lk : Nat → Nat → Int} {H s m i : Nat} {c c' : Nat → Nat} (hK : nearK K s) (hi : i + (m + 1) = s) (h : ∀ j, j < i → (j = 0 ∨ j = 1 ∨ j + 1 = i ∨ j + 2 = i) → c j = c' j) : dB K lk H m i c = dB K lk H m i c' := by
  unfold dB
  have : (fun x => if okh K i c x = true then some (lk i x + dV K lk H m (i + 1) (va_up c i x)) else none) = (fun x => if okh K i c' x = true then some (lk i x + dV K lk H m (i + 1) (va_up c' i x)) else none) := by
    funext x
    rw [okh_congr (c := c) (c' := c') (fun j hj hk => h j hj (hK i j (by omega) hj hk))]
    rw [dV_congr hK m (i + 1) (va_up c i x) (va_up c' i x) (by omega) (fun j hj hn => ?_)]
    by_cases e : j = i
    · subst e; rw [va_up_self, va_up_self]
    · rw [va_up_ne _ _ e, va_up_ne _ _ e]
      exact h j (by omega) (by omega)
  rw [this]
/-- what the class puts for stroke i and state st -/
def cV (K : Nat → Nat → Bool) (lk : Nat → Nat → Int) (H s i st : Nat) : Int := dV K lk H (s - i) i (dcd i st)
def cS (K : Nat → Nat → Bool) (lk : Nat → Nat → Int) (H s i st : Nat) : Nat := match dB K lk H (s - i - 1) i (dcd i st) with
  | none => st
  | some h => nxt i st h
theorem cV_nxt {K : Nat → Nat → Bool} {lk : Nat → Nat → Int} {H s i st h : Nat} (hK : nearK K s) (hH : H ≤ 3) (hi : i + 1 ≤ s) (hl : LG H i st) (hh : h < H) : dV K lk H (s - (i + 1)) (i + 1) (va_up (dcd i st) i h) = cV K lk H s (i + 1) (nxt i st h) :=
  dV_congr hK _ _ _ _ (by omega) (dcd_nxt hH hl hh)
