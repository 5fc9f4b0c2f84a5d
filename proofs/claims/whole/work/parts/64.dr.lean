/-! what a state tells of the strokes before -/
/-- the state before stroke i -/
def stt (c : Nat → Nat) (i : Nat) : Nat := 27 * (if 0 < i then c 0 else 0) + 9 * (if 1 < i then c 1 else 0) + 3 * (if 3 < i then c (i - 2) else 0) + (if 2 < i then c (i - 1) else 0)
/-- strokes before, as a state tells them -/
def dcd (i st : Nat) : Nat → Nat := fun j => if j = 0 then st / 27 else if j = 1 then st / 9 % 3 else if j + 1 = i then st % 3 else if j + 2 = i then st / 3 % 3 else 0
/-- clashes reach no further than two strokes back or the first two -/
def nearK (K : Nat → Nat → Bool) (s : Nat) : Prop := ∀ i j, i < s → j < i → K i j = true → j = 0 ∨ j = 1 ∨ j + 1 = i ∨ j + 2 = i
theorem dV_congr {K : Nat → Nat → Bool} {lk : Nat → Nat → Int} {H s : Nat} (hK : nearK K s) : ∀ m i (c c' : Nat → Nat), i + m = s → (∀ j, j < i → (j = 0 ∨ j = 1 ∨ j + 1 = i ∨ j + 2 = i) → c j = c' j) → dV K lk H m i c = dV K lk H m i c'
  | 0, _, _, _, _, _ => rfl
  | m + 1, i, c, c', hi, h => by
    rw [dV, dV]
    have : (fun x => if okh K i c x = true then some (lk i x + dV K lk H m (i + 1) (va_up c i x)) else none) = (fun x => if okh K i c' x = true then some (lk i x + dV K lk H m (i + 1) (va_up c' i x)) else none) := by
      funext x
      rw [okh_congr (c := c) (c' := c') (fun j hj hk => h j hj (hK i j (by omega) hj hk))]
      rw [dV_congr hK m (i + 1) (va_up c i x) (va_up c' i x) (by omega) (fun j hj hn => ?_)]
      by_cases e : j = i
      · subst e; rw [va_up_self, va_up_self]
      · rw [va_up_ne _ _ e, va_up_ne _ _ e]
        exact h j (by omega) (by omega)
    rw [this]
