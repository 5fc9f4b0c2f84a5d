/-! rows of hammers as codes -/
def pc (H : Nat) (e : Nat → Nat) : Nat → Nat
  | 0 => 0
  | k + 1 => pc H e k * H + e k
theorem pc_lt {H : Nat} {e : Nat → Nat} : ∀ k, (∀ i, i < k → e i < H) → pc H e k < H ^ k
  | 0, _ => by simp [pc]
  | k + 1, h => by
    have ih := pc_lt k (fun i hi => h i (by omega))
    have hk := h k (by omega)
    rw [pc, Nat.pow_succ]
    have : (pc H e k + 1) * H ≤ H ^ k * H := Nat.mul_le_mul_right H ih
    rw [Nat.add_mul, Nat.one_mul] at this
    omega
theorem pc_div {H : Nat} {e : Nat → Nat} (k : Nat) : ∀ j, (∀ i, i < k + j → e i < H) → pc H e (k + j) / H ^ j = pc H e k
  | 0, _ => by simp
  | j + 1, h => by
    have hk := h (k + j) (by omega)
    rw [show k + (j + 1) = (k + j) + 1 by omega, pc, Nat.pow_succ, Nat.mul_comm (H ^ j) H, ← Nat.div_div_eq_div_mul]
    rw [show pc H e (k + j) * H + e (k + j) = e (k + j) + H * pc H e (k + j) by rw [Nat.mul_comm]; omega]
    rw [Nat.add_mul_div_left _ _ (by omega), Nat.div_eq_of_lt hk, Nat.zero_add]
    exact pc_div k j (fun i hi => h i (by omega))
theorem pc_dgt {H s : Nat} {e : Nat → Nat} (h : ∀ i, i < s → e i < H) {i : Nat} (hi : i < s) : dgt H s (pc H e s) i = e i := by
  unfold dgt
  have := pc_div (H := H) (e := e) (i + 1) (s - 1 - i) (fun k hk => h k (by omega))
  rw [show i + 1 + (s - 1 - i) = s by omega] at this
  rw [this, pc, show pc H e i * H + e i = e i + H * pc H e i by rw [Nat.mul_comm]; omega, Nat.add_mul_mod_self_left, Nat.mod_eq_of_lt (h i hi)]
theorem pc_congr {H : Nat} {e e' : Nat → Nat} : ∀ k, (∀ i, i < k → e i = e' i) → pc H e k = pc H e' k
  | 0, _ => rfl
  | k + 1, h => by rw [pc, pc, pc_congr k (fun i hi => h i (by omega)), h k (by omega)]
theorem pc_lex {H : Nat} {e e' : Nat → Nat} {k : Nat} (hk : ∀ i, i < k → e i = e' i) (hlt : e k < e' k) : ∀ j, (∀ i, i < k + 1 + j → e i < H) → pc H e (k + 1 + j) < pc H e' (k + 1 + j)
  | 0, _ => by
    show pc H e (k + 1) < pc H e' (k + 1)
    rw [pc, pc, pc_congr k hk]
    omega
  | j + 1, h => by
    have ih := pc_lex hk hlt j (fun i hi => h i (by omega))
    have hj := h (k + 1 + j) (by omega)
    rw [show k + 1 + (j + 1) = (k + 1 + j) + 1 by omega, pc, pc]
    have : (pc H e (k + 1 + j) + 1) * H ≤ pc H e' (k + 1 + j) * H := Nat.mul_le_mul_right H ih
    rw [Nat.add_mul, Nat.one_mul] at this
    omega
/-- every code is the code of its digits -/
theorem pc_all {H s : Nat} (hH : 0 < H) : ∀ k code, k ≤ s → code < H ^ s → pc H (dgt H s code) k = code / H ^ (s - k)
  | 0, code, _, hc => by
    rw [pc, Nat.sub_zero, Nat.div_eq_of_lt hc]
  | k + 1, code, hk, hc => by
    rw [pc, pc_all hH k code (by omega) hc]
    unfold dgt
    rw [show s - 1 - k = s - (k + 1) by omega]
    have e : H ^ (s - k) = H ^ (s - (k + 1)) * H := by rw [← Nat.pow_succ]; congr 1; omega
    rw [e, ← Nat.div_div_eq_div_mul]
    have := Nat.div_add_mod (code / H ^ (s - (k + 1))) H
    rw [Nat.mul_comm] at this
    exact this
theorem bst_spec (n r : Int) (pin hs : Nat → Int) (f0 H s : Nat) : ∀ N, match bst n r pin hs f0 H s N with
    | none => ∀ c, c < N → ¬ vldB n r hs (dgt H s c) s = true
    | some (l, k) => k < N ∧ vldB n r hs (dgt H s k) s = true ∧ cn (lkB pin hs f0 (dgt H s k)) s 0 = l ∧ ∀ c, c < N → vldB n r hs (dgt H s c) s = true → l ≤ cn (lkB pin hs f0 (dgt H s c)) s 0 ∧ (cn (lkB pin hs f0 (dgt H s c)) s 0 = l → k ≤ c)
  | 0 => by rw [bst]; intro c hc; omega
  | N + 1 => by
    have ih := bst_spec n r pin hs f0 H s N
    rw [bst]
    cases hb : bst n r pin hs f0 H s N with
    | none =>
      rw [hb] at ih
      simp only at ih ⊢
      by_cases hv : vldB n r hs (dgt H s N) s = true
      · rw [if_pos hv]
        refine ⟨by omega, hv, rfl, fun c hc hcv => ?_⟩
        by_cases e : c = N
        · subst e; exact ⟨Int.le_refl _, fun _ => Nat.le_refl _⟩
        · exact absurd hcv (ih c (by omega))
      · rw [if_neg hv]
        intro c hc
        by_cases e : c = N
        · subst e; exact hv
        · exact ih c (by omega)
    | some x =>
      obtain ⟨l, k⟩ := x
      rw [hb] at ih
      simp only at ih ⊢
      obtain ⟨i1, i2, i3, i4⟩ := ih
      by_cases hv : cn (lkB pin hs f0 (dgt H s N)) s 0 < l ∧ vldB n r hs (dgt H s N) s = true
      · rw [if_pos hv]
        refine ⟨by omega, hv.2, rfl, fun c hc hcv => ?_⟩
        by_cases e : c = N
        · subst e; exact ⟨Int.le_refl _, fun _ => Nat.le_refl _⟩
        · have := i4 c (by omega) hcv
          exact ⟨by omega, fun q => by omega⟩
      · rw [if_neg hv]
        refine ⟨by omega, i2, i3, fun c hc hcv => ?_⟩
        by_cases e : c = N
        · subst e
          have : ¬ cn (lkB pin hs f0 (dgt H s c)) s 0 < l := fun q => hv ⟨q, hcv⟩
          exact ⟨by omega, fun _ => by omega⟩
        · exact i4 c (by omega) hcv
/-- clashes and lacks of the strokes -/
def kC (n r : Int) (hs : Nat → Int) (i j : Nat) : Bool := decide (dist n (hs i) (hs j) < r)
def kL (pin hs : Nat → Int) (f0 : Nat) (i h : Nat) : Int := if pin (64 * (f0 + h) + (hs i).toNat) = 0 then 1 else 0
theorem cn_sumL {pin hs : Nat → Int} {f0 : Nat} {c : Nat → Nat} : ∀ m i, cn (lkB pin hs f0 c) m i = sumL (kL pin hs f0) c m i
  | 0, _ => rfl
  | m + 1, i => by
    rw [cn, sumL, cn_sumL m (i + 1)]
    congr 1
    unfold lkB kL
    by_cases h : pin (64 * (f0 + c i) + (hs i).toNat) = 0
    · rw [decide_eq_true h, if_pos h]; rfl
    · rw [decide_eq_false h, if_neg h]; rfl
theorem sumL_congr {lk : Nat → Nat → Int} {e e' : Nat → Nat} : ∀ m i, (∀ k, i ≤ k → k < i + m → e k = e' k) → sumL lk e m i = sumL lk e' m i
  | 0, _, _ => rfl
  | m + 1, i, h => by rw [sumL, sumL, h i (by omega) (by omega), sumL_congr m (i + 1) (fun k a b => h k (by omega) (by omega))]
theorem vld_ext {n r : Int} {hs : Nat → Int} {H s : Nat} {e c : Nat → Nat} (hH : ∀ i, i < s → e i < H) : vldB n r hs e s = true ↔ ext (kC n r hs) H s 0 c e := by
  rw [vldB_iff]
  constructor
  · intro h
    refine ⟨fun k hk => by omega, fun k _ hk => ⟨hH k (by omega), ?_⟩⟩
    rw [okh_iff]
    intro j hj hK e2
    exact h k (by omega) j hj e2.symm (of_decide_eq_true hK)
  · intro h i hi k hk e2 hd
    have := (h.2 i (by omega) (by omega)).2
    rw [okh_iff] at this
    exact this k hk (decide_eq_true hd) e2.symm
/-- the choice stroke by stroke is the reference's choice -/
theorem dp_bst {n r : Int} {pin hs : Nat → Int} {f0 H s : Nat} {c0 : Nat → Nat} (hH : 0 < H) (hs12 : s ≤ 12) :
    (dV (kC n r hs) (kL pin hs f0) H s 0 c0 < 1000 → bst n r pin hs f0 H s (H ^ s) = some (dV (kC n r hs) (kL pin hs f0) H s 0 c0, pc H (dP (kC n r hs) (kL pin hs f0) H s 0 c0) s) ∧ ∀ i, i < s → dP (kC n r hs) (kL pin hs f0) H s 0 c0 i < H ∧ dgt H s (pc H (dP (kC n r hs) (kL pin hs f0) H s 0 c0) s) i = dP (kC n r hs) (kL pin hs f0) H s 0 c0 i) ∧ (¬ dV (kC n r hs) (kL pin hs f0) H s 0 c0 < 1000 → bst n r pin hs f0 H s (H ^ s) = none) := by
  have h01 : ∀ i h, 0 ≤ kL pin hs f0 i h ∧ kL pin hs f0 i h ≤ 1 := by intro i h; unfold kL; split <;> omega
  have sp := dp_spec (K := kC n r hs) (H := H) h01 s 0 c0 hs12
  have bs := bst_spec n r pin hs f0 H s (H ^ s)
  have hdg : ∀ c i, dgt H s c i < H := fun c i => Nat.mod_lt _ hH
  constructor
  · intro hV
    obtain ⟨p1, p2, p3⟩ := sp.2 hV
    obtain ⟨e, ee⟩ : ∃ e, e = dP (kC n r hs) (kL pin hs f0) H s 0 c0 := ⟨_, rfl⟩
    rw [← ee] at p1 p2 p3 ⊢
    have heH : ∀ i, i < s → e i < H := fun i hi => (p1.2 i (by omega) (by omega)).1
    have hcd : ∀ i, i < s → dgt H s (pc H e s) i = e i := fun i hi => pc_dgt heH hi
    have hval : vldB n r hs (dgt H s (pc H e s)) s = true := by
      rw [vld_ext (c := c0) (H := H) (fun i _ => hdg _ i)]
      refine ⟨fun k hk => by omega, fun k a b => ⟨hdg _ k, ?_⟩⟩
      show okh (kC n r hs) k (dgt H s (pc H e s)) (dgt H s (pc H e s) k) = true
      rw [hcd k (by omega), ← (p1.2 k a b).2]
      exact okh_congr (fun j hj _ => hcd j (by omega))
    have hlk : cn (lkB pin hs f0 (dgt H s (pc H e s))) s 0 = dV (kC n r hs) (kL pin hs f0) H s 0 c0 := by
      rw [cn_sumL, ← p2]
      exact sumL_congr s 0 (fun k a b => hcd k (by omega))
    refine ⟨?_, fun i hi => ⟨heH i hi, hcd i hi⟩⟩
    cases hb : bst n r pin hs f0 H s (H ^ s) with
    | none =>
      rw [hb] at bs
      exact absurd hval (bs _ (pc_lt s heH))
    | some x =>
      obtain ⟨l, k⟩ := x
      rw [hb] at bs
      obtain ⟨b1, b2, b3, b4⟩ := bs
      have q1 := b4 _ (pc_lt s heH) hval
      rw [hlk] at q1
      have ext2 := (vld_ext (c := c0) (H := H) (fun i _ => hdg k i)).mp b2
      have q2 := sp.1 _ ext2
      rw [← cn_sumL, b3] at q2
      have hl : l = dV (kC n r hs) (kL pin hs f0) H s 0 c0 := by omega
      have hk2 : k = pc H e s := by
        have hle := q1.2 hl.symm
        rcases p3 _ ext2 (by rw [← cn_sumL, b3]; exact hl) with q | ⟨j, j1, j2, j3, j4⟩
        · have := pc_all hH s k (Nat.le_refl _) b1
          rw [Nat.sub_self, Nat.pow_zero, Nat.div_one] at this
          rw [← this]
          exact pc_congr s (fun i hi => q i (by omega) (by omega))
        · have hlt := pc_lex (H := H) (e := e) (e' := dgt H s k) (k := j) (fun i hi => (j3 i (by omega) hi).symm) j4 (s - (j + 1)) (fun i hi => heH i (by omega))
          rw [show j + 1 + (s - (j + 1)) = s by omega] at hlt
          have := pc_all hH s k (Nat.le_refl _) b1
          rw [Nat.sub_self, Nat.pow_zero, Nat.div_one] at this
          rw [this] at hlt
          omega
      rw [hl, hk2]
  · intro hV
    cases hb : bst n r pin hs f0 H s (H ^ s) with
    | none => rfl
    | some x =>
      obtain ⟨l, k⟩ := x
      rw [hb] at bs
      obtain ⟨b1, b2, b3, b4⟩ := bs
      have ext2 := (vld_ext (c := c0) (H := H) (fun i _ => hdg k i)).mp b2
      have q2 := sp.1 _ ext2
      have := sumL_bd h01 (dgt H s k) s 0
      omega
