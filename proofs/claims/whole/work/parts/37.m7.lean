/-! the choice of hammers: all codes -/
def dgt (H s code i : Nat) : Nat := (code / H ^ (s - 1 - i)) % H
def lkB (pin hs : Nat → Int) (f0 : Nat) (c : Nat → Nat) (j : Nat) : Bool := decide (pin (64 * (f0 + c j) + (hs j).toNat) = 0)
def vld (n r : Int) (hs : Nat → Int) (c : Nat → Nat) (s : Nat) : Prop := ∀ i, i < s → ∀ k, k < i → c i = c k → ¬ dist n (hs i) (hs k) < r
def vldB (n r : Int) (hs : Nat → Int) (c : Nat → Nat) (s : Nat) : Bool := (List.range s).all (fun i => (List.range i).all (fun k => decide (¬ c i = c k) || decide (¬ dist n (hs i) (hs k) < r)))
theorem vldB_iff {n r : Int} {hs : Nat → Int} {c : Nat → Nat} {s : Nat} : vldB n r hs c s = true ↔ vld n r hs c s := by
  unfold vldB vld
  simp only [List.all_eq_true, List.mem_range, Bool.or_eq_true, decide_eq_true_eq]
  constructor
  · intro h i hi k hk e
    rcases h i hi k hk with q | q
    · exact absurd e q
    · exact q
  · intro h i hi k hk
    by_cases e : c i = c k
    · right; exact h i hi k hk e
    · left; exact e
/-- the best of the codes below c: how many pins lack, the code -/
def bst (n r : Int) (pin hs : Nat → Int) (f0 H s : Nat) : Nat → Option (Int × Nat)
  | 0 => none
  | c + 1 => match bst n r pin hs f0 H s c with
    | none => if vldB n r hs (dgt H s c) s = true then some (cn (lkB pin hs f0 (dgt H s c)) s 0, c) else none
    | some (l, k) => if cn (lkB pin hs f0 (dgt H s c)) s 0 < l ∧ vldB n r hs (dgt H s c) s = true then some (cn (lkB pin hs f0 (dgt H s c)) s 0, c) else some (l, k)
def enc (o : Option (Int × Nat)) : Int := match o with
  | none => -1
  | some (l, _) => l
theorem pow_bd {H i : Nat} (hH : H ≤ 3) (h1 : 1 ≤ H) (hi : i ≤ 12) : H ^ i ≤ 531441 := by
  have a : H ^ i ≤ 3 ^ i := Nat.pow_le_pow_left hH i
  have b : 3 ^ i ≤ 3 ^ 12 := Nat.pow_le_pow_right (by decide) hi
  have c : (3 : Nat) ^ 12 = 531441 := by decide
  omega
theorem bst_nn (n r : Int) (pin hs : Nat → Int) (f0 H s : Nat) : ∀ c l k, bst n r pin hs f0 H s c = some (l, k) → 0 ≤ l ∧ l ≤ s ∧ k < c
  | 0, _, _, h => by simp [bst] at h
  | c + 1, l, k, h => by
    have hb := cn_bd (lkB pin hs f0 (dgt H s c)) s 0
    unfold bst at h
    cases hc : bst n r pin hs f0 H s c with
    | none =>
      rw [hc] at h
      simp only at h
      split at h
      · cases h; exact ⟨hb.1, hb.2, by omega⟩
      · cases h
    | some x =>
      obtain ⟨l2, k2⟩ := x
      have ih := bst_nn n r pin hs f0 H s c l2 k2 hc
      rw [hc] at h
      simp only at h
      split at h
      · cases h; exact ⟨hb.1, hb.2, by omega⟩
      · cases h; exact ⟨ih.1, ih.2.1, by omega⟩
/-- what chooses() changes: bestLacks, the rows choice and best -/
def chW (w : Wd) (I : Nat → Int) (l : Int) (ch be : Nat → Int) : Wd := pt (pt (pt w 77 (ca 0 32 ch)) 78 (ca 0 32 be)) 56 (co 7 (MO (va_up I 37 l)))
theorem chW_56 {w : Wd} {I : Nat → Int} {l : Int} {ch be : Nat → Int} : hp (chW w I l ch be) 56 = co 7 (MO (va_up I 37 l)) := hp_pt_same _ _ _
theorem chW_77 {w : Wd} {I : Nat → Int} {l : Int} {ch be : Nat → Int} : hp (chW w I l ch be) 77 = ca 0 32 ch := hp_pt_of (by decide) (hp_pt_of (by decide) (hp_pt_same _ _ _))
theorem chW_78 {w : Wd} {I : Nat → Int} {l : Int} {ch be : Nat → Int} : hp (chW w I l ch be) 78 = ca 0 32 be := hp_pt_of (by decide) (hp_pt_same _ _ _)
theorem chW_o {w : Wd} {I : Nat → Int} {l : Int} {ch be : Nat → Int} {a : Nat} {c : MC} (h : hp w a = c) (h1 : a ≠ 56) (h2 : a ≠ 77) (h3 : a ≠ 78) : hp (chW w I l ch be) a = c := hp_pt_of h1 (hp_pt_of h3 (hp_pt_of h2 h))
theorem chW_p77 {w : Wd} {I : Nat → Int} {l : Int} {ch ch2 be : Nat → Int} : pt (chW w I l ch be) 77 (ca 0 32 ch2) = chW w I l ch2 be := by
  simp only [chW, pt, Prod.mk.injEq, true_and]
  funext q
  simp only [va_up]
  split
  · next e => subst e; simp
  · rfl
theorem chW_p78 {w : Wd} {I : Nat → Int} {l : Int} {ch be be2 : Nat → Int} : pt (chW w I l ch be) 78 (ca 0 32 be2) = chW w I l ch be2 := by
  simp only [chW, pt, Prod.mk.injEq, true_and]
  funext q
  simp only [va_up]
  split
  · next e => subst e; simp
  · rfl
theorem chW_p56 {w : Wd} {I : Nat → Int} {l l2 : Int} {ch be : Nat → Int} : pt (chW w I l ch be) 56 (co 7 (MO (va_up (va_up I 37 l) 37 l2))) = chW w I l2 ch be := by
  rw [va_up2]
  unfold chW
  rw [pt_pt]
section CHO
variable {d : Nat} {w : Wd} {I : Nat → Int} {A : Nat → Nat → Int} {b ns H f0 : Nat} {Q : Option MV → Wd → Prop}
set_option maxHeartbeats 4000000 in
set_option maxRecDepth 100000 in
theorem ch_digits (hS : MS w I A) (hb : b < 12) (hH : A 59 b = H) (hH1 : 1 ≤ H) (hH3 : H ≤ 3) (hf0 : A 60 b = f0) (hf : f0 + H ≤ 36) (hns : I 36 = ns) (hns2 : ns ≤ 12) (hhs : ∀ j, j < ns → 0 ≤ A 76 j ∧ A 76 j < 64) (code : Nat) (hcode : code ≤ 531441) (all : Int) (l : Int) (be : Nat → Int) (P : (Nat → Int) → Prop)
    (kk : ∀ ch : Nat → Int, (∀ j, j < ns → ch j = dgt H ns code j) → ∀ u : Int, MR pgm d k_X7_chooses Q 134 [some (vr 56), some (vi (b : Int)), some (vi all), some (vi (code : Int)), some (vi u), some (vi (cn (lkB (A 63) (A 76) f0 (dgt H ns code)) ns 0)), some (vi (-1))] [] (chW w I l ch be)) :
    ∀ (m : Nat) (ch : Nat → Int), m ≤ ns → (∀ j, m ≤ j → j < ns → ch j = dgt H ns code j) → MR pgm d k_X7_chooses Q 53 [some (vr 56), some (vi (b : Int)), some (vi all), some (vi (code : Int)), some (vi ((code / H ^ (ns - m) : Nat) : Int)), some (vi (cn (lkB (A 63) (A 76) f0 (dgt H ns code)) (ns - m) m)), some (vi ((m : Int) - 1))] [] (chW w I l ch be) := by
  have h59 := MSg59 hS
  have h60 := MSg60 hS
  have h63 := MSg63 hS
  have h76 := MSg76 hS
  intro m
  induction m with
  | zero =>
    intro ch hm hch
    repeat ((fail_if_success (show MR _ _ _ _ 134 _ _ _)); (first | refine r_al rfl rfl ?_ | refine r_il rfl rfl ?_ | refine r_pu rfl ?_ | refine r_getM rfl (by (repeat (refine hp_pt_of (by first | decide | omega) ?_)); first | assumption | exact hp_pt_same _ _ _) rfl (by first | assumption | ((repeat (refine (va_up_ne _ _ (by decide)).trans ?_)); first | assumption | exact va_up_self _ _ _ | rfl)) ?_ | refine r_getf rfl (by (repeat (refine hp_pt_of (by first | decide | omega) ?_)); first | assumption | exact hp_pt_same _ _ _) rfl ?_ | refine r_i2 rfl (by first | (with_reducible refine f_add_eq ?_ ?_) <;> omega | (with_reducible refine f_sub_eq ?_ ?_) <;> omega | (with_reducible refine f_mul_eq ?_ ?_) <;> omega | fail) ?_ | refine r_ist rfl rfl rfl (by dsimp only [sto] <;> rfl) ?_ | refine r_iinc rfl rfl rfl (by omega) (by omega) rfl rfl (by dsimp only [sto] <;> rfl) ?_ | refine r_go rfl ?_ | refine r_ald _ rfl (by (repeat (refine hp_pt_of (by first | decide | omega) ?_)); first | assumption | exact hp_pt_same _ _ _) rfl (by omega) ?_ | refine r_putM rfl (by (repeat (refine hp_pt_of (by first | decide | omega) ?_)); first | assumption | exact hp_pt_same _ _ _) rfl rfl ?_ | refine r_putI rfl (by (repeat (refine hp_pt_of (by first | decide | omega) ?_)); first | assumption | exact hp_pt_same _ _ _) rfl rfl ?_ | refine r_ast0 _ rfl (by (repeat (refine hp_pt_of (by first | decide | omega) ?_)); first | assumption | exact hp_pt_same _ _ _) rfl (by omega) ?_ | refine r_i1 rfl (by first | (with_reducible refine f_neg_eq ?_ ?_) <;> omega | fail) ?_ | refine r_alen rfl (by (repeat (refine hp_pt_of (by first | decide | omega) ?_)); first | assumption | exact hp_pt_same _ _ _) ?_ | refine r_putR rfl (by (repeat (refine hp_pt_of (by first | decide | omega) ?_)); first | assumption | exact hp_pt_same _ _ _) rfl rfl ?_ | refine r_fn rfl rfl ?_))
    exact kk ch (fun j hj => hch j (by omega) hj) _
  | succ m ih =>
    intro ch hm hch
    have hq : code / H ^ (ns - (m + 1)) ≤ code := Nat.div_le_self _ _
    have hd : (code / H ^ (ns - (m + 1))) % H = dgt H ns code m := by
      unfold dgt
      rw [show ns - (m + 1) = ns - 1 - m by omega]
    have hd2 : code / H ^ (ns - (m + 1)) / H = code / H ^ (ns - m) := by
      rw [Nat.div_div_eq_div_mul, show ns - m = (ns - (m + 1)) + 1 by omega, Nat.pow_succ]
    have hlt : (code / H ^ (ns - (m + 1))) % H < H := Nat.mod_lt _ (by omega)
    have hq2 : code / H ^ (ns - (m + 1)) / H ≤ code / H ^ (ns - (m + 1)) := Nat.div_le_self _ _
    have hcb := cn_bd (lkB (A 63) (A 76) f0 (dgt H ns code)) (ns - (m + 1)) (m + 1)
    have hh := hhs m (by omega)
    have ih := ih (va_up ch m (dgt H ns code m : Nat)) (by omega) (fun j h1 h2 => by
      by_cases e : j = m
      · subst e; rw [va_up_self]
      · rw [va_up_ne _ _ e]; exact hch j (by omega) h2)
    have e1 : ns - m = (ns - (m + 1)) + 1 := by omega
    rw [← hd2, e1, cn] at ih
    obtain ⟨hm0, hhm⟩ : ∃ x : Nat, A 76 m = x := ⟨(A 76 m).toNat, by omega⟩
    have hlk : lkB (A 63) (A 76) f0 (dgt H ns code) m = decide (A 63 (64 * (f0 + dgt H ns code m) + hm0) = 0) := by
      simp only [lkB, hhm, Int.toNat_natCast]
    rw [hlk] at ih
    rw [hd] at hlt
    generalize dgt H ns code m = dg at hd hlt ih hlk
    generalize cn (lkB (A 63) (A 76) f0 (dgt H ns code)) (ns - (m + 1)) (m + 1) = cv at hcb ih ⊢
    generalize code / H ^ (ns - (m + 1)) = qd at hq hd hd2 hq2 ih ⊢
    generalize hq3 : qd / H = q3 at hd2 hq2 ih
    have e0 : ((m + 1 : Nat) : Int) - 1 = m := by omega
    rw [e0]
    have g59 : hp (chW w I l ch be) 59 = ca 0 12 (A 59) := chW_o h59 (by decide) (by decide) (by decide)
    have g56 := chW_56 (w := w) (I := I) (l := l) (ch := ch) (be := be)
    have g77 := chW_77 (w := w) (I := I) (l := l) (ch := ch) (be := be)
    repeat (first | refine r_al rfl rfl ?_ | refine r_il rfl rfl ?_ | refine r_pu rfl ?_ | refine r_getM rfl (by (repeat (refine hp_pt_of (by first | decide | omega) ?_)); first | assumption | exact hp_pt_same _ _ _) rfl (by first | assumption | ((repeat (refine (va_up_ne _ _ (by decide)).trans ?_)); first | assumption | exact va_up_self _ _ _ | rfl)) ?_ | refine r_getf rfl (by (repeat (refine hp_pt_of (by first | decide | omega) ?_)); first | assumption | exact hp_pt_same _ _ _) rfl ?_ | refine r_i2 rfl (by first | (with_reducible refine f_add_eq ?_ ?_) <;> omega | (with_reducible refine f_sub_eq ?_ ?_) <;> omega | (with_reducible refine f_mul_eq ?_ ?_) <;> omega | fail) ?_ | refine r_ist rfl rfl rfl (by dsimp only [sto] <;> rfl) ?_ | refine r_iinc rfl rfl rfl (by omega) (by omega) rfl rfl (by dsimp only [sto] <;> rfl) ?_ | refine r_go rfl ?_ | refine r_ald _ rfl (by (repeat (refine hp_pt_of (by first | decide | omega) ?_)); first | assumption | exact hp_pt_same _ _ _) rfl (by omega) ?_ | refine r_putM rfl (by (repeat (refine hp_pt_of (by first | decide | omega) ?_)); first | assumption | exact hp_pt_same _ _ _) rfl rfl ?_ | refine r_putI rfl (by (repeat (refine hp_pt_of (by first | decide | omega) ?_)); first | assumption | exact hp_pt_same _ _ _) rfl rfl ?_ | refine r_ast0 _ rfl (by (repeat (refine hp_pt_of (by first | decide | omega) ?_)); first | assumption | exact hp_pt_same _ _ _) rfl (by omega) ?_ | refine r_i1 rfl (by first | (with_reducible refine f_neg_eq ?_ ?_) <;> omega | fail) ?_ | refine r_alen rfl (by (repeat (refine hp_pt_of (by first | decide | omega) ?_)); first | assumption | exact hp_pt_same _ _ _) ?_ | refine r_putR rfl (by (repeat (refine hp_pt_of (by first | decide | omega) ?_)); first | assumption | exact hp_pt_same _ _ _) rfl rfl ?_ | refine r_fn rfl rfl ?_)
    rw [hH]
    refine r_irem (z := (dg : Int)) rfl (by omega) (by rw [← hd]; rfl) ?_
    repeat (first | refine r_al rfl rfl ?_ | refine r_il rfl rfl ?_ | refine r_pu rfl ?_ | refine r_getM rfl (by (repeat (refine hp_pt_of (by first | decide | omega) ?_)); first | assumption | exact hp_pt_same _ _ _) rfl (by first | assumption | ((repeat (refine (va_up_ne _ _ (by decide)).trans ?_)); first | assumption | exact va_up_self _ _ _ | rfl)) ?_ | refine r_getf rfl (by (repeat (refine hp_pt_of (by first | decide | omega) ?_)); first | assumption | exact hp_pt_same _ _ _) rfl ?_ | refine r_i2 rfl (by first | (with_reducible refine f_add_eq ?_ ?_) <;> omega | (with_reducible refine f_sub_eq ?_ ?_) <;> omega | (with_reducible refine f_mul_eq ?_ ?_) <;> omega | fail) ?_ | refine r_ist rfl rfl rfl (by dsimp only [sto] <;> rfl) ?_ | refine r_iinc rfl rfl rfl (by omega) (by omega) rfl rfl (by dsimp only [sto] <;> rfl) ?_ | refine r_go rfl ?_ | refine r_ald _ rfl (by (repeat (refine hp_pt_of (by first | decide | omega) ?_)); first | assumption | exact hp_pt_same _ _ _) rfl (by omega) ?_ | refine r_putM rfl (by (repeat (refine hp_pt_of (by first | decide | omega) ?_)); first | assumption | exact hp_pt_same _ _ _) rfl rfl ?_ | refine r_putI rfl (by (repeat (refine hp_pt_of (by first | decide | omega) ?_)); first | assumption | exact hp_pt_same _ _ _) rfl rfl ?_ | refine r_ast0 _ rfl (by (repeat (refine hp_pt_of (by first | decide | omega) ?_)); first | assumption | exact hp_pt_same _ _ _) rfl (by omega) ?_ | refine r_i1 rfl (by first | (with_reducible refine f_neg_eq ?_ ?_) <;> omega | fail) ?_ | refine r_alen rfl (by (repeat (refine hp_pt_of (by first | decide | omega) ?_)); first | assumption | exact hp_pt_same _ _ _) ?_ | refine r_putR rfl (by (repeat (refine hp_pt_of (by first | decide | omega) ?_)); first | assumption | exact hp_pt_same _ _ _) rfl rfl ?_ | refine r_fn rfl rfl ?_)
    rw [hH]
    refine r_idiv (z := (q3 : Int)) rfl (by omega) (by rw [← hq3]; rfl) (by omega) (by omega) ?_
    rw [chW_p77]
    have g60 : hp (chW w I l (va_up ch m (dg : Int)) be) 60 = ca 0 12 (A 60) := chW_o h60 (by decide) (by decide) (by decide)
    have g63 : hp (chW w I l (va_up ch m (dg : Int)) be) 63 = ca 2 2304 (A 63) := chW_o h63 (by decide) (by decide) (by decide)
    have g76 : hp (chW w I l (va_up ch m (dg : Int)) be) 76 = ca 0 32 (A 76) := chW_o h76 (by decide) (by decide) (by decide)
    have g56 := chW_56 (w := w) (I := I) (l := l) (ch := va_up ch m (dg : Int)) (be := be)
    have g77 := chW_77 (w := w) (I := I) (l := l) (ch := va_up ch m (dg : Int)) (be := be)
    repeat ((fail_if_success (show MR _ _ _ _ 106 _ _ _)); (first | refine r_al rfl rfl ?_ | refine r_il rfl rfl ?_ | refine r_pu rfl ?_ | refine r_getM rfl (by (repeat (refine hp_pt_of (by first | decide | omega) ?_)); first | assumption | exact hp_pt_same _ _ _) rfl (by first | assumption | ((repeat (refine (va_up_ne _ _ (by decide)).trans ?_)); first | assumption | exact va_up_self _ _ _ | rfl)) ?_ | refine r_getf rfl (by (repeat (refine hp_pt_of (by first | decide | omega) ?_)); first | assumption | exact hp_pt_same _ _ _) rfl ?_ | refine r_i2 rfl (by first | (with_reducible refine f_add_eq ?_ ?_) <;> omega | (with_reducible refine f_sub_eq ?_ ?_) <;> omega | (with_reducible refine f_mul_eq ?_ ?_) <;> omega | fail) ?_ | refine r_ist rfl rfl rfl (by dsimp only [sto] <;> rfl) ?_ | refine r_iinc rfl rfl rfl (by omega) (by omega) rfl rfl (by dsimp only [sto] <;> rfl) ?_ | refine r_go rfl ?_ | refine r_ald _ rfl (by (repeat (refine hp_pt_of (by first | decide | omega) ?_)); first | assumption | exact hp_pt_same _ _ _) rfl (by omega) ?_ | refine r_putM rfl (by (repeat (refine hp_pt_of (by first | decide | omega) ?_)); first | assumption | exact hp_pt_same _ _ _) rfl rfl ?_ | refine r_putI rfl (by (repeat (refine hp_pt_of (by first | decide | omega) ?_)); first | assumption | exact hp_pt_same _ _ _) rfl rfl ?_ | refine r_ast0 _ rfl (by (repeat (refine hp_pt_of (by first | decide | omega) ?_)); first | assumption | exact hp_pt_same _ _ _) rfl (by omega) ?_ | refine r_i1 rfl (by first | (with_reducible refine f_neg_eq ?_ ?_) <;> omega | fail) ?_ | refine r_alen rfl (by (repeat (refine hp_pt_of (by first | decide | omega) ?_)); first | assumption | exact hp_pt_same _ _ _) ?_ | refine r_putR rfl (by (repeat (refine hp_pt_of (by first | decide | omega) ?_)); first | assumption | exact hp_pt_same _ _ _) rfl rfl ?_ | refine r_fn rfl rfl ?_))
    rw [hf0, va_up_self]
    repeat ((fail_if_success (show MR _ _ _ _ 115 _ _ _)); (first | refine r_al rfl rfl ?_ | refine r_il rfl rfl ?_ | refine r_pu rfl ?_ | refine r_getM rfl (by (repeat (refine hp_pt_of (by first | decide | omega) ?_)); first | assumption | exact hp_pt_same _ _ _) rfl (by first | assumption | ((repeat (refine (va_up_ne _ _ (by decide)).trans ?_)); first | assumption | exact va_up_self _ _ _ | rfl)) ?_ | refine r_getf rfl (by (repeat (refine hp_pt_of (by first | decide | omega) ?_)); first | assumption | exact hp_pt_same _ _ _) rfl ?_ | refine r_i2 rfl (by first | (with_reducible refine f_add_eq ?_ ?_) <;> omega | (with_reducible refine f_sub_eq ?_ ?_) <;> omega | (with_reducible refine f_mul_eq ?_ ?_) <;> omega | fail) ?_ | refine r_ist rfl rfl rfl (by dsimp only [sto] <;> rfl) ?_ | refine r_iinc rfl rfl rfl (by omega) (by omega) rfl rfl (by dsimp only [sto] <;> rfl) ?_ | refine r_go rfl ?_ | refine r_ald _ rfl (by (repeat (refine hp_pt_of (by first | decide | omega) ?_)); first | assumption | exact hp_pt_same _ _ _) rfl (by omega) ?_ | refine r_putM rfl (by (repeat (refine hp_pt_of (by first | decide | omega) ?_)); first | assumption | exact hp_pt_same _ _ _) rfl rfl ?_ | refine r_putI rfl (by (repeat (refine hp_pt_of (by first | decide | omega) ?_)); first | assumption | exact hp_pt_same _ _ _) rfl rfl ?_ | refine r_ast0 _ rfl (by (repeat (refine hp_pt_of (by first | decide | omega) ?_)); first | assumption | exact hp_pt_same _ _ _) rfl (by omega) ?_ | refine r_i1 rfl (by first | (with_reducible refine f_neg_eq ?_ ?_) <;> omega | fail) ?_ | refine r_alen rfl (by (repeat (refine hp_pt_of (by first | decide | omega) ?_)); first | assumption | exact hp_pt_same _ _ _) ?_ | refine r_putR rfl (by (repeat (refine hp_pt_of (by first | decide | omega) ?_)); first | assumption | exact hp_pt_same _ _ _) rfl rfl ?_ | refine r_fn rfl rfl ?_))
    rw [hhm]
    repeat (first | refine r_al rfl rfl ?_ | refine r_il rfl rfl ?_ | refine r_pu rfl ?_ | refine r_getM rfl (by (repeat (refine hp_pt_of (by first | decide | omega) ?_)); first | assumption | exact hp_pt_same _ _ _) rfl (by first | assumption | ((repeat (refine (va_up_ne _ _ (by decide)).trans ?_)); first | assumption | exact va_up_self _ _ _ | rfl)) ?_ | refine r_getf rfl (by (repeat (refine hp_pt_of (by first | decide | omega) ?_)); first | assumption | exact hp_pt_same _ _ _) rfl ?_ | refine r_i2 rfl (by first | (with_reducible refine f_add_eq ?_ ?_) <;> omega | (with_reducible refine f_sub_eq ?_ ?_) <;> omega | (with_reducible refine f_mul_eq ?_ ?_) <;> omega | fail) ?_ | refine r_ist rfl rfl rfl (by dsimp only [sto] <;> rfl) ?_ | refine r_iinc rfl rfl rfl (by omega) (by omega) rfl rfl (by dsimp only [sto] <;> rfl) ?_ | refine r_go rfl ?_ | refine r_ald _ rfl (by (repeat (refine hp_pt_of (by first | decide | omega) ?_)); first | assumption | exact hp_pt_same _ _ _) rfl (by omega) ?_ | refine r_putM rfl (by (repeat (refine hp_pt_of (by first | decide | omega) ?_)); first | assumption | exact hp_pt_same _ _ _) rfl rfl ?_ | refine r_putI rfl (by (repeat (refine hp_pt_of (by first | decide | omega) ?_)); first | assumption | exact hp_pt_same _ _ _) rfl rfl ?_ | refine r_ast0 _ rfl (by (repeat (refine hp_pt_of (by first | decide | omega) ?_)); first | assumption | exact hp_pt_same _ _ _) rfl (by omega) ?_ | refine r_i1 rfl (by first | (with_reducible refine f_neg_eq ?_ ?_) <;> omega | fail) ?_ | refine r_alen rfl (by (repeat (refine hp_pt_of (by first | decide | omega) ?_)); first | assumption | exact hp_pt_same _ _ _) ?_ | refine r_putR rfl (by (repeat (refine hp_pt_of (by first | decide | omega) ?_)); first | assumption | exact hp_pt_same _ _ _) rfl rfl ?_ | refine r_fn rfl rfl ?_)
    refine r_ald (64 * (f0 + dg) + hm0) rfl (by (repeat (refine hp_pt_of (by first | decide | omega) ?_)); first | assumption | exact hp_pt_same _ _ _) (by omega) (by omega) ?_
    first | refine r_if_eq rfl (fun c2 => ?_) (fun c2 => ?_) | refine r_if_ne rfl (fun c2 => ?_) (fun c2 => ?_) | refine r_ic_ge rfl (fun c2 => ?_) (fun c2 => ?_) | refine r_ic_eq rfl (fun c2 => ?_) (fun c2 => ?_) | refine r_ic_ne rfl (fun c2 => ?_) (fun c2 => ?_) | refine r_ic_le rfl (fun c2 => ?_) (fun c2 => ?_) | refine r_ic_lt rfl (fun c2 => ?_) (fun c2 => ?_) | refine r_if_lt rfl (fun c2 => ?_) (fun c2 => ?_) | refine r_ic_gt rfl (fun c2 => ?_) (fun c2 => ?_) | refine r_if_le rfl (fun c2 => ?_) (fun c2 => ?_) | refine r_if_ge rfl (fun c2 => ?_) (fun c2 => ?_) | refine r_if_gt rfl (fun c2 => ?_) (fun c2 => ?_)
    · rw [decide_eq_true c2] at ih
      repeat ((fail_if_success (show MR _ _ _ _ 53 _ _ _)); (first | refine r_al rfl rfl ?_ | refine r_il rfl rfl ?_ | refine r_pu rfl ?_ | refine r_getM rfl (by (repeat (refine hp_pt_of (by first | decide | omega) ?_)); first | assumption | exact hp_pt_same _ _ _) rfl (by first | assumption | ((repeat (refine (va_up_ne _ _ (by decide)).trans ?_)); first | assumption | exact va_up_self _ _ _ | rfl)) ?_ | refine r_getf rfl (by (repeat (refine hp_pt_of (by first | decide | omega) ?_)); first | assumption | exact hp_pt_same _ _ _) rfl ?_ | refine r_i2 rfl (by first | (with_reducible refine f_add_eq ?_ ?_) <;> omega | (with_reducible refine f_sub_eq ?_ ?_) <;> omega | (with_reducible refine f_mul_eq ?_ ?_) <;> omega | fail) ?_ | refine r_ist rfl rfl rfl (by dsimp only [sto] <;> rfl) ?_ | refine r_iinc rfl rfl rfl (by omega) (by omega) rfl rfl (by dsimp only [sto] <;> rfl) ?_ | refine r_go rfl ?_ | refine r_ald _ rfl (by (repeat (refine hp_pt_of (by first | decide | omega) ?_)); first | assumption | exact hp_pt_same _ _ _) rfl (by omega) ?_ | refine r_putM rfl (by (repeat (refine hp_pt_of (by first | decide | omega) ?_)); first | assumption | exact hp_pt_same _ _ _) rfl rfl ?_ | refine r_putI rfl (by (repeat (refine hp_pt_of (by first | decide | omega) ?_)); first | assumption | exact hp_pt_same _ _ _) rfl rfl ?_ | refine r_ast0 _ rfl (by (repeat (refine hp_pt_of (by first | decide | omega) ?_)); first | assumption | exact hp_pt_same _ _ _) rfl (by omega) ?_ | refine r_i1 rfl (by first | (with_reducible refine f_neg_eq ?_ ?_) <;> omega | fail) ?_ | refine r_alen rfl (by (repeat (refine hp_pt_of (by first | decide | omega) ?_)); first | assumption | exact hp_pt_same _ _ _) ?_ | refine r_putR rfl (by (repeat (refine hp_pt_of (by first | decide | omega) ?_)); first | assumption | exact hp_pt_same _ _ _) rfl rfl ?_ | refine r_fn rfl rfl ?_))
      rw [show (if true = true then (1 : Int) else 0) = 1 from rfl, Int.add_comm 1] at ih
      exact ih
    · rw [decide_eq_false c2] at ih
      repeat ((fail_if_success (show MR _ _ _ _ 53 _ _ _)); (first | refine r_al rfl rfl ?_ | refine r_il rfl rfl ?_ | refine r_pu rfl ?_ | refine r_getM rfl (by (repeat (refine hp_pt_of (by first | decide | omega) ?_)); first | assumption | exact hp_pt_same _ _ _) rfl (by first | assumption | ((repeat (refine (va_up_ne _ _ (by decide)).trans ?_)); first | assumption | exact va_up_self _ _ _ | rfl)) ?_ | refine r_getf rfl (by (repeat (refine hp_pt_of (by first | decide | omega) ?_)); first | assumption | exact hp_pt_same _ _ _) rfl ?_ | refine r_i2 rfl (by first | (with_reducible refine f_add_eq ?_ ?_) <;> omega | (with_reducible refine f_sub_eq ?_ ?_) <;> omega | (with_reducible refine f_mul_eq ?_ ?_) <;> omega | fail) ?_ | refine r_ist rfl rfl rfl (by dsimp only [sto] <;> rfl) ?_ | refine r_iinc rfl rfl rfl (by omega) (by omega) rfl rfl (by dsimp only [sto] <;> rfl) ?_ | refine r_go rfl ?_ | refine r_ald _ rfl (by (repeat (refine hp_pt_of (by first | decide | omega) ?_)); first | assumption | exact hp_pt_same _ _ _) rfl (by omega) ?_ | refine r_putM rfl (by (repeat (refine hp_pt_of (by first | decide | omega) ?_)); first | assumption | exact hp_pt_same _ _ _) rfl rfl ?_ | refine r_putI rfl (by (repeat (refine hp_pt_of (by first | decide | omega) ?_)); first | assumption | exact hp_pt_same _ _ _) rfl rfl ?_ | refine r_ast0 _ rfl (by (repeat (refine hp_pt_of (by first | decide | omega) ?_)); first | assumption | exact hp_pt_same _ _ _) rfl (by omega) ?_ | refine r_i1 rfl (by first | (with_reducible refine f_neg_eq ?_ ?_) <;> omega | fail) ?_ | refine r_alen rfl (by (repeat (refine hp_pt_of (by first | decide | omega) ?_)); first | assumption | exact hp_pt_same _ _ _) ?_ | refine r_putR rfl (by (repeat (refine hp_pt_of (by first | decide | omega) ?_)); first | assumption | exact hp_pt_same _ _ _) rfl rfl ?_ | refine r_fn rfl rfl ?_))
      rw [show (if false = true then (1 : Int) else 0) = 0 from rfl, Int.zero_add] at ih
      rw [show ∀ z : Int, z + 0 = z from Int.add_zero]
      exact ih
end CHO
