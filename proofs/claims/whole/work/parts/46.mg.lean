/-! reading back, as mathematics -/
def TX (f : Nat → Int) (l : List Int) : Prop := ∀ j x, l[j]? = some x → f j = x
theorem TX_add {f : Nat → Int} {l : List Int} {c : Int} (h : TX f l) : TX (va_up f l.length c) (l ++ [c]) := by
  intro j x hx
  by_cases e : j < l.length
  · rw [List.getElem?_append_left e] at hx
    rw [va_up_ne _ _ (by omega)]
    exact h j x hx
  · rw [List.getElem?_append_right (by omega)] at hx
    have hl := (List.getElem?_eq_some_iff.mp hx).1
    rw [List.length_singleton] at hl
    have ej : j = l.length := by omega
    subst ej
    rw [Nat.sub_self] at hx
    rw [va_up_self]
    exact Option.some.inj hx
/-- bell b is heard at hole h -/
def hrd (M Cr Ft Hm : Nat → Int) (lv : Int) (h b : Nat) : Bool := decide (Cr b = 0) && (List.range (Hm b).toNat).any (fun k => decide (¬ M (64 * ((Ft b).toNat + k) + h) = -1 ∧ M (64 * ((Ft b).toNat + k) + h) < lv))
def letB (s : Nat) : Int := if s < 2 then 99 else if s < 4 then 100 else if s = 4 then 101 else if s < 7 then 102 else if s < 9 then 103 else if s < 11 then 97 else 98
def shpB (s : Nat) : List Int := if s = 1 ∨ s = 3 ∨ s = 6 ∨ s = 8 ∨ s = 10 then [35] else []
def noteB (p : Nat) : List Int := letB (p % 12) :: (shpB (p % 12) ++ [48 + ((p / 12 : Nat) : Int)])
/-- pitch p is heard -/
def hrp (P : Nat → Int) (nb : Nat) (hd : Nat → Bool) (p : Nat) : Bool := decide (¬ bAt P p nb 0 = -1) && hd (bAt P p nb 0).toNat
def notesB (g : Nat → Bool) : Nat → Nat → List Int
  | 0, _ => []
  | m + 1, p => (if g p then noteB p else []) ++ notesB g m (p + 1)
def hText (P : Nat → Int) (nb : Nat) (hd : Nat → Bool) : List Int := if cn hd nb 0 = 0 then [114] else if 1 < cn hd nb 0 then 40 :: (notesB (hrp P nb hd) 48 0 ++ [41]) else notesB (hrp P nb hd) 48 0
def lenR : Nat → Int → List Int
  | 0, _ => []
  | f + 1, l => if 0 < l then 114 :: (48 + (if l < 9 then l else 9)) :: lenR f (l - 9) else []
def lenT (l : Int) : List Int := (48 + (if l < 9 then l else 9)) :: lenR 10 (l - 9)
def nxF (H : Nat → Bool) : Nat → Nat → Nat
  | 0, to => to
  | m + 1, to => if H to then to else nxF H m (to + 1)
theorem nxF_rg (H : Nat → Bool) : ∀ m to, to ≤ nxF H m to ∧ nxF H m to ≤ to + m
  | 0, to => by simp [nxF]
  | m + 1, to => by
    unfold nxF
    have := nxF_rg H m (to + 1)
    split <;> omega
/-- from the i-th hole on: H i: something is heard there; X i: what is said there -/
def rdF (H : Nat → Bool) (X : Nat → List Int) (many : Nat) : Nat → Nat → List Int
  | 0, _ => []
  | f + 1, i => if i < many then X i ++ (lenT ((nxF H (many - (i + 1)) (i + 1) : Nat) - (i : Int)) ++ rdF H X many f (nxF H (many - (i + 1)) (i + 1))) else []
theorem noteB_len (p : Nat) : (noteB p).length ≤ 3 := by
  unfold noteB shpB
  split <;> simp
theorem notesB_len (g : Nat → Bool) : ∀ m p, ((notesB g m p).length : Int) ≤ 3 * cn g m p
  | 0, _ => by simp [notesB, cn]
  | m + 1, p => by
    have ih := notesB_len g m (p + 1)
    unfold notesB cn
    rw [List.length_append]
    by_cases h : g p = true
    · rw [if_pos h, if_pos h]
      have := noteB_len p
      omega
    · rw [if_neg h, if_neg h]
      simp only [List.length_nil]
      omega
theorem lenR_len : ∀ (f : Nat) (l : Int), ((lenR f l).length : Int) ≤ (if 0 < l then l + 1 else 0)
  | 0, l => by simp only [lenR, List.length_nil]; split <;> omega
  | f + 1, l => by
    unfold lenR
    split
    · have ih := lenR_len f (l - 9)
      simp only [List.length_cons]
      split at ih <;> omega
    · simp
theorem lenT_len {l : Int} (h : 1 ≤ l) : ((lenT l).length : Int) ≤ l := by
  have := lenR_len 10 (l - 9)
  unfold lenT
  simp only [List.length_cons]
  split at this <;> omega
def isP (P : Nat → Int) (nb p : Nat) : Bool := (List.range nb).any (fun b => decide (P b = p))
theorem cn_or (g : Nat → Bool) (q : Nat) : ∀ n a, cn (fun p => g p || decide (p = q)) n a ≤ cn g n a + (if a ≤ q ∧ q < a + n then 1 else 0)
  | 0, _ => by simp only [cn]; split <;> omega
  | n + 1, a => by
    have ih := cn_or g q n (a + 1)
    unfold cn
    by_cases e : a = q
    · subst e
      rw [if_neg (by omega)] at ih
      rw [if_pos (by omega)]
      cases g a <;> simp <;> omega
    · have e1 : (g a || decide (a = q)) = g a := by simp [e]
      rw [e1]
      split at ih
      · rw [if_pos (by omega)]; omega
      · rw [if_neg (by omega)]; omega
theorem cn_mono {g g' : Nat → Bool} (h : ∀ p, g p = true → g' p = true) : ∀ n a, cn g n a ≤ cn g' n a
  | 0, _ => by simp [cn]
  | n + 1, a => by
    have ih := cn_mono h n (a + 1)
    unfold cn
    cases hg : g a with
    | true => rw [h a hg]; omega
    | false =>
      cases g' a <;> simp <;> omega
theorem isP_cn (P : Nat → Int) : ∀ nb, cn (isP P nb) 48 0 ≤ nb
  | 0 => by
    have : cn (isP P 0) 48 0 ≤ cn (fun _ => false) 48 0 := cn_mono (fun p h => by simp [isP] at h) 48 0
    have h0 : cn (fun _ => false) 48 0 = 0 := by decide
    omega
  | nb + 1 => by
    have ih := isP_cn P nb
    have h1 : cn (isP P (nb + 1)) 48 0 ≤ cn (fun p => isP P nb p || decide (p = (P nb).toNat)) 48 0 := cn_mono (fun p h => by
      unfold isP at h ⊢
      rw [List.range_succ, List.any_append] at h
      rw [Bool.or_eq_true] at h ⊢
      rcases h with h | h
      · left; exact h
      · right
        simp at h
        simp
        omega) 48 0
    have h2 := cn_or (isP P nb) (P nb).toNat 48 0
    split at h2 <;> omega
theorem bAt_is {P : Nat → Int} {p : Int} : ∀ n b, ¬ bAt P p n b = -1 → b ≤ (bAt P p n b).toNat ∧ (bAt P p n b).toNat < b + n ∧ P (bAt P p n b).toNat = p
  | 0, _, h => absurd rfl h
  | n + 1, b, h => by
    unfold bAt at h ⊢
    split
    · next e => simp only [Int.toNat_natCast]; exact ⟨by omega, by omega, e⟩
    · next e =>
      rw [if_neg e] at h
      have := bAt_is n (b + 1) h
      exact ⟨by omega, by omega, this.2.2⟩
theorem hrp_cn (P : Nat → Int) (nb : Nat) (hd : Nat → Bool) : cn (hrp P nb hd) 48 0 ≤ nb := by
  have := isP_cn P nb
  have h2 : cn (hrp P nb hd) 48 0 ≤ cn (isP P nb) 48 0 := cn_mono (fun p h => by
    unfold hrp at h
    rw [Bool.and_eq_true] at h
    have h1 := of_decide_eq_true h.1
    have h3 := bAt_is nb 0 h1
    unfold isP
    rw [List.any_eq_true]
    exact ⟨_, List.mem_range.mpr (by omega), decide_eq_true h3.2.2⟩) 48 0
  omega
theorem hText_len {P : Nat → Int} {nb : Nat} {hd : Nat → Bool} (hb : nb ≤ 12) : (hText P nb hd).length ≤ 38 := by
  have h1 := hrp_cn P nb hd
  have h2 := notesB_len (hrp P nb hd) 48 0
  unfold hText
  split
  · simp
  · split
    · simp only [List.length_cons, List.length_append, List.length_nil]; omega
    · omega
theorem rdF_len {H : Nat → Bool} {X : Nat → List Int} {many : Nat} (hX : ∀ i, (X i).length ≤ 38) : ∀ f i, i ≤ many → (rdF H X many f i).length ≤ 39 * (many - i)
  | 0, _, _ => by simp [rdF]
  | f + 1, i, h => by
    unfold rdF
    split
    · have hn := nxF_rg H (many - (i + 1)) (i + 1)
      have ih := rdF_len (H := H) hX f (nxF H (many - (i + 1)) (i + 1)) (by omega)
      have hl := lenT_len (l := (nxF H (many - (i + 1)) (i + 1) : Nat) - (i : Int)) (by omega)
      have hx := hX i
      rw [List.length_append, List.length_append]
      omega
    · simp
/-- the reference while it says: l is what it has said -/
def SR (w : Wd) (I : Nat → Int) (A : Nat → Nat → Int) (w' : Wd) (I' : Nat → Int) (A' : Nat → Nat → Int) (l : List Int) : Prop := MS w' I' A' ∧ fr 56 80 w w' ∧ (∀ i, i ≠ 39 → I' i = I i) ∧ (∀ a, a ≠ 79 → A' a = A a) ∧ I' 39 = (l.length : Int) ∧ TX (A' 79) l
theorem f_byte_c : ∀ c : Nat, c < 128 → f_byte (c : Int) = c := by decide +kernel
set_option maxHeartbeats 4000000 in
set_option maxRecDepth 100000 in
theorem m_says {d : Nat} {w w0 : Wd} {I I0 : Nat → Int} {A A0 : Nat → Nat → Int} {c : Int} {l : List Int} {Q : Option MV → Wd → Prop} (hR : SR w0 I0 A0 w I A l) (hl : l.length < 2600) (hc : 0 ≤ c ∧ c < 128) (k : ∀ w' I' A', SR w0 I0 A0 w' I' A' (l ++ [c]) → Q none w') : CallD pgm (d + 1) 122 [vr 56, vi c] w Q := by
  obtain ⟨hS, hf, hI, hA, h39, hT⟩ := hR
  have h56 := MSg56 hS
  have h79 := MSg79 hS
  have hb : f_byte c = c := by
    have := f_byte_c c.toNat (by omega)
    rw [show ((c.toNat : Nat) : Int) = c by omega] at this
    exact this
  refine cd_in rfl rfl (by simp only [ini, slo, List.length_cons, List.length_nil, Nat.reduceAdd, Nat.reduceSub, List.replicate, List.cons_append, List.nil_append]; exact rfl) ?_
  repeat (first | refine r_al rfl rfl ?_ | refine r_il rfl rfl ?_ | refine r_pu rfl ?_ | refine r_getM rfl (by (repeat (refine hp_pt_of (by first | decide | omega) ?_)); first | assumption | exact hp_pt_same _ _ _) rfl (by first | assumption | ((repeat (refine (va_up_ne _ _ (by decide)).trans ?_)); first | assumption | exact va_up_self _ _ _ | rfl)) ?_ | refine r_getf rfl (by (repeat (refine hp_pt_of (by first | decide | omega) ?_)); first | assumption | exact hp_pt_same _ _ _) rfl ?_ | refine r_i2 rfl (by first | (with_reducible refine f_add_eq ?_ ?_) <;> omega | (with_reducible refine f_sub_eq ?_ ?_) <;> omega | (with_reducible refine f_mul_eq ?_ ?_) <;> omega | fail) ?_ | refine r_ist rfl rfl rfl (by dsimp only [sto] <;> rfl) ?_ | refine r_iinc rfl rfl rfl (by omega) (by omega) rfl rfl (by dsimp only [sto] <;> rfl) ?_ | refine r_go rfl ?_ | refine r_ald _ rfl (by (repeat (refine hp_pt_of (by first | decide | omega) ?_)); first | assumption | exact hp_pt_same _ _ _) rfl (by omega) ?_ | refine r_putM rfl (by (repeat (refine hp_pt_of (by first | decide | omega) ?_)); first | assumption | exact hp_pt_same _ _ _) rfl rfl ?_ | refine r_putI rfl (by (repeat (refine hp_pt_of (by first | decide | omega) ?_)); first | assumption | exact hp_pt_same _ _ _) rfl rfl ?_ | refine r_ast0 _ rfl (by (repeat (refine hp_pt_of (by first | decide | omega) ?_)); first | assumption | exact hp_pt_same _ _ _) rfl (by omega) ?_ | refine r_i1 rfl (by first | (with_reducible refine f_neg_eq ?_ ?_) <;> omega | fail) ?_ | refine r_alen rfl (by (repeat (refine hp_pt_of (by first | decide | omega) ?_)); first | assumption | exact hp_pt_same _ _ _) ?_ | refine r_putR rfl (by (repeat (refine hp_pt_of (by first | decide | omega) ?_)); first | assumption | exact hp_pt_same _ _ _) rfl rfl ?_ | refine r_fn rfl rfl ?_)
  refine r_ast (l.length) rfl (by (repeat (refine hp_pt_of (by first | decide | omega) ?_)); first | assumption | exact hp_pt_same _ _ _) (by omega) (by omega) ?_
  rw [hb, show nar 1 c = c from hb]
  repeat (first | refine r_al rfl rfl ?_ | refine r_il rfl rfl ?_ | refine r_pu rfl ?_ | refine r_getM rfl (by (repeat (refine hp_pt_of (by first | decide | omega) ?_)); first | assumption | exact hp_pt_same _ _ _) rfl (by first | assumption | ((repeat (refine (va_up_ne _ _ (by decide)).trans ?_)); first | assumption | exact va_up_self _ _ _ | rfl)) ?_ | refine r_getf rfl (by (repeat (refine hp_pt_of (by first | decide | omega) ?_)); first | assumption | exact hp_pt_same _ _ _) rfl ?_ | refine r_i2 rfl (by first | (with_reducible refine f_add_eq ?_ ?_) <;> omega | (with_reducible refine f_sub_eq ?_ ?_) <;> omega | (with_reducible refine f_mul_eq ?_ ?_) <;> omega | fail) ?_ | refine r_ist rfl rfl rfl (by dsimp only [sto] <;> rfl) ?_ | refine r_iinc rfl rfl rfl (by omega) (by omega) rfl rfl (by dsimp only [sto] <;> rfl) ?_ | refine r_go rfl ?_ | refine r_ald _ rfl (by (repeat (refine hp_pt_of (by first | decide | omega) ?_)); first | assumption | exact hp_pt_same _ _ _) rfl (by omega) ?_ | refine r_putM rfl (by (repeat (refine hp_pt_of (by first | decide | omega) ?_)); first | assumption | exact hp_pt_same _ _ _) rfl rfl ?_ | refine r_putI rfl (by (repeat (refine hp_pt_of (by first | decide | omega) ?_)); first | assumption | exact hp_pt_same _ _ _) rfl rfl ?_ | refine r_ast0 _ rfl (by (repeat (refine hp_pt_of (by first | decide | omega) ?_)); first | assumption | exact hp_pt_same _ _ _) rfl (by omega) ?_ | refine r_i1 rfl (by first | (with_reducible refine f_neg_eq ?_ ?_) <;> omega | fail) ?_ | refine r_alen rfl (by (repeat (refine hp_pt_of (by first | decide | omega) ?_)); first | assumption | exact hp_pt_same _ _ _) ?_ | refine r_putR rfl (by (repeat (refine hp_pt_of (by first | decide | omega) ?_)); first | assumption | exact hp_pt_same _ _ _) rfl rfl ?_ | refine r_fn rfl rfl ?_)
  refine r_rt rfl rfl ?_
  refine k _ (va_up I 39 ((l.length : Int) + 1)) (va_up A 79 (va_up (A 79) l.length c)) ⟨MS_I (MS_79 hS), fr_pt (fr_pt hf (by decide) (by decide)) (by decide) (by decide), fun i hi => (va_up_ne _ _ hi).trans (hI i hi), fun a ha => (va_up_ne _ _ ha).trans (hA a ha), ?_, ?_⟩
  · rw [up1, List.length_append, List.length_singleton]; rfl
  · rw [va_up_self]; exact TX_add hT
set_option maxHeartbeats 4000000 in
set_option maxRecDepth 100000 in
theorem m_isHeard {d : Nat} {w : Wd} {I : Nat → Int} {A : Nat → Nat → Int} {M : Nat → Int} {b h : Nat} {Q : Option MV → Wd → Prop} (hS : MS w I A) (hP : PR (A 63) (A 64) M) (hb : b < 12) (hh : h < 64) (hB : 0 ≤ A 60 b ∧ 0 ≤ A 59 b ∧ A 60 b + A 59 b ≤ 36) (kt : hrd M (A 62) (A 60) (A 59) (I 5) h b = true → Q (some (vi 1)) w) (kf : hrd M (A 62) (A 60) (A 59) (I 5) h b = false → Q (some (vi 0)) w) : CallD pgm (d + 2) 101 [vr 56, vi (b : Int), vi (h : Int)] w Q := by
  have h56 := MSg56 hS
  have h59 := MSg59 hS
  have h60 := MSg60 hS
  have h62 := MSg62 hS
  have h63 := MSg63 hS
  have h64 := MSg64 hS
  obtain ⟨f0, hf0⟩ : ∃ f0 : Nat, A 60 b = f0 := ⟨(A 60 b).toNat, by omega⟩
  obtain ⟨m0, hm0⟩ : ∃ m0 : Nat, A 59 b = m0 := ⟨(A 59 b).toNat, by omega⟩
  unfold hrd at kt kf
  rw [hf0, hm0] at kt kf
  simp only [Int.toNat_natCast] at kt kf
  refine cd_in rfl rfl (by simp only [ini, slo, List.length_cons, List.length_nil, Nat.reduceAdd, Nat.reduceSub, List.replicate, List.cons_append, List.nil_append]; exact rfl) ?_
  repeat (first | refine r_al rfl rfl ?_ | refine r_il rfl rfl ?_ | refine r_pu rfl ?_ | refine r_getM rfl (by (repeat (refine hp_pt_of (by first | decide | omega) ?_)); first | assumption | exact hp_pt_same _ _ _) rfl (by first | assumption | ((repeat (refine (va_up_ne _ _ (by decide)).trans ?_)); first | assumption | exact va_up_self _ _ _ | rfl)) ?_ | refine r_getf rfl (by (repeat (refine hp_pt_of (by first | decide | omega) ?_)); first | assumption | exact hp_pt_same _ _ _) rfl ?_ | refine r_i2 rfl (by first | (with_reducible refine f_add_eq ?_ ?_) <;> omega | (with_reducible refine f_sub_eq ?_ ?_) <;> omega | (with_reducible refine f_mul_eq ?_ ?_) <;> omega | fail) ?_ | refine r_ist rfl rfl rfl (by dsimp only [sto] <;> rfl) ?_ | refine r_iinc rfl rfl rfl (by omega) (by omega) rfl rfl (by dsimp only [sto] <;> rfl) ?_ | refine r_go rfl ?_ | refine r_ald _ rfl (by (repeat (refine hp_pt_of (by first | decide | omega) ?_)); first | assumption | exact hp_pt_same _ _ _) rfl (by omega) ?_ | refine r_putM rfl (by (repeat (refine hp_pt_of (by first | decide | omega) ?_)); first | assumption | exact hp_pt_same _ _ _) rfl rfl ?_ | refine r_putI rfl (by (repeat (refine hp_pt_of (by first | decide | omega) ?_)); first | assumption | exact hp_pt_same _ _ _) rfl rfl ?_ | refine r_ast0 _ rfl (by (repeat (refine hp_pt_of (by first | decide | omega) ?_)); first | assumption | exact hp_pt_same _ _ _) rfl (by omega) ?_ | refine r_i1 rfl (by first | (with_reducible refine f_neg_eq ?_ ?_) <;> omega | fail) ?_ | refine r_alen rfl (by (repeat (refine hp_pt_of (by first | decide | omega) ?_)); first | assumption | exact hp_pt_same _ _ _) ?_ | refine r_putR rfl (by (repeat (refine hp_pt_of (by first | decide | omega) ?_)); first | assumption | exact hp_pt_same _ _ _) rfl rfl ?_ | refine r_fn rfl rfl ?_)
  first | refine r_if_eq rfl (fun c1 => ?_) (fun c1 => ?_) | refine r_if_ne rfl (fun c1 => ?_) (fun c1 => ?_) | refine r_ic_ge rfl (fun c1 => ?_) (fun c1 => ?_) | refine r_ic_eq rfl (fun c1 => ?_) (fun c1 => ?_) | refine r_ic_ne rfl (fun c1 => ?_) (fun c1 => ?_) | refine r_ic_le rfl (fun c1 => ?_) (fun c1 => ?_) | refine r_ic_lt rfl (fun c1 => ?_) (fun c1 => ?_) | refine r_if_lt rfl (fun c1 => ?_) (fun c1 => ?_) | refine r_ic_gt rfl (fun c1 => ?_) (fun c1 => ?_) | refine r_if_le rfl (fun c1 => ?_) (fun c1 => ?_) | refine r_if_ge rfl (fun c1 => ?_) (fun c1 => ?_) | refine r_if_gt rfl (fun c1 => ?_) (fun c1 => ?_)
  rotate_left
  · repeat (first | refine r_al rfl rfl ?_ | refine r_il rfl rfl ?_ | refine r_pu rfl ?_ | refine r_getM rfl (by (repeat (refine hp_pt_of (by first | decide | omega) ?_)); first | assumption | exact hp_pt_same _ _ _) rfl (by first | assumption | ((repeat (refine (va_up_ne _ _ (by decide)).trans ?_)); first | assumption | exact va_up_self _ _ _ | rfl)) ?_ | refine r_getf rfl (by (repeat (refine hp_pt_of (by first | decide | omega) ?_)); first | assumption | exact hp_pt_same _ _ _) rfl ?_ | refine r_i2 rfl (by first | (with_reducible refine f_add_eq ?_ ?_) <;> omega | (with_reducible refine f_sub_eq ?_ ?_) <;> omega | (with_reducible refine f_mul_eq ?_ ?_) <;> omega | fail) ?_ | refine r_ist rfl rfl rfl (by dsimp only [sto] <;> rfl) ?_ | refine r_iinc rfl rfl rfl (by omega) (by omega) rfl rfl (by dsimp only [sto] <;> rfl) ?_ | refine r_go rfl ?_ | refine r_ald _ rfl (by (repeat (refine hp_pt_of (by first | decide | omega) ?_)); first | assumption | exact hp_pt_same _ _ _) rfl (by omega) ?_ | refine r_putM rfl (by (repeat (refine hp_pt_of (by first | decide | omega) ?_)); first | assumption | exact hp_pt_same _ _ _) rfl rfl ?_ | refine r_putI rfl (by (repeat (refine hp_pt_of (by first | decide | omega) ?_)); first | assumption | exact hp_pt_same _ _ _) rfl rfl ?_ | refine r_ast0 _ rfl (by (repeat (refine hp_pt_of (by first | decide | omega) ?_)); first | assumption | exact hp_pt_same _ _ _) rfl (by omega) ?_ | refine r_i1 rfl (by first | (with_reducible refine f_neg_eq ?_ ?_) <;> omega | fail) ?_ | refine r_alen rfl (by (repeat (refine hp_pt_of (by first | decide | omega) ?_)); first | assumption | exact hp_pt_same _ _ _) ?_ | refine r_putR rfl (by (repeat (refine hp_pt_of (by first | decide | omega) ?_)); first | assumption | exact hp_pt_same _ _ _) rfl rfl ?_ | refine r_fn rfl rfl ?_)
    refine r_zret rfl (by first | exact Or.inl rfl | exact Or.inr rfl | assumption | omega) ?_
    exact kf (by simp [c1])
  rw [decide_eq_true c1, Bool.true_and] at kt kf
  repeat (first | refine r_al rfl rfl ?_ | refine r_il rfl rfl ?_ | refine r_pu rfl ?_ | refine r_getM rfl (by (repeat (refine hp_pt_of (by first | decide | omega) ?_)); first | assumption | exact hp_pt_same _ _ _) rfl (by first | assumption | ((repeat (refine (va_up_ne _ _ (by decide)).trans ?_)); first | assumption | exact va_up_self _ _ _ | rfl)) ?_ | refine r_getf rfl (by (repeat (refine hp_pt_of (by first | decide | omega) ?_)); first | assumption | exact hp_pt_same _ _ _) rfl ?_ | refine r_i2 rfl (by first | (with_reducible refine f_add_eq ?_ ?_) <;> omega | (with_reducible refine f_sub_eq ?_ ?_) <;> omega | (with_reducible refine f_mul_eq ?_ ?_) <;> omega | fail) ?_ | refine r_ist rfl rfl rfl (by dsimp only [sto] <;> rfl) ?_ | refine r_iinc rfl rfl rfl (by omega) (by omega) rfl rfl (by dsimp only [sto] <;> rfl) ?_ | refine r_go rfl ?_ | refine r_ald _ rfl (by (repeat (refine hp_pt_of (by first | decide | omega) ?_)); first | assumption | exact hp_pt_same _ _ _) rfl (by omega) ?_ | refine r_putM rfl (by (repeat (refine hp_pt_of (by first | decide | omega) ?_)); first | assumption | exact hp_pt_same _ _ _) rfl rfl ?_ | refine r_putI rfl (by (repeat (refine hp_pt_of (by first | decide | omega) ?_)); first | assumption | exact hp_pt_same _ _ _) rfl rfl ?_ | refine r_ast0 _ rfl (by (repeat (refine hp_pt_of (by first | decide | omega) ?_)); first | assumption | exact hp_pt_same _ _ _) rfl (by omega) ?_ | refine r_i1 rfl (by first | (with_reducible refine f_neg_eq ?_ ?_) <;> omega | fail) ?_ | refine r_alen rfl (by (repeat (refine hp_pt_of (by first | decide | omega) ?_)); first | assumption | exact hp_pt_same _ _ _) ?_ | refine r_putR rfl (by (repeat (refine hp_pt_of (by first | decide | omega) ?_)); first | assumption | exact hp_pt_same _ _ _) rfl rfl ?_ | refine r_fn rfl rfl ?_)
  rw [hf0]
  repeat ((fail_if_success (show MR _ _ _ _ 16 _ _ _)); (first | refine r_al rfl rfl ?_ | refine r_il rfl rfl ?_ | refine r_pu rfl ?_ | refine r_getM rfl (by (repeat (refine hp_pt_of (by first | decide | omega) ?_)); first | assumption | exact hp_pt_same _ _ _) rfl (by first | assumption | ((repeat (refine (va_up_ne _ _ (by decide)).trans ?_)); first | assumption | exact va_up_self _ _ _ | rfl)) ?_ | refine r_getf rfl (by (repeat (refine hp_pt_of (by first | decide | omega) ?_)); first | assumption | exact hp_pt_same _ _ _) rfl ?_ | refine r_i2 rfl (by first | (with_reducible refine f_add_eq ?_ ?_) <;> omega | (with_reducible refine f_sub_eq ?_ ?_) <;> omega | (with_reducible refine f_mul_eq ?_ ?_) <;> omega | fail) ?_ | refine r_ist rfl rfl rfl (by dsimp only [sto] <;> rfl) ?_ | refine r_iinc rfl rfl rfl (by omega) (by omega) rfl rfl (by dsimp only [sto] <;> rfl) ?_ | refine r_go rfl ?_ | refine r_ald _ rfl (by (repeat (refine hp_pt_of (by first | decide | omega) ?_)); first | assumption | exact hp_pt_same _ _ _) rfl (by omega) ?_ | refine r_putM rfl (by (repeat (refine hp_pt_of (by first | decide | omega) ?_)); first | assumption | exact hp_pt_same _ _ _) rfl rfl ?_ | refine r_putI rfl (by (repeat (refine hp_pt_of (by first | decide | omega) ?_)); first | assumption | exact hp_pt_same _ _ _) rfl rfl ?_ | refine r_ast0 _ rfl (by (repeat (refine hp_pt_of (by first | decide | omega) ?_)); first | assumption | exact hp_pt_same _ _ _) rfl (by omega) ?_ | refine r_i1 rfl (by first | (with_reducible refine f_neg_eq ?_ ?_) <;> omega | fail) ?_ | refine r_alen rfl (by (repeat (refine hp_pt_of (by first | decide | omega) ?_)); first | assumption | exact hp_pt_same _ _ _) ?_ | refine r_putR rfl (by (repeat (refine hp_pt_of (by first | decide | omega) ?_)); first | assumption | exact hp_pt_same _ _ _) rfl rfl ?_ | refine r_fn rfl rfl ?_))
  have key : ∀ (m k : Nat), k + m = m0 → (∀ j, j < k → ¬ (¬ M (64 * (f0 + j) + h) = -1 ∧ M (64 * (f0 + j) + h) < I 5)) → MR pgm (d + 1) k_X7_isHeard Q 16 [some (vr 56), some (vi (b : Int)), some (vi (h : Int)), some (vi ((f0 + k : Nat) : Int))] [] w := by
    intro m
    induction m with
    | zero =>
      intro k hk hz
      repeat (first | refine r_al rfl rfl ?_ | refine r_il rfl rfl ?_ | refine r_pu rfl ?_ | refine r_getM rfl (by (repeat (refine hp_pt_of (by first | decide | omega) ?_)); first | assumption | exact hp_pt_same _ _ _) rfl (by first | assumption | ((repeat (refine (va_up_ne _ _ (by decide)).trans ?_)); first | assumption | exact va_up_self _ _ _ | rfl)) ?_ | refine r_getf rfl (by (repeat (refine hp_pt_of (by first | decide | omega) ?_)); first | assumption | exact hp_pt_same _ _ _) rfl ?_ | refine r_i2 rfl (by first | (with_reducible refine f_add_eq ?_ ?_) <;> omega | (with_reducible refine f_sub_eq ?_ ?_) <;> omega | (with_reducible refine f_mul_eq ?_ ?_) <;> omega | fail) ?_ | refine r_ist rfl rfl rfl (by dsimp only [sto] <;> rfl) ?_ | refine r_iinc rfl rfl rfl (by omega) (by omega) rfl rfl (by dsimp only [sto] <;> rfl) ?_ | refine r_go rfl ?_ | refine r_ald _ rfl (by (repeat (refine hp_pt_of (by first | decide | omega) ?_)); first | assumption | exact hp_pt_same _ _ _) rfl (by omega) ?_ | refine r_putM rfl (by (repeat (refine hp_pt_of (by first | decide | omega) ?_)); first | assumption | exact hp_pt_same _ _ _) rfl rfl ?_ | refine r_putI rfl (by (repeat (refine hp_pt_of (by first | decide | omega) ?_)); first | assumption | exact hp_pt_same _ _ _) rfl rfl ?_ | refine r_ast0 _ rfl (by (repeat (refine hp_pt_of (by first | decide | omega) ?_)); first | assumption | exact hp_pt_same _ _ _) rfl (by omega) ?_ | refine r_i1 rfl (by first | (with_reducible refine f_neg_eq ?_ ?_) <;> omega | fail) ?_ | refine r_alen rfl (by (repeat (refine hp_pt_of (by first | decide | omega) ?_)); first | assumption | exact hp_pt_same _ _ _) ?_ | refine r_putR rfl (by (repeat (refine hp_pt_of (by first | decide | omega) ?_)); first | assumption | exact hp_pt_same _ _ _) rfl rfl ?_ | refine r_fn rfl rfl ?_)
      rw [hf0, hm0]
      repeat (first | refine r_al rfl rfl ?_ | refine r_il rfl rfl ?_ | refine r_pu rfl ?_ | refine r_getM rfl (by (repeat (refine hp_pt_of (by first | decide | omega) ?_)); first | assumption | exact hp_pt_same _ _ _) rfl (by first | assumption | ((repeat (refine (va_up_ne _ _ (by decide)).trans ?_)); first | assumption | exact va_up_self _ _ _ | rfl)) ?_ | refine r_getf rfl (by (repeat (refine hp_pt_of (by first | decide | omega) ?_)); first | assumption | exact hp_pt_same _ _ _) rfl ?_ | refine r_i2 rfl (by first | (with_reducible refine f_add_eq ?_ ?_) <;> omega | (with_reducible refine f_sub_eq ?_ ?_) <;> omega | (with_reducible refine f_mul_eq ?_ ?_) <;> omega | fail) ?_ | refine r_ist rfl rfl rfl (by dsimp only [sto] <;> rfl) ?_ | refine r_iinc rfl rfl rfl (by omega) (by omega) rfl rfl (by dsimp only [sto] <;> rfl) ?_ | refine r_go rfl ?_ | refine r_ald _ rfl (by (repeat (refine hp_pt_of (by first | decide | omega) ?_)); first | assumption | exact hp_pt_same _ _ _) rfl (by omega) ?_ | refine r_putM rfl (by (repeat (refine hp_pt_of (by first | decide | omega) ?_)); first | assumption | exact hp_pt_same _ _ _) rfl rfl ?_ | refine r_putI rfl (by (repeat (refine hp_pt_of (by first | decide | omega) ?_)); first | assumption | exact hp_pt_same _ _ _) rfl rfl ?_ | refine r_ast0 _ rfl (by (repeat (refine hp_pt_of (by first | decide | omega) ?_)); first | assumption | exact hp_pt_same _ _ _) rfl (by omega) ?_ | refine r_i1 rfl (by first | (with_reducible refine f_neg_eq ?_ ?_) <;> omega | fail) ?_ | refine r_alen rfl (by (repeat (refine hp_pt_of (by first | decide | omega) ?_)); first | assumption | exact hp_pt_same _ _ _) ?_ | refine r_putR rfl (by (repeat (refine hp_pt_of (by first | decide | omega) ?_)); first | assumption | exact hp_pt_same _ _ _) rfl rfl ?_ | refine r_fn rfl rfl ?_)
      first | refine r_if_eq rfl (fun c2 => ?_) (fun c2 => ?_) | refine r_if_ne rfl (fun c2 => ?_) (fun c2 => ?_) | refine r_ic_ge rfl (fun c2 => ?_) (fun c2 => ?_) | refine r_ic_eq rfl (fun c2 => ?_) (fun c2 => ?_) | refine r_ic_ne rfl (fun c2 => ?_) (fun c2 => ?_) | refine r_ic_le rfl (fun c2 => ?_) (fun c2 => ?_) | refine r_ic_lt rfl (fun c2 => ?_) (fun c2 => ?_) | refine r_if_lt rfl (fun c2 => ?_) (fun c2 => ?_) | refine r_ic_gt rfl (fun c2 => ?_) (fun c2 => ?_) | refine r_if_le rfl (fun c2 => ?_) (fun c2 => ?_) | refine r_if_ge rfl (fun c2 => ?_) (fun c2 => ?_) | refine r_if_gt rfl (fun c2 => ?_) (fun c2 => ?_)
      · repeat (first | refine r_al rfl rfl ?_ | refine r_il rfl rfl ?_ | refine r_pu rfl ?_ | refine r_getM rfl (by (repeat (refine hp_pt_of (by first | decide | omega) ?_)); first | assumption | exact hp_pt_same _ _ _) rfl (by first | assumption | ((repeat (refine (va_up_ne _ _ (by decide)).trans ?_)); first | assumption | exact va_up_self _ _ _ | rfl)) ?_ | refine r_getf rfl (by (repeat (refine hp_pt_of (by first | decide | omega) ?_)); first | assumption | exact hp_pt_same _ _ _) rfl ?_ | refine r_i2 rfl (by first | (with_reducible refine f_add_eq ?_ ?_) <;> omega | (with_reducible refine f_sub_eq ?_ ?_) <;> omega | (with_reducible refine f_mul_eq ?_ ?_) <;> omega | fail) ?_ | refine r_ist rfl rfl rfl (by dsimp only [sto] <;> rfl) ?_ | refine r_iinc rfl rfl rfl (by omega) (by omega) rfl rfl (by dsimp only [sto] <;> rfl) ?_ | refine r_go rfl ?_ | refine r_ald _ rfl (by (repeat (refine hp_pt_of (by first | decide | omega) ?_)); first | assumption | exact hp_pt_same _ _ _) rfl (by omega) ?_ | refine r_putM rfl (by (repeat (refine hp_pt_of (by first | decide | omega) ?_)); first | assumption | exact hp_pt_same _ _ _) rfl rfl ?_ | refine r_putI rfl (by (repeat (refine hp_pt_of (by first | decide | omega) ?_)); first | assumption | exact hp_pt_same _ _ _) rfl rfl ?_ | refine r_ast0 _ rfl (by (repeat (refine hp_pt_of (by first | decide | omega) ?_)); first | assumption | exact hp_pt_same _ _ _) rfl (by omega) ?_ | refine r_i1 rfl (by first | (with_reducible refine f_neg_eq ?_ ?_) <;> omega | fail) ?_ | refine r_alen rfl (by (repeat (refine hp_pt_of (by first | decide | omega) ?_)); first | assumption | exact hp_pt_same _ _ _) ?_ | refine r_putR rfl (by (repeat (refine hp_pt_of (by first | decide | omega) ?_)); first | assumption | exact hp_pt_same _ _ _) rfl rfl ?_ | refine r_fn rfl rfl ?_)
        refine r_zret rfl (by first | exact Or.inl rfl | exact Or.inr rfl | assumption | omega) ?_
        refine kf ?_
        rw [List.any_eq_false]
        intro j hj
        have := hz j (by have := List.mem_range.mp hj; omega)
        simp only [decide_eq_true_eq]
        exact this
      · exfalso; omega
    | succ m ih =>
      intro k hk hz
      repeat (first | refine r_al rfl rfl ?_ | refine r_il rfl rfl ?_ | refine r_pu rfl ?_ | refine r_getM rfl (by (repeat (refine hp_pt_of (by first | decide | omega) ?_)); first | assumption | exact hp_pt_same _ _ _) rfl (by first | assumption | ((repeat (refine (va_up_ne _ _ (by decide)).trans ?_)); first | assumption | exact va_up_self _ _ _ | rfl)) ?_ | refine r_getf rfl (by (repeat (refine hp_pt_of (by first | decide | omega) ?_)); first | assumption | exact hp_pt_same _ _ _) rfl ?_ | refine r_i2 rfl (by first | (with_reducible refine f_add_eq ?_ ?_) <;> omega | (with_reducible refine f_sub_eq ?_ ?_) <;> omega | (with_reducible refine f_mul_eq ?_ ?_) <;> omega | fail) ?_ | refine r_ist rfl rfl rfl (by dsimp only [sto] <;> rfl) ?_ | refine r_iinc rfl rfl rfl (by omega) (by omega) rfl rfl (by dsimp only [sto] <;> rfl) ?_ | refine r_go rfl ?_ | refine r_ald _ rfl (by (repeat (refine hp_pt_of (by first | decide | omega) ?_)); first | assumption | exact hp_pt_same _ _ _) rfl (by omega) ?_ | refine r_putM rfl (by (repeat (refine hp_pt_of (by first | decide | omega) ?_)); first | assumption | exact hp_pt_same _ _ _) rfl rfl ?_ | refine r_putI rfl (by (repeat (refine hp_pt_of (by first | decide | omega) ?_)); first | assumption | exact hp_pt_same _ _ _) rfl rfl ?_ | refine r_ast0 _ rfl (by (repeat (refine hp_pt_of (by first | decide | omega) ?_)); first | assumption | exact hp_pt_same _ _ _) rfl (by omega) ?_ | refine r_i1 rfl (by first | (with_reducible refine f_neg_eq ?_ ?_) <;> omega | fail) ?_ | refine r_alen rfl (by (repeat (refine hp_pt_of (by first | decide | omega) ?_)); first | assumption | exact hp_pt_same _ _ _) ?_ | refine r_putR rfl (by (repeat (refine hp_pt_of (by first | decide | omega) ?_)); first | assumption | exact hp_pt_same _ _ _) rfl rfl ?_ | refine r_fn rfl rfl ?_)
      rw [hf0, hm0]
      repeat (first | refine r_al rfl rfl ?_ | refine r_il rfl rfl ?_ | refine r_pu rfl ?_ | refine r_getM rfl (by (repeat (refine hp_pt_of (by first | decide | omega) ?_)); first | assumption | exact hp_pt_same _ _ _) rfl (by first | assumption | ((repeat (refine (va_up_ne _ _ (by decide)).trans ?_)); first | assumption | exact va_up_self _ _ _ | rfl)) ?_ | refine r_getf rfl (by (repeat (refine hp_pt_of (by first | decide | omega) ?_)); first | assumption | exact hp_pt_same _ _ _) rfl ?_ | refine r_i2 rfl (by first | (with_reducible refine f_add_eq ?_ ?_) <;> omega | (with_reducible refine f_sub_eq ?_ ?_) <;> omega | (with_reducible refine f_mul_eq ?_ ?_) <;> omega | fail) ?_ | refine r_ist rfl rfl rfl (by dsimp only [sto] <;> rfl) ?_ | refine r_iinc rfl rfl rfl (by omega) (by omega) rfl rfl (by dsimp only [sto] <;> rfl) ?_ | refine r_go rfl ?_ | refine r_ald _ rfl (by (repeat (refine hp_pt_of (by first | decide | omega) ?_)); first | assumption | exact hp_pt_same _ _ _) rfl (by omega) ?_ | refine r_putM rfl (by (repeat (refine hp_pt_of (by first | decide | omega) ?_)); first | assumption | exact hp_pt_same _ _ _) rfl rfl ?_ | refine r_putI rfl (by (repeat (refine hp_pt_of (by first | decide | omega) ?_)); first | assumption | exact hp_pt_same _ _ _) rfl rfl ?_ | refine r_ast0 _ rfl (by (repeat (refine hp_pt_of (by first | decide | omega) ?_)); first | assumption | exact hp_pt_same _ _ _) rfl (by omega) ?_ | refine r_i1 rfl (by first | (with_reducible refine f_neg_eq ?_ ?_) <;> omega | fail) ?_ | refine r_alen rfl (by (repeat (refine hp_pt_of (by first | decide | omega) ?_)); first | assumption | exact hp_pt_same _ _ _) ?_ | refine r_putR rfl (by (repeat (refine hp_pt_of (by first | decide | omega) ?_)); first | assumption | exact hp_pt_same _ _ _) rfl rfl ?_ | refine r_fn rfl rfl ?_)
      first | refine r_if_eq rfl (fun c2 => ?_) (fun c2 => ?_) | refine r_if_ne rfl (fun c2 => ?_) (fun c2 => ?_) | refine r_ic_ge rfl (fun c2 => ?_) (fun c2 => ?_) | refine r_ic_eq rfl (fun c2 => ?_) (fun c2 => ?_) | refine r_ic_ne rfl (fun c2 => ?_) (fun c2 => ?_) | refine r_ic_le rfl (fun c2 => ?_) (fun c2 => ?_) | refine r_ic_lt rfl (fun c2 => ?_) (fun c2 => ?_) | refine r_if_lt rfl (fun c2 => ?_) (fun c2 => ?_) | refine r_ic_gt rfl (fun c2 => ?_) (fun c2 => ?_) | refine r_if_le rfl (fun c2 => ?_) (fun c2 => ?_) | refine r_if_ge rfl (fun c2 => ?_) (fun c2 => ?_) | refine r_if_gt rfl (fun c2 => ?_) (fun c2 => ?_)
      · exfalso; omega
      repeat (first | refine r_al rfl rfl ?_ | refine r_il rfl rfl ?_ | refine r_pu rfl ?_ | refine r_getM rfl (by (repeat (refine hp_pt_of (by first | decide | omega) ?_)); first | assumption | exact hp_pt_same _ _ _) rfl (by first | assumption | ((repeat (refine (va_up_ne _ _ (by decide)).trans ?_)); first | assumption | exact va_up_self _ _ _ | rfl)) ?_ | refine r_getf rfl (by (repeat (refine hp_pt_of (by first | decide | omega) ?_)); first | assumption | exact hp_pt_same _ _ _) rfl ?_ | refine r_i2 rfl (by first | (with_reducible refine f_add_eq ?_ ?_) <;> omega | (with_reducible refine f_sub_eq ?_ ?_) <;> omega | (with_reducible refine f_mul_eq ?_ ?_) <;> omega | fail) ?_ | refine r_ist rfl rfl rfl (by dsimp only [sto] <;> rfl) ?_ | refine r_iinc rfl rfl rfl (by omega) (by omega) rfl rfl (by dsimp only [sto] <;> rfl) ?_ | refine r_go rfl ?_ | refine r_ald _ rfl (by (repeat (refine hp_pt_of (by first | decide | omega) ?_)); first | assumption | exact hp_pt_same _ _ _) rfl (by omega) ?_ | refine r_putM rfl (by (repeat (refine hp_pt_of (by first | decide | omega) ?_)); first | assumption | exact hp_pt_same _ _ _) rfl rfl ?_ | refine r_putI rfl (by (repeat (refine hp_pt_of (by first | decide | omega) ?_)); first | assumption | exact hp_pt_same _ _ _) rfl rfl ?_ | refine r_ast0 _ rfl (by (repeat (refine hp_pt_of (by first | decide | omega) ?_)); first | assumption | exact hp_pt_same _ _ _) rfl (by omega) ?_ | refine r_i1 rfl (by first | (with_reducible refine f_neg_eq ?_ ?_) <;> omega | fail) ?_ | refine r_alen rfl (by (repeat (refine hp_pt_of (by first | decide | omega) ?_)); first | assumption | exact hp_pt_same _ _ _) ?_ | refine r_putR rfl (by (repeat (refine hp_pt_of (by first | decide | omega) ?_)); first | assumption | exact hp_pt_same _ _ _) rfl rfl ?_ | refine r_fn rfl rfl ?_)
      first | refine r_cl rfl rfl rfl rfl rfl ?_ | refine r_cv rfl rfl rfl rfl rfl (by (repeat (refine hp_pt_of (by first | decide | omega) ?_)); first | assumption | exact hp_pt_same _ _ _) ?_
      have hPc := hP (64 * (f0 + k) + h) (by omega)
      refine m_strikesNow h56 h63 h64 (by omega) hh (fun c3 => ?_) (fun c3 => ?_)
      · repeat (first | refine r_al rfl rfl ?_ | refine r_il rfl rfl ?_ | refine r_pu rfl ?_ | refine r_getM rfl (by (repeat (refine hp_pt_of (by first | decide | omega) ?_)); first | assumption | exact hp_pt_same _ _ _) rfl (by first | assumption | ((repeat (refine (va_up_ne _ _ (by decide)).trans ?_)); first | assumption | exact va_up_self _ _ _ | rfl)) ?_ | refine r_getf rfl (by (repeat (refine hp_pt_of (by first | decide | omega) ?_)); first | assumption | exact hp_pt_same _ _ _) rfl ?_ | refine r_i2 rfl (by first | (with_reducible refine f_add_eq ?_ ?_) <;> omega | (with_reducible refine f_sub_eq ?_ ?_) <;> omega | (with_reducible refine f_mul_eq ?_ ?_) <;> omega | fail) ?_ | refine r_ist rfl rfl rfl (by dsimp only [sto] <;> rfl) ?_ | refine r_iinc rfl rfl rfl (by omega) (by omega) rfl rfl (by dsimp only [sto] <;> rfl) ?_ | refine r_go rfl ?_ | refine r_ald _ rfl (by (repeat (refine hp_pt_of (by first | decide | omega) ?_)); first | assumption | exact hp_pt_same _ _ _) rfl (by omega) ?_ | refine r_putM rfl (by (repeat (refine hp_pt_of (by first | decide | omega) ?_)); first | assumption | exact hp_pt_same _ _ _) rfl rfl ?_ | refine r_putI rfl (by (repeat (refine hp_pt_of (by first | decide | omega) ?_)); first | assumption | exact hp_pt_same _ _ _) rfl rfl ?_ | refine r_ast0 _ rfl (by (repeat (refine hp_pt_of (by first | decide | omega) ?_)); first | assumption | exact hp_pt_same _ _ _) rfl (by omega) ?_ | refine r_i1 rfl (by first | (with_reducible refine f_neg_eq ?_ ?_) <;> omega | fail) ?_ | refine r_alen rfl (by (repeat (refine hp_pt_of (by first | decide | omega) ?_)); first | assumption | exact hp_pt_same _ _ _) ?_ | refine r_putR rfl (by (repeat (refine hp_pt_of (by first | decide | omega) ?_)); first | assumption | exact hp_pt_same _ _ _) rfl rfl ?_ | refine r_fn rfl rfl ?_)
        refine r_zret rfl (by first | exact Or.inl rfl | exact Or.inr rfl | assumption | omega) ?_
        refine kt ?_
        rw [List.any_eq_true]
        refine ⟨k, List.mem_range.mpr (by omega), decide_eq_true ?_⟩
        omega
      · repeat ((fail_if_success (show MR _ _ _ _ 16 _ _ _)); (first | refine r_al rfl rfl ?_ | refine r_il rfl rfl ?_ | refine r_pu rfl ?_ | refine r_getM rfl (by (repeat (refine hp_pt_of (by first | decide | omega) ?_)); first | assumption | exact hp_pt_same _ _ _) rfl (by first | assumption | ((repeat (refine (va_up_ne _ _ (by decide)).trans ?_)); first | assumption | exact va_up_self _ _ _ | rfl)) ?_ | refine r_getf rfl (by (repeat (refine hp_pt_of (by first | decide | omega) ?_)); first | assumption | exact hp_pt_same _ _ _) rfl ?_ | refine r_i2 rfl (by first | (with_reducible refine f_add_eq ?_ ?_) <;> omega | (with_reducible refine f_sub_eq ?_ ?_) <;> omega | (with_reducible refine f_mul_eq ?_ ?_) <;> omega | fail) ?_ | refine r_ist rfl rfl rfl (by dsimp only [sto] <;> rfl) ?_ | refine r_iinc rfl rfl rfl (by omega) (by omega) rfl rfl (by dsimp only [sto] <;> rfl) ?_ | refine r_go rfl ?_ | refine r_ald _ rfl (by (repeat (refine hp_pt_of (by first | decide | omega) ?_)); first | assumption | exact hp_pt_same _ _ _) rfl (by omega) ?_ | refine r_putM rfl (by (repeat (refine hp_pt_of (by first | decide | omega) ?_)); first | assumption | exact hp_pt_same _ _ _) rfl rfl ?_ | refine r_putI rfl (by (repeat (refine hp_pt_of (by first | decide | omega) ?_)); first | assumption | exact hp_pt_same _ _ _) rfl rfl ?_ | refine r_ast0 _ rfl (by (repeat (refine hp_pt_of (by first | decide | omega) ?_)); first | assumption | exact hp_pt_same _ _ _) rfl (by omega) ?_ | refine r_i1 rfl (by first | (with_reducible refine f_neg_eq ?_ ?_) <;> omega | fail) ?_ | refine r_alen rfl (by (repeat (refine hp_pt_of (by first | decide | omega) ?_)); first | assumption | exact hp_pt_same _ _ _) ?_ | refine r_putR rfl (by (repeat (refine hp_pt_of (by first | decide | omega) ?_)); first | assumption | exact hp_pt_same _ _ _) rfl rfl ?_ | refine r_fn rfl rfl ?_))
        refine ih (k + 1) (by omega) (fun j hj => ?_)
        by_cases e : j = k
        · subst e; omega
        · exact hz j (by omega)
  exact key m0 0 (by omega) (fun j hj => by omega)
set_option maxHeartbeats 4000000 in
set_option maxRecDepth 100000 in
theorem m_heardIn {d : Nat} {w : Wd} {I : Nat → Int} {A : Nat → Nat → Int} {M : Nat → Int} {h nb nt : Nat} {Q : Option MV → Wd → Prop} (hS : MS w I A) (hP : PR (A 63) (A 64) M) (hh : h < 64) (hnb : I 0 = nb) (hB : BOK (A 57) (A 58) (A 59) (A 60) nb nt) (k : Q (some (vi (cn (hrd M (A 62) (A 60) (A 59) (I 5) h) nb 0))) w) : CallD pgm (d + 3) 94 [vr 56, vi (h : Int)] w Q := by
  have h56 := MSg56 hS
  refine cd_in rfl rfl (by simp only [ini, slo, List.length_cons, List.length_nil, Nat.reduceAdd, Nat.reduceSub, List.replicate, List.cons_append, List.nil_append]; exact rfl) ?_
  repeat ((fail_if_success (show MR _ _ _ _ 4 _ _ _)); (first | refine r_al rfl rfl ?_ | refine r_il rfl rfl ?_ | refine r_pu rfl ?_ | refine r_getM rfl (by (repeat (refine hp_pt_of (by first | decide | omega) ?_)); first | assumption | exact hp_pt_same _ _ _) rfl (by first | assumption | ((repeat (refine (va_up_ne _ _ (by decide)).trans ?_)); first | assumption | exact va_up_self _ _ _ | rfl)) ?_ | refine r_getf rfl (by (repeat (refine hp_pt_of (by first | decide | omega) ?_)); first | assumption | exact hp_pt_same _ _ _) rfl ?_ | refine r_i2 rfl (by first | (with_reducible refine f_add_eq ?_ ?_) <;> omega | (with_reducible refine f_sub_eq ?_ ?_) <;> omega | (with_reducible refine f_mul_eq ?_ ?_) <;> omega | fail) ?_ | refine r_ist rfl rfl rfl (by dsimp only [sto] <;> rfl) ?_ | refine r_iinc rfl rfl rfl (by omega) (by omega) rfl rfl (by dsimp only [sto] <;> rfl) ?_ | refine r_go rfl ?_ | refine r_ald _ rfl (by (repeat (refine hp_pt_of (by first | decide | omega) ?_)); first | assumption | exact hp_pt_same _ _ _) rfl (by omega) ?_ | refine r_putM rfl (by (repeat (refine hp_pt_of (by first | decide | omega) ?_)); first | assumption | exact hp_pt_same _ _ _) rfl rfl ?_ | refine r_putI rfl (by (repeat (refine hp_pt_of (by first | decide | omega) ?_)); first | assumption | exact hp_pt_same _ _ _) rfl rfl ?_ | refine r_ast0 _ rfl (by (repeat (refine hp_pt_of (by first | decide | omega) ?_)); first | assumption | exact hp_pt_same _ _ _) rfl (by omega) ?_ | refine r_i1 rfl (by first | (with_reducible refine f_neg_eq ?_ ?_) <;> omega | fail) ?_ | refine r_alen rfl (by (repeat (refine hp_pt_of (by first | decide | omega) ?_)); first | assumption | exact hp_pt_same _ _ _) ?_ | refine r_putR rfl (by (repeat (refine hp_pt_of (by first | decide | omega) ?_)); first | assumption | exact hp_pt_same _ _ _) rfl rfl ?_ | refine r_fn rfl rfl ?_))
  have key : ∀ (m b : Nat) (s : Int), b + m = nb → 0 ≤ s → s ≤ b → s + cn (hrd M (A 62) (A 60) (A 59) (I 5) h) m b = cn (hrd M (A 62) (A 60) (A 59) (I 5) h) nb 0 → MR pgm (d + 2) k_X7_heardIn Q 4 [some (vr 56), some (vi (h : Int)), some (vi s), some (vi (b : Int))] [] w := by
    intro m
    induction m with
    | zero =>
      intro b s hb h1 h2 hs
      repeat (first | refine r_al rfl rfl ?_ | refine r_il rfl rfl ?_ | refine r_pu rfl ?_ | refine r_getM rfl (by (repeat (refine hp_pt_of (by first | decide | omega) ?_)); first | assumption | exact hp_pt_same _ _ _) rfl (by first | assumption | ((repeat (refine (va_up_ne _ _ (by decide)).trans ?_)); first | assumption | exact va_up_self _ _ _ | rfl)) ?_ | refine r_getf rfl (by (repeat (refine hp_pt_of (by first | decide | omega) ?_)); first | assumption | exact hp_pt_same _ _ _) rfl ?_ | refine r_i2 rfl (by first | (with_reducible refine f_add_eq ?_ ?_) <;> omega | (with_reducible refine f_sub_eq ?_ ?_) <;> omega | (with_reducible refine f_mul_eq ?_ ?_) <;> omega | fail) ?_ | refine r_ist rfl rfl rfl (by dsimp only [sto] <;> rfl) ?_ | refine r_iinc rfl rfl rfl (by omega) (by omega) rfl rfl (by dsimp only [sto] <;> rfl) ?_ | refine r_go rfl ?_ | refine r_ald _ rfl (by (repeat (refine hp_pt_of (by first | decide | omega) ?_)); first | assumption | exact hp_pt_same _ _ _) rfl (by omega) ?_ | refine r_putM rfl (by (repeat (refine hp_pt_of (by first | decide | omega) ?_)); first | assumption | exact hp_pt_same _ _ _) rfl rfl ?_ | refine r_putI rfl (by (repeat (refine hp_pt_of (by first | decide | omega) ?_)); first | assumption | exact hp_pt_same _ _ _) rfl rfl ?_ | refine r_ast0 _ rfl (by (repeat (refine hp_pt_of (by first | decide | omega) ?_)); first | assumption | exact hp_pt_same _ _ _) rfl (by omega) ?_ | refine r_i1 rfl (by first | (with_reducible refine f_neg_eq ?_ ?_) <;> omega | fail) ?_ | refine r_alen rfl (by (repeat (refine hp_pt_of (by first | decide | omega) ?_)); first | assumption | exact hp_pt_same _ _ _) ?_ | refine r_putR rfl (by (repeat (refine hp_pt_of (by first | decide | omega) ?_)); first | assumption | exact hp_pt_same _ _ _) rfl rfl ?_ | refine r_fn rfl rfl ?_)
      first | refine r_if_eq rfl (fun c1 => ?_) (fun c1 => ?_) | refine r_if_ne rfl (fun c1 => ?_) (fun c1 => ?_) | refine r_ic_ge rfl (fun c1 => ?_) (fun c1 => ?_) | refine r_ic_eq rfl (fun c1 => ?_) (fun c1 => ?_) | refine r_ic_ne rfl (fun c1 => ?_) (fun c1 => ?_) | refine r_ic_le rfl (fun c1 => ?_) (fun c1 => ?_) | refine r_ic_lt rfl (fun c1 => ?_) (fun c1 => ?_) | refine r_if_lt rfl (fun c1 => ?_) (fun c1 => ?_) | refine r_ic_gt rfl (fun c1 => ?_) (fun c1 => ?_) | refine r_if_le rfl (fun c1 => ?_) (fun c1 => ?_) | refine r_if_ge rfl (fun c1 => ?_) (fun c1 => ?_) | refine r_if_gt rfl (fun c1 => ?_) (fun c1 => ?_)
      · repeat (first | refine r_al rfl rfl ?_ | refine r_il rfl rfl ?_ | refine r_pu rfl ?_ | refine r_getM rfl (by (repeat (refine hp_pt_of (by first | decide | omega) ?_)); first | assumption | exact hp_pt_same _ _ _) rfl (by first | assumption | ((repeat (refine (va_up_ne _ _ (by decide)).trans ?_)); first | assumption | exact va_up_self _ _ _ | rfl)) ?_ | refine r_getf rfl (by (repeat (refine hp_pt_of (by first | decide | omega) ?_)); first | assumption | exact hp_pt_same _ _ _) rfl ?_ | refine r_i2 rfl (by first | (with_reducible refine f_add_eq ?_ ?_) <;> omega | (with_reducible refine f_sub_eq ?_ ?_) <;> omega | (with_reducible refine f_mul_eq ?_ ?_) <;> omega | fail) ?_ | refine r_ist rfl rfl rfl (by dsimp only [sto] <;> rfl) ?_ | refine r_iinc rfl rfl rfl (by omega) (by omega) rfl rfl (by dsimp only [sto] <;> rfl) ?_ | refine r_go rfl ?_ | refine r_ald _ rfl (by (repeat (refine hp_pt_of (by first | decide | omega) ?_)); first | assumption | exact hp_pt_same _ _ _) rfl (by omega) ?_ | refine r_putM rfl (by (repeat (refine hp_pt_of (by first | decide | omega) ?_)); first | assumption | exact hp_pt_same _ _ _) rfl rfl ?_ | refine r_putI rfl (by (repeat (refine hp_pt_of (by first | decide | omega) ?_)); first | assumption | exact hp_pt_same _ _ _) rfl rfl ?_ | refine r_ast0 _ rfl (by (repeat (refine hp_pt_of (by first | decide | omega) ?_)); first | assumption | exact hp_pt_same _ _ _) rfl (by omega) ?_ | refine r_i1 rfl (by first | (with_reducible refine f_neg_eq ?_ ?_) <;> omega | fail) ?_ | refine r_alen rfl (by (repeat (refine hp_pt_of (by first | decide | omega) ?_)); first | assumption | exact hp_pt_same _ _ _) ?_ | refine r_putR rfl (by (repeat (refine hp_pt_of (by first | decide | omega) ?_)); first | assumption | exact hp_pt_same _ _ _) rfl rfl ?_ | refine r_fn rfl rfl ?_)
        refine r_rt rfl rfl ?_
        rw [← hs] at k
        simpa [cn] using k
      · exfalso; omega
    | succ m ih =>
      intro b s hb h1 h2 hs
      have b3 := hB.2.2 b (by omega)
      have b1 := hB.1
      have b2 := hB.2.1
      rw [cn] at hs
      repeat (first | refine r_al rfl rfl ?_ | refine r_il rfl rfl ?_ | refine r_pu rfl ?_ | refine r_getM rfl (by (repeat (refine hp_pt_of (by first | decide | omega) ?_)); first | assumption | exact hp_pt_same _ _ _) rfl (by first | assumption | ((repeat (refine (va_up_ne _ _ (by decide)).trans ?_)); first | assumption | exact va_up_self _ _ _ | rfl)) ?_ | refine r_getf rfl (by (repeat (refine hp_pt_of (by first | decide | omega) ?_)); first | assumption | exact hp_pt_same _ _ _) rfl ?_ | refine r_i2 rfl (by first | (with_reducible refine f_add_eq ?_ ?_) <;> omega | (with_reducible refine f_sub_eq ?_ ?_) <;> omega | (with_reducible refine f_mul_eq ?_ ?_) <;> omega | fail) ?_ | refine r_ist rfl rfl rfl (by dsimp only [sto] <;> rfl) ?_ | refine r_iinc rfl rfl rfl (by omega) (by omega) rfl rfl (by dsimp only [sto] <;> rfl) ?_ | refine r_go rfl ?_ | refine r_ald _ rfl (by (repeat (refine hp_pt_of (by first | decide | omega) ?_)); first | assumption | exact hp_pt_same _ _ _) rfl (by omega) ?_ | refine r_putM rfl (by (repeat (refine hp_pt_of (by first | decide | omega) ?_)); first | assumption | exact hp_pt_same _ _ _) rfl rfl ?_ | refine r_putI rfl (by (repeat (refine hp_pt_of (by first | decide | omega) ?_)); first | assumption | exact hp_pt_same _ _ _) rfl rfl ?_ | refine r_ast0 _ rfl (by (repeat (refine hp_pt_of (by first | decide | omega) ?_)); first | assumption | exact hp_pt_same _ _ _) rfl (by omega) ?_ | refine r_i1 rfl (by first | (with_reducible refine f_neg_eq ?_ ?_) <;> omega | fail) ?_ | refine r_alen rfl (by (repeat (refine hp_pt_of (by first | decide | omega) ?_)); first | assumption | exact hp_pt_same _ _ _) ?_ | refine r_putR rfl (by (repeat (refine hp_pt_of (by first | decide | omega) ?_)); first | assumption | exact hp_pt_same _ _ _) rfl rfl ?_ | refine r_fn rfl rfl ?_)
      first | refine r_if_eq rfl (fun c1 => ?_) (fun c1 => ?_) | refine r_if_ne rfl (fun c1 => ?_) (fun c1 => ?_) | refine r_ic_ge rfl (fun c1 => ?_) (fun c1 => ?_) | refine r_ic_eq rfl (fun c1 => ?_) (fun c1 => ?_) | refine r_ic_ne rfl (fun c1 => ?_) (fun c1 => ?_) | refine r_ic_le rfl (fun c1 => ?_) (fun c1 => ?_) | refine r_ic_lt rfl (fun c1 => ?_) (fun c1 => ?_) | refine r_if_lt rfl (fun c1 => ?_) (fun c1 => ?_) | refine r_ic_gt rfl (fun c1 => ?_) (fun c1 => ?_) | refine r_if_le rfl (fun c1 => ?_) (fun c1 => ?_) | refine r_if_ge rfl (fun c1 => ?_) (fun c1 => ?_) | refine r_if_gt rfl (fun c1 => ?_) (fun c1 => ?_)
      · exfalso; omega
      repeat (first | refine r_al rfl rfl ?_ | refine r_il rfl rfl ?_ | refine r_pu rfl ?_ | refine r_getM rfl (by (repeat (refine hp_pt_of (by first | decide | omega) ?_)); first | assumption | exact hp_pt_same _ _ _) rfl (by first | assumption | ((repeat (refine (va_up_ne _ _ (by decide)).trans ?_)); first | assumption | exact va_up_self _ _ _ | rfl)) ?_ | refine r_getf rfl (by (repeat (refine hp_pt_of (by first | decide | omega) ?_)); first | assumption | exact hp_pt_same _ _ _) rfl ?_ | refine r_i2 rfl (by first | (with_reducible refine f_add_eq ?_ ?_) <;> omega | (with_reducible refine f_sub_eq ?_ ?_) <;> omega | (with_reducible refine f_mul_eq ?_ ?_) <;> omega | fail) ?_ | refine r_ist rfl rfl rfl (by dsimp only [sto] <;> rfl) ?_ | refine r_iinc rfl rfl rfl (by omega) (by omega) rfl rfl (by dsimp only [sto] <;> rfl) ?_ | refine r_go rfl ?_ | refine r_ald _ rfl (by (repeat (refine hp_pt_of (by first | decide | omega) ?_)); first | assumption | exact hp_pt_same _ _ _) rfl (by omega) ?_ | refine r_putM rfl (by (repeat (refine hp_pt_of (by first | decide | omega) ?_)); first | assumption | exact hp_pt_same _ _ _) rfl rfl ?_ | refine r_putI rfl (by (repeat (refine hp_pt_of (by first | decide | omega) ?_)); first | assumption | exact hp_pt_same _ _ _) rfl rfl ?_ | refine r_ast0 _ rfl (by (repeat (refine hp_pt_of (by first | decide | omega) ?_)); first | assumption | exact hp_pt_same _ _ _) rfl (by omega) ?_ | refine r_i1 rfl (by first | (with_reducible refine f_neg_eq ?_ ?_) <;> omega | fail) ?_ | refine r_alen rfl (by (repeat (refine hp_pt_of (by first | decide | omega) ?_)); first | assumption | exact hp_pt_same _ _ _) ?_ | refine r_putR rfl (by (repeat (refine hp_pt_of (by first | decide | omega) ?_)); first | assumption | exact hp_pt_same _ _ _) rfl rfl ?_ | refine r_fn rfl rfl ?_)
      first | refine r_cl rfl rfl rfl rfl rfl ?_ | refine r_cv rfl rfl rfl rfl rfl (by (repeat (refine hp_pt_of (by first | decide | omega) ?_)); first | assumption | exact hp_pt_same _ _ _) ?_
      refine m_isHeard hS hP (by omega) hh (by omega) (fun c2 => ?_) (fun c2 => ?_)
      · rw [c2, show (if true = true then (1 : Int) else 0) = 1 from rfl] at hs
        repeat ((fail_if_success (show MR _ _ _ _ 4 _ _ _)); (first | refine r_al rfl rfl ?_ | refine r_il rfl rfl ?_ | refine r_pu rfl ?_ | refine r_getM rfl (by (repeat (refine hp_pt_of (by first | decide | omega) ?_)); first | assumption | exact hp_pt_same _ _ _) rfl (by first | assumption | ((repeat (refine (va_up_ne _ _ (by decide)).trans ?_)); first | assumption | exact va_up_self _ _ _ | rfl)) ?_ | refine r_getf rfl (by (repeat (refine hp_pt_of (by first | decide | omega) ?_)); first | assumption | exact hp_pt_same _ _ _) rfl ?_ | refine r_i2 rfl (by first | (with_reducible refine f_add_eq ?_ ?_) <;> omega | (with_reducible refine f_sub_eq ?_ ?_) <;> omega | (with_reducible refine f_mul_eq ?_ ?_) <;> omega | fail) ?_ | refine r_ist rfl rfl rfl (by dsimp only [sto] <;> rfl) ?_ | refine r_iinc rfl rfl rfl (by omega) (by omega) rfl rfl (by dsimp only [sto] <;> rfl) ?_ | refine r_go rfl ?_ | refine r_ald _ rfl (by (repeat (refine hp_pt_of (by first | decide | omega) ?_)); first | assumption | exact hp_pt_same _ _ _) rfl (by omega) ?_ | refine r_putM rfl (by (repeat (refine hp_pt_of (by first | decide | omega) ?_)); first | assumption | exact hp_pt_same _ _ _) rfl rfl ?_ | refine r_putI rfl (by (repeat (refine hp_pt_of (by first | decide | omega) ?_)); first | assumption | exact hp_pt_same _ _ _) rfl rfl ?_ | refine r_ast0 _ rfl (by (repeat (refine hp_pt_of (by first | decide | omega) ?_)); first | assumption | exact hp_pt_same _ _ _) rfl (by omega) ?_ | refine r_i1 rfl (by first | (with_reducible refine f_neg_eq ?_ ?_) <;> omega | fail) ?_ | refine r_alen rfl (by (repeat (refine hp_pt_of (by first | decide | omega) ?_)); first | assumption | exact hp_pt_same _ _ _) ?_ | refine r_putR rfl (by (repeat (refine hp_pt_of (by first | decide | omega) ?_)); first | assumption | exact hp_pt_same _ _ _) rfl rfl ?_ | refine r_fn rfl rfl ?_))
        exact ih (b + 1) _ (by omega) (by omega) (by omega) (by omega)
      · rw [c2, show (if false = true then (1 : Int) else 0) = 0 from rfl] at hs
        repeat ((fail_if_success (show MR _ _ _ _ 4 _ _ _)); (first | refine r_al rfl rfl ?_ | refine r_il rfl rfl ?_ | refine r_pu rfl ?_ | refine r_getM rfl (by (repeat (refine hp_pt_of (by first | decide | omega) ?_)); first | assumption | exact hp_pt_same _ _ _) rfl (by first | assumption | ((repeat (refine (va_up_ne _ _ (by decide)).trans ?_)); first | assumption | exact va_up_self _ _ _ | rfl)) ?_ | refine r_getf rfl (by (repeat (refine hp_pt_of (by first | decide | omega) ?_)); first | assumption | exact hp_pt_same _ _ _) rfl ?_ | refine r_i2 rfl (by first | (with_reducible refine f_add_eq ?_ ?_) <;> omega | (with_reducible refine f_sub_eq ?_ ?_) <;> omega | (with_reducible refine f_mul_eq ?_ ?_) <;> omega | fail) ?_ | refine r_ist rfl rfl rfl (by dsimp only [sto] <;> rfl) ?_ | refine r_iinc rfl rfl rfl (by omega) (by omega) rfl rfl (by dsimp only [sto] <;> rfl) ?_ | refine r_go rfl ?_ | refine r_ald _ rfl (by (repeat (refine hp_pt_of (by first | decide | omega) ?_)); first | assumption | exact hp_pt_same _ _ _) rfl (by omega) ?_ | refine r_putM rfl (by (repeat (refine hp_pt_of (by first | decide | omega) ?_)); first | assumption | exact hp_pt_same _ _ _) rfl rfl ?_ | refine r_putI rfl (by (repeat (refine hp_pt_of (by first | decide | omega) ?_)); first | assumption | exact hp_pt_same _ _ _) rfl rfl ?_ | refine r_ast0 _ rfl (by (repeat (refine hp_pt_of (by first | decide | omega) ?_)); first | assumption | exact hp_pt_same _ _ _) rfl (by omega) ?_ | refine r_i1 rfl (by first | (with_reducible refine f_neg_eq ?_ ?_) <;> omega | fail) ?_ | refine r_alen rfl (by (repeat (refine hp_pt_of (by first | decide | omega) ?_)); first | assumption | exact hp_pt_same _ _ _) ?_ | refine r_putR rfl (by (repeat (refine hp_pt_of (by first | decide | omega) ?_)); first | assumption | exact hp_pt_same _ _ _) rfl rfl ?_ | refine r_fn rfl rfl ?_))
        exact ih (b + 1) _ (by omega) (by omega) (by omega) (by omega)
  exact key nb 0 0 (by omega) (by omega) (by omega) (by omega)
