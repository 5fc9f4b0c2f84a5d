/-! no instruction takes cells away -/
def FM (f : Fn) : Prop := ∀ (L : Lc) (st : List MV) (w : Wd) (x : Rs), f L st w = some x → match x with
  | Sum.inl (_, _, _, w') => w.1 ≤ w'.1 ∧ w.2.1 ≤ w'.2.1
  | Sum.inr (_, w') => w.1 ≤ w'.1 ∧ w.2.1 ≤ w'.2.1
theorem fm_push (v : MV) (nx : Nat) : FM (o_push v nx) := by
  intro L st w x h
  simp only [o_push] at h
  (repeat' (first | cases h | (split at h))) <;> first | exact ⟨Nat.le_refl _, Nat.le_refl _⟩ | exact ⟨Nat.le_succ _, Nat.le_add_right _ _⟩
theorem fm_iload (i nx : Nat) : FM (o_iload i nx) := by
  intro L st w x h
  simp only [o_iload] at h
  (repeat' (first | cases h | (split at h))) <;> first | exact ⟨Nat.le_refl _, Nat.le_refl _⟩ | exact ⟨Nat.le_succ _, Nat.le_add_right _ _⟩
theorem fm_lload (i nx : Nat) : FM (o_lload i nx) := by
  intro L st w x h
  simp only [o_lload] at h
  (repeat' (first | cases h | (split at h))) <;> first | exact ⟨Nat.le_refl _, Nat.le_refl _⟩ | exact ⟨Nat.le_succ _, Nat.le_add_right _ _⟩
theorem fm_aload (i nx : Nat) : FM (o_aload i nx) := by
  intro L st w x h
  simp only [o_aload] at h
  (repeat' (first | cases h | (split at h))) <;> first | exact ⟨Nat.le_refl _, Nat.le_refl _⟩ | exact ⟨Nat.le_succ _, Nat.le_add_right _ _⟩
theorem fm_istore (i nx : Nat) : FM (o_istore i nx) := by
  intro L st w x h
  simp only [o_istore] at h
  (repeat' (first | cases h | (split at h))) <;> first | exact ⟨Nat.le_refl _, Nat.le_refl _⟩ | exact ⟨Nat.le_succ _, Nat.le_add_right _ _⟩
theorem fm_astore (i nx : Nat) : FM (o_astore i nx) := by
  intro L st w x h
  simp only [o_astore] at h
  (repeat' (first | cases h | (split at h))) <;> first | exact ⟨Nat.le_refl _, Nat.le_refl _⟩ | exact ⟨Nat.le_succ _, Nat.le_add_right _ _⟩
theorem fm_lstore (i nx : Nat) : FM (o_lstore i nx) := by
  intro L st w x h
  simp only [o_lstore] at h
  (repeat' (first | cases h | (split at h))) <;> first | exact ⟨Nat.le_refl _, Nat.le_refl _⟩ | exact ⟨Nat.le_succ _, Nat.le_add_right _ _⟩
theorem fm_iinc (i : Nat) (k : Int) (nx : Nat) : FM (o_iinc i k nx) := by
  intro L st w x h
  simp only [o_iinc] at h
  (repeat' (first | cases h | (split at h))) <;> first | exact ⟨Nat.le_refl _, Nat.le_refl _⟩ | exact ⟨Nat.le_succ _, Nat.le_add_right _ _⟩
theorem fm_i2 (f : Int → Int → Int) (nx : Nat) : FM (o_i2 f nx) := by
  intro L st w x h
  simp only [o_i2] at h
  (repeat' (first | cases h | (split at h))) <;> first | exact ⟨Nat.le_refl _, Nat.le_refl _⟩ | exact ⟨Nat.le_succ _, Nat.le_add_right _ _⟩
theorem fm_dv (f : Int → Int → Int) (nx : Nat) : FM (o_dv f nx) := by
  intro L st w x h
  simp only [o_dv] at h
  (repeat' (first | cases h | (split at h))) <;> first | exact ⟨Nat.le_refl _, Nat.le_refl _⟩ | exact ⟨Nat.le_succ _, Nat.le_add_right _ _⟩
theorem fm_i1 (f : Int → Int) (nx : Nat) : FM (o_i1 f nx) := by
  intro L st w x h
  simp only [o_i1] at h
  (repeat' (first | cases h | (split at h))) <;> first | exact ⟨Nat.le_refl _, Nat.le_refl _⟩ | exact ⟨Nat.le_succ _, Nat.le_add_right _ _⟩
theorem fm_l2 (f : Int → Int → Int) (nx : Nat) : FM (o_l2 f nx) := by
  intro L st w x h
  simp only [o_l2] at h
  (repeat' (first | cases h | (split at h))) <;> first | exact ⟨Nat.le_refl _, Nat.le_refl _⟩ | exact ⟨Nat.le_succ _, Nat.le_add_right _ _⟩
theorem fm_lsh (f : Int → Int → Int) (nx : Nat) : FM (o_lsh f nx) := by
  intro L st w x h
  simp only [o_lsh] at h
  (repeat' (first | cases h | (split at h))) <;> first | exact ⟨Nat.le_refl _, Nat.le_refl _⟩ | exact ⟨Nat.le_succ _, Nat.le_add_right _ _⟩
theorem fm_lcmp (nx : Nat) : FM (o_lcmp nx) := by
  intro L st w x h
  simp only [o_lcmp] at h
  (repeat' (first | cases h | (split at h))) <;> first | exact ⟨Nat.le_refl _, Nat.le_refl _⟩ | exact ⟨Nat.le_succ _, Nat.le_add_right _ _⟩
theorem fm_dup (nx : Nat) : FM (o_dup nx) := by
  intro L st w x h
  simp only [o_dup] at h
  (repeat' (first | cases h | (split at h))) <;> first | exact ⟨Nat.le_refl _, Nat.le_refl _⟩ | exact ⟨Nat.le_succ _, Nat.le_add_right _ _⟩
theorem fm_dup2 (nx : Nat) : FM (o_dup2 nx) := by
  intro L st w x h
  simp only [o_dup2] at h
  (repeat' (first | cases h | (split at h))) <;> first | exact ⟨Nat.le_refl _, Nat.le_refl _⟩ | exact ⟨Nat.le_succ _, Nat.le_add_right _ _⟩
theorem fm_pop (nx : Nat) : FM (o_pop nx) := by
  intro L st w x h
  simp only [o_pop] at h
  (repeat' (first | cases h | (split at h))) <;> first | exact ⟨Nat.le_refl _, Nat.le_refl _⟩ | exact ⟨Nat.le_succ _, Nat.le_add_right _ _⟩
theorem fm_goto (nx : Nat) : FM (o_goto nx) := by
  intro L st w x h
  simp only [o_goto] at h
  (repeat' (first | cases h | (split at h))) <;> first | exact ⟨Nat.le_refl _, Nat.le_refl _⟩ | exact ⟨Nat.le_succ _, Nat.le_add_right _ _⟩
theorem fm_if (k tgt nx : Nat) : FM (o_if k tgt nx) := by
  intro L st w x h
  simp only [o_if, cond_eq_ite] at h
  (repeat' (first | cases h | (split at h))) <;> first | exact ⟨Nat.le_refl _, Nat.le_refl _⟩ | exact ⟨Nat.le_succ _, Nat.le_add_right _ _⟩
theorem fm_ic (k tgt nx : Nat) : FM (o_ic k tgt nx) := by
  intro L st w x h
  simp only [o_ic, cond_eq_ite] at h
  (repeat' (first | cases h | (split at h))) <;> first | exact ⟨Nat.le_refl _, Nat.le_refl _⟩ | exact ⟨Nat.le_succ _, Nat.le_add_right _ _⟩
theorem fm_tsw (lo : Int) (ts : List Nat) (df : Nat) : FM (o_tsw lo ts df) := by
  intro L st w x h
  simp only [o_tsw] at h
  (repeat' (first | cases h | (split at h))) <;> first | exact ⟨Nat.le_refl _, Nat.le_refl _⟩ | exact ⟨Nat.le_succ _, Nat.le_add_right _ _⟩
theorem fm_getf (ci k nx : Nat) : FM (o_getf ci k nx) := by
  intro L st w x h
  simp only [o_getf] at h
  (repeat' (first | cases h | (split at h))) <;> first | exact ⟨Nat.le_refl _, Nat.le_refl _⟩ | exact ⟨Nat.le_succ _, Nat.le_add_right _ _⟩
theorem fm_putI (ci k nx : Nat) : FM (o_putI ci k nx) := by
  intro L st w x h
  simp only [o_putI] at h
  (repeat' (first | cases h | (split at h))) <;> first | exact ⟨Nat.le_refl _, Nat.le_refl _⟩ | exact ⟨Nat.le_succ _, Nat.le_add_right _ _⟩
theorem fm_putR (ci k nx : Nat) : FM (o_putR ci k nx) := by
  intro L st w x h
  simp only [o_putR] at h
  (repeat' (first | cases h | (split at h))) <;> first | exact ⟨Nat.le_refl _, Nat.le_refl _⟩ | exact ⟨Nat.le_succ _, Nat.le_add_right _ _⟩
theorem fm_ald (t nx : Nat) : FM (o_ald t nx) := by
  intro L st w x h
  simp only [o_ald] at h
  (repeat' (first | cases h | (split at h))) <;> first | exact ⟨Nat.le_refl _, Nat.le_refl _⟩ | exact ⟨Nat.le_succ _, Nat.le_add_right _ _⟩
theorem fm_ast (t nx : Nat) : FM (o_ast t nx) := by
  intro L st w x h
  simp only [o_ast] at h
  (repeat' (first | cases h | (split at h))) <;> first | exact ⟨Nat.le_refl _, Nat.le_refl _⟩ | exact ⟨Nat.le_succ _, Nat.le_add_right _ _⟩
theorem fm_aald (nx : Nat) : FM (o_aald nx) := by
  intro L st w x h
  simp only [o_aald] at h
  (repeat' (first | cases h | (split at h))) <;> first | exact ⟨Nat.le_refl _, Nat.le_refl _⟩ | exact ⟨Nat.le_succ _, Nat.le_add_right _ _⟩
theorem fm_aast (nx : Nat) : FM (o_aast nx) := by
  intro L st w x h
  simp only [o_aast] at h
  (repeat' (first | cases h | (split at h))) <;> first | exact ⟨Nat.le_refl _, Nat.le_refl _⟩ | exact ⟨Nat.le_succ _, Nat.le_add_right _ _⟩
theorem fm_alen (nx : Nat) : FM (o_alen nx) := by
  intro L st w x h
  simp only [o_alen] at h
  (repeat' (first | cases h | (split at h))) <;> first | exact ⟨Nat.le_refl _, Nat.le_refl _⟩ | exact ⟨Nat.le_succ _, Nat.le_add_right _ _⟩
theorem fm_kald (kk n : Nat) (f : Nat → Int) (nx : Nat) : FM (o_kald kk n f nx) := by
  intro L st w x h
  simp only [o_kald] at h
  (repeat' (first | cases h | (split at h))) <;> first | exact ⟨Nat.le_refl _, Nat.le_refl _⟩ | exact ⟨Nat.le_succ _, Nat.le_add_right _ _⟩
theorem fm_chr (kk n : Nat) (f : Nat → Int) (nx : Nat) : FM (o_chr kk n f nx) := by
  intro L st w x h
  simp only [o_chr] at h
  (repeat' (first | cases h | (split at h))) <;> first | exact ⟨Nat.le_refl _, Nat.le_refl _⟩ | exact ⟨Nat.le_succ _, Nat.le_add_right _ _⟩
theorem fm_klen (kk n nx : Nat) : FM (o_klen kk n nx) := by
  intro L st w x h
  simp only [o_klen] at h
  (repeat' (first | cases h | (split at h))) <;> first | exact ⟨Nat.le_refl _, Nat.le_refl _⟩ | exact ⟨Nat.le_succ _, Nat.le_add_right _ _⟩
theorem fm_new (ci : Nat) (fs : List MV) (nx : Nat) : FM (o_new ci fs nx) := by
  intro L st w x h
  simp only [o_new] at h
  (repeat' (first | cases h | (split at h))) <;> first | exact ⟨Nat.le_refl _, Nat.le_refl _⟩ | exact ⟨Nat.le_succ _, Nat.le_add_right _ _⟩
theorem fm_newa (t nx : Nat) : FM (o_newa t nx) := by
  intro L st w x h
  simp only [o_newa] at h
  (repeat' (first | cases h | (split at h))) <;> first | exact ⟨Nat.le_refl _, Nat.le_refl _⟩ | exact ⟨Nat.le_succ _, Nat.le_add_right _ _⟩
theorem fm_newq (nx : Nat) : FM (o_newq nx) := by
  intro L st w x h
  simp only [o_newq] at h
  (repeat' (first | cases h | (split at h))) <;> first | exact ⟨Nat.le_refl _, Nat.le_refl _⟩ | exact ⟨Nat.le_succ _, Nat.le_add_right _ _⟩
theorem fm_oinit (nx : Nat) : FM (o_oinit nx) := by
  intro L st w x h
  simp only [o_oinit] at h
  (repeat' (first | cases h | (split at h))) <;> first | exact ⟨Nat.le_refl _, Nat.le_refl _⟩ | exact ⟨Nat.le_succ _, Nat.le_add_right _ _⟩
theorem fm_mth (f : Int → Int → Int) (nx : Nat) : FM (o_mth f nx) := by
  intro L st w x h
  simp only [o_mth] at h
  (repeat' (first | cases h | (split at h))) <;> first | exact ⟨Nat.le_refl _, Nat.le_refl _⟩ | exact ⟨Nat.le_succ _, Nat.le_add_right _ _⟩
theorem fm_iret  : FM (o_iret ) := by
  intro L st w x h
  simp only [o_iret] at h
  (repeat' (first | cases h | (split at h))) <;> first | exact ⟨Nat.le_refl _, Nat.le_refl _⟩ | exact ⟨Nat.le_succ _, Nat.le_add_right _ _⟩
theorem fm_zret  : FM (o_zret ) := by
  intro L st w x h
  simp only [o_zret] at h
  (repeat' (first | cases h | (split at h))) <;> first | exact ⟨Nat.le_refl _, Nat.le_refl _⟩ | exact ⟨Nat.le_succ _, Nat.le_add_right _ _⟩
theorem fm_lret  : FM (o_lret ) := by
  intro L st w x h
  simp only [o_lret] at h
  (repeat' (first | cases h | (split at h))) <;> first | exact ⟨Nat.le_refl _, Nat.le_refl _⟩ | exact ⟨Nat.le_succ _, Nat.le_add_right _ _⟩
theorem fm_vret  : FM (o_vret ) := by
  intro L st w x h
  simp only [o_vret] at h
  (repeat' (first | cases h | (split at h))) <;> first | exact ⟨Nat.le_refl _, Nat.le_refl _⟩ | exact ⟨Nat.le_succ _, Nat.le_add_right _ _⟩
