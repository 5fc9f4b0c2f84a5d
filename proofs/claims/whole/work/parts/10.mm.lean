/-! THE MINI MACHINE: values are Ints and places in a small heap; a method's code is a table of functions; MX is the least predicate closed under its steps -/
abbrev MV : Type := Int ⊕ (Int ⊕ (Option Nat ⊕ Nat))
abbrev vi (z : Int) : MV := Sum.inl z
abbrev vl (z : Int) : MV := Sum.inr (Sum.inl z)
abbrev vq (r : Option Nat) : MV := Sum.inr (Sum.inr (Sum.inl r))
abbrev vr (a : Nat) : MV := Sum.inr (Sum.inr (Sum.inl (some a)))
abbrev vn : MV := Sum.inr (Sum.inr (Sum.inl none))
abbrev vc (k : Nat) : MV := Sum.inr (Sum.inr (Sum.inr k))
/-- a cell: a row of ints (kind 0 int, 1 byte, 2 boolean), a row of references, an object -/
abbrev MC : Type := (Nat × Nat × (Nat → Int)) ⊕ ((Nat × (Nat → Option Nat)) ⊕ (Nat × List MV))
abbrev ca (t n : Nat) (f : Nat → Int) : MC := Sum.inl (t, n, f)
abbrev cq (n : Nat) (f : Nat → Option Nat) : MC := Sum.inr (Sum.inl (n, f))
abbrev co (ci : Nat) (fs : List MV) : MC := Sum.inr (Sum.inr (ci, fs))
/-- a world: how many cells, how many slots were made, the cells -/
abbrev Wd : Type := Nat × Nat × (Nat → MC)
def hp (w : Wd) (a : Nat) : MC := w.2.2 a
def pt (w : Wd) (a : Nat) (c : MC) : Wd := (w.1, w.2.1, va_up w.2.2 a c)
def nw (w : Wd) (k : Nat) (c : MC) : Wd := (w.1 + 1, w.2.1 + k, va_up w.2.2 w.1 c)
theorem hp_pt_same (w : Wd) (a : Nat) (c : MC) : hp (pt w a c) a = c := by simp [hp, pt, va_up]
theorem hp_pt_ne {w : Wd} {a b : Nat} {c : MC} (h : b ≠ a) : hp (pt w a c) b = hp w b := by simp [hp, pt, va_up, h]
theorem hp_pt_of {w : Wd} {a b : Nat} {c x : MC} (h : b ≠ a) (hx : hp w b = x) : hp (pt w a c) b = x := by rw [hp_pt_ne h, hx]
theorem pt_pt (w : Wd) (a : Nat) (c e : MC) : pt (pt w a c) a e = pt w a e := by
  simp only [pt, Prod.mk.injEq, true_and]
  funext q
  simp only [va_up]
  split <;> rfl
theorem pt_self {w : Wd} {a : Nat} {c : MC} (h : hp w a = c) : pt w a c = w := by
  obtain ⟨n, s, f⟩ := w
  simp only [pt, Prod.mk.injEq, true_and]
  funext q
  simp only [va_up]
  split
  · next e => rw [e, ← h]; rfl
  · rfl
theorem hp_nw_same (w : Wd) (k : Nat) (c : MC) : hp (nw w k c) w.1 = c := by simp [hp, nw, va_up]
theorem hp_nw_ne {w : Wd} {k b : Nat} {c : MC} (h : b ≠ w.1) : hp (nw w k c) b = hp w b := by simp [hp, nw, va_up, h]
def bm (z : Int) : Int := Int.bmod z 4294967296
theorem bm_eq {z : Int} (h1 : -2147483648 ≤ z) (h2 : z < 2147483648) : bm z = z := by
  unfold bm
  rw [Int.bmod_def]
  split <;> omega
theorem bm_in (z : Int) : -2147483648 ≤ bm z ∧ bm z < 2147483648 := by
  unfold bm
  constructor
  · have := Int.le_bmod (x := z) (m := 4294967296) (by decide); omega
  · have := Int.bmod_lt (x := z) (m := 4294967296) (by decide); omega
abbrev Lc : Type := List (Option MV)
def lk : Lc → Nat → Option MV
  | [], _ => none
  | x :: _, 0 => x
  | _ :: r, i + 1 => lk r i
def sto : Lc → Nat → MV → Lc
  | [], _, _ => []
  | _ :: r, 0, v => some v :: r
  | x :: r, i + 1, v => x :: sto r i v
def sto2 : Lc → Nat → MV → Lc
  | _ :: _ :: r, 0, v => some v :: none :: r
  | x :: r, i + 1, v => x :: sto2 r i v
  | l, _, _ => l
/-- the place just ahead of i holds no long -/
def nol : Lc → Nat → Bool
  | _, 0 => true
  | L, i + 1 => match lk L i with
    | some (Sum.inr (Sum.inl _)) => false
    | _ => true
abbrev Rs : Type := (Nat × Lc × List MV × Wd) ⊕ (Option MV × Wd)
abbrev Fn : Type := Lc → List MV → Wd → Option Rs
/-- a function, or a call: method, how many arguments, the next pc, 0 or 1 + the receiver's kind -/
abbrev MOp : Type := Fn ⊕ (Nat × Nat × Nat × Nat)
abbrev go (nx : Nat) (L : Lc) (st : List MV) (w : Wd) : Option Rs := some (Sum.inl (nx, L, st, w))
/-! the instructions -/
def o_push (v : MV) (nx : Nat) : Fn := fun L st w => go nx L (v :: st) w
def o_iload (i nx : Nat) : Fn := fun L st w => match lk L i with
  | some (Sum.inl z) => go nx L (vi z :: st) w
  | _ => none
def o_lload (i nx : Nat) : Fn := fun L st w => match lk L i with
  | some (Sum.inr (Sum.inl z)) => go nx L (vl z :: st) w
  | _ => none
def o_aload (i nx : Nat) : Fn := fun L st w => match lk L i with
  | some (Sum.inr (Sum.inr v)) => go nx L (Sum.inr (Sum.inr v) :: st) w
  | _ => none
def o_istore (i nx : Nat) : Fn := fun L st w => match st with
  | Sum.inl z :: r => if i < L.length ∧ nol L i = true then go nx (sto L i (vi z)) r w else none
  | _ => none
def o_astore (i nx : Nat) : Fn := fun L st w => match st with
  | Sum.inr (Sum.inr v) :: r => if i < L.length ∧ nol L i = true then go nx (sto L i (Sum.inr (Sum.inr v))) r w else none
  | _ => none
def o_lstore (i nx : Nat) : Fn := fun L st w => match st with
  | Sum.inr (Sum.inl z) :: r => if i + 1 < L.length ∧ nol L i = true then go nx (sto2 L i (vl z)) r w else none
  | _ => none
def o_iinc (i : Nat) (k : Int) (nx : Nat) : Fn := fun L st w => match lk L i with
  | some (Sum.inl z) => if i < L.length ∧ nol L i = true then go nx (sto L i (vi (bm (z + k)))) st w else none
  | _ => none
def o_i2 (f : Int → Int → Int) (nx : Nat) : Fn := fun L st w => match st with
  | Sum.inl y :: Sum.inl x :: r => go nx L (vi (f x y) :: r) w
  | _ => none
def o_dv (f : Int → Int → Int) (nx : Nat) : Fn := fun L st w => match st with
  | Sum.inl y :: Sum.inl x :: r => if y = 0 then none else go nx L (vi (f x y) :: r) w
  | _ => none
def o_i1 (f : Int → Int) (nx : Nat) : Fn := fun L st w => match st with
  | Sum.inl x :: r => go nx L (vi (f x) :: r) w
  | _ => none
def o_l2 (f : Int → Int → Int) (nx : Nat) : Fn := fun L st w => match st with
  | Sum.inr (Sum.inl y) :: Sum.inr (Sum.inl x) :: r => go nx L (vl (f x y) :: r) w
  | _ => none
def o_lsh (f : Int → Int → Int) (nx : Nat) : Fn := fun L st w => match st with
  | Sum.inl y :: Sum.inr (Sum.inl x) :: r => go nx L (vl (f x y) :: r) w
  | _ => none
def o_lcmp (nx : Nat) : Fn := fun L st w => match st with
  | Sum.inr (Sum.inl y) :: Sum.inr (Sum.inl x) :: r => go nx L (vi (if y < x then 1 else if x = y then 0 else -1) :: r) w
  | _ => none
def f_add (x y : Int) : Int := bm (x + y)
def f_sub (x y : Int) : Int := bm (x - y)
def f_mul (x y : Int) : Int := bm (x * y)
def f_div (x y : Int) : Int := bm (Int.tdiv x y)
def f_rem (x y : Int) : Int := Int.tmod x y
def f_and (x y : Int) : Int := (Int32.ofInt x &&& Int32.ofInt y).toInt
def f_or (x y : Int) : Int := (Int32.ofInt x ||| Int32.ofInt y).toInt
def f_shl (x y : Int) : Int := (Int32.ofInt x <<< (Int32.ofInt y &&& 31)).toInt
def f_shr (x y : Int) : Int := (Int32.ofInt x >>> (Int32.ofInt y &&& 31)).toInt
def f_max (x y : Int) : Int := if x < y then y else x
def f_min (x y : Int) : Int := if y < x then y else x
def f_neg (x : Int) : Int := bm (-x)
def f_byte (x : Int) : Int := (Int32.ofInt x).toInt8.toInt32.toInt
def f_lor (x y : Int) : Int := (Int64.ofInt x ||| Int64.ofInt y).toInt
def f_land (x y : Int) : Int := (Int64.ofInt x &&& Int64.ofInt y).toInt
def f_lsub (x y : Int) : Int := (Int64.ofInt x - Int64.ofInt y).toInt
def f_lshl (x y : Int) : Int := (Int64.ofInt x <<< ((Int32.ofInt y).toInt64 &&& 63)).toInt
def f_lshr (x y : Int) : Int := (Int64.ofInt x >>> ((Int32.ofInt y).toInt64 &&& 63)).toInt
def o_dup (nx : Nat) : Fn := fun L st w => match st with
  | Sum.inr (Sum.inl _) :: _ => none
  | v :: r => go nx L (v :: v :: r) w
  | _ => none
def o_dup2 (nx : Nat) : Fn := fun L st w => match st with
  | Sum.inl x :: Sum.inr (Sum.inr v) :: r => go nx L (Sum.inl x :: Sum.inr (Sum.inr v) :: Sum.inl x :: Sum.inr (Sum.inr v) :: r) w
  | _ => none
def o_pop (nx : Nat) : Fn := fun L st w => match st with
  | Sum.inl _ :: r => go nx L r w
  | _ => none
def o_goto (nx : Nat) : Fn := fun L st w => go nx L st w
def cz (k : Nat) (x : Int) : Bool := match k with
  | 0 => decide (x = 0)
  | 1 => !decide (x = 0)
  | 2 => decide (x < 0)
  | 3 => !decide (x < 0)
  | 4 => decide (0 < x)
  | _ => !decide (0 < x)
def cc2 (k : Nat) (x y : Int) : Bool := match k with
  | 0 => decide (x = y)
  | 1 => !decide (x = y)
  | 2 => decide (x < y)
  | 3 => !decide (x < y)
  | 4 => decide (y < x)
  | _ => !decide (y < x)
def o_if (k tgt nx : Nat) : Fn := fun L st w => match st with
  | Sum.inl x :: r => bif cz k x then go tgt L r w else go nx L r w
  | _ => none
def o_ic (k tgt nx : Nat) : Fn := fun L st w => match st with
  | Sum.inl y :: Sum.inl x :: r => bif cc2 k x y then go tgt L r w else go nx L r w
  | _ => none
def tswT (lo : Int) (ts : List Nat) (df : Nat) (x : Int) : Option Nat := bif decide (x < lo) then some df else match ts[(x - lo).toNat]? with
  | some t => some t
  | none => some df
def o_tsw (lo : Int) (ts : List Nat) (df : Nat) : Fn := fun L st w => match st with
  | Sum.inl x :: r => match tswT lo ts df x with
    | some t => go t L r w
    | none => none
  | _ => none
def o_getf (ci k nx : Nat) : Fn := fun L st w => match st with
  | Sum.inr (Sum.inr (Sum.inl (some a))) :: r => match hp w a with
    | Sum.inr (Sum.inr (c, fs)) => if c = ci then (match fs[k]? with
      | some v => go nx L (v :: r) w
      | none => none) else none
    | _ => none
  | _ => none
def o_putI (ci k nx : Nat) : Fn := fun L st w => match st with
  | Sum.inl z :: Sum.inr (Sum.inr (Sum.inl (some a))) :: r => match hp w a with
    | Sum.inr (Sum.inr (c, fs)) => if c = ci ∧ k < fs.length then go nx L r (pt w a (co ci (fs.set k (vi z)))) else none
    | _ => none
  | _ => none
def o_putR (ci k nx : Nat) : Fn := fun L st w => match st with
  | Sum.inr (Sum.inr (Sum.inl (some b))) :: Sum.inr (Sum.inr (Sum.inl (some a))) :: r => match hp w a with
    | Sum.inr (Sum.inr (c, fs)) => if c = ci ∧ k < fs.length then go nx L r (pt w a (co ci (fs.set k (vr b)))) else none
    | _ => none
  | _ => none
def o_ald (t nx : Nat) : Fn := fun L st w => match st with
  | Sum.inl i :: Sum.inr (Sum.inr (Sum.inl (some a))) :: r => match hp w a with
    | Sum.inl (t', n, f) => if t' = t ∧ 0 ≤ i ∧ i < n then go nx L (vi (f i.toNat) :: r) w else none
    | _ => none
  | _ => none
/-- what a row of kind t keeps of an int -/
def nar (t : Nat) (x : Int) : Int := match t with
  | 0 => x
  | 1 => f_byte x
  | _ => f_and x 1
def o_ast (t nx : Nat) : Fn := fun L st w => match st with
  | Sum.inl x :: Sum.inl i :: Sum.inr (Sum.inr (Sum.inl (some a))) :: r => match hp w a with
    | Sum.inl (t', n, f) => if t' = t ∧ 0 ≤ i ∧ i < n then go nx L r (pt w a (ca t n (va_up f i.toNat (nar t x)))) else none
    | _ => none
  | _ => none
def o_aald (nx : Nat) : Fn := fun L st w => match st with
  | Sum.inl i :: Sum.inr (Sum.inr (Sum.inl (some a))) :: r => match hp w a with
    | Sum.inr (Sum.inl (n, f)) => if 0 ≤ i ∧ i < n then go nx L (vq (f i.toNat) :: r) w else none
    | _ => none
  | _ => none
def o_aast (nx : Nat) : Fn := fun L st w => match st with
  | Sum.inr (Sum.inr (Sum.inl (some b))) :: Sum.inl i :: Sum.inr (Sum.inr (Sum.inl (some a))) :: r => match hp w a, hp w b with
    | Sum.inr (Sum.inl (n, f)), Sum.inr (Sum.inr (cb, _)) => if cb = 5 ∧ 0 ≤ i ∧ i < n then go nx L r (pt w a (cq n (va_up f i.toNat (some b)))) else none
    | _, _ => none
  | _ => none
def o_alen (nx : Nat) : Fn := fun L st w => match st with
  | Sum.inr (Sum.inr (Sum.inl (some a))) :: r => match hp w a with
    | Sum.inl (_, n, _) => go nx L (vi n :: r) w
    | _ => none
  | _ => none
/-- a constant row of ints (a static row, the script), by its number -/
def o_kald (kk n : Nat) (f : Nat → Int) (nx : Nat) : Fn := fun L st w => match st with
  | Sum.inl i :: Sum.inr (Sum.inr (Sum.inr k)) :: r => if k = kk ∧ 0 ≤ i ∧ i < n then go nx L (vi (f i.toNat) :: r) w else none
  | _ => none
def o_klen (kk n : Nat) (nx : Nat) : Fn := fun L st w => match st with
  | Sum.inr (Sum.inr (Sum.inr k)) :: r => if k = kk then go nx L (vi n :: r) w else none
  | _ => none
def o_new (ci : Nat) (fs : List MV) (nx : Nat) : Fn := fun L st w => go nx L (vr w.1 :: st) (nw w fs.length (co ci fs))
def o_newa (t nx : Nat) : Fn := fun L st w => match st with
  | Sum.inl z :: r => if 0 ≤ z ∧ z ≤ 4000 then go nx L (vr w.1 :: r) (nw w z.toNat (ca t z.toNat (fun _ => 0))) else none
  | _ => none
def o_newq (nx : Nat) : Fn := fun L st w => match st with
  | Sum.inl z :: r => if 0 ≤ z ∧ z ≤ 4000 then go nx L (vr w.1 :: r) (nw w z.toNat (cq z.toNat (fun _ => none))) else none
  | _ => none
def o_oinit (nx : Nat) : Fn := fun L st w => match st with
  | Sum.inr (Sum.inr (Sum.inl (some _))) :: r => if r.length ≤ 4 then go nx L r w else none
  | _ => none
/-- String.charAt of a constant -/
def o_chr (kk n : Nat) (f : Nat → Int) (nx : Nat) : Fn := fun L st w => match st with
  | Sum.inl i :: Sum.inr (Sum.inr (Sum.inr k)) :: r => if (k = kk ∧ r.length ≤ 4) ∧ 0 ≤ i ∧ i < n then go nx L (vi (f i.toNat) :: r) w else none
  | _ => none
/-- Math.max, Math.min -/
def o_mth (f : Int → Int → Int) (nx : Nat) : Fn := fun L st w => match st with
  | Sum.inl y :: Sum.inl x :: r => if r.length ≤ 4 then go nx L (vi (f x y) :: r) w else none
  | _ => none
def o_iret : Fn := fun _ st w => match st with
  | [Sum.inl z] => some (Sum.inr (some (vi z), w))
  | _ => none
def o_zret : Fn := fun _ st w => match st with
  | [Sum.inl z] => if z = 0 ∨ z = 1 then some (Sum.inr (some (vi z), w)) else none
  | _ => none
def o_lret : Fn := fun _ st w => match st with
  | [Sum.inr (Sum.inl z)] => some (Sum.inr (some (vl z), w))
  | _ => none
def o_vret : Fn := fun _ st w => match st with
  | [] => some (Sum.inr (none, w))
  | _ => none
/-! the runs -/
abbrev Cq : Type := Nat → List MV → Wd → (Option MV → Wd → Prop) → Prop
def psh (r : Option MV) (l : List MV) : List MV := match r with
  | some v => v :: l
  | none => l
def rcv (cv : Nat) (args : List MV) (w : Wd) : Prop := match cv with
  | 0 => True
  | ci + 1 => ∃ (a : Nat) (As fs : List MV), args = vr a :: As ∧ hp w a = co ci fs
def StOK (CALL : Cq) (c : Nat → Option MOp) (Q : Option MV → Wd → Prop) (P : Nat → Lc → List MV → Wd → Prop) (pc : Nat) (L : Lc) (st : List MV) (w : Wd) : Prop :=
  match c pc with
  | some (Sum.inl f) => (match f L st w with
    | some (Sum.inl (pc', L', st', w')) => P pc' L' st' w'
    | some (Sum.inr (r, w')) => Q r w'
    | none => False)
  | some (Sum.inr (y, k, nx, cv)) => k ≤ st.length ∧ (st.drop k).length ≤ 4 ∧ rcv cv (st.take k).reverse w ∧ CALL y (st.take k).reverse w (fun r w' => P nx L (psh r (st.drop k)) w')
  | none => False
def MX (CALL : Cq) (c : Nat → Option MOp) (Q : Option MV → Wd → Prop) (pc : Nat) (L : Lc) (st : List MV) (w : Wd) : Prop :=
  ∀ P : Nat → Lc → List MV → Wd → Prop, (∀ pc L st w, StOK CALL c Q P pc L st w → P pc L st w) → P pc L st w
def slo : List MV → Lc
  | [] => []
  | Sum.inr (Sum.inl z) :: r => some (vl z) :: none :: slo r
  | v :: r => some v :: slo r
def ini (nL : Nat) (args : List MV) : Lc := slo args ++ List.replicate (nL - (slo args).length) none
abbrev Pg : Type := Nat → Option (Nat × (Nat → Option MOp))
/-- a method that asks the JDK for letters wants some depth below it -/
def needB (y d : Nat) : Prop := bif Nat.beq y 40 then 3 ≤ d else True
def CallD (pg : Pg) : Nat → Cq
  | 0, _, _, _, _ => False
  | d + 1, y, args, w, Q => ∃ (nL : Nat) (c : Nat → Option MOp), pg y = some (nL, c) ∧ needB y d ∧ (slo args).length ≤ nL ∧ MX (CallD pg d) c Q 0 (ini nL args) [] w
abbrev MR (pg : Pg) (d : Nat) (c : Nat → Option MOp) (Q : Option MV → Wd → Prop) (pc : Nat) (L : Lc) (st : List MV) (w : Wd) : Prop := MX (CallD pg d) c Q pc L st w
theorem MX.mono {CALL : Cq} {c : Nat → Option MOp} {Q Q' : Option MV → Wd → Prop} {pc : Nat} {L : Lc} {st : List MV} {w : Wd} (h : ∀ r w', Q r w' → Q' r w') (m : MX CALL c Q pc L st w) : MX CALL c Q' pc L st w := by
  intro P hP
  refine m P (fun pc L st w hs => hP pc L st w ?_)
  unfold StOK at hs ⊢
  cases hc : c pc with
  | none => rw [hc] at hs; exact hs
  | some o =>
    rw [hc] at hs
    cases o with
    | inl f =>
      simp only at hs ⊢
      cases hf : f L st w with
      | none => rw [hf] at hs; exact hs
      | some x =>
        rw [hf] at hs
        cases x with
        | inl y => exact hs
        | inr y => exact h _ _ hs
    | inr y => exact hs
theorem CallD.mono {pg : Pg} {d y : Nat} {args : List MV} {w : Wd} {Q Q' : Option MV → Wd → Prop} (h : ∀ r w', Q r w' → Q' r w') (m : CallD pg d y args w Q) : CallD pg d y args w Q' := by
  cases d with
  | zero => exact m
  | succ d =>
    obtain ⟨nL, c, h1, hN, h2, h3⟩ := m
    exact ⟨nL, c, h1, hN, h2, h3.mono h⟩
theorem f_add_eq {x y : Int} (h1 : -2147483648 ≤ x + y) (h2 : x + y < 2147483648) : f_add x y = x + y := bm_eq h1 h2
theorem f_sub_eq {x y : Int} (h1 : -2147483648 ≤ x - y) (h2 : x - y < 2147483648) : f_sub x y = x - y := bm_eq h1 h2
theorem f_mul_eq {x y : Int} (h1 : -2147483648 ≤ x * y) (h2 : x * y < 2147483648) : f_mul x y = x * y := bm_eq h1 h2
theorem f_neg_eq {x : Int} (h1 : -2147483648 ≤ -x) (h2 : -x < 2147483648) : f_neg x = -x := bm_eq h1 h2
section ROWS
variable {pg : Pg} {d : Nat} {c : Nat → Option MOp} {Q : Option MV → Wd → Prop} {pc : Nat} {L : Lc} {st : List MV} {w : Wd}
theorem r_fn {f : Fn} {pc' : Nat} {L' : Lc} {st' : List MV} {w' : Wd} (hc : c pc = some (Sum.inl f)) (hf : f L st w = some (Sum.inl (pc', L', st', w'))) (k : MR pg d c Q pc' L' st' w') : MR pg d c Q pc L st w := by
  intro P hP
  refine hP _ _ _ _ ?_
  simp only [StOK, hc, hf]
  exact k P hP
theorem r_rt {f : Fn} {r : Option MV} {w' : Wd} (hc : c pc = some (Sum.inl f)) (hf : f L st w = some (Sum.inr (r, w'))) (k : Q r w') : MR pg d c Q pc L st w := by
  intro P hP
  refine hP _ _ _ _ ?_
  simp only [StOK, hc, hf]
  exact k
theorem r_c0 {y k nx cv : Nat} {args rest : List MV} (hc : c pc = some (Sum.inr (y, k, nx, cv))) (hk : Nat.ble k st.length = true) (hr : Nat.ble (st.drop k).length 4 = true) (ha : (st.take k).reverse = args) (hd : st.drop k = rest) (hv : rcv cv args w) (kk : CallD pg d y args w (fun r w' => MR pg d c Q nx L (psh r rest) w')) : MR pg d c Q pc L st w := by
  intro P hP
  refine hP _ _ _ _ ?_
  subst ha; subst hd
  simp only [StOK, hc]
  exact ⟨Nat.le_of_ble_eq_true hk, Nat.le_of_ble_eq_true hr, hv, kk.mono (fun r w' h => h P hP)⟩
theorem r_cl {y k nx : Nat} {args rest : List MV} (hc : c pc = some (Sum.inr (y, k, nx, 0))) (hk : Nat.ble k st.length = true) (hr : Nat.ble (st.drop k).length 4 = true) (ha : (st.take k).reverse = args) (hd : st.drop k = rest) (kk : CallD pg d y args w (fun r w' => MR pg d c Q nx L (psh r rest) w')) : MR pg d c Q pc L st w := r_c0 hc hk hr ha hd trivial kk
theorem r_cv {y k nx ci a : Nat} {As fs rest : List MV} (hc : c pc = some (Sum.inr (y, k, nx, ci + 1))) (hk : Nat.ble k st.length = true) (hr : Nat.ble (st.drop k).length 4 = true) (ha : (st.take k).reverse = vr a :: As) (hd : st.drop k = rest) (hh : hp w a = co ci fs) (kk : CallD pg d y (vr a :: As) w (fun r w' => MR pg d c Q nx L (psh r rest) w')) : MR pg d c Q pc L st w := r_c0 hc hk hr ha hd ⟨a, As, fs, rfl, hh⟩ kk
theorem cd_in {y nL : Nat} {c : Nat → Option MOp} {args : List MV} {L : Lc} (h1 : pg y = some (nL, c)) (h2 : Nat.ble (slo args).length nL = true) (h3 : ini nL args = L) (hN : needB y d) (k : MR pg d c Q 0 L [] w) : CallD pg (d + 1) y args w Q := ⟨nL, c, h1, hN, Nat.le_of_ble_eq_true h2, by rw [h3]; exact k⟩
theorem r_ist {i nx : Nat} {z : Int} {r : List MV} {L' : Lc} (hc : c pc = some (Sum.inl (o_istore i nx))) (hi : Nat.blt i L.length = true) (hn : nol L i = true) (hL : sto L i (vi z) = L') (k : MR pg d c Q nx L' r w) : MR pg d c Q pc L (vi z :: r) w := by
  subst hL
  exact r_fn hc (by simp only [o_istore, if_pos (show i < L.length ∧ nol L i = true from ⟨Nat.le_of_ble_eq_true hi, hn⟩)]) k
theorem r_if_eq {tgt nx : Nat} {x : Int} {r : List MV} (hc : c pc = some (Sum.inl (o_if 0 tgt nx))) (kt : x = 0 → MR pg d c Q tgt L r w) (kf : ¬ x = 0 → MR pg d c Q nx L r w) : MR pg d c Q pc L (vi x :: r) w := by
  by_cases h : x = 0
  · exact r_fn hc (by simp only [o_if, cz, h, decide_true, cond_true]) (kt h)
  · exact r_fn hc (by simp only [o_if, cz, h, decide_false, cond_false]) (kf h)
theorem r_if_ne {tgt nx : Nat} {x : Int} {r : List MV} (hc : c pc = some (Sum.inl (o_if 1 tgt nx))) (kt : ¬ x = 0 → MR pg d c Q tgt L r w) (kf : x = 0 → MR pg d c Q nx L r w) : MR pg d c Q pc L (vi x :: r) w := by
  by_cases h : x = 0
  · exact r_fn hc (by simp only [o_if, cz, h, decide_true, Bool.not_true, cond_false]) (kf h)
  · exact r_fn hc (by simp only [o_if, cz, h, decide_false, Bool.not_false, cond_true]) (kt h)
theorem r_if_lt {tgt nx : Nat} {x : Int} {r : List MV} (hc : c pc = some (Sum.inl (o_if 2 tgt nx))) (kt : x < 0 → MR pg d c Q tgt L r w) (kf : ¬ x < 0 → MR pg d c Q nx L r w) : MR pg d c Q pc L (vi x :: r) w := by
  by_cases h : x < 0
  · exact r_fn hc (by simp only [o_if, cz, h, decide_true, cond_true]) (kt h)
  · exact r_fn hc (by simp only [o_if, cz, h, decide_false, cond_false]) (kf h)
theorem r_if_ge {tgt nx : Nat} {x : Int} {r : List MV} (hc : c pc = some (Sum.inl (o_if 3 tgt nx))) (kt : ¬ x < 0 → MR pg d c Q tgt L r w) (kf : x < 0 → MR pg d c Q nx L r w) : MR pg d c Q pc L (vi x :: r) w := by
  by_cases h : x < 0
  · exact r_fn hc (by simp only [o_if, cz, h, decide_true, Bool.not_true, cond_false]) (kf h)
  · exact r_fn hc (by simp only [o_if, cz, h, decide_false, Bool.not_false, cond_true]) (kt h)
theorem r_if_gt {tgt nx : Nat} {x : Int} {r : List MV} (hc : c pc = some (Sum.inl (o_if 4 tgt nx))) (kt : 0 < x → MR pg d c Q tgt L r w) (kf : ¬ 0 < x → MR pg d c Q nx L r w) : MR pg d c Q pc L (vi x :: r) w := by
  by_cases h : 0 < x
  · exact r_fn hc (by simp only [o_if, cz, h, decide_true, cond_true]) (kt h)
  · exact r_fn hc (by simp only [o_if, cz, h, decide_false, cond_false]) (kf h)
theorem r_if_le {tgt nx : Nat} {x : Int} {r : List MV} (hc : c pc = some (Sum.inl (o_if 5 tgt nx))) (kt : ¬ 0 < x → MR pg d c Q tgt L r w) (kf : 0 < x → MR pg d c Q nx L r w) : MR pg d c Q pc L (vi x :: r) w := by
  by_cases h : 0 < x
  · exact r_fn hc (by simp only [o_if, cz, h, decide_true, Bool.not_true, cond_false]) (kf h)
  · exact r_fn hc (by simp only [o_if, cz, h, decide_false, Bool.not_false, cond_true]) (kt h)
theorem r_ic_eq {tgt nx : Nat} {x y : Int} {r : List MV} (hc : c pc = some (Sum.inl (o_ic 0 tgt nx))) (kt : x = y → MR pg d c Q tgt L r w) (kf : ¬ x = y → MR pg d c Q nx L r w) : MR pg d c Q pc L (vi y :: vi x :: r) w := by
  by_cases h : x = y
  · exact r_fn hc (by simp only [o_ic, cc2, h, decide_true, cond_true]) (kt h)
  · exact r_fn hc (by simp only [o_ic, cc2, h, decide_false, cond_false]) (kf h)
theorem r_ic_ne {tgt nx : Nat} {x y : Int} {r : List MV} (hc : c pc = some (Sum.inl (o_ic 1 tgt nx))) (kt : ¬ x = y → MR pg d c Q tgt L r w) (kf : x = y → MR pg d c Q nx L r w) : MR pg d c Q pc L (vi y :: vi x :: r) w := by
  by_cases h : x = y
  · exact r_fn hc (by simp only [o_ic, cc2, h, decide_true, Bool.not_true, cond_false]) (kf h)
  · exact r_fn hc (by simp only [o_ic, cc2, h, decide_false, Bool.not_false, cond_true]) (kt h)
theorem r_ic_lt {tgt nx : Nat} {x y : Int} {r : List MV} (hc : c pc = some (Sum.inl (o_ic 2 tgt nx))) (kt : x < y → MR pg d c Q tgt L r w) (kf : ¬ x < y → MR pg d c Q nx L r w) : MR pg d c Q pc L (vi y :: vi x :: r) w := by
  by_cases h : x < y
  · exact r_fn hc (by simp only [o_ic, cc2, h, decide_true, cond_true]) (kt h)
  · exact r_fn hc (by simp only [o_ic, cc2, h, decide_false, cond_false]) (kf h)
theorem r_ic_ge {tgt nx : Nat} {x y : Int} {r : List MV} (hc : c pc = some (Sum.inl (o_ic 3 tgt nx))) (kt : ¬ x < y → MR pg d c Q tgt L r w) (kf : x < y → MR pg d c Q nx L r w) : MR pg d c Q pc L (vi y :: vi x :: r) w := by
  by_cases h : x < y
  · exact r_fn hc (by simp only [o_ic, cc2, h, decide_true, Bool.not_true, cond_false]) (kf h)
  · exact r_fn hc (by simp only [o_ic, cc2, h, decide_false, Bool.not_false, cond_true]) (kt h)
theorem r_ic_gt {tgt nx : Nat} {x y : Int} {r : List MV} (hc : c pc = some (Sum.inl (o_ic 4 tgt nx))) (kt : y < x → MR pg d c Q tgt L r w) (kf : ¬ y < x → MR pg d c Q nx L r w) : MR pg d c Q pc L (vi y :: vi x :: r) w := by
  by_cases h : y < x
  · exact r_fn hc (by simp only [o_ic, cc2, h, decide_true, cond_true]) (kt h)
  · exact r_fn hc (by simp only [o_ic, cc2, h, decide_false, cond_false]) (kf h)
theorem r_ic_le {tgt nx : Nat} {x y : Int} {r : List MV} (hc : c pc = some (Sum.inl (o_ic 5 tgt nx))) (kt : ¬ y < x → MR pg d c Q tgt L r w) (kf : y < x → MR pg d c Q nx L r w) : MR pg d c Q pc L (vi y :: vi x :: r) w := by
  by_cases h : y < x
  · exact r_fn hc (by simp only [o_ic, cc2, h, decide_true, Bool.not_true, cond_false]) (kf h)
  · exact r_fn hc (by simp only [o_ic, cc2, h, decide_false, Bool.not_false, cond_true]) (kt h)
theorem r_getf {ci k nx a : Nat} {fs : List MV} {v : MV} {r : List MV} (hc : c pc = some (Sum.inl (o_getf ci k nx))) (hh : hp w a = co ci fs) (hv : fs[k]? = some v) (kk : MR pg d c Q nx L (v :: r) w) : MR pg d c Q pc L (vr a :: r) w :=
  r_fn hc (by simp only [o_getf, hh, hv, if_true]) kk
theorem r_putI {ci k nx a : Nat} {fs fs' : List MV} {z : Int} {r : List MV} (hc : c pc = some (Sum.inl (o_putI ci k nx))) (hh : hp w a = co ci fs) (hk : Nat.blt k fs.length = true) (hs : fs.set k (vi z) = fs') (kk : MR pg d c Q nx L r (pt w a (co ci fs'))) : MR pg d c Q pc L (vi z :: vr a :: r) w :=
  r_fn hc (by simp only [o_putI, hh, true_and, if_pos (show k < fs.length from Nat.le_of_ble_eq_true hk), hs]) kk
theorem r_putR {ci k nx a b : Nat} {fs fs' : List MV} {r : List MV} (hc : c pc = some (Sum.inl (o_putR ci k nx))) (hh : hp w a = co ci fs) (hk : Nat.blt k fs.length = true) (hs : fs.set k (vr b) = fs') (kk : MR pg d c Q nx L r (pt w a (co ci fs'))) : MR pg d c Q pc L (vr b :: vr a :: r) w :=
  r_fn hc (by simp only [o_putR, hh, true_and, if_pos (show k < fs.length from Nat.le_of_ble_eq_true hk), hs]) kk
theorem r_ald {t nx a n : Nat} {f : Nat → Int} {i : Int} {r : List MV} (j : Nat) (hc : c pc = some (Sum.inl (o_ald t nx))) (hh : hp w a = ca t n f) (hj : i = (j : Int)) (h1 : j < n) (kk : MR pg d c Q nx L (vi (f j) :: r) w) : MR pg d c Q pc L (vi i :: vr a :: r) w := by
  subst hj
  exact r_fn hc (by simp only [o_ald, hh, true_and, if_pos (show (0 : Int) ≤ (j : Int) ∧ (j : Int) < n from ⟨by omega, by omega⟩), Int.toNat_natCast]) kk
theorem r_ast {t nx a n : Nat} {f : Nat → Int} {i x : Int} {r : List MV} (j : Nat) (hc : c pc = some (Sum.inl (o_ast t nx))) (hh : hp w a = ca t n f) (hj : i = (j : Int)) (h1 : j < n) (kk : MR pg d c Q nx L r (pt w a (ca t n (va_up f j (nar t x))))) : MR pg d c Q pc L (vi x :: vi i :: vr a :: r) w := by
  subst hj
  exact r_fn hc (by simp only [o_ast, hh, true_and, if_pos (show (0 : Int) ≤ (j : Int) ∧ (j : Int) < n from ⟨by omega, by omega⟩), Int.toNat_natCast]) kk
theorem r_ast0 {nx a n : Nat} {f : Nat → Int} {i x : Int} {r : List MV} (j : Nat) (hc : c pc = some (Sum.inl (o_ast 0 nx))) (hh : hp w a = ca 0 n f) (hj : i = (j : Int)) (h1 : j < n) (kk : MR pg d c Q nx L r (pt w a (ca 0 n (va_up f j x)))) : MR pg d c Q pc L (vi x :: vi i :: vr a :: r) w := r_ast j hc hh hj h1 kk
theorem r_aald {nx a n : Nat} {f : Nat → Option Nat} {i : Int} {r : List MV} (j : Nat) (hc : c pc = some (Sum.inl (o_aald nx))) (hh : hp w a = cq n f) (hj : i = (j : Int)) (h1 : j < n) (kk : MR pg d c Q nx L (vq (f j) :: r) w) : MR pg d c Q pc L (vi i :: vr a :: r) w := by
  subst hj
  exact r_fn hc (by simp only [o_aald, hh, if_pos (show (0 : Int) ≤ (j : Int) ∧ (j : Int) < n from ⟨by omega, by omega⟩), Int.toNat_natCast]) kk
theorem r_aast {nx a b n : Nat} {f : Nat → Option Nat} {fs : List MV} {i : Int} {r : List MV} (j : Nat) (hc : c pc = some (Sum.inl (o_aast nx))) (hh : hp w a = cq n f) (hb : hp w b = co 5 fs) (hj : i = (j : Int)) (h1 : j < n) (kk : MR pg d c Q nx L r (pt w a (cq n (va_up f j (some b))))) : MR pg d c Q pc L (vr b :: vi i :: vr a :: r) w := by
  subst hj
  exact r_fn hc (by simp only [o_aast, hh, hb, true_and, if_pos (show (0 : Int) ≤ (j : Int) ∧ (j : Int) < n from ⟨by omega, by omega⟩), Int.toNat_natCast]) kk
theorem r_alen {nx a t n : Nat} {f : Nat → Int} {r : List MV} (hc : c pc = some (Sum.inl (o_alen nx))) (hh : hp w a = ca t n f) (kk : MR pg d c Q nx L (vi n :: r) w) : MR pg d c Q pc L (vr a :: r) w :=
  r_fn hc (by simp only [o_alen, hh]) kk
theorem r_kald {kk n nx : Nat} {f : Nat → Int} {i : Int} {r : List MV} (j : Nat) (hc : c pc = some (Sum.inl (o_kald kk n f nx))) (hj : i = (j : Int)) (h1 : j < n) (k : MR pg d c Q nx L (vi (f j) :: r) w) : MR pg d c Q pc L (vi i :: vc kk :: r) w := by
  subst hj
  exact r_fn hc (by simp only [o_kald, true_and, if_pos (show (0 : Int) ≤ (j : Int) ∧ (j : Int) < n from ⟨by omega, by omega⟩), Int.toNat_natCast]) k
theorem r_chr {kk n nx : Nat} {f : Nat → Int} {i : Int} {r : List MV} (j : Nat) (hc : c pc = some (Sum.inl (o_chr kk n f nx))) (hr : Nat.ble r.length 4 = true) (hj : i = (j : Int)) (h1 : j < n) (k : MR pg d c Q nx L (vi (f j) :: r) w) : MR pg d c Q pc L (vi i :: vc kk :: r) w := by
  subst hj
  exact r_fn hc (by simp only [o_chr, true_and, if_pos (show r.length ≤ 4 ∧ (0 : Int) ≤ (j : Int) ∧ (j : Int) < n from ⟨Nat.le_of_ble_eq_true hr, by omega, by omega⟩), Int.toNat_natCast]) k
theorem r_klen {kk n nx : Nat} {r : List MV} (hc : c pc = some (Sum.inl (o_klen kk n nx))) (k : MR pg d c Q nx L (vi n :: r) w) : MR pg d c Q pc L (vc kk :: r) w :=
  r_fn hc (by simp only [o_klen, if_true]) k
theorem r_newa {t nx n : Nat} {z : Int} {r : List MV} (hc : c pc = some (Sum.inl (o_newa t nx))) (hz : z = (n : Int)) (hn : Nat.ble n 4000 = true) (kk : MR pg d c Q nx L (vr w.1 :: r) (nw w n (ca t n (fun _ => 0)))) : MR pg d c Q pc L (vi z :: r) w := by
  subst hz
  have := Nat.le_of_ble_eq_true hn
  exact r_fn hc (by simp only [o_newa, if_pos (show (0 : Int) ≤ (n : Int) ∧ (n : Int) ≤ 4000 from ⟨by omega, by omega⟩), Int.toNat_natCast]) kk
theorem r_newq {nx n : Nat} {z : Int} {r : List MV} (hc : c pc = some (Sum.inl (o_newq nx))) (hz : z = (n : Int)) (hn : Nat.ble n 4000 = true) (kk : MR pg d c Q nx L (vr w.1 :: r) (nw w n (cq n (fun _ => none)))) : MR pg d c Q pc L (vi z :: r) w := by
  subst hz
  have := Nat.le_of_ble_eq_true hn
  exact r_fn hc (by simp only [o_newq, if_pos (show (0 : Int) ≤ (n : Int) ∧ (n : Int) ≤ 4000 from ⟨by omega, by omega⟩), Int.toNat_natCast]) kk
theorem r_iadd {nx : Nat} {x y z : Int} {r : List MV} (hc : c pc = some (Sum.inl (o_i2 f_add nx))) (hz : x + y = z) (h1 : -2147483648 ≤ z) (h2 : z < 2147483648) (k : MR pg d c Q nx L (vi z :: r) w) : MR pg d c Q pc L (vi y :: vi x :: r) w := by
  subst hz
  exact r_fn hc (by simp only [o_i2, f_add, bm_eq h1 h2]) k
theorem r_isub {nx : Nat} {x y z : Int} {r : List MV} (hc : c pc = some (Sum.inl (o_i2 f_sub nx))) (hz : x - y = z) (h1 : -2147483648 ≤ z) (h2 : z < 2147483648) (k : MR pg d c Q nx L (vi z :: r) w) : MR pg d c Q pc L (vi y :: vi x :: r) w := by
  subst hz
  exact r_fn hc (by simp only [o_i2, f_sub, bm_eq h1 h2]) k
theorem r_imul {nx : Nat} {x y z : Int} {r : List MV} (hc : c pc = some (Sum.inl (o_i2 f_mul nx))) (hz : x * y = z) (h1 : -2147483648 ≤ z) (h2 : z < 2147483648) (k : MR pg d c Q nx L (vi z :: r) w) : MR pg d c Q pc L (vi y :: vi x :: r) w := by
  subst hz
  exact r_fn hc (by simp only [o_i2, f_mul, bm_eq h1 h2]) k
theorem r_ineg {nx : Nat} {x z : Int} {r : List MV} (hc : c pc = some (Sum.inl (o_i1 f_neg nx))) (hz : -x = z) (h1 : -2147483648 ≤ z) (h2 : z < 2147483648) (k : MR pg d c Q nx L (vi z :: r) w) : MR pg d c Q pc L (vi x :: r) w := by
  subst hz
  exact r_fn hc (by simp only [o_i1, f_neg, bm_eq h1 h2]) k
theorem r_iinc {i nx : Nat} {kn x z : Int} {L' : Lc} (hc : c pc = some (Sum.inl (o_iinc i kn nx))) (hx : lk L i = some (vi x)) (hz : x + kn = z) (h1 : -2147483648 ≤ z) (h2 : z < 2147483648) (hi : Nat.blt i L.length = true) (hn : nol L i = true) (hL : sto L i (vi z) = L') (k : MR pg d c Q nx L' st w) : MR pg d c Q pc L st w := by
  subst hz; subst hL
  exact r_fn hc (by simp only [o_iinc, hx, bm_eq h1 h2, if_pos (show i < L.length ∧ nol L i = true from ⟨Nat.le_of_ble_eq_true hi, hn⟩)]) k
theorem r_idiv {nx : Nat} {x y z : Int} {r : List MV} (hc : c pc = some (Sum.inl (o_dv f_div nx))) (hy : ¬ y = 0) (hz : Int.tdiv x y = z) (h1 : -2147483648 ≤ z) (h2 : z < 2147483648) (k : MR pg d c Q nx L (vi z :: r) w) : MR pg d c Q pc L (vi y :: vi x :: r) w := by
  subst hz
  exact r_fn hc (by simp only [o_dv, f_div, bm_eq h1 h2, if_neg hy]) k
theorem r_irem {nx : Nat} {x y z : Int} {r : List MV} (hc : c pc = some (Sum.inl (o_dv f_rem nx))) (hy : ¬ y = 0) (hz : Int.tmod x y = z) (k : MR pg d c Q nx L (vi z :: r) w) : MR pg d c Q pc L (vi y :: vi x :: r) w := by
  subst hz
  exact r_fn hc (by simp only [o_dv, f_rem, if_neg hy]) k
theorem r_i2 {f : Int → Int → Int} {nx : Nat} {x y z : Int} {r : List MV} (hc : c pc = some (Sum.inl (o_i2 f nx))) (hz : f x y = z) (k : MR pg d c Q nx L (vi z :: r) w) : MR pg d c Q pc L (vi y :: vi x :: r) w := by
  subst hz
  exact r_fn hc rfl k
theorem r_i1 {f : Int → Int} {nx : Nat} {x z : Int} {r : List MV} (hc : c pc = some (Sum.inl (o_i1 f nx))) (hz : f x = z) (k : MR pg d c Q nx L (vi z :: r) w) : MR pg d c Q pc L (vi x :: r) w := by
  subst hz
  exact r_fn hc rfl k
theorem r_aldZ {t nx a n : Nat} {f : Nat → Int} {i : Int} {r : List MV} (hc : c pc = some (Sum.inl (o_ald t nx))) (hh : hp w a = ca t n f) (h0 : 0 ≤ i) (h1 : i < n) (kk : MR pg d c Q nx L (vi (f i.toNat) :: r) w) : MR pg d c Q pc L (vi i :: vr a :: r) w :=
  r_ald i.toNat hc hh (by omega) (by omega) kk
theorem r_top {x y : Int} {r : List MV} (h : x = y) (k : MR pg d c Q pc L (vi y :: r) w) : MR pg d c Q pc L (vi x :: r) w := h ▸ k
theorem r_tsw {lo : Int} {ts : List Nat} {df nx : Nat} {x : Int} {r : List MV} (hc : c pc = some (Sum.inl (o_tsw lo ts df))) (hx : tswT lo ts df x = some nx) (k : MR pg d c Q nx L r w) : MR pg d c Q pc L (vi x :: r) w :=
  r_fn hc (by simp only [o_tsw, hx]) k
theorem r_zret {z : Int} (hc : c pc = some (Sum.inl o_zret)) (hz : z = 0 ∨ z = 1) (k : Q (some (vi z)) w) : MR pg d c Q pc L [vi z] w :=
  r_rt hc (by simp only [o_zret, if_pos hz]) k
end ROWS
/-- what a call answers is one answer -/
theorem MX.det {CALL : Cq} {c : Nat → Option MOp} (hm : ∀ y args w Q Q', (∀ r w', Q r w' → Q' r w') → CALL y args w Q → CALL y args w Q') (hd : ∀ y args w Q, CALL y args w Q → ∃ r w', Q r w' ∧ CALL y args w (fun r1 w1 => r1 = r ∧ w1 = w')) {Q : Option MV → Wd → Prop} {pc : Nat} {L : Lc} {st : List MV} {w : Wd} (h : MX CALL c Q pc L st w) : ∃ r w', Q r w' ∧ MX CALL c (fun r1 w1 => r1 = r ∧ w1 = w') pc L st w := by
  refine h (fun pc L st w => ∃ r w', Q r w' ∧ MX CALL c (fun r1 w1 => r1 = r ∧ w1 = w') pc L st w) (fun pc L st w hs => ?_)
  unfold StOK at hs
  cases hc : c pc with
  | none => rw [hc] at hs; exact hs.elim
  | some o =>
    rw [hc] at hs
    cases o with
    | inl f =>
      simp only at hs
      cases hf : f L st w with
      | none => rw [hf] at hs; exact hs.elim
      | some x =>
        rw [hf] at hs
        cases x with
        | inl y =>
          obtain ⟨r, w', h1, h2⟩ := hs
          refine ⟨r, w', h1, fun P hP => hP _ _ _ _ ?_⟩
          simp only [StOK, hc, hf]
          exact h2 P hP
        | inr y =>
          refine ⟨y.1, y.2, hs, fun P hP => hP _ _ _ _ ?_⟩
          simp only [StOK, hc, hf]
          exact ⟨trivial, trivial⟩
    | inr y =>
      obtain ⟨y, k, nx, cv⟩ := y
      obtain ⟨h1, h2, h3, h4⟩ := hs
      obtain ⟨r1, w1, ⟨r, w', h5, h6⟩, h7⟩ := hd _ _ _ _ h4
      refine ⟨r, w', h5, fun P hP => hP _ _ _ _ ?_⟩
      simp only [StOK, hc]
      exact ⟨h1, h2, h3, hm _ _ _ _ _ (fun r2 w2 e => by rw [e.1, e.2]; exact h6 P hP) h7⟩
theorem CallD.det {pg : Pg} (d : Nat) : ∀ (y : Nat) (args : List MV) (w : Wd) (Q : Option MV → Wd → Prop), CallD pg d y args w Q → ∃ r w', Q r w' ∧ CallD pg d y args w (fun r1 w1 => r1 = r ∧ w1 = w') := by
  induction d with
  | zero => intro y args w Q h; exact h.elim
  | succ d ih =>
    intro y args w Q h
    obtain ⟨nL, c, h1, hN, h2, h3⟩ := h
    obtain ⟨r, w', h4, h5⟩ := MX.det (CALL := CallD pg d) (fun _ _ _ _ _ h m => CallD.mono (pg := pg) (d := d) h m) ih h3
    exact ⟨r, w', h4, nL, c, h1, hN, h2, h5⟩
/-! tables as trees -/
def tn {α : Type} (k : Nat) (l r : Nat → Option α) : Nat → Option α := fun pc => bif Nat.ble pc k then l pc else r pc
def tl {α : Type} (k : Nat) (o : α) : Nat → Option α := fun pc => bif Nat.beq pc k then some o else none
theorem tn_all {α : Type} {T : Nat → α → Prop} {k : Nat} {l r : Nat → Option α} (hl : ∀ pc o, l pc = some o → T pc o) (hr : ∀ pc o, r pc = some o → T pc o) : ∀ pc o, tn k l r pc = some o → T pc o := by
  intro pc o h
  unfold tn at h
  cases hb : Nat.ble pc k with
  | true => rw [hb] at h; exact hl pc o h
  | false => rw [hb] at h; exact hr pc o h
theorem tl_all {α : Type} {T : Nat → α → Prop} {k : Nat} {o : α} (h0 : T k o) : ∀ pc o', tl k o pc = some o' → T pc o' := by
  intro pc o' h
  unfold tl at h
  cases hb : Nat.beq pc k with
  | true =>
    rw [hb] at h
    have e : pc = k := Nat.eq_of_beq_eq_true hb
    simp only [cond_true, Option.some.injEq] at h
    rw [e, ← h]; exact h0
  | false => rw [hb] at h; cases h
