/-! LAYER 1: the mini machine against the machine. Numbers first -/
def okI (z : Int) : Prop := -2147483648 ≤ z ∧ z < 2147483648
def okJ (z : Int) : Prop := -9223372036854775808 ≤ z ∧ z < 9223372036854775808
theorem tI {z : Int} (h : okI z) : (Int32.ofInt z).toInt = z := by
  obtain ⟨h1, h2⟩ := h
  rw [Int32.toInt_ofInt]
  exact bm_eq h1 h2
theorem tJ {z : Int} (h : okJ z) : (Int64.ofInt z).toInt = z := by
  obtain ⟨h1, h2⟩ := h
  rw [Int64.toInt_ofInt]
  show Int.bmod z 18446744073709551616 = z
  rw [Int.bmod_def]
  split <;> omega
theorem okI_bm (z : Int) : okI (bm z) := bm_in z
theorem okI_32 (x : Int32) : okI x.toInt := ⟨Int32.le_toInt x, Int32.toInt_lt x⟩
theorem okJ_64 (x : Int64) : okJ x.toInt := ⟨Int64.le_toInt x, Int64.toInt_lt x⟩
theorem ofI_bm (z : Int) : Int32.ofInt (bm z) = Int32.ofInt z := by
  apply Int32.toInt_inj.mp
  rw [tI (okI_bm z), Int32.toInt_ofInt]
  rfl
theorem e_add (x y : Int) : Int32.ofInt (f_add x y) = Int32.ofInt x + Int32.ofInt y := by
  unfold f_add
  rw [ofI_bm, Int32.ofInt_add]
theorem e_sub (x y : Int) : Int32.ofInt (f_sub x y) = Int32.ofInt x - Int32.ofInt y := by
  unfold f_sub
  rw [ofI_bm, Int32.ofInt_sub]
theorem e_mul (x y : Int) : Int32.ofInt (f_mul x y) = Int32.ofInt x * Int32.ofInt y := by
  unfold f_mul
  rw [ofI_bm, Int32.ofInt_mul]
theorem e_neg (x : Int) : Int32.ofInt (f_neg x) = -Int32.ofInt x := by
  unfold f_neg
  rw [ofI_bm, Int32.ofInt_neg]
theorem e_div {x y : Int} (hx : okI x) (hy : okI y) : Int32.ofInt (f_div x y) = Int32.ofInt x / Int32.ofInt y := by
  apply Int32.toInt_inj.mp
  rw [Int32.toInt_div, tI hx, tI hy]
  unfold f_div
  rw [tI (okI_bm _)]
  rfl
theorem okI_rem {x y : Int} (hx : okI x) (h0 : ¬ y = 0) : okI (f_rem x y) := by
  unfold f_rem
  obtain ⟨h1, h2⟩ := hx
  have a := Int.natAbs_tmod x y
  have b : (x.tmod y).natAbs ≤ x.natAbs := by rw [a]; exact Nat.mod_le _ _
  by_cases h : 0 ≤ x
  · have c := Int.tmod_nonneg y h
    exact ⟨by omega, by omega⟩
  · have e := Int.neg_tmod x y
    have c := Int.tmod_nonneg y (show 0 ≤ -x by omega)
    exact ⟨by omega, by omega⟩
theorem e_rem {x y : Int} (hx : okI x) (hy : okI y) (h0 : ¬ y = 0) : Int32.ofInt (f_rem x y) = Int32.ofInt x - Int32.ofInt x / Int32.ofInt y * Int32.ofInt y := by
  rw [← e_div hx hy]
  unfold f_div f_rem
  rw [ofI_bm, ← Int32.ofInt_mul, ← Int32.ofInt_sub]
  congr 1
  rw [Int.tmod_def, Int.mul_comm]
theorem i_lt {x y : Int} (hx : okI x) (hy : okI y) : Int32.ofInt x < Int32.ofInt y ↔ x < y := by rw [Int32.lt_iff_toInt_lt, tI hx, tI hy]
theorem i_le {x y : Int} (hx : okI x) (hy : okI y) : Int32.ofInt x ≤ Int32.ofInt y ↔ x ≤ y := by rw [Int32.le_iff_toInt_le, tI hx, tI hy]
theorem i_eq {x y : Int} (hx : okI x) (hy : okI y) : Int32.ofInt x = Int32.ofInt y ↔ x = y := by rw [← Int32.toInt_inj, tI hx, tI hy]
theorem okI_0 : okI 0 := by unfold okI; omega
theorem i_z : Int32.ofInt 0 = 0 := rfl
theorem i_eq0 {x : Int} (hx : okI x) : Int32.ofInt x = 0 ↔ x = 0 := by rw [← i_z]; exact i_eq hx okI_0
theorem i_lt0 {x : Int} (hx : okI x) : Int32.ofInt x < 0 ↔ x < 0 := by rw [← i_z]; exact i_lt hx okI_0
theorem i_gt0 {x : Int} (hx : okI x) : 0 < Int32.ofInt x ↔ 0 < x := by rw [← i_z]; exact i_lt okI_0 hx
theorem i_ge0 {x : Int} (hx : okI x) : 0 ≤ Int32.ofInt x ↔ 0 ≤ x := by rw [← i_z]; exact i_le okI_0 hx
theorem i_le0 {x : Int} (hx : okI x) : Int32.ofInt x ≤ 0 ↔ x ≤ 0 := by rw [← i_z]; exact i_le hx okI_0
theorem i_cl {i : Int} (hi : okI i) (h0 : 0 ≤ i) : (Int32.ofInt i).toNatClampNeg = i.toNat := by
  show (Int32.ofInt i).toInt.toNat = i.toNat
  rw [tI hi]
theorem i_in {i : Int} {n : Nat} (hi : okI i) (h0 : 0 ≤ i) (h1 : i < n) : vp_in (Int32.ofInt i) n := by
  intro q
  rcases q with q | q
  · rw [i_lt0 hi] at q; omega
  · rw [i_cl hi h0] at q; omega
/-! what the machine has in common for all methods: numbers of classes and slots, of array classes, constants' addresses, where our cells begin, the script -/
abbrev GX : Type := (Nat → ClassId) × (Nat → Nat → Nat) × (Nat → ClassId) × (Nat → Nat) × (Nat → Nat) × Nat × Nat × (Nat → Int)
def gD (G : GX) : va_G := (G.1, G.2.1)
def gA (G : GX) : Nat → ClassId := G.2.2.1
def gk (G : GX) : Nat → Nat := G.2.2.2.1
def gb (G : GX) : Nat → Nat := G.2.2.2.2.1
def gB (G : GX) : Nat := G.2.2.2.2.2.1
def gN (G : GX) : Nat := G.2.2.2.2.2.2.1
def gX (G : GX) : Nat → Int := G.2.2.2.2.2.2.2
def gW (G : GX) : Nat → Prop := fun q => gB G ≤ q
def em (G : GX) (ad : Nat → Nat) (v : MV) : Value := match v with
  | Sum.inl z => .int (Int32.ofInt z)
  | Sum.inr (Sum.inl z) => .long (Int64.ofInt z)
  | Sum.inr (Sum.inr (Sum.inl r)) => va_rf (r.map ad)
  | Sum.inr (Sum.inr (Sum.inr k)) => .ref (gk G k)
def gT (G : GX) : List (ClassId × FieldType) := [(gA G 0, .int), (gA G 1, .byte), (gA G 2, .boolean), (gA G 3, .object RX5)]
def eC (G : GX) (ad : Nat → Nat) (c : MC) : va_E := match c with
  | Sum.inl (t, n, f) => .inl (gA G t, n, .inl (fun j => Int32.ofInt (f j)))
  | Sum.inr (Sum.inl (n, f)) => .inl (gA G 3, n, .inr (.inr (.inr (.inr (fun j => (f j).map ad)))))
  | Sum.inr (Sum.inr (ci, fs)) => .inr (ci, fs.map (em G ad))
def wW (G : GX) (ad : Nat → Nat) (w : Wd) : va_W := (List.range w.1).map (fun k => (ad k, eC G ad (hp w k)))
theorem wW_at {G : GX} {ad : Nat → Nat} {w : Wd} {k : Nat} (h : k < w.1) : (wW G ad w)[k]? = some (ad k, eC G ad (hp w k)) := by simp [wW, h]
theorem wW_set {G : GX} {ad : Nat → Nat} {w : Wd} {k : Nat} (c : MC) : (wW G ad w).set k (ad k, eC G ad c) = wW G ad (pt w k c) := by
  apply List.ext_getElem?
  intro i
  simp only [wW, List.getElem?_set, List.length_map, List.length_range, List.getElem?_map]
  show _ = Option.map _ ((List.range w.1)[i]?)
  by_cases h : k = i
  · subst h
    by_cases hk : k < w.1
    · simp [hk, hp_pt_same]
    · simp [hk]
  · rw [if_neg h]
    by_cases hk : i < w.1
    · simp [hk, hp_pt_ne (Ne.symm h)]
    · simp [hk]
/-! well-formed -/
def okV (n : Nat) (v : MV) : Prop := match v with
  | Sum.inl z => okI z
  | Sum.inr (Sum.inl z) => okJ z
  | Sum.inr (Sum.inr (Sum.inl (some a))) => a < n
  | Sum.inr (Sum.inr (Sum.inl none)) => True
  | Sum.inr (Sum.inr (Sum.inr _)) => True
def okC (n : Nat) (c : MC) : Prop := match c with
  | Sum.inl (t, k, f) => t ≤ 2 ∧ k ≤ 4000 ∧ ∀ j, okI (f j)
  | Sum.inr (Sum.inl (k, f)) => k ≤ 4000 ∧ ∀ j a, f j = some a → a < n
  | Sum.inr (Sum.inr (_, fs)) => ∀ v ∈ fs, okV n v
def okW (w : Wd) : Prop := ∀ k, k < w.1 → okC w.1 (hp w k)
def okLs (n : Nat) (L : Lc) : Prop := ∀ i v, lk L i = some v → okV n v
def okSt (n : Nat) (st : List MV) : Prop := ∀ v ∈ st, okV n v
theorem okS_h {n : Nat} {v : MV} {r : List MV} (h : okSt n (v :: r)) : okV n v := h v List.mem_cons_self
theorem okS_t {n : Nat} {v : MV} {r : List MV} (h : okSt n (v :: r)) : okSt n r := fun x hx => h x (List.mem_cons_of_mem _ hx)
theorem okS_c {n : Nat} {v : MV} {r : List MV} (h1 : okV n v) (h : okSt n r) : okSt n (v :: r) := fun x hx => by
  rcases List.mem_cons.mp hx with e | e
  · rw [e]; exact h1
  · exact h x e
theorem okV_mono {n n' : Nat} (h : n ≤ n') {v : MV} (hv : okV n v) : okV n' v := by
  rcases v with z | z | (_ | a) | k
  · exact hv
  · exact hv
  · exact hv
  · exact Nat.lt_of_lt_of_le hv h
  · exact hv
theorem okC_mono {n n' : Nat} (h : n ≤ n') {c : MC} (hc : okC n c) : okC n' c := by
  rcases c with ⟨t, k, f⟩ | ⟨k, f⟩ | ⟨ci, fs⟩
  · exact hc
  · exact ⟨hc.1, fun j a e => Nat.lt_of_lt_of_le (hc.2 j a e) h⟩
  · exact fun v hv => okV_mono h (hc v hv)
theorem okW_pt {w : Wd} {a : Nat} {c : MC} (h : okW w) (hc : okC w.1 c) : okW (pt w a c) := by
  intro k hk
  show okC w.1 (hp (pt w a c) k)
  by_cases e : k = a
  · rw [e, hp_pt_same]; exact hc
  · rw [hp_pt_ne e]; exact h k hk
theorem okW_nw {w : Wd} {k : Nat} {c : MC} (h : okW w) (hc : okC (w.1 + 1) c) : okW (nw w k c) := by
  intro i hi
  show okC (w.1 + 1) (hp (nw w k c) i)
  by_cases e : i = w.1
  · rw [e, hp_nw_same]; exact hc
  · rw [hp_nw_ne e]
    have hi' : i < w.1 + 1 := hi
    exact okC_mono (Nat.le_succ _) (h i (by omega))
theorem em_congr {G : GX} {ad ad' : Nat → Nat} {n : Nat} (h : ∀ k, k < n → ad' k = ad k) {v : MV} (hv : okV n v) : em G ad' v = em G ad v := by
  rcases v with z | z | (_ | a) | k
  · rfl
  · rfl
  · rfl
  · show va_rf (some (ad' a)) = va_rf (some (ad a))
    rw [h a hv]
  · rfl
theorem emS_congr {G : GX} {ad ad' : Nat → Nat} {n : Nat} (h : ∀ k, k < n → ad' k = ad k) {st : List MV} (hv : okSt n st) : st.map (em G ad') = st.map (em G ad) := List.map_congr_left (fun v hm => em_congr h (hv v hm))
theorem eC_congr {G : GX} {ad ad' : Nat → Nat} {n : Nat} (h : ∀ k, k < n → ad' k = ad k) {c : MC} (hc : okC n c) : eC G ad' c = eC G ad c := by
  rcases c with ⟨t, k, f⟩ | ⟨k, f⟩ | ⟨ci, fs⟩
  · rfl
  · have e : (fun j => (f j).map ad') = (fun j => (f j).map ad) := by
      funext j
      cases hj : f j with
      | none => rfl
      | some a => simp [h a (hc.2 j a hj)]
    simp only [eC, e]
  · simp only [eC, emS_congr (st := fs) h hc]
theorem wW_nw {G : GX} {ad : Nat → Nat} {w : Wd} {k q : Nat} {c : MC} (h : okW w) : wW G (va_up ad w.1 q) (nw w k c) = wW G ad w ++ [(q, eC G (va_up ad w.1 q) c)] := by
  unfold wW
  show (List.range (w.1 + 1)).map _ = _
  rw [List.range_succ, List.map_append]
  congr 1
  · apply List.map_congr_left
    intro i hi
    have hi := List.mem_range.mp hi
    have e : va_up ad w.1 q i = ad i := by simp [va_up]; omega
    rw [e, hp_nw_ne (by omega), eC_congr (G := G) (ad := ad) (ad' := va_up ad w.1 q) (n := w.1) (fun k hk => va_up_ne ad q (by omega)) (h i hi)]
  · simp [hp_nw_same, va_up]
/-! locals -/
def LR (G : GX) (ad : Nat → Nat) (nL : Nat) (L : Lc) (ls : Array Slot) : Prop := ls.size = nL ∧ L.length = nL ∧ lv_wf ls ∧ ∀ i v, lk L i = some v → ls[i]? = some (.val (em G ad v))
theorem LR_congr {G : GX} {ad ad' : Nat → Nat} {n nL : Nat} {L : Lc} {ls : Array Slot} (h : ∀ k, k < n → ad' k = ad k) (hL : okLs n L) (r : LR G ad nL L ls) : LR G ad' nL L ls := ⟨r.1, r.2.1, r.2.2.1, fun i v hv => by rw [em_congr h (hL i v hv)]; exact r.2.2.2 i v hv⟩
theorem lk_lt : ∀ {L : Lc} {i : Nat} {v : MV}, lk L i = some v → i < L.length
  | [], _, _, h => by simp [lk] at h
  | _ :: _, 0, _, _ => by simp
  | _ :: r, i + 1, _, h => by
    have := lk_lt (L := r) (i := i) h
    simp; omega
theorem sto_len : ∀ (L : Lc) (i : Nat) (v : MV), (sto L i v).length = L.length
  | [], _, _ => rfl
  | _ :: _, 0, _ => rfl
  | _ :: r, i + 1, v => by simp [sto, sto_len r i v]
theorem sto2_len : ∀ (L : Lc) (i : Nat) (v : MV), (sto2 L i v).length = L.length
  | [], 0, _ => rfl
  | [], _ + 1, _ => rfl
  | [_], 0, _ => rfl
  | _ :: _ :: _, 0, _ => rfl
  | _ :: r, i + 1, v => by
    cases r <;> simp [sto2, sto2_len]
theorem lk_sto : ∀ (L : Lc) (i : Nat) (v : MV) (j : Nat) (u : MV), lk (sto L i v) j = some u → (j = i ∧ u = v) ∨ (j ≠ i ∧ lk L j = some u)
  | [], _, _, _, _, h => by simp [sto, lk] at h
  | _ :: _, 0, v, 0, u, h => by left; simp [sto, lk] at h; exact ⟨rfl, h.symm⟩
  | _ :: _, 0, _, j + 1, _, h => by right; exact ⟨by omega, h⟩
  | _ :: _, i + 1, _, 0, _, h => by right; exact ⟨by omega, h⟩
  | _ :: r, i + 1, v, j + 1, u, h => by
    rcases lk_sto r i v j u h with ⟨a, b⟩ | ⟨a, b⟩
    · left; exact ⟨by omega, b⟩
    · right; exact ⟨by omega, b⟩
theorem lk_sto2 : ∀ (L : Lc) (i : Nat) (v : MV) (j : Nat) (u : MV), i + 1 < L.length → lk (sto2 L i v) j = some u → (j = i ∧ u = v) ∨ (j ≠ i ∧ j ≠ i + 1 ∧ lk L j = some u)
  | [], _, _, _, _, hl, _ => by simp at hl
  | [_], 0, _, _, _, hl, _ => by simp at hl
  | _ :: _ :: _, 0, v, 0, u, _, h => by left; simp [sto2, lk] at h; exact ⟨rfl, h.symm⟩
  | _ :: _ :: _, 0, _, 1, _, _, h => by simp [sto2, lk] at h
  | _ :: _ :: _, 0, _, j + 2, _, _, h => by right; exact ⟨by omega, by omega, h⟩
  | _ :: r, i + 1, v, 0, u, hl, h => by
    right
    cases r with
    | nil => simp at hl
    | cons x r => exact ⟨by omega, by omega, h⟩
  | _ :: r, i + 1, v, j + 1, u, hl, h => by
    cases r with
    | nil => simp at hl
    | cons x r =>
      rcases lk_sto2 (x :: r) i v j u (by simpa using hl) h with ⟨a, b⟩ | ⟨a, b, c⟩
      · left; exact ⟨by omega, b⟩
      · right; exact ⟨by omega, by omega, c⟩
def lvL (G : GX) (ad : Nat → Nat) (L : Lc) : List (Nat × Value) := (List.range L.length).filterMap (fun i => (lk L i).map (fun v => (i, em G ad v)))
theorem lvL_mem {G : GX} {ad : Nat → Nat} {L : Lc} {i : Nat} {v : MV} (h : lk L i = some v) : (i, em G ad v) ∈ lvL G ad L := List.mem_filterMap.mpr ⟨i, List.mem_range.mpr (lk_lt h), by rw [h]; rfl⟩
theorem LR.has {G : GX} {ad : Nat → Nat} {nL : Nat} {L : Lc} {ls : Array Slot} (r : LR G ad nL L ls) : lv_has ls nL (lvL G ad L) := by
  refine ⟨r.1, r.2.2.1, fun q hq => ?_⟩
  obtain ⟨i, -, hi⟩ := List.mem_filterMap.mp hq
  cases h : lk L i with
  | none => rw [h] at hi; cases hi
  | some v => rw [h] at hi; cases hi; exact r.2.2.2 i v h
theorem em_cat {G : GX} {ad : Nat → Nat} {v : MV} (h : (em G ad v).category = 2) : ∃ z, v = vl z := by
  rcases v with z | z | (_ | a) | k
  · simp [em, Value.category] at h
  · exact ⟨z, rfl⟩
  · simp [em, va_rf, Value.category] at h
  · simp [em, va_rf, Value.category] at h
  · simp [em, Value.category] at h
theorem nol_no {L : Lc} {i j : Nat} {z : Int} (h : nol L i = true) (hj : j + 1 = i) (hz : lk L j = some (vl z)) : False := by
  subst hj
  simp [nol, hz] at h
theorem LR_sto {G : GX} {ad : Nat → Nat} {nL i : Nat} {L : Lc} {ls ls' : Array Slot} {v : MV} (r : LR G ad nL L ls) (hn : nol L i = true)
    (h : lv_has ls' nL ((i, em G ad v) :: (lvL G ad L).filter (fun q => !(q.1 == i) && !(q.1 + 1 == i && q.2.category == 2)))) : LR G ad nL (sto L i v) ls' := by
  refine ⟨h.1, by rw [sto_len]; exact r.2.1, h.2.1, fun j u hu => ?_⟩
  rcases lk_sto L i v j u hu with ⟨a, b⟩ | ⟨a, b⟩
  · subst a; subst b
    exact h.2.2 (j, em G ad u) List.mem_cons_self
  · refine h.2.2 (j, em G ad u) (List.mem_cons_of_mem _ (List.mem_filter.mpr ⟨lvL_mem b, ?_⟩))
    simp only [Bool.and_eq_true, Bool.not_eq_true', beq_eq_false_iff_ne, Bool.and_eq_false_iff]
    refine ⟨a, ?_⟩
    by_cases e : j + 1 = i
    · right
      intro hc
      obtain ⟨z, rfl⟩ := em_cat hc
      exact nol_no hn e b
    · left; exact e
theorem LR_sto2 {G : GX} {ad : Nat → Nat} {nL i : Nat} {L : Lc} {ls ls' : Array Slot} {v : MV} (r : LR G ad nL L ls) (hl : i + 1 < L.length) (hn : nol L i = true)
    (h : lv_has ls' nL ((i, em G ad v) :: (lvL G ad L).filter (fun q => !(q.1 == i) && (!(q.1 == i + 1) && !(q.1 + 1 == i && q.2.category == 2))))) : LR G ad nL (sto2 L i v) ls' := by
  refine ⟨h.1, by rw [sto2_len]; exact r.2.1, h.2.1, fun j u hu => ?_⟩
  rcases lk_sto2 L i v j u hl hu with ⟨a, b⟩ | ⟨a, a2, b⟩
  · subst a; subst b
    exact h.2.2 (j, em G ad u) List.mem_cons_self
  · refine h.2.2 (j, em G ad u) (List.mem_cons_of_mem _ (List.mem_filter.mpr ⟨lvL_mem b, ?_⟩))
    simp only [Bool.and_eq_true, Bool.not_eq_true', beq_eq_false_iff_ne, Bool.and_eq_false_iff]
    refine ⟨a, a2, ?_⟩
    by_cases e : j + 1 = i
    · right
      intro hc
      obtain ⟨z, rfl⟩ := em_cat hc
      exact nol_no hn e b
    · left; exact e
theorem okL_sto {n i : Nat} {L : Lc} {v : MV} (h : okLs n L) (hv : okV n v) : okLs n (sto L i v) := fun j u hu => by
  rcases lk_sto L i v j u hu with ⟨_, b⟩ | ⟨_, b⟩
  · rw [b]; exact hv
  · exact h j u b
theorem okL_sto2 {n i : Nat} {L : Lc} {v : MV} (hl : i + 1 < L.length) (h : okLs n L) (hv : okV n v) : okLs n (sto2 L i v) := fun j u hu => by
  rcases lk_sto2 L i v j u hl hu with ⟨_, b⟩ | ⟨_, _, b⟩
  · rw [b]; exact hv
  · exact h j u b
/-! constants, as a frame finds them at its start -/
def k_bl : List Int32 := [99, 99, 100, 100, 101, 102, 102, 103, 103, 97, 97, 98]
def k_bs : List Int32 := [32, 35, 32, 35, 32, 32, 35, 32, 35, 32, 35, 32]
def nestL : List (String × Nat × MethodName × String) := [(RX6, 25, yX3_init, "ChimeDrum"), (RX3, 28, yX2_init, "ChimeDrum"), (RX6, 32, yX4_init, "ChimeDrum"), (RX6, 43, yX5_init, "ChimeDrum")]
def FN (U : State) : Prop := ∀ q ∈ nestL, va_Nw (.methodLinkNest q.1 q.2.1 q.2.2.1 q.2.2.2) U
def FX (G : GX) (U : State) : Prop :=
  gB G ≤ U.heap.size ∧ va_K (gD G) vwCl (gT G) U ∧
  (va_Z RX5 "STEPS" "[I" (.ref (gk G 2)) (gW G) U U.heap ∧ va_T .int (gk G 2) 7 (fun j => .int (Int32.ofInt (k_steps j))) (gW G) U U.heap) ∧
  (va_Z RX2 "DIGITS" "[I" (.ref (gk G 3)) (gW G) U U.heap ∧ va_T .int (gk G 3) 12 (fun j => .int (Int32.ofInt (k_digits j))) (gW G) U U.heap) ∧
  (vk_R RX4 29 "ccddeffggaab" (gk G 0) U ∧ vk_R RX4 37 " # #  # # # " (gk G 1) U ∧ vk_S 2 [12, 12] [k_bl, k_bs] (gk G) (gb G) (gW G) U U.heap ∧ va_Z "java/lang/String" "COMPACT_STRINGS" "Z" (.int 1) (gW G) U U.heap ∧ va_Zq "jdk/internal/util/Preconditions" "SIOOBE_FORMATTER" "Ljava/util/function/BiFunction;" (gW G) U U.heap ∧ FN U) ∧
  va_AO RX5 U ∧ (va_X (gk G 4) (gN G) (fun j => Int32.ofInt (gX G j)) U U.heap ∧ gk G 4 < gB G)
theorem FX_core {G : GX} {u U : State} (hal : u.vm.Alike U.vm) (hR : ∀ (own : String) (k : Nat) (tx : String) (a : Nat), vk_R own k tx a u → vk_R own k tx a U) (hN : FN u → FN U) (hz : u.heap.size ≤ U.heap.size) (hq : ∀ a : Nat, a < u.heap.size → ¬ gW G a → U.heap[a]? = u.heap[a]?) (h : FX G u) : FX G U := by
  obtain ⟨h1, h2, ⟨h3, h4⟩, ⟨h5, h6⟩, ⟨h7, h8, h9, h10, h11, h15⟩, h12, h13, h14⟩ := h
  refine ⟨Nat.le_trans h1 hz, h2.moved hal, ⟨(h3.kept hq).moved hal, (h4.kept hq).moved hal⟩, ⟨(h5.kept hq).moved hal, (h6.kept hq).moved hal⟩, ⟨hR _ _ _ _ h7, hR _ _ _ _ h8, (h9.kept hq).moved hal, (h10.kept hq).moved hal, (h11.kept hq).moved hal, hN h15⟩, h12.moved hal, (h13.kept ?_).moved hal, h14⟩
  exact hq _ (Nat.lt_of_lt_of_le h14 h1) (Nat.not_le.mpr h14)
theorem FX_go {G : GX} {s U : State} {H : Heap} {locs : List Loc} (h : FX G s) (hS : va_S (gW G) s.heap H locs) (hU : U.heap = H) (hW : s.WarmedH U.vm) : FX G U := by
  subst hU
  exact FX_core hW.alike (fun _ _ _ _ q => q.warm hW) (fun h9 q hq => va_Nw.warmM hW (h9 q hq)) hS.1 hS.2.1 h
theorem FX_call {G : GX} {U : State} {g : JFrame} {mk : MethodId} {a : Array Value} (h : FX G U) : FX G (U.calling g mk a) :=
  FX_core (u := U) (U := U.calling g mk a) (Vm.Alike.refl U.vm) (fun _ _ _ _ q => vk_R.same (u := U) (U := U.calling g mk a) rfl q) (fun h9 q hq => va_Nw.same (u := U) (U := U.calling g mk a) rfl rfl (h9 q hq)) (Nat.le_refl _) (fun _ _ _ => rfl) h
def lw_g : List Cond := lw_tbl.filter goodWord
theorem in_g {w : Cond} (h : w ∈ lw_tbl) (hg : goodWord w = true) : w ∈ lw_g := List.mem_filter.mpr ⟨h, hg⟩
def FCtx (G : GX) (p : Program) (R : Room) (s : State) (m : MethodId) (args : Array Value) (meth : Method) (c : Code) (cc : ByteArray) (nL : Nat) (y : MethodName) : Prop :=
  p.tables.exec = Jvm.exec ∧ c.code = cc ∧ c.maxLocals = nL ∧ s.vm.findClass y.cls = some m.cls ∧ (∀ w ∈ lw_g, w.before args s = true) ∧ (meth.name = y.name ∧ (y.name = "addNotes" → 4 ≤ R.frames ∧ 85 ≤ R.locals)) ∧ FX G s ∧ 1 ≤ R.frames ∧ 38 ≤ R.locals
def WPd (G : GX) (p : Program) (l : Launch) (e : Env) (R : Room) (s : State) (m : MethodId) (args : Array Value) (below : List Frame) (meth : Method) (c : Code) (nL : Nat) (Qm : State → Prop) (ad0 : Nat → Nat) (n0 s0 : Nat) (w0 : Wd) (pc : Nat) (L : Lc) (st : List MV) (w : Wd) : Prop :=
  (w.1 ≤ w0.1 ∧ w.2.1 ≤ w0.2.1) ∧ ∀ (ad : Nat → Nat) (H : Heap) (locs : List Loc) (ls : Array Slot), n0 ≤ w.1 → s0 ≤ w.2.1 → (∀ k, k < n0 → ad k = ad0 k) → okW w → okLs w.1 L → okSt w.1 st → va_P (gD G) vwCl (wW G ad w) H → va_D (gW G) (wW G ad w) → va_S (gW G) s.heap H locs → LR G ad nL L ls →
    W p l e R s m args below meth c H locs (w.1 - n0) (w.2.1 - s0) Qm (F0 m pc ls (st.map (em G ad)))
/-- the ends of a method -/
def RetOK (G : GX) (p : Program) (l : Launch) (e : Env) (R : Room) (s : State) (m : MethodId) (args : Array Value) (below : List Frame) (meth : Method) (c : Code) (cc : ByteArray) (rt : Nat) (Qm : State → Prop) (ad0 : Nat → Nat) (n0 s0 : Nat) (r0 : Option MV) (w0 : Wd) : Prop :=
  ∀ (ad : Nat → Nat) (H : Heap) (locs : List Loc) (ls : Array Slot) (pc : Nat), n0 ≤ w0.1 → s0 ≤ w0.2.1 → (∀ k, k < n0 → ad k = ad0 k) → okW w0 → (∀ v, r0 = some v → okV w0.1 v) → va_P (gD G) vwCl (wW G ad w0) H → va_D (gW G) (wW G ad w0) → va_S (gW G) s.heap H locs →
    (∀ z, r0 = some (vi z) → (rt = 1 ∨ rt = 2 ∧ (z = 0 ∨ z = 1)) → decode cc pc = .ok (.ireturn, 1) → W p l e R s m args below meth c H locs (w0.1 - n0) (w0.2.1 - s0) Qm (F0 m pc ls [.int (Int32.ofInt z)])) ∧
    (∀ z, r0 = some (vl z) → rt = 3 → decode cc pc = .ok (.lreturn, 1) → W p l e R s m args below meth c H locs (w0.1 - n0) (w0.2.1 - s0) Qm (F0 m pc ls [.long (Int64.ofInt z)])) ∧
    (r0 = none → rt = 0 → decode cc pc = .ok (.return_, 1) → W p l e R s m args below meth c H locs (w0.1 - n0) (w0.2.1 - s0) Qm (F0 m pc ls []))
/-- an instruction of the mini machine is the machine's at that place -/
def FOK (gp : GX → Prop) (f : Fn) (y : MethodName) (cc : ByteArray) (nL : Nat) (rt : Nat) (pc : Nat) : Prop :=
  ∀ (G : GX) (p : Program) (l : Launch) (e : Env) (R : Room) (s : State) (m : MethodId) (args : Array Value) (below : List Frame) (meth : Method) (c : Code) (Qm : State → Prop) (ad0 : Nat → Nat) (n0 s0 : Nat) (r0 : Option MV) (w0 : Wd),
    gp G → FCtx G p R s m args meth c cc nL y → w0.1 - n0 ≤ R.cells → w0.2.1 - s0 ≤ R.slots → RetOK G p l e R s m args below meth c cc rt Qm ad0 n0 s0 r0 w0 →
    ∀ (L : Lc) (st : List MV) (w : Wd), (match f L st w with
      | some (Sum.inl (pc', L', st', w')) => WPd G p l e R s m args below meth c nL Qm ad0 n0 s0 w0 pc' L' st' w'
      | some (Sum.inr (r, w')) => r = r0 ∧ w' = w0
      | none => False) → WPd G p l e R s m args below meth c nL Qm ad0 n0 s0 w0 pc L st w
