/-! no choice where strokes stand too near for the hammers -/
/-- strokes stand round the ring in their order -/
def RO (n hole : Nat) (ta : Nat → Nat) (hs : Nat → Int) (s : Nat) : Prop := (∀ i, i < s → ta i < n ∧ hs i = ((hole + ta i) % n : Nat)) ∧ ∀ i j, i < s → j < i → ta j < ta i
theorem RO_at {n hole : Nat} {ta : Nat → Nat} {hs : Nat → Int} {s : Nat} (hh : hole < n) (h : RO n hole ta hs s) {i : Nat} (hi : i < s) : ta i < n ∧ (hs i = hole + ta i ∧ hole + ta i < n ∨ hs i = hole + ta i - n ∧ n ≤ hole + ta i) := by
  obtain ⟨h1, h2⟩ := h.1 i hi
  refine ⟨h1, ?_⟩
  rw [h2]
  rcases Nat.lt_or_ge (hole + ta i) n with q | q
  · rw [Nat.mod_eq_of_lt q]; left; exact ⟨by omega, q⟩
  · rw [Nat.mod_eq_sub_mod q, Nat.mod_eq_of_lt (by omega)]; right; exact ⟨by omega, q⟩
theorem RO_dist {n hole : Nat} {ta : Nat → Nat} {hs : Nat → Int} {s : Nat} {r : Int} (hh : hole < n) (h : RO n hole ta hs s) {i j : Nat} (hi : i < s) (hj : j < i) : kC n r hs i j = true ↔ ((ta i : Int) - ta j < r ∨ (n : Int) - (ta i - ta j) < r) := by
  have a := RO_at hh h hi
  have b := RO_at hh h (i := j) (by omega)
  have c := h.2 i j hi hj
  unfold kC dist
  rw [decide_eq_true_eq]
  split <;> split <;> omega
theorem RO_none {n hole : Nat} {ta : Nat → Nat} {hs : Nat → Int} {s H : Nat} {r : Int} {e : Nat → Nat} (hh : hole < n) (h : RO n hole ta hs s) (hH : H ≤ 3) (he : ∀ i, i < s → e i < H) {i j : Nat} (hi : i < s) (hj : j < i) (hk : kC n r hs i j = true) (h1 : H ≤ i - j) (h2 : H ≤ s - i + j) : ¬ vldB n r hs e s = true := by
  intro hv
  rw [vldB_iff] at hv
  have nd : ∀ a b, a < s → b < a → ((ta a : Int) - ta b < r ∨ (n : Int) - (ta a - ta b) < r) → ¬ e a = e b := by
    intro a b ha hb hd q
    have := (RO_dist (r := r) hh h ha hb).mpr hd
    exact hv a ha b hb q (of_decide_eq_true this)
  have lt := fun a b (ha : a < s) (hb : b < a) => h.2 a b ha hb
  have hn := fun a (ha : a < s) => (h.1 a ha).1
  have le : ∀ a b, a < s → b ≤ a → ta b ≤ ta a := by
    intro a b ha hb
    rcases Nat.lt_or_ge b a with q | q
    · exact Nat.le_of_lt (lt a b ha q)
    · rw [show b = a by omega]; exact Nat.le_refl _
  rcases (RO_dist (r := r) hh h hi hj).mp hk with q | q
  · -- strokes j .. j + H, one after the other
    have nr : ∀ a b, a ≤ i → j ≤ b → b < a → ¬ e a = e b := fun a b ha hb hab => nd a b (by omega) hab (Or.inl (by have := le i a hi ha; have := le b j (by omega) hb; omega))
    have g := fun k (hk : k ≤ i) => he k (by omega)
    rcases Nat.lt_or_ge H 1 with z | z
    · have := he i hi; omega
    · have n1 := nr (j + 1) j (by omega) (by omega) (by omega)
      have e0 := g j (by omega)
      have e1 := g (j + 1) (by omega)
      rcases Nat.lt_or_ge H 2 with z2 | z2
      · omega
      · have n2 := nr (j + 2) j (by omega) (by omega) (by omega)
        have n3 := nr (j + 2) (j + 1) (by omega) (by omega) (by omega)
        have e2 := g (j + 2) (by omega)
        rcases Nat.lt_or_ge H 3 with z3 | z3
        · omega
        · have n4 := nr (j + 3) j (by omega) (by omega) (by omega)
          have n5 := nr (j + 3) (j + 1) (by omega) (by omega) (by omega)
          have n6 := nr (j + 3) (j + 2) (by omega) (by omega) (by omega)
          have e3 := g (j + 3) (by omega)
          omega
  · -- strokes i .. round to j
    have nr1 : ∀ a b, a < s → i ≤ b → b < a → ¬ e a = e b := fun a b ha hb hab => nd a b ha hab (Or.inl (by have := hn a ha; have := le b i (by omega) hb; have := Int.natCast_nonneg (ta j); omega))
    have nr2 : ∀ a b, a ≤ j → b < a → ¬ e a = e b := fun a b ha hab => nd a b (by omega) hab (Or.inl (by have := le j a (by omega) ha; have := hn i hi; omega))
    have nr3 : ∀ a b, a < s → i ≤ a → b ≤ j → ¬ e a = e b := fun a b ha hia hb => nd a b ha (by omega) (Or.inr (by have := le a i ha hia; have := le j b (by omega) hb; omega))
    obtain ⟨g, eg⟩ : ∃ g : Nat → Nat, g = fun k => if i + k < s then i + k else i + k - s := ⟨_, rfl⟩
    have nr : ∀ a b, a ≤ H → b < a → ¬ e (g a) = e (g b) := by
      intro a b ha hb
      rw [eg]
      show ¬ e (if i + a < s then i + a else i + a - s) = e (if i + b < s then i + b else i + b - s)
      by_cases ca : i + a < s
      · rw [if_pos ca, if_pos (by omega)]
        exact nr1 _ _ ca (by omega) (by omega)
      · rw [if_neg ca]
        by_cases cb : i + b < s
        · rw [if_pos cb]
          exact fun q => nr3 (i + b) (i + a - s) cb (by omega) (by omega) q.symm
        · rw [if_neg cb]
          exact nr2 _ _ (by omega) (by omega)
    have gl : ∀ a, a ≤ H → e (g a) < H := by
      intro a ha
      rw [eg]
      show e (if i + a < s then i + a else i + a - s) < H
      split
      · exact he _ (by omega)
      · exact he _ (by omega)
    generalize g = g at *
    rcases Nat.lt_or_ge H 1 with z | z
    · have := he i hi; omega
    · have n1 := nr 1 0 (by omega) (by omega)
      have e0 := gl 0 (by omega)
      have e1 := gl 1 (by omega)
      rcases Nat.lt_or_ge H 2 with z2 | z2
      · omega
      · have n2 := nr 2 0 (by omega) (by omega)
        have n3 := nr 2 1 (by omega) (by omega)
        have e2 := gl 2 (by omega)
        rcases Nat.lt_or_ge H 3 with z3 | z3
        · omega
        · have n4 := nr 3 0 (by omega) (by omega)
          have n5 := nr 3 1 (by omega) (by omega)
          have n6 := nr 3 2 (by omega) (by omega)
          have e3 := gl 3 (by omega)
          omega
theorem RO_bst {n hole : Nat} {ta : Nat → Nat} {hs : Nat → Int} {s H f0 : Nat} {r : Int} {pin : Nat → Int} (hh : hole < n) (h : RO n hole ta hs s) (hH : H ≤ 3) (hH1 : 0 < H) {i j : Nat} (hi : i < s) (hj : j < i) (hk : kC n r hs i j = true) (h1 : H ≤ i - j) (h2 : H ≤ s - i + j) : bst n r pin hs f0 H s (H ^ s) = none := by
  have bs := bst_spec n r pin hs f0 H s (H ^ s)
  cases hb : bst n r pin hs f0 H s (H ^ s) with
  | none => rfl
  | some x =>
    obtain ⟨l, k⟩ := x
    rw [hb] at bs
    exact absurd bs.2.1 (RO_none hh h hH (fun i _ => dgt_lt hH1) hi hj hk h1 h2)
set_option maxHeartbeats 4000000 in
set_option maxRecDepth 100000 in
theorem c_chooseB {d : Nat} {w : Wd} {r l pc : Int} {s H f0 n hole : Nat} {ta : Nat → Nat} {Ho Lk pin : Nat → Int} {Q : Option MV → Wd → Prop} (h17 : hp w 17 = co 2 [vr 18, vi (s : Int), vi (H : Int), vr 19, vr 20, vr 21, vr 22, vr 23]) (h19 : hp w 19 = ca 0 12 Ho) (h20 : hp w 20 = ca 0 12 Lk) (hR : CHR w) (h9 : hp w 9 = co 0 [vr 10, vr 11, vi (n : Int), vi r, vi l, vi pc]) (hn1 : 8 ≤ n) (hn2 : n ≤ 64) (hh : hole < n) (hO : RO n hole ta Ho s) (hL : LKS Lk (kL pin Ho f0) s H) (hs : s ≤ 12) (hH : H ≤ 3) (hH1 : 0 < H)
    (kt : ∀ w' G l k, fr 18 24 w w' → hp w' 19 = hp w 19 → hp w' 20 = hp w 20 → CHR w' → hp w' 18 = ca 0 12 G → bst n r pin Ho f0 H s (H ^ s) = some (l, k) → l < 1000 → (∀ i, i < s → G i = (dgt H s k i : Nat)) → Q (some (vi l)) w')
    (kf : ∀ w', fr 18 24 w w' → hp w' 19 = hp w 19 → hp w' 20 = hp w 20 → CHR w' → bst n r pin Ho f0 H s (H ^ s) = none → Q (some (vi 1000)) w') : CallD pgm (d + 3) 24 [vr 17, vr 9] w Q := by
  have h01 : ∀ i h, 0 ≤ kL pin Ho f0 i h ∧ kL pin Ho f0 i h ≤ 1 := by intro i h; unfold kL; split <;> omega
  have db := dp_bst (n := n) (r := r) (pin := pin) (hs := Ho) (f0 := f0) (H := H) (s := s) (c0 := dcd 0 0) hH1 hs
  have bd := dV_bd (K := kC n r Ho) (H := H) h01 s 0 (dcd 0 0)
  refine c_choose (lk := kL pin Ho f0) h17 h19 h20 hR h9 (by omega) (fun i hi => ?_) h01 hL hs hH hH1 (fun w' G a1 a2 a3 a4 a5 a6 => ?_) (fun w' i j a1 a2 a3 a4 h1 h2 h3 h4 h5 => ?_)
  · have := RO_at hh hO hi; omega
  · by_cases c : dV (kC n r Ho) (kL pin Ho f0) H s 0 (dcd 0 0) < 1000
    · obtain ⟨b1, b2⟩ := db.1 c
      exact kt w' G _ _ a1 a2 a3 a4 a5 b1 c (fun i hi => by rw [a6 c i hi, (b2 i hi).2])
    · have e : dV (kC n r Ho) (kL pin Ho f0) H s 0 (dcd 0 0) = 1000 := by omega
      rw [e]
      exact kf w' a1 a2 a3 a4 (db.2 c)
  · exact kf w' a1 a2 a3 a4 (RO_bst hh hO hH hH1 h1 h2 h3 h4 h5)
