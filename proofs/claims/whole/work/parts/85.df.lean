/-! the calls, one by one: tune -/
section PT
variable {bs bs' : Nat → Int} {n : Nat}
theorem sgn_congr (h : ∀ i, i < n → bs i = bs' i) : sgn bs n = sgn bs' n := by
  funext i
  unfold sgn
  by_cases c : i < n
  · rw [if_pos c, if_pos c, h i c]
  · rw [if_neg c, if_neg c]
theorem pNote_congr (h : sgn bs n = sgn bs' n) (ps : List Int) (i : Nat) : pNote bs n ps i = pNote bs' n ps i := by unfold pNote; rw [h]
theorem pChord_congr (h : sgn bs n = sgn bs' n) : ∀ f ps i, pChord bs n f ps i = pChord bs' n f ps i
  | 0, _, _ => rfl
  | f + 1, ps, i => by
    rw [pChord, pChord, h, pNote_congr h]
    cases pNote bs' n ps i with
    | inl e => rfl
    | inr x => simp only [pChord_congr h f]
theorem pHead_congr (h : sgn bs n = sgn bs' n) (i : Nat) : pHead bs n i = pHead bs' n i := by unfold pHead; rw [h, pChord_congr h, pNote_congr h]
theorem pUnit_congr (h : sgn bs n = sgn bs' n) (ln : Int) (i : Nat) : pUnit bs n ln i = pUnit bs' n ln i := by unfold pUnit; rw [h, pHead_congr h]
theorem pTune_congr (h : sgn bs n = sgn bs' n) : ∀ f T i, pTune bs n f T i = pTune bs' n f T i
  | 0, _, _ => rfl
  | f + 1, T, i => by
    rw [pTune, pTune, pUnit_congr h]
    cases pUnit bs' n (tln T) i with
    | inl e => rfl
    | inr x => simp only [pTune_congr h f]
end PT
theorem TM_congr {w : Wd} {a : Nat} {tp tu ta tp' tu' ta' : Nat → Int} {nu nn ln : Nat} (h : TM w a tp tu ta nu nn ln) (h1 : ∀ k, k < nn → tp' k = tp k ∧ tu' k = tu k) (h2 : ∀ u, u < nu → ta' u = ta u) : TM w a tp' tu' ta' nu nn ln := by
  obtain ⟨pl, fa, L, Pt, Un, x1, x2, x3, x4⟩ := h
  exact ⟨pl, fa, L, Pt, Un, x1, fun k hk => ⟨(x2 k hk).1.trans (h1 k hk).1.symm, (x2 k hk).2.trans (h1 k hk).2.symm⟩, x3, fun u hu => (x4 u hu).trans (h2 u hu).symm⟩
theorem OT_congr {tp tu tp' tu' : Nat → Int} {nn : Nat} (h : OT tp tu nn) (h1 : ∀ k, k < nn → tp' k = tp k ∧ tu' k = tu k) : OT tp' tu' nn := by
  intro k k' a b
  rw [(h1 k (by omega)).1, (h1 k (by omega)).2, (h1 k' b).1, (h1 k' b).2]
  exact h k k' a b
theorem TOK_congr {tp tu ta tp' tu' ta' : Nat → Int} {nu nn ln : Nat} (h : TOK nu nn ln tp tu ta) (h1 : ∀ k, k < nn → tp' k = tp k ∧ tu' k = tu k) (h2 : ∀ u, u < nu → ta' u = ta u) : TOK nu nn ln tp' tu' ta' := by
  obtain ⟨K1, K2, K3, K4, K5, K6⟩ := h
  exact ⟨K1, K2, K3, fun k hk => by rw [(h1 k hk).1]; exact K4 k hk, fun k hk => by rw [(h1 k hk).2]; exact K5 k hk, fun u hu => by rw [h2 u hu]; exact K6 u hu⟩
theorem sum_nn : ∀ (l : List Int), (∀ x ∈ l, 1 ≤ x) → (l.length : Int) ≤ l.sum
  | [], _ => by simp
  | x :: l, h => by
    have a := sum_nn l (fun y hy => h y (List.mem_cons_of_mem _ hy))
    have b := h x List.mem_cons_self
    rw [List.sum_cons, List.length_cons]
    omega
theorem sum_take {l : List Int} (h : ∀ x ∈ l, 1 ≤ x) {u : Nat} (hu : u < l.length) : 0 ≤ (l.take u).sum ∧ (l.take u).sum < l.sum := by
  have a := sum_nn (l.take u) (fun x hx => h x (List.mem_of_mem_take hx))
  have b := sum_nn (l.drop u) (fun x hx => h x (List.mem_of_mem_drop hx))
  have c : l.sum = (l.take u).sum + (l.drop u).sum := by
    rw [← List.sum_append_int, List.take_append_drop]
  have e : (l.drop u).length = l.length - u := List.length_drop
  omega
theorem sm_take {L : Nat → Int} {l : List Int} (h : ∀ u x, l[u]? = some x → L u = x) : ∀ u, u ≤ l.length → sm L u = (l.take u).sum
  | 0, _ => by simp [sm]
  | u + 1, hu => by
    have hx := List.getElem?_eq_getElem (l := l) (i := u) (by omega)
    rw [sm, sm_take h u (by omega), h u _ hx, List.take_add_one, hx, Option.toList_some, List.sum_append_int]
    simp
/-- a tune that was taken in, on both sides -/
theorem tune_new {w : Wd} {D t j : Nat} {A' : Nat → Nat → Int} {U : TU} {L Pt Un : Nat → Int} (hU : TUok U) (h1 : U.1.length ≤ 30) (h2 : U.2.length ≤ 30) (hA : TA w D (U.1.length : Int) ((U.2.length + ([] : List Int).length : Nat) : Int) (tln U) (j : Int) 0 L Pt Un) (hC : TC L Pt Un U []) (a66 : A' 66 t = U.1.length) (a67 : A' 67 t = U.2.length) (a68 : A' 68 t = tln U) (hta : ∀ u, u < U.1.length → mta A' t u = (U.1.take u).sum) (htp : ∀ k x, U.2[k]? = some x → mtu A' t k = x.1 ∧ mtp A' t k = x.2) : TM w D (mtp A' t) (mtu A' t) (mta A' t) (A' 66 t).toNat (A' 67 t).toNat (A' 68 t).toNat ∧ OT (mtp A' t) (mtu A' t) (A' 67 t).toNat ∧ TD A' t := by
  obtain ⟨k1, k2, k3, k4⟩ := hU
  have hln : 0 ≤ tln U := by
    have := sum_nn U.1 (fun x hx => (k1 x hx).1)
    unfold tln
    omega
  rw [a66, a67, a68]
  have e66 : ((U.1.length : Int)).toNat = U.1.length := Int.toNat_natCast _
  have e67 : ((U.2.length : Int)).toNat = U.2.length := Int.toNat_natCast _
  refine ⟨?_, ?_, ?_⟩
  · rw [e66, e67]
    refine ⟨(j : Int), 0, L, Pt, Un, ?_, fun k hk => ?_, fun u hu => ?_, fun u hu => ?_⟩
    · rw [show (((tln U).toNat : Nat) : Int) = tln U by omega]
      exact hA
    · have hx := List.getElem?_eq_getElem (l := U.2) hk
      have z1 := hC.2.1 k _ hx
      have z2 := htp k _ hx
      exact ⟨z1.2.trans z2.2.symm, z1.1.trans z2.1.symm⟩
    · have hx := List.getElem?_eq_getElem (l := U.1) hu
      rw [hC.1 u _ hx]
      exact k1 _ (List.getElem_mem _)
    · rw [hta u hu]
      exact sm_take hC.1 u (by omega)
  · rw [e67]
    intro k k' hk hk'
    have hx := List.getElem?_eq_getElem (l := U.2) (i := k) (by omega)
    have hy := List.getElem?_eq_getElem (l := U.2) hk'
    have z1 := htp k _ hx
    have z2 := htp k' _ hy
    have z3 := (List.pairwise_iff_getElem.mp k4) k k' (by omega) hk' hk
    rw [z1.1, z1.2, z2.1, z2.2]
    refine ⟨z3.1, fun e => ?_⟩
    rcases Int.lt_or_le (U.2[k]).1 (U.2[k']).1 with y | y
    · exact y
    · exfalso
      have := z3.1
      exact z3.2 (Prod.ext (by omega) e)
  · unfold TD
    rw [a66, a67, a68, e66, e67]
    refine ⟨⟨h1, h2, by omega, fun k hk => ?_, fun k hk => ?_, fun u hu => ?_⟩, by omega, by omega, hln⟩
    · have hx := List.getElem?_eq_getElem (l := U.2) hk
      rw [(htp k _ hx).2]
      have := k3 _ (List.getElem_mem hk)
      exact ⟨this.2.2.1, this.2.2.2⟩
    · have hx := List.getElem?_eq_getElem (l := U.2) hk
      rw [(htp k _ hx).1]
      have := k3 _ (List.getElem_mem hk)
      exact ⟨this.1, this.2.1⟩
    · rw [hta u hu]
      have := sum_take (fun x hx => (k1 x hx).1) hu
      unfold tln at hln ⊢
      omega
section OP
variable {w : Wd} {I : Nat → Int} {A : Nat → Nat → Int} {q S : Nat}
set_option maxHeartbeats 4000000 in
set_option maxRecDepth 100000 in
theorem op_tune (h : INV w I A q S) (x y : Int) : OPS 81 133 [vi x, vi y] w q S := by
  have hI := h
  obtain ⟨hB, hR, hL, hX, hU, hM, hn, hs, m1, m2⟩ := h
  have hB0 := hB
  have hR0 := hR
  have hX0 := hX
  have hU0 := hU
  obtain ⟨nb, nt, BP, b1, b2, b3, b4, b5, b6, b7, b8, b9, b10, b11, b12, b13, b14⟩ := hB
  obtain ⟨n, nt', M, Kp, pc, r1, r2, r3, r4, r5, r6, r7, r8, r9, r10⟩ := hR
  obtain ⟨tl, Tx, x1, x2, x3, x4, x5⟩ := hX
  obtain ⟨D, T, tn, g, u1, u2, u3, u4, u5, u6, u7, u8, u9, u10, u11⟩ := hU
  have ent : nt = nt' := by omega
  subst ent
  have hnt : nt ≤ 36 := b11.2.1
  have hnb : nb ≤ 12 := b11.1
  have h56 := MSg56 hM
  unfold OPS
  by_cases c : (0 ≤ x ∧ x < 6) ∧ (0 ≤ y ∧ y ≤ 60) ∧ y ≤ tn
  rotate_left
  · exact c_tuneX u1 c ⟨_, rfl, ⟨_, h56⟩, m_tuneX h56 (by rw [u9]; exact c) ⟨rfl, I, A, INV_q hI⟩⟩
  obtain ⟨t, rfl⟩ : ∃ t : Nat, x = t := ⟨x.toNat, by omega⟩
  obtain ⟨nn0, rfl⟩ : ∃ t : Nat, y = t := ⟨y.toNat, by omega⟩
  have hsg : sgn g nn0 = sgn (mbs A) nn0 := sgn_congr (fun i hi => u8 i (by omega))
  have hpt := pTune_congr hsg 31 ([], []) 0
  obtain ⟨b, hTt, hb2, hbM, hbO⟩ := u3 t (by omega)
  obtain ⟨v1, v2, v3, v4, v5, v6, v7, v8, hTA⟩ := u5
  obtain ⟨⟨kD, kD1, kD2⟩, hAD2, hAD3, hAD4⟩ := u6
  have hD : 27 ≤ D ∧ D + 4 ≤ 55 := by omega
  refine c_tune u1 u2 hTt hTA hD u7 (by omega) (by omega) (by omega) (fun e w' w'' hp1 hFA ew => ?_) (fun U jj w' w'' hp1 hl1 hl2 hGA ew => ?_)
  · obtain ⟨hf, x1', x2', x3', x4', x5', x6', x7', hTA'⟩ := hFA
    have hf2 : ∀ b, ¬ b = 0 → (b < D ∨ D + 4 ≤ b) → hp w'' b = hp w b := fun b hb0 hb => by rw [ew]; exact hp_pt_of hb0 (fr_at b hf hb)
    have hfr : fr 0 56 w w'' := by rw [ew]; exact fr_pt (fr_mono hf (by omega) (by omega)) (by decide) (by decide)
    have hM' := MS_fr hM hfr (by decide)
    refine ⟨_, rfl, ⟨_, MSg56 hM'⟩, m_tune hM' (by omega) (by omega) u9 (by omega) (fun e' he' w2 I2 A2 hSN hA2 => ⟨some_vi ?_, I2, A2, ?_⟩) (fun U' hU' => ?_)⟩
    · rw [hpt, he'] at hp1
      injection hp1
    · obtain ⟨s1, s2, s3, s4, s5⟩ := hSN
      have hz : ∀ b, b < 56 → hp w2 b = hp w'' b := fun b hb => fr_at b s2 (by omega)
      have ho : ∀ b, ¬ b = 0 → b < 56 → (b < D ∨ D + 4 ≤ b) → hp w2 b = hp w b := fun b h0 h1 h2 => (hz b h1).trans (hf2 b h0 h2)
      have ii : ∀ k, k < 16 ∨ 22 < k → I2 k = I k := s3
      have aa : ∀ k, ¬ k = 72 → ¬ k = 73 → ¬ k = 74 → A2 k = A k := hA2
      have i6 := ii 6 (by decide)
      refine ⟨BG_eq hB0 (fun b _ _ => ho b (by omega) (by omega) (by omega)) (ii 0 (by decide)) (ii 1 (by decide)) (fun k _ _ => aa k (by omega) (by omega) (by omega)), RG_eq hR0 (fun b _ _ => ho b (by omega) (by omega) (by omega)) (ii 1 (by decide)) (ii 2 (by decide)) (ii 3 (by decide)) (ii 5 (by decide)) (aa 63 (by decide) (by decide) (by decide)) (aa 64 (by decide) (by decide) (by decide)), LYR_eq hL (fun b _ _ => ho b (by omega) (by omega) (by omega)), XG_eq hX0 (fun b _ _ => ho b (by omega) (by omega) (by omega)) (ii 39 (by decide)) (aa 79 (by decide) (by decide) (by decide)), ⟨D, T, 0, g, ?_, (ho 26 (by decide) (by decide) (by omega)).trans u2, fun j hj => ?_, fun j hj => ?_, ⟨x1', x2', x3', x4', e, x5', x6', x7', TA_eq hTA' (fun b h1 h2 => (hz b (by omega)).trans (by rw [ew]; exact hp_pt_of (by omega) rfl))⟩, ⟨⟨kD, kD1, kD2⟩, hAD2, hAD3, hAD4⟩, (ho 55 (by decide) (by decide) (by omega)).trans u7, by rw [aa 65 (by decide) (by decide) (by decide)]; exact u8, s4, by omega, by rw [ii 4 (by decide)]; exact u11⟩, s1, s2.1.trans (hfr.1.trans hn), s2.2.1.trans (hfr.2.1.trans hs), by omega, by omega⟩
      · rw [hz 0 (by decide), ew, ii 4 (by decide), i6]
        exact hp_pt_same _ _ _
      · obtain ⟨m1', m2', m3'⟩ := mt_eq (A' := A2) (A := A) (fun k h1 h2 => aa k (by omega) (by omega) (by omega)) j
        rw [m1', m2', m3', aa 66 (by decide) (by decide) (by decide), aa 67 (by decide) (by decide) (by decide), aa 68 (by decide) (by decide) (by decide)]
        obtain ⟨a, y1, y2, ⟨pl, fa, L, Pt, Un, y3, y4⟩, y5⟩ := u3 j hj
        obtain ⟨k, k1, k2⟩ := hAD2 j hj
        have hne := hAD4 j hj
        rw [y1] at k2 hne
        have ea : a = 27 + 4 * k := Option.some.inj k2
        have hne2 : ¬ a = D := fun z => hne (by rw [z])
        exact ⟨a, y1, y2, ⟨pl, fa, L, Pt, Un, TA_eq y3 (fun b h1 h2 => ho b (by omega) (by omega) (by omega)), y4⟩, y5⟩
      · obtain ⟨m1', m2', m3'⟩ := mt_eq (A' := A2) (A := A) (fun k h1 h2 => aa k (by omega) (by omega) (by omega)) j
        unfold TD
        rw [m1', m2', m3', aa 66 (by decide) (by decide) (by decide), aa 67 (by decide) (by decide) (by decide), aa 68 (by decide) (by decide) (by decide)]
        exact u4 j hj
    · rw [hpt, hU'] at hp1
      cases hp1
  · obtain ⟨hf, L, Pt, Un, hTA', hTC⟩ := hGA
    have hf2 : ∀ b, ¬ b = 0 → ¬ b = 26 → (b < D ∨ D + 4 ≤ b) → hp w'' b = hp w b := fun b hb0 hb1 hb => by rw [ew]; exact hp_pt_of hb1 (hp_pt_of hb0 (fr_at b hf hb))
    have hfr : fr 0 56 w w'' := by rw [ew]; exact fr_pt (fr_pt (fr_mono hf (by omega) (by omega)) (by decide) (by decide)) (by decide) (by decide)
    have hM' := MS_fr hM hfr (by decide)
    refine ⟨_, rfl, ⟨_, MSg56 hM'⟩, m_tune hM' (by omega) (by omega) u9 (by omega) (fun e' he' => ?_) (fun U' hU' g1 g2 w2 I2 A2 hSN a66 a67 a68 hta htp hoth => ⟨rfl, I2, A2, ?_⟩)⟩
    · rw [hpt, he'] at hp1
      cases hp1
    have eU : U' = U := by
      rw [hpt, hU'] at hp1
      injection hp1
    subst eU
    obtain ⟨s1, s2, s3, s4, s5⟩ := hSN
    have hz : ∀ b, b < 56 → hp w2 b = hp w'' b := fun b hb => fr_at b s2 (by omega)
    have ho : ∀ b, ¬ b = 0 → ¬ b = 26 → b < 56 → (b < D ∨ D + 4 ≤ b) → hp w2 b = hp w b := fun b h0 h1 h2 h3 => (hz b h2).trans (hf2 b h0 h1 h3)
    have ii : ∀ k, k < 16 ∨ 22 < k → I2 k = I k := s3
    have aa : ∀ k, k < 66 ∨ 74 < k → A2 k = A k := s5
    have i6 := ii 6 (by decide)
    have hTAn : TA w2 D (U'.1.length : Int) ((U'.2.length + ([] : List Int).length : Nat) : Int) (tln U') (jj : Int) 0 L Pt Un := TA_eq hTA' (fun b h1 h2 => (hz b (by omega)).trans (by rw [ew]; exact hp_pt_of (by omega) (hp_pt_of (by omega) rfl)))
    have hTU := (pTune_ok 31 ([], []) U' 0 hU' TUok_0).1
    obtain ⟨nw_1, nw_2, nw_3⟩ := tune_new (t := t) (A' := A2) hTU hl1 hl2 hTAn hTC (by rw [a66, va_up_self]) (by rw [a67, va_up_self]) (by rw [a68, va_up_self]) hta htp
    have blk : ∀ j, j < 6 → ∃ a k, T j = some a ∧ a = 27 + 4 * k ∧ k < 7 ∧ ¬ a = D := by
      intro j hj
      obtain ⟨a, y1, _⟩ := u3 j hj
      obtain ⟨k, k1, k2⟩ := hAD2 j hj
      have hne := hAD4 j hj
      rw [y1] at k2 hne
      exact ⟨a, k, y1, Option.some.inj k2, k1, fun z => hne (by rw [z])⟩
    have oth : ∀ j, j < 6 → ¬ j = t → (A2 66 j = A 66 j ∧ A2 67 j = A 67 j ∧ A2 68 j = A 68 j) ∧ (∀ k, k < (A 67 j).toNat → mtp A2 j k = mtp A j k ∧ mtu A2 j k = mtu A j k) ∧ ∀ u, u < (A 66 j).toNat → mta A2 j u = mta A j u := by
      intro j hj hne
      obtain ⟨o1, o2⟩ := hoth j hj hne
      obtain ⟨K1, K2, _⟩ := (u4 j hj).1
      exact ⟨⟨by rw [a66, va_up_ne _ _ hne], by rw [a67, va_up_ne _ _ hne], by rw [a68, va_up_ne _ _ hne]⟩, fun k hk => ⟨(o2 k (by omega)).2, (o2 k (by omega)).1⟩, fun u hu => o1 u (by omega)⟩
    obtain ⟨ab, kb, tb1, tb2, tb3, tb4⟩ := blk t (by omega)
    have eab : ab = b := by rw [hTt] at tb1; exact (Option.some.inj tb1).symm
    subst eab
    refine ⟨BG_eq hB0 (fun b _ _ => ho b (by omega) (by omega) (by omega) (by omega)) (ii 0 (by decide)) (ii 1 (by decide)) (fun k _ _ => aa k (by omega)), RG_eq hR0 (fun b _ _ => ho b (by omega) (by omega) (by omega) (by omega)) (ii 1 (by decide)) (ii 2 (by decide)) (ii 3 (by decide)) (ii 5 (by decide)) (aa 63 (by decide)) (aa 64 (by decide)), LYR_eq hL (fun b _ _ => ho b (by omega) (by omega) (by omega) (by omega)), XG_eq hX0 (fun b _ _ => ho b (by omega) (by omega) (by omega) (by omega)) (ii 39 (by decide)) (aa 79 (by decide)), ⟨ab, va_up T t (some D), 0, g, ?_, ?_, fun j hj => ?_, fun j hj => ?_, ?_, ⟨⟨kb, tb3, tb2⟩, fun j hj => ?_, fun j j' hj hj' hne => ?_, fun j hj => ?_⟩, (ho 55 (by decide) (by decide) (by decide) (by omega)).trans u7, by rw [aa 65 (by decide)]; exact u8, s4, by omega, by rw [ii 4 (by decide)]; exact u11⟩, s1, s2.1.trans (hfr.1.trans hn), s2.2.1.trans (hfr.2.1.trans hs), by omega, by omega⟩
    · rw [hz 0 (by decide), ew, ii 4 (by decide), i6]
      exact hp_pt_of (by decide) (hp_pt_same _ _ _)
    · rw [hz 26 (by decide), ew]
      exact hp_pt_same _ _ _
    · by_cases e : j = t
      · subst e
        exact ⟨D, va_up_self _ _ _, hD, nw_1, nw_2⟩
      · obtain ⟨⟨o1, o2, o3⟩, o4, o5⟩ := oth j hj e
        obtain ⟨a, y1, y2, y3, y5⟩ := u3 j hj
        obtain ⟨a', k, z1, z2, z3, z4⟩ := blk j hj
        have eaa : a' = a := by rw [y1] at z1; exact (Option.some.inj z1).symm
        subst eaa
        refine ⟨a', by rw [va_up_ne _ _ e]; exact y1, y2, ?_, ?_⟩
        · rw [o1, o2, o3]
          have y3' := TM_congr y3 o4 o5
          obtain ⟨pl, fa, L', Pt', Un', x1', x2'⟩ := y3'
          exact ⟨pl, fa, L', Pt', Un', TA_eq x1' (fun b h1 h2 => ho b (by omega) (by omega) (by omega) (by omega)), x2'⟩
        · rw [o2]
          exact OT_congr y5 o4
    · by_cases e : j = t
      · subst e; exact nw_3
      · obtain ⟨⟨o1, o2, o3⟩, o4, o5⟩ := oth j hj e
        obtain ⟨d1, d2, d3, d4⟩ := u4 j hj
        unfold TD
        rw [o1, o2, o3]
        exact ⟨TOK_congr d1 o4 o5, d2, d3, d4⟩
    · obtain ⟨pl, fa, L', Pt', Un', x1', _⟩ := hbM
      exact ⟨_, _, _, pl, fa, L', Pt', Un', TA_eq x1' (fun b h1 h2 => ho b (by omega) (by omega) (by omega) (by omega))⟩
    · by_cases e : j = t
      · subst e; rw [va_up_self]; exact ⟨kD, kD1, by rw [kD2]⟩
      · rw [va_up_ne _ _ e]; exact hAD2 j hj
    · by_cases e : j = t
      · subst e
        rw [va_up_self, va_up_ne _ _ (fun z => hne z.symm)]
        exact fun z => hAD4 j' hj' z.symm
      · by_cases e' : j' = t
        · subst e'
          rw [va_up_self, va_up_ne _ _ e]
          exact hAD4 j hj
        · rw [va_up_ne _ _ e, va_up_ne _ _ e']
          exact hAD3 j j' hj hj' hne
    · by_cases e : j = t
      · subst e
        rw [va_up_self]
        exact fun z => tb4 (Option.some.inj z).symm
      · rw [va_up_ne _ _ e, ← hTt]
        exact hAD3 j t hj (by omega) e
end OP
