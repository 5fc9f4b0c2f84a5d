/-! String.charAt of a constant: the JDK's own methods, by contract -/
def wsY (y : MethodName) (bytes : ByteArray) (n : Nat) (ret : Option FieldType) : List Cond := Cond.code y bytes n ret :: lw_g
theorem good_wsY {y : MethodName} {bytes : ByteArray} {n : Nat} {ret : Option FieldType} (h : Cond.code y bytes n ret ∈ lw_g) : GoodIn lw_g (wsY y bytes n ret) := by
  intro w hw
  rcases List.mem_cons.mp hw with e | e
  · rw [e]; exact ⟨h, good_of_word (List.mem_filter.mp h).2⟩
  · exact ⟨e, good_of_word (List.mem_filter.mp e).2⟩
theorem wj_1 : Cond.code yJ3_checkIndex_8e157 cJ3_checkIndex_8e157 3 (some .int) ∈ lw_g := in_g (by decide +kernel) rfl
theorem wj_2 : Cond.code yJ0_checkIndex_df160 cJ0_checkIndex_df160 2 none ∈ lw_g := in_g (by decide +kernel) rfl
theorem wj_3 : Cond.code yJ1_charAt_3b067 cJ1_charAt_3b067 2 (some .char) ∈ lw_g := in_g (by decide +kernel) rfl
theorem wj_4 : Cond.code yJ0_isLatin1_aae02 cJ0_isLatin1_aae02 1 (some .boolean) ∈ lw_g := in_g (by decide +kernel) rfl
theorem wj_5 : Cond.code yJ0_charAt_5068e cJ0_charAt_5068e 2 (some .char) ∈ lw_g := in_g (by decide +kernel) rfl
theorem wj_6 : Cond.fieldLink RJ0 1053 "jdk/internal/util/Preconditions" "SIOOBE_FORMATTER" "Ljava/util/function/BiFunction;" ∈ lw_g := in_g (by decide +kernel) rfl
theorem wj_7 : Cond.methodLink RJ0 1059 yJ3_checkIndex_8e157 ∈ lw_g := in_g (by decide +kernel) rfl
theorem wj_8 : Cond.static yJ3_checkIndex_8e157 ∈ lw_g := in_g (by decide +kernel) rfl
theorem wj_9 : Cond.initialized RJ3 ∈ lw_g := in_g (by decide +kernel) rfl
theorem wj_10 : Cond.methodLink RJ1 9 yJ0_checkIndex_df160 ∈ lw_g := in_g (by decide +kernel) rfl
theorem wj_11 : Cond.static yJ0_checkIndex_df160 ∈ lw_g := in_g (by decide +kernel) rfl
theorem wj_12 : Cond.initialized RJ0 ∈ lw_g := in_g (by decide +kernel) rfl
theorem wj_13 : Cond.fieldLink RJ0 38 "java/lang/String" "COMPACT_STRINGS" "Z" ∈ lw_g := in_g (by decide +kernel) rfl
theorem wj_14 : Cond.fieldLink RJ0 15 "java/lang/String" "coder" "B" ∈ lw_g := in_g (by decide +kernel) rfl
theorem wj_15 : Cond.methodLink RJ0 492 yJ0_isLatin1_aae02 ∈ lw_g := in_g (by decide +kernel) rfl
theorem wj_16 : Cond.instanceMethod yJ0_isLatin1_aae02 ∈ lw_g := in_g (by decide +kernel) rfl
theorem wj_17 : Cond.selects RJ0 yJ0_isLatin1_aae02 yJ0_isLatin1_aae02 ∈ lw_g := in_g (by decide +kernel) rfl
theorem wj_18 : Cond.fieldLink RJ0 9 "java/lang/String" "value" "[B" ∈ lw_g := in_g (by decide +kernel) rfl
theorem wj_19 : Cond.methodLink RJ0 495 yJ1_charAt_3b067 ∈ lw_g := in_g (by decide +kernel) rfl
theorem wj_20 : Cond.static yJ1_charAt_3b067 ∈ lw_g := in_g (by decide +kernel) rfl
theorem wj_21 : Cond.initialized RJ1 ∈ lw_g := in_g (by decide +kernel) rfl
theorem wj_22 : Cond.instanceMethod yJ0_charAt_5068e ∈ lw_g := in_g (by decide +kernel) rfl
theorem wj_23 : Cond.selects RJ0 yJ0_charAt_5068e yJ0_charAt_5068e ∈ lw_g := in_g (by decide +kernel) rfl
theorem ok_lst (l : List Int) (h : l.all (fun z => decide (-2147483648 ≤ z ∧ z < 2147483648)) = true) (j : Nat) : okI (l.getD j 0) := by
  rw [List.getD_eq_getElem?_getD]
  cases hj : l[j]? with
  | none => exact okI_0
  | some z => exact of_decide_eq_true (p := -2147483648 ≤ z ∧ z < 2147483648) (List.all_eq_true.mp h z (List.mem_of_getElem? hj))
def rmY (d k : Nat) : Room := { frames := d, cells := 0, slots := 0, locals := k }
theorem noS {A : Nat → Prop} {H0 H : Heap} {locs : List Loc} (h : va_S (fun _ => False) H0 H locs) : va_S A H0 H locs := ⟨h.1, fun q h1 _ => h.2.1 q h1 (fun z => z), fun l hl => (h.2.2 l hl).elim⟩
theorem blindF {G : GX} {av : List Value} : FrameBlind (va_Pc av (fun U => FX G U)) := fun a U g mk q => ⟨q.1, FX_call q.2⟩
theorem preY {G : GX} {s : State} {H : Heap} {locs : List Loc} {av : List Value} (hF : FX G s) (hS : va_S (fun _ => False) s.heap H locs) : ∀ U : State, U.heap = H → s.WarmedH U.vm → va_Pc av (fun U => FX G U) av.toArray U := fun U hU hW => ⟨rfl, FX_go hF (noS hS) hU hW⟩
set_option maxHeartbeats 4000000 in
theorem c_pci_n (l : Launch) (G : GX) {a b : Int32} (h0 : ¬ a < 0) (h1 : a < b) : Met l yJ3_checkIndex_8e157 (wsY yJ3_checkIndex_8e157 cJ3_checkIndex_8e157 3 (some .int)) (rmY 0 0) (va_Pc [.int a, .int b, .null] (fun U => FX G U)) (va_Qi (fun r (_ : Unit) => r = a) (fun _ _ => True) (fun _ => False)) 0 0 (fun _ => False) := by
  refine Met.ofW (cc := cJ3_checkIndex_8e157) (maxL := 3) (ret := (some .int)) (by decide) rfl ?_
  intro p e s m args below meth c s₁ B hml hv
  obtain ⟨rfl, hF⟩ := hv
  have hx := B.exec
  have hb := B.bytes
  have hr := B.returns
  have hts0 := atoms_spec (ws := wsY yJ3_checkIndex_8e157 cJ3_checkIndex_8e157 3 (some .int)) B.pre
  have hts : ∀ w ∈ lw_g, w.before _ s = true := fun w hw => hts0 w (List.mem_cons_of_mem _ hw)
  have hown : s.vm.findClass RJ3 = some m.cls := findClass_of_methodNamed B.named
  have hlocks := B.notSynchronized
  have hS : va_S (fun _ : Nat => False) s.heap s.heap [] := va_S.rf
  have hl := lv_entry ([.int a, .int b, .null]) (n := 3) (Nat.le_of_ble_eq_true rfl)
  rw [lg_entry_eq]
  generalize (lg_sl ([.int a, .int b, .null]) ++ List.replicate (3 - (lg_sl ([.int a, .int b, .null])).length) Slot.unset).toArray = ls at hl ⊢
  have hl : lv_has ls 3 [(0, .int a), (1, .int b), (2, .null)] := hl
  refine lv_iload_n hx hb dJ3_checkIndex_8e157_0 rfl (lv_at hl 0 rfl) ?_
  refine lv_if_lt hx hb dJ3_checkIndex_8e157_1 (tgt := 9) rfl (fun q => absurd q h0) (fun _ => ?_)
  refine lv_iload_n hx hb dJ3_checkIndex_8e157_4 rfl (lv_at hl 0 rfl) ?_
  refine lv_iload_n hx hb dJ3_checkIndex_8e157_5 rfl (lv_at hl 1 rfl) ?_
  refine lv_icmp_lt hx hb dJ3_checkIndex_8e157_6 (tgt := 16) rfl (fun _ => ?_) (fun q => absurd h1 q)
  refine lv_iload_n hx hb dJ3_checkIndex_8e157_16 rfl (lv_at hl 0 rfl) ?_
  exact W.iret (v := a) hx hb hr (fun t ht hW => ⟨⟨a, (), rfl, rfl, trivial⟩, hS.F ht⟩) hS.2.2 dJ3_checkIndex_8e157_17
set_option maxHeartbeats 4000000 in
theorem c_pci_r (l : Launch) (G : GX) {t : Nat} {a b : Int32} (h0 : ¬ a < 0) (h1 : a < b) : Met l yJ3_checkIndex_8e157 (wsY yJ3_checkIndex_8e157 cJ3_checkIndex_8e157 3 (some .int)) (rmY 0 0) (va_Pc [.int a, .int b, .ref t] (fun U => FX G U)) (va_Qi (fun r (_ : Unit) => r = a) (fun _ _ => True) (fun _ => False)) 0 0 (fun _ => False) := by
  refine Met.ofW (cc := cJ3_checkIndex_8e157) (maxL := 3) (ret := (some .int)) (by decide) rfl ?_
  intro p e s m args below meth c s₁ B hml hv
  obtain ⟨rfl, hF⟩ := hv
  have hx := B.exec
  have hb := B.bytes
  have hr := B.returns
  have hts0 := atoms_spec (ws := wsY yJ3_checkIndex_8e157 cJ3_checkIndex_8e157 3 (some .int)) B.pre
  have hts : ∀ w ∈ lw_g, w.before _ s = true := fun w hw => hts0 w (List.mem_cons_of_mem _ hw)
  have hown : s.vm.findClass RJ3 = some m.cls := findClass_of_methodNamed B.named
  have hlocks := B.notSynchronized
  have hS : va_S (fun _ : Nat => False) s.heap s.heap [] := va_S.rf
  have hl := lv_entry ([.int a, .int b, .ref t]) (n := 3) (Nat.le_of_ble_eq_true rfl)
  rw [lg_entry_eq]
  generalize (lg_sl ([.int a, .int b, .ref t]) ++ List.replicate (3 - (lg_sl ([.int a, .int b, .ref t])).length) Slot.unset).toArray = ls at hl ⊢
  have hl : lv_has ls 3 [(0, .int a), (1, .int b), (2, .ref t)] := hl
  refine lv_iload_n hx hb dJ3_checkIndex_8e157_0 rfl (lv_at hl 0 rfl) ?_
  refine lv_if_lt hx hb dJ3_checkIndex_8e157_1 (tgt := 9) rfl (fun q => absurd q h0) (fun _ => ?_)
  refine lv_iload_n hx hb dJ3_checkIndex_8e157_4 rfl (lv_at hl 0 rfl) ?_
  refine lv_iload_n hx hb dJ3_checkIndex_8e157_5 rfl (lv_at hl 1 rfl) ?_
  refine lv_icmp_lt hx hb dJ3_checkIndex_8e157_6 (tgt := 16) rfl (fun _ => ?_) (fun q => absurd h1 q)
  refine lv_iload_n hx hb dJ3_checkIndex_8e157_16 rfl (lv_at hl 0 rfl) ?_
  exact W.iret (v := a) hx hb hr (fun t ht hW => ⟨⟨a, (), rfl, rfl, trivial⟩, hS.F ht⟩) hS.2.2 dJ3_checkIndex_8e157_17
set_option maxHeartbeats 4000000 in
theorem c_sci (l : Launch) (G : GX) {a b : Int32} (h0 : ¬ a < 0) (h1 : a < b) : Met l yJ0_checkIndex_df160 (wsY yJ0_checkIndex_df160 cJ0_checkIndex_df160 2 none) (rmY 1 22) (va_Pc [.int a, .int b] (fun U => FX G U)) (va_Qv (fun (_ : Unit) => True) (fun _ _ => True) (fun _ => False)) 0 0 (fun _ => False) := by
  refine Met.ofW (cc := cJ0_checkIndex_df160) (maxL := 2) (ret := none) (by decide) rfl ?_
  intro p e s m args below meth c s₁ B hml hv
  obtain ⟨rfl, hF⟩ := hv
  have hx := B.exec
  have hb := B.bytes
  have hr := B.returns
  have hts0 := atoms_spec (ws := wsY yJ0_checkIndex_df160 cJ0_checkIndex_df160 2 none) B.pre
  have hts : ∀ w ∈ lw_g, w.before _ s = true := fun w hw => hts0 w (List.mem_cons_of_mem _ hw)
  have hown : s.vm.findClass RJ0 = some m.cls := findClass_of_methodNamed B.named
  have hlocks := B.notSynchronized
  have hS : va_S (fun _ : Nat => False) s.heap s.heap [] := va_S.rf
  have hl := lv_entry ([.int a, .int b]) (n := 2) (Nat.le_of_ble_eq_true rfl)
  rw [lg_entry_eq]
  generalize (lg_sl ([.int a, .int b]) ++ List.replicate (2 - (lg_sl ([.int a, .int b])).length) Slot.unset).toArray = ls at hl ⊢
  have hl : lv_has ls 2 [(0, .int a), (1, .int b)] := hl
  refine lv_iload_n hx hb dJ0_checkIndex_df160_0 rfl (lv_at hl 0 rfl) ?_
  refine lv_iload_n hx hb dJ0_checkIndex_df160_1 rfl (lv_at hl 1 rfl) ?_
  rcases hF.2.2.2.2.1.2.2.2.2.1 with hZ | ⟨t, hZ⟩
  · refine va_gets (own := RJ0) hx hb hZ va_S.rf hown (hts _ wj_6) (fun _ h => h) dJ0_checkIndex_df160_2 ?_
    refine va_calli (va_runS (Ts := lw_g) (own := RJ0) (index := 1059) (As := [.int a, .int b, .null]) (rest := []) (n := 3) (nL := 2) ⟨hx, hb, hml, hown, hts⟩ (c_pci_n l G h0 h1) ⟨⟨rfl, rfl, Nat.le_refl _, Nat.le_refl _, pay_in hts (good_wsY wj_1), List.mem_cons_self, hts _ wj_1, hts _ wj_9, by decide, fun sig h => by cases h; rfl, hts _ wj_7⟩, hts _ wj_8⟩ ⟨blindF, preY hF hS⟩ rfl rfl hl.1 rfl (by show 2 * 0 + _ ≤ 8; decide) dJ0_checkIndex_df160_5 ⟨Nat.zero_le _, Nat.zero_le _⟩) hS (fun q _ h => h) (fun q h => h) (fun r u t' H1 locs1 _ _ hr2 _ _ _ hS1 => ?_)
    refine lv_pop hx hb dJ0_checkIndex_df160_8 rfl ?_
    exact W.vret hx hb hr (fun t ht hW => ⟨⟨(), rfl, trivial, trivial⟩, hS1.F ht⟩) hS1.2.2 dJ0_checkIndex_df160_9
  · refine va_gets (own := RJ0) hx hb hZ va_S.rf hown (hts _ wj_6) (fun _ h => h) dJ0_checkIndex_df160_2 ?_
    refine va_calli (va_runS (Ts := lw_g) (own := RJ0) (index := 1059) (As := [.int a, .int b, .ref t]) (rest := []) (n := 3) (nL := 2) ⟨hx, hb, hml, hown, hts⟩ (c_pci_r l G h0 h1) ⟨⟨rfl, rfl, Nat.le_refl _, Nat.le_refl _, pay_in hts (good_wsY wj_1), List.mem_cons_self, hts _ wj_1, hts _ wj_9, by decide, fun sig h => by cases h; rfl, hts _ wj_7⟩, hts _ wj_8⟩ ⟨blindF, preY hF hS⟩ rfl rfl hl.1 rfl (by show 2 * 0 + _ ≤ 8; decide) dJ0_checkIndex_df160_5 ⟨Nat.zero_le _, Nat.zero_le _⟩) hS (fun q _ h => h) (fun q h => h) (fun r u t' H1 locs1 _ _ hr2 _ _ _ hS1 => ?_)
    refine lv_pop hx hb dJ0_checkIndex_df160_8 rfl ?_
    exact W.vret hx hb hr (fun t ht hW => ⟨⟨(), rfl, trivial, trivial⟩, hS1.F ht⟩) hS1.2.2 dJ0_checkIndex_df160_9
theorem nar_ch : ∀ i, i < 2 → ∀ k, k < 12 → narrow .char (.int ((([k_bl, k_bs] : List (List Int32)).getD i []).getD k 0)) = .int ((([k_bl, k_bs] : List (List Int32)).getD i []).getD k 0) := by decide +kernel
set_option maxHeartbeats 4000000 in
theorem c_lca (l : Launch) (G : GX) {i k : Nat} (hi : i < 2) (hk : k < 12) : Met l yJ1_charAt_3b067 (wsY yJ1_charAt_3b067 cJ1_charAt_3b067 2 (some .char)) (rmY 2 43) (va_Pc [.ref (gb G i), .int (nI k)] (fun U => FX G U)) (va_Qi (fun r (_ : Unit) => r = (([k_bl, k_bs] : List (List Int32)).getD i []).getD k 0) (fun _ _ => True) (fun _ => False)) 0 0 (fun _ => False) := by
  refine Met.ofW (cc := cJ1_charAt_3b067) (maxL := 2) (ret := (some .char)) (by decide) rfl ?_
  intro p e s m args below meth c s₁ B hml hv
  obtain ⟨rfl, hF⟩ := hv
  have hx := B.exec
  have hb := B.bytes
  have hr := B.returns
  have hts0 := atoms_spec (ws := wsY yJ1_charAt_3b067 cJ1_charAt_3b067 2 (some .char)) B.pre
  have hts : ∀ w ∈ lw_g, w.before _ s = true := fun w hw => hts0 w (List.mem_cons_of_mem _ hw)
  have hown : s.vm.findClass RJ1 = some m.cls := findClass_of_methodNamed B.named
  have hlocks := B.notSynchronized
  have hS : va_S (fun _ : Nat => False) s.heap s.heap [] := va_S.rf
  have hl := lv_entry ([.ref (gb G i), .int (nI k)]) (n := 2) (Nat.le_of_ble_eq_true rfl)
  rw [lg_entry_eq]
  generalize (lg_sl ([.ref (gb G i), .int (nI k)]) ++ List.replicate (2 - (lg_sl ([.ref (gb G i), .int (nI k)])).length) Slot.unset).toArray = ls at hl ⊢
  have hl : lv_has ls 2 [(0, .ref (gb G i)), (1, .int (nI k))] := hl
  have hT := (hF.2.2.2.2.1.2.2.1.1 i hi).2.2.2
  have el : ([12, 12] : List Nat).getD i 0 = 12 := by rcases (by omega : i = 0 ∨ i = 1) with rfl | rfl <;> rfl
  rw [el] at hT
  have hin : vp_in (nI k) 12 := vp_in_nI hk (by omega)
  have h12 : Int32.ofNat 12 = nI 12 := rfl
  have hlt : nI k < nI 12 := nI_lt hk (by omega)
  have hps : ¬ nI k < 0 := nI_pos (by omega)
  refine lv_iload_n hx hb dJ1_charAt_3b067_0 rfl (lv_at hl 1 rfl) ?_
  refine lv_aload_n hx hb dJ1_charAt_3b067_1 rfl (lv_at hl 0 rfl) ?_
  refine va_tlen hx hb hT va_S.rf h12 dJ1_charAt_3b067_2 ?_
  refine va_callv (va_runS (Ts := lw_g) (own := RJ1) (index := 9) (As := [.int (nI k), .int (nI 12)]) (rest := []) (n := 2) (nL := 2) ⟨hx, hb, hml, hown, hts⟩ (c_sci l G hps hlt) ⟨⟨rfl, rfl, Nat.le_refl _, Nat.le_refl _, pay_in hts (good_wsY wj_2), List.mem_cons_self, hts _ wj_2, hts _ wj_12, by decide, fun sig h => by cases h; rfl, hts _ wj_10⟩, hts _ wj_11⟩ ⟨blindF, preY hF hS⟩ rfl rfl hl.1 rfl (by show 2 * 0 + _ ≤ 8; decide) dJ1_charAt_3b067_3 ⟨Nat.zero_le _, Nat.zero_le _⟩) hS (fun q _ h => h) (fun q h => h) (fun u t' H1 locs1 _ _ _ _ _ _ hS1 => ?_)
  refine lv_aload_n hx hb dJ1_charAt_3b067_6 rfl (lv_at hl 0 rfl) ?_
  refine lv_iload_n hx hb dJ1_charAt_3b067_7 rfl (lv_at hl 1 rfl) ?_
  obtain ⟨v, ev⟩ : ∃ v : Int32, v = (([k_bl, k_bs] : List (List Int32)).getD i []).getD k 0 := ⟨_, rfl⟩
  have hv3 : v &&& 255 = v ∧ (v.toUInt32 % 65536).toInt32 = v ∧ narrow .char (.int v) = .int v := by
    rw [ev]
    have key : ∀ i, i < 2 → ∀ k, k < 12 → ((([k_bl, k_bs] : List (List Int32)).getD i []).getD k 0 &&& 255 = (([k_bl, k_bs] : List (List Int32)).getD i []).getD k 0 ∧ ((([k_bl, k_bs] : List (List Int32)).getD i []).getD k 0).toUInt32 % 65536 = ((([k_bl, k_bs] : List (List Int32)).getD i []).getD k 0).toUInt32 ∧ (((([k_bl, k_bs] : List (List Int32)).getD i []).getD k 0).toUInt32).toInt32 = (([k_bl, k_bs] : List (List Int32)).getD i []).getD k 0) := by decide +kernel
    obtain ⟨k1, k2, k3⟩ := key i hi k hk
    exact ⟨k1, by rw [k2]; exact k3, nar_ch i hi k hk⟩
  refine va_tb hx hb hT (noS hS1) hin (v := .int v) (by show Value.int _ = _; rw [nI_clamp (by omega), ev]) dJ1_charAt_3b067_8 ?_
  refine lv_sipush hx hb dJ1_charAt_3b067_9 (v := 255) rfl ?_
  refine lv_iand hx hb dJ1_charAt_3b067_12 ?_
  rw [hv3.1]
  refine lv_i2c hx hb dJ1_charAt_3b067_13 (v := v) hv3.2.1 ?_
  exact W.zret (ty := .char) (v := v) hx hb hr hv3.2.2 (fun t ht hW => ⟨⟨v, (), rfl, ev, trivial⟩, hS1.F ht⟩) hS1.2.2 dJ1_charAt_3b067_14
set_option maxHeartbeats 4000000 in
theorem c_isl (l : Launch) (G : GX) {i : Nat} (hi : i < 2) : Met l yJ0_isLatin1_aae02 (wsY yJ0_isLatin1_aae02 cJ0_isLatin1_aae02 1 (some .boolean)) (rmY 0 0) (va_Pc [.ref (gk G i)] (fun U => FX G U)) (va_Qi (fun r (_ : Unit) => r = 1) (fun _ _ => True) (fun _ => False)) 0 0 (fun _ => False) := by
  refine Met.ofW (cc := cJ0_isLatin1_aae02) (maxL := 1) (ret := (some .boolean)) (by decide) rfl ?_
  intro p e s m args below meth c s₁ B hml hv
  obtain ⟨rfl, hF⟩ := hv
  have hx := B.exec
  have hb := B.bytes
  have hr := B.returns
  have hts0 := atoms_spec (ws := wsY yJ0_isLatin1_aae02 cJ0_isLatin1_aae02 1 (some .boolean)) B.pre
  have hts : ∀ w ∈ lw_g, w.before _ s = true := fun w hw => hts0 w (List.mem_cons_of_mem _ hw)
  have hown : s.vm.findClass RJ0 = some m.cls := findClass_of_methodNamed B.named
  have hlocks := B.notSynchronized
  have hS : va_S (fun _ : Nat => False) s.heap s.heap [] := va_S.rf
  have hl := lv_entry ([.ref (gk G i)]) (n := 1) (Nat.le_of_ble_eq_true rfl)
  rw [lg_entry_eq]
  generalize (lg_sl ([.ref (gk G i)]) ++ List.replicate (1 - (lg_sl ([.ref (gk G i)])).length) Slot.unset).toArray = ls at hl ⊢
  have hl : lv_has ls 1 [(0, .ref (gk G i))] := hl
  have hZ := hF.2.2.2.2.1.2.2.2.1
  have hC := (hF.2.2.2.2.1.2.2.1.1 i hi).2.1
  refine va_gets (own := RJ0) hx hb hZ va_S.rf hown (hts _ wj_13) (fun _ h => h) dJ0_isLatin1_aae02_0 ?_
  refine lv_if_eq hx hb dJ0_isLatin1_aae02_3 (tgt := 17) rfl (fun q => by cases q) (fun _ => ?_)
  refine lv_aload_n hx hb dJ0_isLatin1_aae02_6 rfl (lv_at hl 0 rfl) ?_
  refine vk_getf (own := RJ0) hx hb hC va_S.rf hown (hts _ wj_14) (fun _ h => h) dJ0_isLatin1_aae02_7 ?_
  refine lv_if_ne hx hb dJ0_isLatin1_aae02_10 (tgt := 17) rfl (fun q => absurd rfl q) (fun _ => ?_)
  refine lv_iconst (v := 1) hx hb dJ0_isLatin1_aae02_13 (by decide) ?_
  refine lv_goto hx hb dJ0_isLatin1_aae02_14 (tgt := 18) rfl ?_
  exact W.zret (ty := .boolean) (v := 1) hx hb hr rfl (fun t ht hW => ⟨⟨1, (), rfl, rfl, trivial⟩, hS.F ht⟩) hS.2.2 dJ0_isLatin1_aae02_18
set_option maxHeartbeats 4000000 in
theorem c_cha (l : Launch) (G : GX) {i k : Nat} (hi : i < 2) (hk : k < 12) : Met l yJ0_charAt_5068e (wsY yJ0_charAt_5068e cJ0_charAt_5068e 2 (some .char)) (rmY 3 64) (va_Pc [.ref (gk G i), .int (nI k)] (fun U => FX G U)) (va_Qi (fun r (_ : Unit) => r = (([k_bl, k_bs] : List (List Int32)).getD i []).getD k 0) (fun _ _ => True) (fun _ => False)) 0 0 (fun _ => False) := by
  refine Met.ofW (cc := cJ0_charAt_5068e) (maxL := 2) (ret := (some .char)) (by decide) rfl ?_
  intro p e s m args below meth c s₁ B hml hv
  obtain ⟨rfl, hF⟩ := hv
  have hx := B.exec
  have hb := B.bytes
  have hr := B.returns
  have hts0 := atoms_spec (ws := wsY yJ0_charAt_5068e cJ0_charAt_5068e 2 (some .char)) B.pre
  have hts : ∀ w ∈ lw_g, w.before _ s = true := fun w hw => hts0 w (List.mem_cons_of_mem _ hw)
  have hown : s.vm.findClass RJ0 = some m.cls := findClass_of_methodNamed B.named
  have hlocks := B.notSynchronized
  have hS : va_S (fun _ : Nat => False) s.heap s.heap [] := va_S.rf
  have hl := lv_entry ([.ref (gk G i), .int (nI k)]) (n := 2) (Nat.le_of_ble_eq_true rfl)
  rw [lg_entry_eq]
  generalize (lg_sl ([.ref (gk G i), .int (nI k)]) ++ List.replicate (2 - (lg_sl ([.ref (gk G i), .int (nI k)])).length) Slot.unset).toArray = ls at hl ⊢
  have hl : lv_has ls 2 [(0, .ref (gk G i)), (1, .int (nI k))] := hl
  have hVS := hF.2.2.2.2.1.2.2.1
  have hV := (hVS.1 i hi).2.2.1
  refine lv_aload_n hx hb dJ0_charAt_5068e_0 rfl (lv_at hl 0 rfl) ?_
  refine va_calli (va_runV (Ts := lw_g) (own := RJ0) (C := RJ0) (index := 492) (b := gk G i) (As := []) (rest := []) (n := 0) (nL := 2) ⟨hx, hb, hml, hown, hts⟩ (c_isl l G hi) ⟨⟨rfl, rfl, by decide, by decide, pay_in hts (good_wsY wj_4), List.mem_cons_self, hts _ wj_4, hts _ wj_12, by decide, fun sig h => by cases h; rfl, hts _ wj_15⟩, hts _ wj_16, hts _ wj_17⟩ ⟨blindF, vk_recv hVS hi va_S.rf, preY hF hS⟩ rfl rfl hl.1 rfl (by show 2 * 0 + _ ≤ 8; decide) dJ0_charAt_5068e_1 ⟨Nat.zero_le _, Nat.zero_le _⟩) hS (fun q _ h => h) (fun q h => h) (fun r u t' H1 locs1 _ _ hr1 _ _ _ hS1 => ?_)
  subst hr1
  refine lv_if_eq hx hb dJ0_charAt_5068e_4 (tgt := 16) rfl (fun q => by cases q) (fun _ => ?_)
  refine lv_aload_n hx hb dJ0_charAt_5068e_7 rfl (lv_at hl 0 rfl) ?_
  refine vk_getf (own := RJ0) hx hb hV (noS hS1) hown (hts _ wj_18) (fun _ h => h) dJ0_charAt_5068e_8 ?_
  refine lv_iload_n hx hb dJ0_charAt_5068e_11 rfl (lv_at hl 1 rfl) ?_
  refine va_calli (va_runS (Ts := lw_g) (own := RJ0) (index := 495) (As := [.ref (gb G i), .int (nI k)]) (rest := []) (n := 2) (nL := 2) ⟨hx, hb, hml, hown, hts⟩ (c_lca l G hi hk) ⟨⟨rfl, rfl, Nat.le_refl _, Nat.le_refl _, pay_in hts (good_wsY wj_3), List.mem_cons_self, hts _ wj_3, hts _ wj_21, by decide, fun sig h => by cases h; rfl, hts _ wj_19⟩, hts _ wj_20⟩ ⟨blindF, preY hF hS1⟩ rfl rfl hl.1 rfl (by show 2 * 0 + _ ≤ 8; decide) dJ0_charAt_5068e_12 ⟨Nat.zero_le _, Nat.zero_le _⟩) hS1 (fun q _ h => h) (fun q h => h) (fun r u t' H2 locs2 _ _ hr2 _ _ _ hS2 => ?_)
  exact W.zret (ty := .char) (v := r) hx hb hr (by rw [hr2]; exact nar_ch i hi k hk) (fun t ht hW => ⟨⟨r, (), rfl, hr2, trivial⟩, hS2.F ht⟩) hS2.2.2 dJ0_charAt_5068e_15
set_option maxHeartbeats 4000000 in
theorem os_chr0 {gp : GX → Prop} {y : MethodName} {cc : ByteArray} {nL : Nat} {rt : Nat} {pc : Nat} {index : Nat} (hy : y.name = "addNotes") (hl : Cond.methodLink y.cls index yJ0_charAt_5068e ∈ lw_g) (hd : decode cc pc = .ok (.invokevirtual index, 3)) : FOK gp (o_chr 0 12 k_letters (pc + 3)) y cc nL rt pc := by
  intro G p l e R s m args below meth c Qm ad0 n0 s0 r0 w0 hgp C hcl hsl hret L st w h
  obtain ⟨hx, hb, hml, hown, hts, hname, hF, hfr, hlo⟩ := C
  obtain ⟨hR1, hR2⟩ := hname.2 hy
  rcases st with _ | ⟨z | z, _ | ⟨x | x | x | q, r⟩⟩ <;> try exact False.elim h
  by_cases hz : (q = 0 ∧ r.length ≤ 4) ∧ 0 ≤ z ∧ z < ((12 : Nat) : Int)
  · have kq : WPd G p l e R s m args below meth c nL Qm ad0 n0 s0 w0 (pc + 3) L (vi (k_letters z.toNat) :: r) w := by
      simp only [o_chr, if_pos hz] at h
      exact h
    obtain ⟨⟨rfl, hr4⟩, hz0, hz1⟩ := hz
    obtain ⟨k, rfl⟩ : ∃ k : Nat, z = k := ⟨z.toNat, by omega⟩
    have hk : k < 12 := by omega
    rw [Int.toNat_natCast] at kq
    refine ⟨kq.1, fun ad H locs ls a1 a2 a3 a4 a5 a6 a7 a8 a9 a10 => ?_⟩
    have hcs := cat_sum (r.map (em G ad))
    rw [List.length_map] at hcs
    have eI : Int32.ofInt (k : Int) = nI k := rfl
    have hval : (([k_bl, k_bs] : List (List Int32)).getD 0 []).getD k 0 = Int32.ofInt (k_letters k) := by
      have key : ∀ k, k < 12 → (([k_bl, k_bs] : List (List Int32)).getD 0 []).getD k 0 = Int32.ofInt (k_letters k) := by decide +kernel
      exact key k hk
    have hq1 := kq.1.1
    have hq2 := kq.1.2
    have hpre : ∀ U : State, U.heap = H → s.WarmedH U.vm → va_Pc [.ref (gk G 0), .int (nI k)] (fun U => FX G U) ([.ref (gk G 0), .int (nI k)] : List Value).toArray U := fun U hU hW => ⟨rfl, FX_go hF a9 hU hW⟩
    refine va_calli (mc := 0) (ms := 0) (va_runV (Ts := lw_g) (own := y.cls) (C := RJ0) (index := index) (b := gk G 0) (As := [.int (nI k)]) (rest := r.map (em G ad)) (n := 1) (nL := nL) ⟨hx, hb, hml, hown, hts⟩ (c_cha l G (i := 0) (by decide) hk) ⟨⟨rfl, rfl, hR1, hR2, pay_in hts (good_wsY wj_5), List.mem_cons_self, hts _ wj_5, hts _ wj_12, by decide, fun sig h => by cases h; rfl, hts _ hl⟩, hts _ wj_22, hts _ wj_23⟩ ⟨blindF, vk_recv hF.2.2.2.2.1.2.2.1 (i := 0) (by decide) a9, hpre⟩ rfl rfl a10.1 rfl (by show 2 * 0 + _ ≤ 8; omega) hd ⟨by omega, by omega⟩) a9 (fun q _ h => h.elim) (fun q h => h.elim) (fun r1 u t' H1 locs1 _ _ hr1 _ _ hk1 hS1 => ?_)
    rw [hval] at hr1
    subst hr1
    have hP1 := a7.kept (H1 := H1) (fun j x hx1 => hk1 x.1 ((a7 j x hx1).lt) (fun z => z))
    exact kq.2 ad H1 locs1 ls a1 a2 a3 a4 a5 (okS_c (ok_lst _ (by decide) k) (okS_t (okS_t a6))) hP1 a8 hS1 a10
  · simp only [o_chr, if_neg hz] at h
set_option maxHeartbeats 4000000 in
theorem os_chr1 {gp : GX → Prop} {y : MethodName} {cc : ByteArray} {nL : Nat} {rt : Nat} {pc : Nat} {index : Nat} (hy : y.name = "addNotes") (hl : Cond.methodLink y.cls index yJ0_charAt_5068e ∈ lw_g) (hd : decode cc pc = .ok (.invokevirtual index, 3)) : FOK gp (o_chr 1 12 k_sharps (pc + 3)) y cc nL rt pc := by
  intro G p l e R s m args below meth c Qm ad0 n0 s0 r0 w0 hgp C hcl hsl hret L st w h
  obtain ⟨hx, hb, hml, hown, hts, hname, hF, hfr, hlo⟩ := C
  obtain ⟨hR1, hR2⟩ := hname.2 hy
  rcases st with _ | ⟨z | z, _ | ⟨x | x | x | q, r⟩⟩ <;> try exact False.elim h
  by_cases hz : (q = 1 ∧ r.length ≤ 4) ∧ 0 ≤ z ∧ z < ((12 : Nat) : Int)
  · have kq : WPd G p l e R s m args below meth c nL Qm ad0 n0 s0 w0 (pc + 3) L (vi (k_sharps z.toNat) :: r) w := by
      simp only [o_chr, if_pos hz] at h
      exact h
    obtain ⟨⟨rfl, hr4⟩, hz0, hz1⟩ := hz
    obtain ⟨k, rfl⟩ : ∃ k : Nat, z = k := ⟨z.toNat, by omega⟩
    have hk : k < 12 := by omega
    rw [Int.toNat_natCast] at kq
    refine ⟨kq.1, fun ad H locs ls a1 a2 a3 a4 a5 a6 a7 a8 a9 a10 => ?_⟩
    have hcs := cat_sum (r.map (em G ad))
    rw [List.length_map] at hcs
    have eI : Int32.ofInt (k : Int) = nI k := rfl
    have hval : (([k_bl, k_bs] : List (List Int32)).getD 1 []).getD k 0 = Int32.ofInt (k_sharps k) := by
      have key : ∀ k, k < 12 → (([k_bl, k_bs] : List (List Int32)).getD 1 []).getD k 0 = Int32.ofInt (k_sharps k) := by decide +kernel
      exact key k hk
    have hq1 := kq.1.1
    have hq2 := kq.1.2
    have hpre : ∀ U : State, U.heap = H → s.WarmedH U.vm → va_Pc [.ref (gk G 1), .int (nI k)] (fun U => FX G U) ([.ref (gk G 1), .int (nI k)] : List Value).toArray U := fun U hU hW => ⟨rfl, FX_go hF a9 hU hW⟩
    refine va_calli (mc := 0) (ms := 0) (va_runV (Ts := lw_g) (own := y.cls) (C := RJ0) (index := index) (b := gk G 1) (As := [.int (nI k)]) (rest := r.map (em G ad)) (n := 1) (nL := nL) ⟨hx, hb, hml, hown, hts⟩ (c_cha l G (i := 1) (by decide) hk) ⟨⟨rfl, rfl, hR1, hR2, pay_in hts (good_wsY wj_5), List.mem_cons_self, hts _ wj_5, hts _ wj_12, by decide, fun sig h => by cases h; rfl, hts _ hl⟩, hts _ wj_22, hts _ wj_23⟩ ⟨blindF, vk_recv hF.2.2.2.2.1.2.2.1 (i := 1) (by decide) a9, hpre⟩ rfl rfl a10.1 rfl (by show 2 * 0 + _ ≤ 8; omega) hd ⟨by omega, by omega⟩) a9 (fun q _ h => h.elim) (fun q h => h.elim) (fun r1 u t' H1 locs1 _ _ hr1 _ _ hk1 hS1 => ?_)
    rw [hval] at hr1
    subst hr1
    have hP1 := a7.kept (H1 := H1) (fun j x hx1 => hk1 x.1 ((a7 j x hx1).lt) (fun z => z))
    exact kq.2 ad H1 locs1 ls a1 a2 a3 a4 a5 (okS_c (ok_lst _ (by decide) k) (okS_t (okS_t a6))) hP1 a8 hS1 a10
  · simp only [o_chr, if_neg hz] at h
