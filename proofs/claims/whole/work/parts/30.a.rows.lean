section ROWS2
variable {pg : Pg} {d : Nat} {c : Nat → Option MOp} {Q : Option MV → Wd → Prop} {pc : Nat} {L : Lc} {st : List MV} {w : Wd}
theorem r_il {i nx : Nat} {z : Int} (hc : c pc = some (Sum.inl (o_iload i nx))) (hl : lk L i = some (vi z)) (k : MR pg d c Q nx L (vi z :: st) w) : MR pg d c Q pc L st w := r_fn hc (by simp only [o_iload, hl]) k
theorem r_al {i nx : Nat} {v : Option Nat ⊕ Nat} (hc : c pc = some (Sum.inl (o_aload i nx))) (hl : lk L i = some (Sum.inr (Sum.inr v))) (k : MR pg d c Q nx L (Sum.inr (Sum.inr v) :: st) w) : MR pg d c Q pc L st w := r_fn hc (by simp only [o_aload, hl]) k
theorem r_pu {v : MV} {nx : Nat} (hc : c pc = some (Sum.inl (o_push v nx))) (k : MR pg d c Q nx L (v :: st) w) : MR pg d c Q pc L st w := r_fn hc rfl k
theorem r_go {nx : Nat} (hc : c pc = some (Sum.inl (o_goto nx))) (k : MR pg d c Q nx L st w) : MR pg d c Q pc L st w := r_fn hc rfl k
end ROWS2
