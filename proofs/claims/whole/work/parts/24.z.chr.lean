/-! String.charAt of a constant: owed -/
theorem os_chr0 {gp : GX → Prop} {y : MethodName} {cc : ByteArray} {nL : Nat} {rt : Nat} {pc : Nat} {index : Nat} (hl : Cond.methodLink y.cls index yJ0_charAt_5068e ∈ lw_g) (hd : decode cc pc = .ok (.invokevirtual index, 3)) : FOK gp (o_chr 0 12 k_letters (pc + 3)) y cc nL rt pc := by
  sorry
theorem os_chr1 {gp : GX → Prop} {y : MethodName} {cc : ByteArray} {nL : Nat} {rt : Nat} {pc : Nat} {index : Nat} (hl : Cond.methodLink y.cls index yJ0_charAt_5068e ∈ lw_g) (hd : decode cc pc = .ok (.invokevirtual index, 3)) : FOK gp (o_chr 1 12 k_sharps (pc + 3)) y cc nL rt pc := by
  sorry
