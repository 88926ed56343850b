/-! text constants: their characters -/
section Rz
variable {O : List (Nat × Nat)} {d : Nat} {Q : Option MV → MS → Prop} {σ : MS} {x y : Int32}
theorem J_checkIndex3 (h0 : ¬ x < 0) (h1 : x < y) (H : Q (some (iV x)) σ) : R O d mJ3_checkIndex_8e157 Q 0 [some (iV x), some (iV y), none] [] σ := by
  refine r_iload_n dJ3_checkIndex_8e157_0 rfl rfl ?_
  refine r_if_lt (tgt := 9) dJ3_checkIndex_8e157_1 rfl (fun z => absurd z h0) (fun _ => ?_)
  refine r_iload_n dJ3_checkIndex_8e157_4 rfl rfl ?_
  refine r_iload_n dJ3_checkIndex_8e157_5 rfl rfl ?_
  refine r_icmp_lt (tgt := 16) dJ3_checkIndex_8e157_6 rfl (fun _ => ?_) (fun z => absurd h1 z)
  refine r_iload_n dJ3_checkIndex_8e157_16 rfl rfl ?_
  exact r_iret dJ3_checkIndex_8e157_17 rfl H
theorem J_checkIndex (h0 : ¬ x < 0) (h1 : x < y) (H : Q none σ) : R O (d + 1) mJ0_checkIndex_df160 Q 0 [some (iV x), some (iV y)] [] σ := by
  refine r_iload_n dJ0_checkIndex_df160_0 rfl rfl ?_
  refine r_iload_n dJ0_checkIndex_df160_1 rfl rfl ?_
  refine r_fmtCall (st := []) kJ3_checkIndex_8e157 s_J3_checkIndex_8e157 fJ0_1053 lJ0_1059 dJ0_checkIndex_df160_2 dJ0_checkIndex_df160_5 rfl (Nat.zero_le _) ?_
  refine J_checkIndex3 h0 h1 ?_
  refine r_pop_i dJ0_checkIndex_df160_8 ?_
  exact r_vret dJ0_checkIndex_df160_9 rfl H
end Rz
