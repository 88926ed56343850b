set_option maxRecDepth 100000 in
theorem bX7_read_0 {d : Nat} {Q : Option MV → MS → Prop} {x1 : Int32} {σ : MS}  (H : (σ.2.2 1 0 < 2 ∧ (R mj_OC d mX0_clear (fun r σ' => R mj_OC (d + 1) mX7_read Q 42 [some (rV 1 0), some (iV x1), none] (r.toList ++ []) σ') 0 [some (rV 3 (σ.2.2 1 0)), none] [] (uI (uI (uI (uI (uI (uI (uI σ 1 0 2 (0 : Int32)) 1 0 3 (-1 : Int32)) 1 0 4 (0 : Int32)) 1 0 5 (0 : Int32)) 1 0 6 (0 : Int32)) 1 0 7 (0 : Int32)) 1 0 8 (0 : Int32))))) : R mj_OC (d + 1) mX7_read Q 0 [some (rV 1 0), some (iV x1), none] [] σ := by
  refine r_aload_n dX7_read_0 rfl rfl ?_
  refine r_iconst (v := (0 : Int32)) dX7_read_1 rfl ?_
  refine r_putI (k := 1) (i := 0) (j := 2) (ty0 := tyX7) rfl rfl ho1 rfl hX7 (by decide) rfl fX7_29 dX7_read_2 rfl tyX7_ok nmX7 rfl rfl rfl ?_
  refine r_aload_n dX7_read_5 rfl rfl ?_
  refine r_iconst (v := (-1 : Int32)) dX7_read_6 rfl ?_
  refine r_putI (k := 1) (i := 0) (j := 3) (ty0 := tyX7) rfl rfl ho1 rfl hX7 (by decide) rfl fX7_25 dX7_read_7 rfl tyX7_ok nmX7 rfl rfl rfl ?_
  refine r_aload_n dX7_read_10 rfl rfl ?_
  refine r_iconst (v := (0 : Int32)) dX7_read_11 rfl ?_
  refine r_putI (k := 1) (i := 0) (j := 4) (ty0 := tyX7) rfl rfl ho1 rfl hX7 (by decide) rfl fX7_32 dX7_read_12 rfl tyX7_ok nmX7 rfl rfl rfl ?_
  refine r_aload_n dX7_read_15 rfl rfl ?_
  refine r_iconst (v := (0 : Int32)) dX7_read_16 rfl ?_
  refine r_putI (k := 1) (i := 0) (j := 5) (ty0 := tyX7) rfl rfl ho1 rfl hX7 (by decide) rfl fX7_35 dX7_read_17 rfl tyX7_ok nmX7 rfl rfl rfl ?_
  refine r_aload_n dX7_read_20 rfl rfl ?_
  refine r_iconst (v := (0 : Int32)) dX7_read_21 rfl ?_
  refine r_putI (k := 1) (i := 0) (j := 6) (ty0 := tyX7) rfl rfl ho1 rfl hX7 (by decide) rfl fX7_38 dX7_read_22 rfl tyX7_ok nmX7 rfl (by decide) (by decide) ?_
  refine r_aload_n dX7_read_25 rfl rfl ?_
  refine r_iconst (v := (0 : Int32)) dX7_read_26 rfl ?_
  refine r_putI (k := 1) (i := 0) (j := 7) (ty0 := tyX7) rfl rfl ho1 rfl hX7 (by decide) rfl fX7_42 dX7_read_27 rfl tyX7_ok nmX7 rfl (by decide) (by decide) ?_
  refine r_aload_n dX7_read_30 rfl rfl ?_
  refine r_iconst (v := (0 : Int32)) dX7_read_31 rfl ?_
  refine r_putI (k := 1) (i := 0) (j := 8) (ty0 := tyX7) rfl rfl ho1 rfl hX7 (by decide) rfl fX7_45 dX7_read_32 rfl tyX7_ok nmX7 rfl rfl rfl ?_
  refine r_aload_n dX7_read_35 rfl rfl ?_
  refine r_get (k := 1) (i := 0) (j := 1) (v := rV 3 (σ.2.2 1 0)) rfl rfl ho1 rfl hX7 (by decide) rfl fX7_21 dX7_read_36 (fun _ => rfl) ?_
  obtain ⟨q1, H⟩ := H
  refine r_callV (z := 1) (k := 3) (i := (σ.2.2 1 0)) (As := []) (st := []) kX0_clear i_X0_clear e_X0_clear lX7_48 dX7_read_39 rfl rfl (ho3 q1) rfl rfl rfl rfl rfl (Nat.le_of_ble_eq_true rfl) ?_
  exact H
set_option maxRecDepth 100000 in
theorem bX7_read_42 {d : Nat} {Q : Option MV → MS → Prop} {x1 : Int32} {σ : MS}  (H : (R mj_OC d mX9_open (fun r σ' => R mj_OC (d + 1) mX7_read Q 50 [some (rV 1 0), some (iV x1), none] (r.toList ++ []) σ') 0 [some (rV 2 0), some (iV x1), none, none, none, none] [] σ)) : R mj_OC (d + 1) mX7_read Q 42 [some (rV 1 0), some (iV x1), none] [] σ := by
  refine r_aload_n dX7_read_42 rfl rfl ?_
  refine r_get (k := 1) (i := 0) (j := 0) (v := rV 2 0) rfl rfl ho1 rfl hX7 (by decide) rfl fX7_12 dX7_read_43 (fun _ => rfl) ?_
  refine r_iload_n dX7_read_46 rfl rfl ?_
  refine r_callV (z := 4) (k := 2) (i := 0) (As := [iV x1]) (st := []) kX9_open i_X9_open e_X9_open lX7_51 dX7_read_47 rfl rfl ho2 rfl rfl rfl rfl rfl (Nat.le_of_ble_eq_true rfl) ?_
  exact H
set_option maxRecDepth 100000 in
theorem bX7_read_50 {d : Nat} {Q : Option MV → MS → Prop} {x1 : Int32} {σ : MS}  (H : R mj_OC d mX7_read Q 52 [some (rV 1 0), some (iV x1), some (iV (0 : Int32))] [] σ) : R mj_OC d mX7_read Q 50 [some (rV 1 0), some (iV x1), none] [] σ := by
  refine r_iconst (v := (0 : Int32)) dX7_read_50 rfl ?_
  refine r_istore_n dX7_read_51 rfl (by decide) rfl ?_
  exact H
set_option maxRecDepth 100000 in
theorem bX7_read_52 {d : Nat} {Q : Option MV → MS → Prop} {x1 : Int32} {x2 : Int32} {σ : MS}  (H : (((700 : Int32) ≤ x2 → Q none σ) ∧ (¬ (700 : Int32) ≤ x2 → ((¬ (σ.1 1 0 2) = 0 → Q none σ) ∧ ((σ.1 1 0 2) = 0 → (R mj_OC d mX9_kind (fun r σ' => R mj_OC (d + 1) mX7_read Q 73 [some (rV 1 0), some (iV x1), some (iV x2)] (r.toList ++ []) σ') 0 [some (rV 2 0)] [] σ)))))) : R mj_OC (d + 1) mX7_read Q 52 [some (rV 1 0), some (iV x1), some (iV x2)] [] σ := by
  refine r_iload_n dX7_read_52 rfl rfl ?_
  refine r_sipush (v := (700 : Int32)) dX7_read_53 rfl ?_
  refine r_icmp_ge (tgt := 88) dX7_read_56 (by decide) (fun c => ?_) (fun c => ?_)
  · have H := H.1 c
    exact r_vret dX7_read_88 rfl H
  · have H := H.2 c
    refine r_aload_n dX7_read_59 rfl rfl ?_
    refine r_get (k := 1) (i := 0) (j := 2) (v := iV (σ.1 1 0 2)) rfl rfl ho1 rfl hX7 (by decide) rfl fX7_29 dX7_read_60 (fun _ => rfl) ?_
    refine r_if_ne (tgt := 88) dX7_read_63 (by decide) (fun c => ?_) (fun c => ?_)
    · have H := H.1 c
      exact r_vret dX7_read_88 rfl H
    · have H := H.2 c
      refine r_aload_n dX7_read_66 rfl rfl ?_
      refine r_get (k := 1) (i := 0) (j := 0) (v := rV 2 0) rfl rfl ho1 rfl hX7 (by decide) rfl fX7_12 dX7_read_67 (fun _ => rfl) ?_
      refine r_callV (z := 0) (k := 2) (i := 0) (As := []) (st := []) kX9_kind i_X9_kind e_X9_kind lX7_55 dX7_read_70 rfl rfl ho2 rfl rfl rfl rfl rfl (Nat.le_of_ble_eq_true rfl) ?_
      exact H
set_option maxRecDepth 100000 in
theorem bX7_read_73 {d : Nat} {Q : Option MV → MS → Prop} {x1 : Int32} {x2 : Int32} {s0 : Int32} {σ : MS}  (H : ((s0 = (37 : Int32) → Q none σ) ∧ (¬ s0 = (37 : Int32) → (R mj_OC d mX7_readLine (fun r σ' => R mj_OC (d + 1) mX7_read Q 82 [some (rV 1 0), some (iV x1), some (iV x2)] (r.toList ++ []) σ') 0 [some (rV 1 0), none] [] σ)))) : R mj_OC (d + 1) mX7_read Q 73 [some (rV 1 0), some (iV x1), some (iV x2)] [iV s0] σ := by
  refine r_bipush (v := (37 : Int32)) dX7_read_73 rfl ?_
  refine r_icmp_eq (tgt := 88) dX7_read_75 (by decide) (fun c => ?_) (fun c => ?_)
  · have H := H.1 c
    exact r_vret dX7_read_88 rfl H
  · have H := H.2 c
    refine r_aload_n dX7_read_78 rfl rfl ?_
    refine r_callV (z := 1) (k := 1) (i := 0) (As := []) (st := []) kX7_readLine i_X7_readLine e_X7_readLine lX7_59 dX7_read_79 rfl rfl ho1 rfl rfl rfl rfl rfl (Nat.le_of_ble_eq_true rfl) ?_
    exact H
set_option maxRecDepth 100000 in
theorem bX7_read_82 {d : Nat} {Q : Option MV → MS → Prop} {x1 : Int32} {x2 : Int32} {σ : MS}  (H : R mj_OC d mX7_read Q 52 [some (rV 1 0), some (iV x1), some (iV (x2 + (1 : Int32)))] [] σ) : R mj_OC d mX7_read Q 82 [some (rV 1 0), some (iV x1), some (iV x2)] [] σ := by
  refine r_iinc (v := x2 + (1 : Int32)) dX7_read_82 rfl rfl (by decide) rfl ?_
  refine r_goto (tgt := 52) dX7_read_85 (by decide) ?_
  exact H
set_option maxRecDepth 100000 in
theorem bX7_fail_0 {d : Nat} {Q : Option MV → MS → Prop} {x1 : Int32} {x2 : Int32} {σ : MS}  (H : ((¬ (σ.1 1 0 2) = 0 → Q none σ) ∧ ((σ.1 1 0 2) = 0 → Q none (uI (uI σ 1 0 2 x1) 1 0 3 x2)))) : R mj_OC d mX7_fail Q 0 [some (rV 1 0), some (iV x1), some (iV x2)] [] σ := by
  refine r_aload_n dX7_fail_0 rfl rfl ?_
  refine r_get (k := 1) (i := 0) (j := 2) (v := iV (σ.1 1 0 2)) rfl rfl ho1 rfl hX7 (by decide) rfl fX7_29 dX7_fail_1 (fun _ => rfl) ?_
  refine r_if_ne (tgt := 17) dX7_fail_4 (by decide) (fun c => ?_) (fun c => ?_)
  · have H := H.1 c
    exact r_vret dX7_fail_17 rfl H
  · have H := H.2 c
    refine r_aload_n dX7_fail_7 rfl rfl ?_
    refine r_iload_n dX7_fail_8 rfl rfl ?_
    refine r_putI (k := 1) (i := 0) (j := 2) (ty0 := tyX7) rfl rfl ho1 rfl hX7 (by decide) rfl fX7_29 dX7_fail_9 rfl tyX7_ok nmX7 rfl rfl rfl ?_
    refine r_aload_n dX7_fail_12 rfl rfl ?_
    refine r_iload_n dX7_fail_13 rfl rfl ?_
    refine r_putI (k := 1) (i := 0) (j := 3) (ty0 := tyX7) rfl rfl ho1 rfl hX7 (by decide) rfl fX7_25 dX7_fail_14 rfl tyX7_ok nmX7 rfl rfl rfl ?_
    exact r_vret dX7_fail_17 rfl H
set_option maxRecDepth 100000 in
theorem bX7_readLine_0 {d : Nat} {Q : Option MV → MS → Prop}  {σ : MS}  (H : (R mj_OC d mX9_kind (fun r σ' => R mj_OC (d + 1) mX7_readLine Q 7 [some (rV 1 0), none] (r.toList ++ []) σ') 0 [some (rV 2 0)] [] σ)) : R mj_OC (d + 1) mX7_readLine Q 0 [some (rV 1 0), none] [] σ := by
  refine r_aload_n dX7_readLine_0 rfl rfl ?_
  refine r_get (k := 1) (i := 0) (j := 0) (v := rV 2 0) rfl rfl ho1 rfl hX7 (by decide) rfl fX7_12 dX7_readLine_1 (fun _ => rfl) ?_
  refine r_callV (z := 0) (k := 2) (i := 0) (As := []) (st := []) kX9_kind i_X9_kind e_X9_kind lX7_55 dX7_readLine_4 rfl rfl ho2 rfl rfl rfl rfl rfl (Nat.le_of_ble_eq_true rfl) ?_
  exact H
set_option maxRecDepth 100000 in
theorem bX7_readLine_7 {d : Nat} {Q : Option MV → MS → Prop} {s0 : Int32} {σ : MS}  (H : ((s0 ≤ (8 : Int32) → (σ.2.2 1 0 < 2 ∧ (R mj_OC d mX0_hasAllOf (fun r σ' => R mj_OC (d + 1) mX7_readLine Q 35 [some (rV 1 0), some (iV s0)] (r.toList ++ []) σ') 0 [some (rV 3 (σ.2.2 1 0)), some (iV s0)] [] σ))) ∧ (¬ s0 ≤ (8 : Int32) → (R mj_OC d mX9_place (fun r σ' => R mj_OC (d + 1) mX7_readLine Q 23 [some (rV 1 0), some (iV s0)] (r.toList ++ [iV (1 : Int32), rV 1 0]) σ') 0 [some (rV 2 0)] [] σ)))) : R mj_OC (d + 1) mX7_readLine Q 7 [some (rV 1 0), none] [iV s0] σ := by
  refine r_istore_n dX7_readLine_7 rfl (by decide) rfl ?_
  refine r_iload_n dX7_readLine_8 rfl rfl ?_
  refine r_bipush (v := (8 : Int32)) dX7_readLine_9 rfl ?_
  refine r_icmp_le (tgt := 27) dX7_readLine_11 (by decide) (fun c => ?_) (fun c => ?_)
  · have H := H.1 c
    refine r_aload_n dX7_readLine_27 rfl rfl ?_
    refine r_get (k := 1) (i := 0) (j := 1) (v := rV 3 (σ.2.2 1 0)) rfl rfl ho1 rfl hX7 (by decide) rfl fX7_21 dX7_readLine_28 (fun _ => rfl) ?_
    refine r_iload_n dX7_readLine_31 rfl rfl ?_
    obtain ⟨q1, H⟩ := H
    refine r_callV (z := 0) (k := 3) (i := (σ.2.2 1 0)) (As := [iV s0]) (st := []) kX0_hasAllOf i_X0_hasAllOf e_X0_hasAllOf lX7_68 dX7_readLine_32 rfl rfl (ho3 q1) rfl rfl rfl rfl rfl (Nat.le_of_ble_eq_true rfl) ?_
    exact H
  · have H := H.2 c
    refine r_aload_n dX7_readLine_14 rfl rfl ?_
    refine r_iconst (v := (1 : Int32)) dX7_readLine_15 rfl ?_
    refine r_aload_n dX7_readLine_16 rfl rfl ?_
    refine r_get (k := 1) (i := 0) (j := 0) (v := rV 2 0) rfl rfl ho1 rfl hX7 (by decide) rfl fX7_12 dX7_readLine_17 (fun _ => rfl) ?_
    refine r_callV (z := 0) (k := 2) (i := 0) (As := []) (st := [iV (1 : Int32), rV 1 0]) kX9_place i_X9_place e_X9_place lX7_62 dX7_readLine_20 rfl rfl ho2 rfl rfl rfl rfl rfl (Nat.le_of_ble_eq_true rfl) ?_
    exact H
set_option maxRecDepth 100000 in
theorem bX7_readLine_23 {d : Nat} {Q : Option MV → MS → Prop} {x1 : Int32} {s0 : Int32} {s1 : Int32} {σ : MS}  (H : (R mj_OC d mX7_fail (fun r σ' => R mj_OC (d + 1) mX7_readLine Q 26 [some (rV 1 0), some (iV x1)] (r.toList ++ []) σ') 0 [some (rV 1 0), some (iV s1), some (iV s0)] [] σ)) : R mj_OC (d + 1) mX7_readLine Q 23 [some (rV 1 0), some (iV x1)] [iV s0, iV s1, rV 1 0] σ := by
  refine r_callV (z := 0) (k := 1) (i := 0) (As := [iV s1, iV s0]) (st := []) kX7_fail i_X7_fail e_X7_fail lX7_64 dX7_readLine_23 rfl rfl ho1 rfl rfl rfl rfl rfl (Nat.le_of_ble_eq_true rfl) ?_
  exact H
set_option maxRecDepth 100000 in
theorem bX7_readLine_26 {d : Nat} {Q : Option MV → MS → Prop} {x1 : Int32} {σ : MS}  (H : Q none σ) : R mj_OC d mX7_readLine Q 26 [some (rV 1 0), some (iV x1)] [] σ := by
  exact r_vret dX7_readLine_26 rfl H
set_option maxRecDepth 100000 in
theorem bX7_readLine_35 {d : Nat} {Q : Option MV → MS → Prop} {x1 : Int32} {s0 : Int32} {σ : MS}  (H : ((s0 = 0 → ((¬ x1 = (6 : Int32) → ((¬ x1 = (7 : Int32) → (R mj_OC d mX9_advance (fun r σ' => R mj_OC (d + 1) mX7_readLine Q 97 [some (rV 1 0), some (iV x1)] (r.toList ++ []) σ') 0 [some (rV 2 0)] [] σ)) ∧ (x1 = (7 : Int32) → (((σ.1 1 0 7) = 0 → (R mj_OC d mX9_advance (fun r σ' => R mj_OC (d + 1) mX7_readLine Q 97 [some (rV 1 0), some (iV x1)] (r.toList ++ []) σ') 0 [some (rV 2 0)] [] σ)) ∧ (¬ (σ.1 1 0 7) = 0 → (R mj_OC d mX9_place (fun r σ' => R mj_OC (d + 1) mX7_readLine Q 86 [some (rV 1 0), some (iV x1)] (r.toList ++ [iV (3 : Int32), rV 1 0]) σ') 0 [some (rV 2 0)] [] σ)))))) ∧ (x1 = (6 : Int32) → ((¬ (σ.1 1 0 6) = 0 → (R mj_OC d mX9_place (fun r σ' => R mj_OC (d + 1) mX7_readLine Q 86 [some (rV 1 0), some (iV x1)] (r.toList ++ [iV (3 : Int32), rV 1 0]) σ') 0 [some (rV 2 0)] [] σ)) ∧ ((σ.1 1 0 6) = 0 → ((¬ x1 = (7 : Int32) → (R mj_OC d mX9_advance (fun r σ' => R mj_OC (d + 1) mX7_readLine Q 97 [some (rV 1 0), some (iV x1)] (r.toList ++ []) σ') 0 [some (rV 2 0)] [] σ)) ∧ (x1 = (7 : Int32) → (((σ.1 1 0 7) = 0 → (R mj_OC d mX9_advance (fun r σ' => R mj_OC (d + 1) mX7_readLine Q 97 [some (rV 1 0), some (iV x1)] (r.toList ++ []) σ') 0 [some (rV 2 0)] [] σ)) ∧ (¬ (σ.1 1 0 7) = 0 → (R mj_OC d mX9_place (fun r σ' => R mj_OC (d + 1) mX7_readLine Q 86 [some (rV 1 0), some (iV x1)] (r.toList ++ [iV (3 : Int32), rV 1 0]) σ') 0 [some (rV 2 0)] [] σ)))))))))) ∧ (¬ s0 = 0 → (R mj_OC d mX9_place (fun r σ' => R mj_OC (d + 1) mX7_readLine Q 47 [some (rV 1 0), some (iV x1)] (r.toList ++ [iV (2 : Int32), rV 1 0]) σ') 0 [some (rV 2 0)] [] σ)))) : R mj_OC (d + 1) mX7_readLine Q 35 [some (rV 1 0), some (iV x1)] [iV s0] σ := by
  refine r_if_eq (tgt := 51) dX7_readLine_35 (by decide) (fun c => ?_) (fun c => ?_)
  · have H := H.1 c
    refine r_iload_n dX7_readLine_51 rfl rfl ?_
    refine r_bipush (v := (6 : Int32)) dX7_readLine_52 rfl ?_
    refine r_icmp_ne (tgt := 64) dX7_readLine_54 (by decide) (fun c => ?_) (fun c => ?_)
    · have H := H.1 c
      refine r_iload_n dX7_readLine_64 rfl rfl ?_
      refine r_bipush (v := (7 : Int32)) dX7_readLine_65 rfl ?_
      refine r_icmp_ne (tgt := 90) dX7_readLine_67 (by decide) (fun c => ?_) (fun c => ?_)
      · have H := H.1 c
        refine r_aload_n dX7_readLine_90 rfl rfl ?_
        refine r_get (k := 1) (i := 0) (j := 0) (v := rV 2 0) rfl rfl ho1 rfl hX7 (by decide) rfl fX7_12 dX7_readLine_91 (fun _ => rfl) ?_
        refine r_callV (z := 0) (k := 2) (i := 0) (As := []) (st := []) kX9_advance i_X9_advance e_X9_advance lX7_72 dX7_readLine_94 rfl rfl ho2 rfl rfl rfl rfl rfl (Nat.le_of_ble_eq_true rfl) ?_
        exact H
      · have H := H.2 c
        refine r_aload_n dX7_readLine_70 rfl rfl ?_
        refine r_get (k := 1) (i := 0) (j := 7) (v := iV (σ.1 1 0 7)) rfl rfl ho1 rfl hX7 (by decide) rfl fX7_42 dX7_readLine_71 (fun _ => rfl) ?_
        refine r_if_eq (tgt := 90) dX7_readLine_74 (by decide) (fun c => ?_) (fun c => ?_)
        · have H := H.1 c
          refine r_aload_n dX7_readLine_90 rfl rfl ?_
          refine r_get (k := 1) (i := 0) (j := 0) (v := rV 2 0) rfl rfl ho1 rfl hX7 (by decide) rfl fX7_12 dX7_readLine_91 (fun _ => rfl) ?_
          refine r_callV (z := 0) (k := 2) (i := 0) (As := []) (st := []) kX9_advance i_X9_advance e_X9_advance lX7_72 dX7_readLine_94 rfl rfl ho2 rfl rfl rfl rfl rfl (Nat.le_of_ble_eq_true rfl) ?_
          exact H
        · have H := H.2 c
          refine r_aload_n dX7_readLine_77 rfl rfl ?_
          refine r_iconst (v := (3 : Int32)) dX7_readLine_78 rfl ?_
          refine r_aload_n dX7_readLine_79 rfl rfl ?_
          refine r_get (k := 1) (i := 0) (j := 0) (v := rV 2 0) rfl rfl ho1 rfl hX7 (by decide) rfl fX7_12 dX7_readLine_80 (fun _ => rfl) ?_
          refine r_callV (z := 0) (k := 2) (i := 0) (As := []) (st := [iV (3 : Int32), rV 1 0]) kX9_place i_X9_place e_X9_place lX7_62 dX7_readLine_83 rfl rfl ho2 rfl rfl rfl rfl rfl (Nat.le_of_ble_eq_true rfl) ?_
          exact H
    · have H := H.2 c
      refine r_aload_n dX7_readLine_57 rfl rfl ?_
      refine r_get (k := 1) (i := 0) (j := 6) (v := iV (σ.1 1 0 6)) rfl rfl ho1 rfl hX7 (by decide) rfl fX7_38 dX7_readLine_58 (fun _ => rfl) ?_
      refine r_if_ne (tgt := 77) dX7_readLine_61 (by decide) (fun c => ?_) (fun c => ?_)
      · have H := H.1 c
        refine r_aload_n dX7_readLine_77 rfl rfl ?_
        refine r_iconst (v := (3 : Int32)) dX7_readLine_78 rfl ?_
        refine r_aload_n dX7_readLine_79 rfl rfl ?_
        refine r_get (k := 1) (i := 0) (j := 0) (v := rV 2 0) rfl rfl ho1 rfl hX7 (by decide) rfl fX7_12 dX7_readLine_80 (fun _ => rfl) ?_
        refine r_callV (z := 0) (k := 2) (i := 0) (As := []) (st := [iV (3 : Int32), rV 1 0]) kX9_place i_X9_place e_X9_place lX7_62 dX7_readLine_83 rfl rfl ho2 rfl rfl rfl rfl rfl (Nat.le_of_ble_eq_true rfl) ?_
        exact H
      · have H := H.2 c
        refine r_iload_n dX7_readLine_64 rfl rfl ?_
        refine r_bipush (v := (7 : Int32)) dX7_readLine_65 rfl ?_
        refine r_icmp_ne (tgt := 90) dX7_readLine_67 (by decide) (fun c => ?_) (fun c => ?_)
        · have H := H.1 c
          refine r_aload_n dX7_readLine_90 rfl rfl ?_
          refine r_get (k := 1) (i := 0) (j := 0) (v := rV 2 0) rfl rfl ho1 rfl hX7 (by decide) rfl fX7_12 dX7_readLine_91 (fun _ => rfl) ?_
          refine r_callV (z := 0) (k := 2) (i := 0) (As := []) (st := []) kX9_advance i_X9_advance e_X9_advance lX7_72 dX7_readLine_94 rfl rfl ho2 rfl rfl rfl rfl rfl (Nat.le_of_ble_eq_true rfl) ?_
          exact H
        · have H := H.2 c
          refine r_aload_n dX7_readLine_70 rfl rfl ?_
          refine r_get (k := 1) (i := 0) (j := 7) (v := iV (σ.1 1 0 7)) rfl rfl ho1 rfl hX7 (by decide) rfl fX7_42 dX7_readLine_71 (fun _ => rfl) ?_
          refine r_if_eq (tgt := 90) dX7_readLine_74 (by decide) (fun c => ?_) (fun c => ?_)
          · have H := H.1 c
            refine r_aload_n dX7_readLine_90 rfl rfl ?_
            refine r_get (k := 1) (i := 0) (j := 0) (v := rV 2 0) rfl rfl ho1 rfl hX7 (by decide) rfl fX7_12 dX7_readLine_91 (fun _ => rfl) ?_
            refine r_callV (z := 0) (k := 2) (i := 0) (As := []) (st := []) kX9_advance i_X9_advance e_X9_advance lX7_72 dX7_readLine_94 rfl rfl ho2 rfl rfl rfl rfl rfl (Nat.le_of_ble_eq_true rfl) ?_
            exact H
          · have H := H.2 c
            refine r_aload_n dX7_readLine_77 rfl rfl ?_
            refine r_iconst (v := (3 : Int32)) dX7_readLine_78 rfl ?_
            refine r_aload_n dX7_readLine_79 rfl rfl ?_
            refine r_get (k := 1) (i := 0) (j := 0) (v := rV 2 0) rfl rfl ho1 rfl hX7 (by decide) rfl fX7_12 dX7_readLine_80 (fun _ => rfl) ?_
            refine r_callV (z := 0) (k := 2) (i := 0) (As := []) (st := [iV (3 : Int32), rV 1 0]) kX9_place i_X9_place e_X9_place lX7_62 dX7_readLine_83 rfl rfl ho2 rfl rfl rfl rfl rfl (Nat.le_of_ble_eq_true rfl) ?_
            exact H
  · have H := H.2 c
    refine r_aload_n dX7_readLine_38 rfl rfl ?_
    refine r_iconst (v := (2 : Int32)) dX7_readLine_39 rfl ?_
    refine r_aload_n dX7_readLine_40 rfl rfl ?_
    refine r_get (k := 1) (i := 0) (j := 0) (v := rV 2 0) rfl rfl ho1 rfl hX7 (by decide) rfl fX7_12 dX7_readLine_41 (fun _ => rfl) ?_
    refine r_callV (z := 0) (k := 2) (i := 0) (As := []) (st := [iV (2 : Int32), rV 1 0]) kX9_place i_X9_place e_X9_place lX7_62 dX7_readLine_44 rfl rfl ho2 rfl rfl rfl rfl rfl (Nat.le_of_ble_eq_true rfl) ?_
    exact H
set_option maxRecDepth 100000 in
theorem bX7_readLine_47 {d : Nat} {Q : Option MV → MS → Prop} {x1 : Int32} {s0 : Int32} {s1 : Int32} {σ : MS}  (H : (R mj_OC d mX7_fail (fun r σ' => R mj_OC (d + 1) mX7_readLine Q 50 [some (rV 1 0), some (iV x1)] (r.toList ++ []) σ') 0 [some (rV 1 0), some (iV s1), some (iV s0)] [] σ)) : R mj_OC (d + 1) mX7_readLine Q 47 [some (rV 1 0), some (iV x1)] [iV s0, iV s1, rV 1 0] σ := by
  refine r_callV (z := 0) (k := 1) (i := 0) (As := [iV s1, iV s0]) (st := []) kX7_fail i_X7_fail e_X7_fail lX7_64 dX7_readLine_47 rfl rfl ho1 rfl rfl rfl rfl rfl (Nat.le_of_ble_eq_true rfl) ?_
  exact H
set_option maxRecDepth 100000 in
theorem bX7_readLine_50 {d : Nat} {Q : Option MV → MS → Prop} {x1 : Int32} {σ : MS}  (H : Q none σ) : R mj_OC d mX7_readLine Q 50 [some (rV 1 0), some (iV x1)] [] σ := by
  exact r_vret dX7_readLine_50 rfl H
set_option maxRecDepth 100000 in
theorem bX7_readLine_86 {d : Nat} {Q : Option MV → MS → Prop} {x1 : Int32} {s0 : Int32} {s1 : Int32} {σ : MS}  (H : (R mj_OC d mX7_fail (fun r σ' => R mj_OC (d + 1) mX7_readLine Q 89 [some (rV 1 0), some (iV x1)] (r.toList ++ []) σ') 0 [some (rV 1 0), some (iV s1), some (iV s0)] [] σ)) : R mj_OC (d + 1) mX7_readLine Q 86 [some (rV 1 0), some (iV x1)] [iV s0, iV s1, rV 1 0] σ := by
  refine r_callV (z := 0) (k := 1) (i := 0) (As := [iV s1, iV s0]) (st := []) kX7_fail i_X7_fail e_X7_fail lX7_64 dX7_readLine_86 rfl rfl ho1 rfl rfl rfl rfl rfl (Nat.le_of_ble_eq_true rfl) ?_
  exact H
set_option maxRecDepth 100000 in
theorem bX7_readLine_89 {d : Nat} {Q : Option MV → MS → Prop} {x1 : Int32} {σ : MS}  (H : Q none σ) : R mj_OC d mX7_readLine Q 89 [some (rV 1 0), some (iV x1)] [] σ := by
  exact r_vret dX7_readLine_89 rfl H
set_option maxRecDepth 100000 in
theorem bX7_readLine_97 {d : Nat} {Q : Option MV → MS → Prop} {x1 : Int32} {σ : MS}  (H : ((x1 = 0 → (R mj_OC d mX7_readPond (fun r σ' => R mj_OC (d + 1) mX7_readLine Q 148 [some (rV 1 0), some (iV x1)] (r.toList ++ []) σ') 0 [some (rV 1 0), none, none, none, none, none] [] σ)) ∧ (¬ x1 = 0 → ((x1 = 1 → (R mj_OC d mX7_readLock (fun r σ' => R mj_OC (d + 1) mX7_readLine Q 155 [some (rV 1 0), some (iV x1)] (r.toList ++ []) σ') 0 [some (rV 1 0), none, none, none, none] [] σ)) ∧ (¬ x1 = 1 → ((x1 = 2 → (R mj_OC d mX7_readPipe (fun r σ' => R mj_OC (d + 1) mX7_readLine Q 162 [some (rV 1 0), some (iV x1)] (r.toList ++ []) σ') 0 [some (rV 1 0), none, none, none, none] [] σ)) ∧ (¬ x1 = 2 → ((x1 = 3 → (R mj_OC d mX7_readTurn (fun r σ' => R mj_OC (d + 1) mX7_readLine Q 169 [some (rV 1 0), some (iV x1)] (r.toList ++ []) σ') 0 [some (rV 1 0), none, none, none, none] [] σ)) ∧ (¬ x1 = 3 → ((x1 = 4 → (R mj_OC d mX7_readBoat (fun r σ' => R mj_OC (d + 1) mX7_readLine Q 176 [some (rV 1 0), some (iV x1)] (r.toList ++ []) σ') 0 [some (rV 1 0), none, none, none, none] [] σ)) ∧ (¬ x1 = 4 → ((x1 = 5 → (R mj_OC d mX7_readSpring (fun r σ' => R mj_OC (d + 1) mX7_readLine Q 183 [some (rV 1 0), some (iV x1)] (r.toList ++ []) σ') 0 [some (rV 1 0), none, none, none] [] σ)) ∧ (¬ x1 = 5 → ((x1 = 6 → (R mj_OC d mX7_readJam (fun r σ' => R mj_OC (d + 1) mX7_readLine Q 190 [some (rV 1 0), some (iV x1)] (r.toList ++ []) σ') 0 [some (rV 1 0)] [] σ)) ∧ (¬ x1 = 6 → ((x1 = 7 → (R mj_OC d mX7_readSeed (fun r σ' => R mj_OC (d + 1) mX7_readLine Q 197 [some (rV 1 0), some (iV x1)] (r.toList ++ []) σ') 0 [some (rV 1 0)] [] σ)) ∧ (¬ x1 = 7 → (R mj_OC d mX7_readLaw (fun r σ' => R mj_OC (d + 1) mX7_readLine Q 204 [some (rV 1 0), some (iV x1)] (r.toList ++ []) σ') 0 [some (rV 1 0), none] [] σ)))))))))))))))))) : R mj_OC (d + 1) mX7_readLine Q 97 [some (rV 1 0), some (iV x1)] [] σ := by
  refine r_iload_n dX7_readLine_97 rfl rfl ?_
  by_cases c0 : x1 = 0
  · have H := H.1 c0
    refine r_tableIn (tgt := 144) (off := 46) dX7_readLine_98 (by rw [c0]; decide) (by rw [c0]; decide) (by rw [c0]; rfl) (by decide) ?_
    refine r_aload_n dX7_readLine_144 rfl rfl ?_
    refine r_callV (z := 5) (k := 1) (i := 0) (As := []) (st := []) kX7_readPond i_X7_readPond e_X7_readPond lX7_75 dX7_readLine_145 rfl rfl ho1 rfl rfl rfl rfl rfl (Nat.le_of_ble_eq_true rfl) ?_
    exact H
  replace H := H.2 c0
  by_cases c1 : x1 = 1
  · have H := H.1 c1
    refine r_tableIn (tgt := 151) (off := 53) dX7_readLine_98 (by rw [c1]; decide) (by rw [c1]; decide) (by rw [c1]; rfl) (by decide) ?_
    refine r_aload_n dX7_readLine_151 rfl rfl ?_
    refine r_callV (z := 4) (k := 1) (i := 0) (As := []) (st := []) kX7_readLock i_X7_readLock e_X7_readLock lX7_78 dX7_readLine_152 rfl rfl ho1 rfl rfl rfl rfl rfl (Nat.le_of_ble_eq_true rfl) ?_
    exact H
  replace H := H.2 c1
  by_cases c2 : x1 = 2
  · have H := H.1 c2
    refine r_tableIn (tgt := 158) (off := 60) dX7_readLine_98 (by rw [c2]; decide) (by rw [c2]; decide) (by rw [c2]; rfl) (by decide) ?_
    refine r_aload_n dX7_readLine_158 rfl rfl ?_
    refine r_callV (z := 4) (k := 1) (i := 0) (As := []) (st := []) kX7_readPipe i_X7_readPipe e_X7_readPipe lX7_81 dX7_readLine_159 rfl rfl ho1 rfl rfl rfl rfl rfl (Nat.le_of_ble_eq_true rfl) ?_
    exact H
  replace H := H.2 c2
  by_cases c3 : x1 = 3
  · have H := H.1 c3
    refine r_tableIn (tgt := 165) (off := 67) dX7_readLine_98 (by rw [c3]; decide) (by rw [c3]; decide) (by rw [c3]; rfl) (by decide) ?_
    refine r_aload_n dX7_readLine_165 rfl rfl ?_
    refine r_callV (z := 4) (k := 1) (i := 0) (As := []) (st := []) kX7_readTurn i_X7_readTurn e_X7_readTurn lX7_84 dX7_readLine_166 rfl rfl ho1 rfl rfl rfl rfl rfl (Nat.le_of_ble_eq_true rfl) ?_
    exact H
  replace H := H.2 c3
  by_cases c4 : x1 = 4
  · have H := H.1 c4
    refine r_tableIn (tgt := 172) (off := 74) dX7_readLine_98 (by rw [c4]; decide) (by rw [c4]; decide) (by rw [c4]; rfl) (by decide) ?_
    refine r_aload_n dX7_readLine_172 rfl rfl ?_
    refine r_callV (z := 4) (k := 1) (i := 0) (As := []) (st := []) kX7_readBoat i_X7_readBoat e_X7_readBoat lX7_87 dX7_readLine_173 rfl rfl ho1 rfl rfl rfl rfl rfl (Nat.le_of_ble_eq_true rfl) ?_
    exact H
  replace H := H.2 c4
  by_cases c5 : x1 = 5
  · have H := H.1 c5
    refine r_tableIn (tgt := 179) (off := 81) dX7_readLine_98 (by rw [c5]; decide) (by rw [c5]; decide) (by rw [c5]; rfl) (by decide) ?_
    refine r_aload_n dX7_readLine_179 rfl rfl ?_
    refine r_callV (z := 3) (k := 1) (i := 0) (As := []) (st := []) kX7_readSpring i_X7_readSpring e_X7_readSpring lX7_90 dX7_readLine_180 rfl rfl ho1 rfl rfl rfl rfl rfl (Nat.le_of_ble_eq_true rfl) ?_
    exact H
  replace H := H.2 c5
  by_cases c6 : x1 = 6
  · have H := H.1 c6
    refine r_tableIn (tgt := 186) (off := 88) dX7_readLine_98 (by rw [c6]; decide) (by rw [c6]; decide) (by rw [c6]; rfl) (by decide) ?_
    refine r_aload_n dX7_readLine_186 rfl rfl ?_
    refine r_callV (z := 0) (k := 1) (i := 0) (As := []) (st := []) kX7_readJam i_X7_readJam e_X7_readJam lX7_93 dX7_readLine_187 rfl rfl ho1 rfl rfl rfl rfl rfl (Nat.le_of_ble_eq_true rfl) ?_
    exact H
  replace H := H.2 c6
  by_cases c7 : x1 = 7
  · have H := H.1 c7
    refine r_tableIn (tgt := 193) (off := 95) dX7_readLine_98 (by rw [c7]; decide) (by rw [c7]; decide) (by rw [c7]; rfl) (by decide) ?_
    refine r_aload_n dX7_readLine_193 rfl rfl ?_
    refine r_callV (z := 0) (k := 1) (i := 0) (As := []) (st := []) kX7_readSeed i_X7_readSeed e_X7_readSeed lX7_96 dX7_readLine_194 rfl rfl ho1 rfl rfl rfl rfl rfl (Nat.le_of_ble_eq_true rfl) ?_
    exact H
  replace H := H.2 c7
  refine r_tableOut (tgt := 200) dX7_readLine_98 (by have z0 := lv_neT c0 (show (0 : Int32).toInt = 0 by decide); have z1 := lv_neT c1 (show (1 : Int32).toInt = 1 by decide); have z2 := lv_neT c2 (show (2 : Int32).toInt = 2 by decide); have z3 := lv_neT c3 (show (3 : Int32).toInt = 3 by decide); have z4 := lv_neT c4 (show (4 : Int32).toInt = 4 by decide); have z5 := lv_neT c5 (show (5 : Int32).toInt = 5 by decide); have z6 := lv_neT c6 (show (6 : Int32).toInt = 6 by decide); have z7 := lv_neT c7 (show (7 : Int32).toInt = 7 by decide); omega) (by decide) ?_
  refine r_aload_n dX7_readLine_200 rfl rfl ?_
  refine r_callV (z := 1) (k := 1) (i := 0) (As := []) (st := []) kX7_readLaw i_X7_readLaw e_X7_readLaw lX7_99 dX7_readLine_201 rfl rfl ho1 rfl rfl rfl rfl rfl (Nat.le_of_ble_eq_true rfl) ?_
  exact H
set_option maxRecDepth 100000 in
theorem bX7_readLine_148 {d : Nat} {Q : Option MV → MS → Prop} {x1 : Int32} {σ : MS}  (H : (R mj_OC d mX7_take (fun r σ' => R mj_OC (d + 1) mX7_readLine Q 210 [some (rV 1 0), some (iV x1)] (r.toList ++ []) σ') 0 [some (rV 1 0), some (iV (24 : Int32))] [] σ)) : R mj_OC (d + 1) mX7_readLine Q 148 [some (rV 1 0), some (iV x1)] [] σ := by
  refine r_goto (tgt := 204) dX7_readLine_148 (by decide) ?_
  refine r_aload_n dX7_readLine_204 rfl rfl ?_
  refine r_bipush (v := (24 : Int32)) dX7_readLine_205 rfl ?_
  refine r_callV (z := 0) (k := 1) (i := 0) (As := [iV (24 : Int32)]) (st := []) kX7_take i_X7_take e_X7_take lX7_102 dX7_readLine_207 rfl rfl ho1 rfl rfl rfl rfl rfl (Nat.le_of_ble_eq_true rfl) ?_
  exact H
set_option maxRecDepth 100000 in
theorem bX7_readLine_155 {d : Nat} {Q : Option MV → MS → Prop} {x1 : Int32} {σ : MS}  (H : (R mj_OC d mX7_take (fun r σ' => R mj_OC (d + 1) mX7_readLine Q 210 [some (rV 1 0), some (iV x1)] (r.toList ++ []) σ') 0 [some (rV 1 0), some (iV (24 : Int32))] [] σ)) : R mj_OC (d + 1) mX7_readLine Q 155 [some (rV 1 0), some (iV x1)] [] σ := by
  refine r_goto (tgt := 204) dX7_readLine_155 (by decide) ?_
  refine r_aload_n dX7_readLine_204 rfl rfl ?_
  refine r_bipush (v := (24 : Int32)) dX7_readLine_205 rfl ?_
  refine r_callV (z := 0) (k := 1) (i := 0) (As := [iV (24 : Int32)]) (st := []) kX7_take i_X7_take e_X7_take lX7_102 dX7_readLine_207 rfl rfl ho1 rfl rfl rfl rfl rfl (Nat.le_of_ble_eq_true rfl) ?_
  exact H
set_option maxRecDepth 100000 in
theorem bX7_readLine_162 {d : Nat} {Q : Option MV → MS → Prop} {x1 : Int32} {σ : MS}  (H : (R mj_OC d mX7_take (fun r σ' => R mj_OC (d + 1) mX7_readLine Q 210 [some (rV 1 0), some (iV x1)] (r.toList ++ []) σ') 0 [some (rV 1 0), some (iV (24 : Int32))] [] σ)) : R mj_OC (d + 1) mX7_readLine Q 162 [some (rV 1 0), some (iV x1)] [] σ := by
  refine r_goto (tgt := 204) dX7_readLine_162 (by decide) ?_
  refine r_aload_n dX7_readLine_204 rfl rfl ?_
  refine r_bipush (v := (24 : Int32)) dX7_readLine_205 rfl ?_
  refine r_callV (z := 0) (k := 1) (i := 0) (As := [iV (24 : Int32)]) (st := []) kX7_take i_X7_take e_X7_take lX7_102 dX7_readLine_207 rfl rfl ho1 rfl rfl rfl rfl rfl (Nat.le_of_ble_eq_true rfl) ?_
  exact H
set_option maxRecDepth 100000 in
theorem bX7_readLine_169 {d : Nat} {Q : Option MV → MS → Prop} {x1 : Int32} {σ : MS}  (H : (R mj_OC d mX7_take (fun r σ' => R mj_OC (d + 1) mX7_readLine Q 210 [some (rV 1 0), some (iV x1)] (r.toList ++ []) σ') 0 [some (rV 1 0), some (iV (24 : Int32))] [] σ)) : R mj_OC (d + 1) mX7_readLine Q 169 [some (rV 1 0), some (iV x1)] [] σ := by
  refine r_goto (tgt := 204) dX7_readLine_169 (by decide) ?_
  refine r_aload_n dX7_readLine_204 rfl rfl ?_
  refine r_bipush (v := (24 : Int32)) dX7_readLine_205 rfl ?_
  refine r_callV (z := 0) (k := 1) (i := 0) (As := [iV (24 : Int32)]) (st := []) kX7_take i_X7_take e_X7_take lX7_102 dX7_readLine_207 rfl rfl ho1 rfl rfl rfl rfl rfl (Nat.le_of_ble_eq_true rfl) ?_
  exact H
set_option maxRecDepth 100000 in
theorem bX7_readLine_176 {d : Nat} {Q : Option MV → MS → Prop} {x1 : Int32} {σ : MS}  (H : (R mj_OC d mX7_take (fun r σ' => R mj_OC (d + 1) mX7_readLine Q 210 [some (rV 1 0), some (iV x1)] (r.toList ++ []) σ') 0 [some (rV 1 0), some (iV (24 : Int32))] [] σ)) : R mj_OC (d + 1) mX7_readLine Q 176 [some (rV 1 0), some (iV x1)] [] σ := by
  refine r_goto (tgt := 204) dX7_readLine_176 (by decide) ?_
  refine r_aload_n dX7_readLine_204 rfl rfl ?_
  refine r_bipush (v := (24 : Int32)) dX7_readLine_205 rfl ?_
  refine r_callV (z := 0) (k := 1) (i := 0) (As := [iV (24 : Int32)]) (st := []) kX7_take i_X7_take e_X7_take lX7_102 dX7_readLine_207 rfl rfl ho1 rfl rfl rfl rfl rfl (Nat.le_of_ble_eq_true rfl) ?_
  exact H
set_option maxRecDepth 100000 in
theorem bX7_readLine_183 {d : Nat} {Q : Option MV → MS → Prop} {x1 : Int32} {σ : MS}  (H : (R mj_OC d mX7_take (fun r σ' => R mj_OC (d + 1) mX7_readLine Q 210 [some (rV 1 0), some (iV x1)] (r.toList ++ []) σ') 0 [some (rV 1 0), some (iV (24 : Int32))] [] σ)) : R mj_OC (d + 1) mX7_readLine Q 183 [some (rV 1 0), some (iV x1)] [] σ := by
  refine r_goto (tgt := 204) dX7_readLine_183 (by decide) ?_
  refine r_aload_n dX7_readLine_204 rfl rfl ?_
  refine r_bipush (v := (24 : Int32)) dX7_readLine_205 rfl ?_
  refine r_callV (z := 0) (k := 1) (i := 0) (As := [iV (24 : Int32)]) (st := []) kX7_take i_X7_take e_X7_take lX7_102 dX7_readLine_207 rfl rfl ho1 rfl rfl rfl rfl rfl (Nat.le_of_ble_eq_true rfl) ?_
  exact H
set_option maxRecDepth 100000 in
theorem bX7_readLine_190 {d : Nat} {Q : Option MV → MS → Prop} {x1 : Int32} {σ : MS}  (H : (R mj_OC d mX7_take (fun r σ' => R mj_OC (d + 1) mX7_readLine Q 210 [some (rV 1 0), some (iV x1)] (r.toList ++ []) σ') 0 [some (rV 1 0), some (iV (24 : Int32))] [] σ)) : R mj_OC (d + 1) mX7_readLine Q 190 [some (rV 1 0), some (iV x1)] [] σ := by
  refine r_goto (tgt := 204) dX7_readLine_190 (by decide) ?_
  refine r_aload_n dX7_readLine_204 rfl rfl ?_
  refine r_bipush (v := (24 : Int32)) dX7_readLine_205 rfl ?_
  refine r_callV (z := 0) (k := 1) (i := 0) (As := [iV (24 : Int32)]) (st := []) kX7_take i_X7_take e_X7_take lX7_102 dX7_readLine_207 rfl rfl ho1 rfl rfl rfl rfl rfl (Nat.le_of_ble_eq_true rfl) ?_
  exact H
set_option maxRecDepth 100000 in
theorem bX7_readLine_197 {d : Nat} {Q : Option MV → MS → Prop} {x1 : Int32} {σ : MS}  (H : (R mj_OC d mX7_take (fun r σ' => R mj_OC (d + 1) mX7_readLine Q 210 [some (rV 1 0), some (iV x1)] (r.toList ++ []) σ') 0 [some (rV 1 0), some (iV (24 : Int32))] [] σ)) : R mj_OC (d + 1) mX7_readLine Q 197 [some (rV 1 0), some (iV x1)] [] σ := by
  refine r_goto (tgt := 204) dX7_readLine_197 (by decide) ?_
  refine r_aload_n dX7_readLine_204 rfl rfl ?_
  refine r_bipush (v := (24 : Int32)) dX7_readLine_205 rfl ?_
  refine r_callV (z := 0) (k := 1) (i := 0) (As := [iV (24 : Int32)]) (st := []) kX7_take i_X7_take e_X7_take lX7_102 dX7_readLine_207 rfl rfl ho1 rfl rfl rfl rfl rfl (Nat.le_of_ble_eq_true rfl) ?_
  exact H
set_option maxRecDepth 100000 in
theorem bX7_readLine_204 {d : Nat} {Q : Option MV → MS → Prop} {x1 : Int32} {σ : MS}  (H : (R mj_OC d mX7_take (fun r σ' => R mj_OC (d + 1) mX7_readLine Q 210 [some (rV 1 0), some (iV x1)] (r.toList ++ []) σ') 0 [some (rV 1 0), some (iV (24 : Int32))] [] σ)) : R mj_OC (d + 1) mX7_readLine Q 204 [some (rV 1 0), some (iV x1)] [] σ := by
  refine r_aload_n dX7_readLine_204 rfl rfl ?_
  refine r_bipush (v := (24 : Int32)) dX7_readLine_205 rfl ?_
  refine r_callV (z := 0) (k := 1) (i := 0) (As := [iV (24 : Int32)]) (st := []) kX7_take i_X7_take e_X7_take lX7_102 dX7_readLine_207 rfl rfl ho1 rfl rfl rfl rfl rfl (Nat.le_of_ble_eq_true rfl) ?_
  exact H
set_option maxRecDepth 100000 in
theorem bX7_readLine_210 {d : Nat} {Q : Option MV → MS → Prop} {x1 : Int32} {σ : MS}  (H : Q none (uI σ 1 0 4 ((σ.1 1 0 4) + (1 : Int32)))) : R mj_OC d mX7_readLine Q 210 [some (rV 1 0), some (iV x1)] [] σ := by
  refine r_aload_n dX7_readLine_210 rfl rfl ?_
  refine r_dup_r dX7_readLine_211 ?_
  refine r_get (k := 1) (i := 0) (j := 4) (v := iV (σ.1 1 0 4)) rfl rfl ho1 rfl hX7 (by decide) rfl fX7_32 dX7_readLine_212 (fun _ => rfl) ?_
  refine r_iconst (v := (1 : Int32)) dX7_readLine_215 rfl ?_
  refine r_iadd dX7_readLine_216 ?_
  refine r_putI (k := 1) (i := 0) (j := 4) (ty0 := tyX7) rfl rfl ho1 rfl hX7 (by decide) rfl fX7_32 dX7_readLine_217 rfl tyX7_ok nmX7 rfl rfl rfl ?_
  exact r_vret dX7_readLine_220 rfl H
set_option maxRecDepth 100000 in
theorem bX7_readPond_0 {d : Nat} {Q : Option MV → MS → Prop}  {σ : MS}  (H : (R mj_OC d mX9_place (fun r σ' => R mj_OC (d + 1) mX7_readPond Q 7 [some (rV 1 0), none, none, none, none, none] (r.toList ++ []) σ') 0 [some (rV 2 0)] [] σ)) : R mj_OC (d + 1) mX7_readPond Q 0 [some (rV 1 0), none, none, none, none, none] [] σ := by
  refine r_aload_n dX7_readPond_0 rfl rfl ?_
  refine r_get (k := 1) (i := 0) (j := 0) (v := rV 2 0) rfl rfl ho1 rfl hX7 (by decide) rfl fX7_12 dX7_readPond_1 (fun _ => rfl) ?_
  refine r_callV (z := 0) (k := 2) (i := 0) (As := []) (st := []) kX9_place i_X9_place e_X9_place lX7_62 dX7_readPond_4 rfl rfl ho2 rfl rfl rfl rfl rfl (Nat.le_of_ble_eq_true rfl) ?_
  exact H
set_option maxRecDepth 100000 in
theorem bX7_readPond_7 {d : Nat} {Q : Option MV → MS → Prop} {s0 : Int32} {σ : MS}  (H : (R mj_OC d mX7_ownWord (fun r σ' => R mj_OC (d + 1) mX7_readPond Q 12 [some (rV 1 0), some (iV s0), none, none, none, none] (r.toList ++ []) σ') 0 [some (rV 1 0), none] [] σ)) : R mj_OC (d + 1) mX7_readPond Q 7 [some (rV 1 0), none, none, none, none, none] [iV s0] σ := by
  refine r_istore_n dX7_readPond_7 rfl (by decide) rfl ?_
  refine r_aload_n dX7_readPond_8 rfl rfl ?_
  refine r_callV (z := 1) (k := 1) (i := 0) (As := []) (st := []) kX7_ownWord i_X7_ownWord e_X7_ownWord lX7_105 dX7_readPond_9 rfl rfl ho1 rfl rfl rfl rfl rfl (Nat.le_of_ble_eq_true rfl) ?_
  exact H
set_option maxRecDepth 100000 in
theorem bX7_readPond_12 {d : Nat} {Q : Option MV → MS → Prop} {x1 : Int32} {s0 : Int32} {σ : MS}  (H : (σ.2.2 1 0 < 2 ∧ (R mj_OC d mX0_pondNamed (fun r σ' => R mj_OC (d + 1) mX7_readPond Q 21 [some (rV 1 0), some (iV x1), some (iV s0), none, none, none] (r.toList ++ []) σ') 0 [some (rV 3 (σ.2.2 1 0)), some (iV s0), none] [] σ))) : R mj_OC (d + 1) mX7_readPond Q 12 [some (rV 1 0), some (iV x1), none, none, none, none] [iV s0] σ := by
  refine r_istore_n dX7_readPond_12 rfl (by decide) rfl ?_
  refine r_aload_n dX7_readPond_13 rfl rfl ?_
  refine r_get (k := 1) (i := 0) (j := 1) (v := rV 3 (σ.2.2 1 0)) rfl rfl ho1 rfl hX7 (by decide) rfl fX7_21 dX7_readPond_14 (fun _ => rfl) ?_
  refine r_iload_n dX7_readPond_17 rfl rfl ?_
  obtain ⟨q1, H⟩ := H
  refine r_callV (z := 1) (k := 3) (i := (σ.2.2 1 0)) (As := [iV s0]) (st := []) kX0_pondNamed i_X0_pondNamed e_X0_pondNamed lX7_108 dX7_readPond_18 rfl rfl (ho3 q1) rfl rfl rfl rfl rfl (Nat.le_of_ble_eq_true rfl) ?_
  exact H
set_option maxRecDepth 100000 in
theorem bX7_readPond_21 {d : Nat} {Q : Option MV → MS → Prop} {x1 : Int32} {x2 : Int32} {s0 : Int32} {σ : MS}  (H : ((s0 = (-1 : Int32) → (R mj_OC d mX7_number (fun r σ' => R mj_OC (d + 1) mX7_readPond Q 38 [some (rV 1 0), some (iV x1), some (iV x2), none, none, none] (r.toList ++ []) σ') 0 [some (rV 1 0), some (iV (1 : Int32)), some (iV (20 : Int32)), none, none] [] σ)) ∧ (¬ s0 = (-1 : Int32) → (R mj_OC d mX7_fail (fun r σ' => R mj_OC (d + 1) mX7_readPond Q 31 [some (rV 1 0), some (iV x1), some (iV x2), none, none, none] (r.toList ++ []) σ') 0 [some (rV 1 0), some (iV (3 : Int32)), some (iV x1)] [] σ)))) : R mj_OC (d + 1) mX7_readPond Q 21 [some (rV 1 0), some (iV x1), some (iV x2), none, none, none] [iV s0] σ := by
  refine r_iconst (v := (-1 : Int32)) dX7_readPond_21 rfl ?_
  refine r_icmp_eq (tgt := 31) dX7_readPond_22 (by decide) (fun c => ?_) (fun c => ?_)
  · have H := H.1 c
    refine r_aload_n dX7_readPond_31 rfl rfl ?_
    refine r_iconst (v := (1 : Int32)) dX7_readPond_32 rfl ?_
    refine r_bipush (v := (20 : Int32)) dX7_readPond_33 rfl ?_
    refine r_callV (z := 2) (k := 1) (i := 0) (As := [iV (1 : Int32), iV (20 : Int32)]) (st := []) kX7_number i_X7_number e_X7_number lX7_112 dX7_readPond_35 rfl rfl ho1 rfl rfl rfl rfl rfl (Nat.le_of_ble_eq_true rfl) ?_
    exact H
  · have H := H.2 c
    refine r_aload_n dX7_readPond_25 rfl rfl ?_
    refine r_iconst (v := (3 : Int32)) dX7_readPond_26 rfl ?_
    refine r_iload_n dX7_readPond_27 rfl rfl ?_
    refine r_callV (z := 0) (k := 1) (i := 0) (As := [iV (3 : Int32), iV x1]) (st := []) kX7_fail i_X7_fail e_X7_fail lX7_64 dX7_readPond_28 rfl rfl ho1 rfl rfl rfl rfl rfl (Nat.le_of_ble_eq_true rfl) ?_
    exact H
set_option maxRecDepth 100000 in
theorem bX7_readPond_31 {d : Nat} {Q : Option MV → MS → Prop} {x1 : Int32} {x2 : Int32} {σ : MS}  (H : (R mj_OC d mX7_number (fun r σ' => R mj_OC (d + 1) mX7_readPond Q 38 [some (rV 1 0), some (iV x1), some (iV x2), none, none, none] (r.toList ++ []) σ') 0 [some (rV 1 0), some (iV (1 : Int32)), some (iV (20 : Int32)), none, none] [] σ)) : R mj_OC (d + 1) mX7_readPond Q 31 [some (rV 1 0), some (iV x1), some (iV x2), none, none, none] [] σ := by
  refine r_aload_n dX7_readPond_31 rfl rfl ?_
  refine r_iconst (v := (1 : Int32)) dX7_readPond_32 rfl ?_
  refine r_bipush (v := (20 : Int32)) dX7_readPond_33 rfl ?_
  refine r_callV (z := 2) (k := 1) (i := 0) (As := [iV (1 : Int32), iV (20 : Int32)]) (st := []) kX7_number i_X7_number e_X7_number lX7_112 dX7_readPond_35 rfl rfl ho1 rfl rfl rfl rfl rfl (Nat.le_of_ble_eq_true rfl) ?_
  exact H
set_option maxRecDepth 100000 in
theorem bX7_readPond_38 {d : Nat} {Q : Option MV → MS → Prop} {x1 : Int32} {x2 : Int32} {s0 : Int32} {σ : MS}  (H : (R mj_OC d mX7_number (fun r σ' => R mj_OC (d + 1) mX7_readPond Q 46 [some (rV 1 0), some (iV x1), some (iV x2), some (iV s0), none, none] (r.toList ++ []) σ') 0 [some (rV 1 0), some (iV (0 : Int32)), some (iV (99 : Int32)), none, none] [] σ)) : R mj_OC (d + 1) mX7_readPond Q 38 [some (rV 1 0), some (iV x1), some (iV x2), none, none, none] [iV s0] σ := by
  refine r_istore_n dX7_readPond_38 rfl (by decide) rfl ?_
  refine r_aload_n dX7_readPond_39 rfl rfl ?_
  refine r_iconst (v := (0 : Int32)) dX7_readPond_40 rfl ?_
  refine r_bipush (v := (99 : Int32)) dX7_readPond_41 rfl ?_
  refine r_callV (z := 2) (k := 1) (i := 0) (As := [iV (0 : Int32), iV (99 : Int32)]) (st := []) kX7_number i_X7_number e_X7_number lX7_112 dX7_readPond_43 rfl rfl ho1 rfl rfl rfl rfl rfl (Nat.le_of_ble_eq_true rfl) ?_
  exact H
set_option maxRecDepth 100000 in
theorem bX7_readPond_46 {d : Nat} {Q : Option MV → MS → Prop} {x1 : Int32} {x2 : Int32} {x3 : Int32} {s0 : Int32} {σ : MS}  (H : (R mj_OC d mX7_number (fun r σ' => R mj_OC (d + 1) mX7_readPond Q 56 [some (rV 1 0), some (iV x1), some (iV x2), some (iV x3), some (iV s0), none] (r.toList ++ []) σ') 0 [some (rV 1 0), some (iV (0 : Int32)), some (iV (999 : Int32)), none, none] [] σ)) : R mj_OC (d + 1) mX7_readPond Q 46 [some (rV 1 0), some (iV x1), some (iV x2), some (iV x3), none, none] [iV s0] σ := by
  refine r_istore dX7_readPond_46 (by decide) rfl ?_
  refine r_aload_n dX7_readPond_48 rfl rfl ?_
  refine r_iconst (v := (0 : Int32)) dX7_readPond_49 rfl ?_
  refine r_sipush (v := (999 : Int32)) dX7_readPond_50 rfl ?_
  refine r_callV (z := 2) (k := 1) (i := 0) (As := [iV (0 : Int32), iV (999 : Int32)]) (st := []) kX7_number i_X7_number e_X7_number lX7_112 dX7_readPond_53 rfl rfl ho1 rfl rfl rfl rfl rfl (Nat.le_of_ble_eq_true rfl) ?_
  exact H
set_option maxRecDepth 100000 in
theorem bX7_readPond_56 {d : Nat} {Q : Option MV → MS → Prop} {x1 : Int32} {x2 : Int32} {x3 : Int32} {x4 : Int32} {s0 : Int32} {σ : MS}  (H : ((¬ (σ.1 1 0 2) = 0 → Q none σ) ∧ ((σ.1 1 0 2) = 0 → (σ.2.2 1 0 < 2 ∧ (R mj_OC d mX0_addPond (fun r σ' => R mj_OC (d + 1) mX7_readPond Q 78 [some (rV 1 0), some (iV x1), some (iV x2), some (iV x3), some (iV x4), some (iV s0)] (r.toList ++ []) σ') 0 [some (rV 3 (σ.2.2 1 0)), some (iV x2), some (iV x3), some (iV x4), some (iV s0)] [] σ))))) : R mj_OC (d + 1) mX7_readPond Q 56 [some (rV 1 0), some (iV x1), some (iV x2), some (iV x3), some (iV x4), none] [iV s0] σ := by
  refine r_istore dX7_readPond_56 (by decide) rfl ?_
  refine r_aload_n dX7_readPond_58 rfl rfl ?_
  refine r_get (k := 1) (i := 0) (j := 2) (v := iV (σ.1 1 0 2)) rfl rfl ho1 rfl hX7 (by decide) rfl fX7_29 dX7_readPond_59 (fun _ => rfl) ?_
  refine r_if_ne (tgt := 78) dX7_readPond_62 (by decide) (fun c => ?_) (fun c => ?_)
  · have H := H.1 c
    exact r_vret dX7_readPond_78 rfl H
  · have H := H.2 c
    refine r_aload_n dX7_readPond_65 rfl rfl ?_
    refine r_get (k := 1) (i := 0) (j := 1) (v := rV 3 (σ.2.2 1 0)) rfl rfl ho1 rfl hX7 (by decide) rfl fX7_21 dX7_readPond_66 (fun _ => rfl) ?_
    refine r_iload_n dX7_readPond_69 rfl rfl ?_
    refine r_iload_n dX7_readPond_70 rfl rfl ?_
    refine r_iload dX7_readPond_71 rfl ?_
    refine r_iload dX7_readPond_73 rfl ?_
    obtain ⟨q1, H⟩ := H
    refine r_callV (z := 0) (k := 3) (i := (σ.2.2 1 0)) (As := [iV x2, iV x3, iV x4, iV s0]) (st := []) kX0_addPond i_X0_addPond e_X0_addPond lX7_116 dX7_readPond_75 rfl rfl (ho3 q1) rfl rfl rfl rfl rfl (Nat.le_of_ble_eq_true rfl) ?_
    exact H
set_option maxRecDepth 100000 in
theorem bX7_readPond_78 {d : Nat} {Q : Option MV → MS → Prop} {x1 : Int32} {x2 : Int32} {x3 : Int32} {x4 : Int32} {x5 : Int32} {σ : MS}  (H : Q none σ) : R mj_OC d mX7_readPond Q 78 [some (rV 1 0), some (iV x1), some (iV x2), some (iV x3), some (iV x4), some (iV x5)] [] σ := by
  exact r_vret dX7_readPond_78 rfl H
set_option maxRecDepth 100000 in
theorem bX7_readLock_0 {d : Nat} {Q : Option MV → MS → Prop}  {σ : MS}  (H : (R mj_OC d mX9_place (fun r σ' => R mj_OC (d + 1) mX7_readLock Q 7 [some (rV 1 0), none, none, none, none] (r.toList ++ []) σ') 0 [some (rV 2 0)] [] σ)) : R mj_OC (d + 1) mX7_readLock Q 0 [some (rV 1 0), none, none, none, none] [] σ := by
  refine r_aload_n dX7_readLock_0 rfl rfl ?_
  refine r_get (k := 1) (i := 0) (j := 0) (v := rV 2 0) rfl rfl ho1 rfl hX7 (by decide) rfl fX7_12 dX7_readLock_1 (fun _ => rfl) ?_
  refine r_callV (z := 0) (k := 2) (i := 0) (As := []) (st := []) kX9_place i_X9_place e_X9_place lX7_62 dX7_readLock_4 rfl rfl ho2 rfl rfl rfl rfl rfl (Nat.le_of_ble_eq_true rfl) ?_
  exact H
set_option maxRecDepth 100000 in
theorem bX7_readLock_7 {d : Nat} {Q : Option MV → MS → Prop} {s0 : Int32} {σ : MS}  (H : (R mj_OC d mX7_toldPond (fun r σ' => R mj_OC (d + 1) mX7_readLock Q 12 [some (rV 1 0), some (iV s0), none, none, none] (r.toList ++ []) σ') 0 [some (rV 1 0), none, none] [] σ)) : R mj_OC (d + 1) mX7_readLock Q 7 [some (rV 1 0), none, none, none, none] [iV s0] σ := by
  refine r_istore_n dX7_readLock_7 rfl (by decide) rfl ?_
  refine r_aload_n dX7_readLock_8 rfl rfl ?_
  refine r_callV (z := 2) (k := 1) (i := 0) (As := []) (st := []) kX7_toldPond i_X7_toldPond e_X7_toldPond lX7_120 dX7_readLock_9 rfl rfl ho1 rfl rfl rfl rfl rfl (Nat.le_of_ble_eq_true rfl) ?_
  exact H
set_option maxRecDepth 100000 in
theorem bX7_readLock_12 {d : Nat} {Q : Option MV → MS → Prop} {x1 : Int32} {s0 : Int32} {σ : MS}  (H : ((¬ (σ.1 1 0 2) = 0 → (R mj_OC d mX7_number (fun r σ' => R mj_OC (d + 1) mX7_readLock Q 49 [some (rV 1 0), some (iV x1), some (iV s0), none, none] (r.toList ++ []) σ') 0 [some (rV 1 0), some (iV (0 : Int32)), some (iV (199 : Int32)), none, none] [] σ)) ∧ ((σ.1 1 0 2) = 0 → (σ.2.2 1 0 < 2 ∧ (R mj_OC d mX4_ofPond (fun r σ' => R mj_OC (d + 1) mX7_readLock Q 31 [some (rV 1 0), some (iV x1), some (iV s0), none, none] (r.toList ++ []) σ') 0 [some (rV 4 (σ.2.2 1 0)), some (iV s0), none] [] σ))))) : R mj_OC (d + 1) mX7_readLock Q 12 [some (rV 1 0), some (iV x1), none, none, none] [iV s0] σ := by
  refine r_istore_n dX7_readLock_12 rfl (by decide) rfl ?_
  refine r_aload_n dX7_readLock_13 rfl rfl ?_
  refine r_get (k := 1) (i := 0) (j := 2) (v := iV (σ.1 1 0 2)) rfl rfl ho1 rfl hX7 (by decide) rfl fX7_29 dX7_readLock_14 (fun _ => rfl) ?_
  refine r_if_ne (tgt := 41) dX7_readLock_17 (by decide) (fun c => ?_) (fun c => ?_)
  · have H := H.1 c
    refine r_aload_n dX7_readLock_41 rfl rfl ?_
    refine r_iconst (v := (0 : Int32)) dX7_readLock_42 rfl ?_
    refine r_sipush (v := (199 : Int32)) dX7_readLock_43 rfl ?_
    refine r_callV (z := 2) (k := 1) (i := 0) (As := [iV (0 : Int32), iV (199 : Int32)]) (st := []) kX7_number i_X7_number e_X7_number lX7_112 dX7_readLock_46 rfl rfl ho1 rfl rfl rfl rfl rfl (Nat.le_of_ble_eq_true rfl) ?_
    exact H
  · have H := H.2 c
    refine r_aload_n dX7_readLock_20 rfl rfl ?_
    refine r_get (k := 1) (i := 0) (j := 1) (v := rV 3 (σ.2.2 1 0)) rfl rfl ho1 rfl hX7 (by decide) rfl fX7_21 dX7_readLock_21 (fun _ => rfl) ?_
    obtain ⟨q1, H⟩ := H
    refine r_get (k := 3) (i := (σ.2.2 1 0)) (j := 14) (v := rV 4 (σ.2.2 1 0)) rfl rfl (ho3 q1) rfl hX0 (by decide) rfl fX7_123 dX7_readLock_24 (fun _ => rfl) ?_
    refine r_iload_n dX7_readLock_27 rfl rfl ?_
    refine r_callV (z := 1) (k := 4) (i := (σ.2.2 1 0)) (As := [iV s0]) (st := []) kX4_ofPond i_X4_ofPond e_X4_ofPond lX7_127 dX7_readLock_28 rfl rfl (ho4 q1) rfl rfl rfl rfl rfl (Nat.le_of_ble_eq_true rfl) ?_
    exact H
set_option maxRecDepth 100000 in
theorem bX7_readLock_31 {d : Nat} {Q : Option MV → MS → Prop} {x1 : Int32} {x2 : Int32} {s0 : Int32} {σ : MS}  (H : ((s0 = (-1 : Int32) → (R mj_OC d mX7_number (fun r σ' => R mj_OC (d + 1) mX7_readLock Q 49 [some (rV 1 0), some (iV x1), some (iV x2), none, none] (r.toList ++ []) σ') 0 [some (rV 1 0), some (iV (0 : Int32)), some (iV (199 : Int32)), none, none] [] σ)) ∧ (¬ s0 = (-1 : Int32) → (R mj_OC d mX7_fail (fun r σ' => R mj_OC (d + 1) mX7_readLock Q 41 [some (rV 1 0), some (iV x1), some (iV x2), none, none] (r.toList ++ []) σ') 0 [some (rV 1 0), some (iV (3 : Int32)), some (iV x1)] [] σ)))) : R mj_OC (d + 1) mX7_readLock Q 31 [some (rV 1 0), some (iV x1), some (iV x2), none, none] [iV s0] σ := by
  refine r_iconst (v := (-1 : Int32)) dX7_readLock_31 rfl ?_
  refine r_icmp_eq (tgt := 41) dX7_readLock_32 (by decide) (fun c => ?_) (fun c => ?_)
  · have H := H.1 c
    refine r_aload_n dX7_readLock_41 rfl rfl ?_
    refine r_iconst (v := (0 : Int32)) dX7_readLock_42 rfl ?_
    refine r_sipush (v := (199 : Int32)) dX7_readLock_43 rfl ?_
    refine r_callV (z := 2) (k := 1) (i := 0) (As := [iV (0 : Int32), iV (199 : Int32)]) (st := []) kX7_number i_X7_number e_X7_number lX7_112 dX7_readLock_46 rfl rfl ho1 rfl rfl rfl rfl rfl (Nat.le_of_ble_eq_true rfl) ?_
    exact H
  · have H := H.2 c
    refine r_aload_n dX7_readLock_35 rfl rfl ?_
    refine r_iconst (v := (3 : Int32)) dX7_readLock_36 rfl ?_
    refine r_iload_n dX7_readLock_37 rfl rfl ?_
    refine r_callV (z := 0) (k := 1) (i := 0) (As := [iV (3 : Int32), iV x1]) (st := []) kX7_fail i_X7_fail e_X7_fail lX7_64 dX7_readLock_38 rfl rfl ho1 rfl rfl rfl rfl rfl (Nat.le_of_ble_eq_true rfl) ?_
    exact H
set_option maxRecDepth 100000 in
theorem bX7_readLock_41 {d : Nat} {Q : Option MV → MS → Prop} {x1 : Int32} {x2 : Int32} {σ : MS}  (H : (R mj_OC d mX7_number (fun r σ' => R mj_OC (d + 1) mX7_readLock Q 49 [some (rV 1 0), some (iV x1), some (iV x2), none, none] (r.toList ++ []) σ') 0 [some (rV 1 0), some (iV (0 : Int32)), some (iV (199 : Int32)), none, none] [] σ)) : R mj_OC (d + 1) mX7_readLock Q 41 [some (rV 1 0), some (iV x1), some (iV x2), none, none] [] σ := by
  refine r_aload_n dX7_readLock_41 rfl rfl ?_
  refine r_iconst (v := (0 : Int32)) dX7_readLock_42 rfl ?_
  refine r_sipush (v := (199 : Int32)) dX7_readLock_43 rfl ?_
  refine r_callV (z := 2) (k := 1) (i := 0) (As := [iV (0 : Int32), iV (199 : Int32)]) (st := []) kX7_number i_X7_number e_X7_number lX7_112 dX7_readLock_46 rfl rfl ho1 rfl rfl rfl rfl rfl (Nat.le_of_ble_eq_true rfl) ?_
  exact H
set_option maxRecDepth 100000 in
theorem bX7_readLock_49 {d : Nat} {Q : Option MV → MS → Prop} {x1 : Int32} {x2 : Int32} {s0 : Int32} {σ : MS}  (H : (R mj_OC d mX7_number (fun r σ' => R mj_OC (d + 1) mX7_readLock Q 58 [some (rV 1 0), some (iV x1), some (iV x2), some (iV s0), none] (r.toList ++ []) σ') 0 [some (rV 1 0), some (iV (0 : Int32)), some (iV (199 : Int32)), none, none] [] σ)) : R mj_OC (d + 1) mX7_readLock Q 49 [some (rV 1 0), some (iV x1), some (iV x2), none, none] [iV s0] σ := by
  refine r_istore_n dX7_readLock_49 rfl (by decide) rfl ?_
  refine r_aload_n dX7_readLock_50 rfl rfl ?_
  refine r_iconst (v := (0 : Int32)) dX7_readLock_51 rfl ?_
  refine r_sipush (v := (199 : Int32)) dX7_readLock_52 rfl ?_
  refine r_callV (z := 2) (k := 1) (i := 0) (As := [iV (0 : Int32), iV (199 : Int32)]) (st := []) kX7_number i_X7_number e_X7_number lX7_112 dX7_readLock_55 rfl rfl ho1 rfl rfl rfl rfl rfl (Nat.le_of_ble_eq_true rfl) ?_
  exact H
set_option maxRecDepth 100000 in
theorem bX7_readLock_58 {d : Nat} {Q : Option MV → MS → Prop} {x1 : Int32} {x2 : Int32} {x3 : Int32} {s0 : Int32} {σ : MS}  (H : ((¬ (σ.1 1 0 2) = 0 → Q none σ) ∧ ((σ.1 1 0 2) = 0 → (σ.2.2 1 0 < 2 ∧ (R mj_OC d mX4_add (fun r σ' => R mj_OC (d + 1) mX7_readLock Q 81 [some (rV 1 0), some (iV x1), some (iV x2), some (iV x3), some (iV s0)] (r.toList ++ []) σ') 0 [some (rV 4 (σ.2.2 1 0)), some (iV x2), some (iV x3), some (iV s0)] [] σ))))) : R mj_OC (d + 1) mX7_readLock Q 58 [some (rV 1 0), some (iV x1), some (iV x2), some (iV x3), none] [iV s0] σ := by
  refine r_istore dX7_readLock_58 (by decide) rfl ?_
  refine r_aload_n dX7_readLock_60 rfl rfl ?_
  refine r_get (k := 1) (i := 0) (j := 2) (v := iV (σ.1 1 0 2)) rfl rfl ho1 rfl hX7 (by decide) rfl fX7_29 dX7_readLock_61 (fun _ => rfl) ?_
  refine r_if_ne (tgt := 81) dX7_readLock_64 (by decide) (fun c => ?_) (fun c => ?_)
  · have H := H.1 c
    exact r_vret dX7_readLock_81 rfl H
  · have H := H.2 c
    refine r_aload_n dX7_readLock_67 rfl rfl ?_
    refine r_get (k := 1) (i := 0) (j := 1) (v := rV 3 (σ.2.2 1 0)) rfl rfl ho1 rfl hX7 (by decide) rfl fX7_21 dX7_readLock_68 (fun _ => rfl) ?_
    obtain ⟨q1, H⟩ := H
    refine r_get (k := 3) (i := (σ.2.2 1 0)) (j := 14) (v := rV 4 (σ.2.2 1 0)) rfl rfl (ho3 q1) rfl hX0 (by decide) rfl fX7_123 dX7_readLock_71 (fun _ => rfl) ?_
    refine r_iload_n dX7_readLock_74 rfl rfl ?_
    refine r_iload_n dX7_readLock_75 rfl rfl ?_
    refine r_iload dX7_readLock_76 rfl ?_
    refine r_callV (z := 0) (k := 4) (i := (σ.2.2 1 0)) (As := [iV x2, iV x3, iV s0]) (st := []) kX4_add i_X4_add e_X4_add lX7_132 dX7_readLock_78 rfl rfl (ho4 q1) rfl rfl rfl rfl rfl (Nat.le_of_ble_eq_true rfl) ?_
    exact H
set_option maxRecDepth 100000 in
theorem bX7_readLock_81 {d : Nat} {Q : Option MV → MS → Prop} {x1 : Int32} {x2 : Int32} {x3 : Int32} {x4 : Int32} {σ : MS}  (H : Q none σ) : R mj_OC d mX7_readLock Q 81 [some (rV 1 0), some (iV x1), some (iV x2), some (iV x3), some (iV x4)] [] σ := by
  exact r_vret dX7_readLock_81 rfl H
set_option maxRecDepth 100000 in
theorem bX7_readPipe_0 {d : Nat} {Q : Option MV → MS → Prop}  {σ : MS}  (H : (R mj_OC d mX7_toldPond (fun r σ' => R mj_OC (d + 1) mX7_readPipe Q 4 [some (rV 1 0), none, none, none, none] (r.toList ++ []) σ') 0 [some (rV 1 0), none, none] [] σ)) : R mj_OC (d + 1) mX7_readPipe Q 0 [some (rV 1 0), none, none, none, none] [] σ := by
  refine r_aload_n dX7_readPipe_0 rfl rfl ?_
  refine r_callV (z := 2) (k := 1) (i := 0) (As := []) (st := []) kX7_toldPond i_X7_toldPond e_X7_toldPond lX7_120 dX7_readPipe_1 rfl rfl ho1 rfl rfl rfl rfl rfl (Nat.le_of_ble_eq_true rfl) ?_
  exact H
set_option maxRecDepth 100000 in
theorem bX7_readPipe_4 {d : Nat} {Q : Option MV → MS → Prop} {s0 : Int32} {σ : MS}  (H : (R mj_OC d mX9_place (fun r σ' => R mj_OC (d + 1) mX7_readPipe Q 12 [some (rV 1 0), some (iV s0), none, none, none] (r.toList ++ []) σ') 0 [some (rV 2 0)] [] σ)) : R mj_OC (d + 1) mX7_readPipe Q 4 [some (rV 1 0), none, none, none, none] [iV s0] σ := by
  refine r_istore_n dX7_readPipe_4 rfl (by decide) rfl ?_
  refine r_aload_n dX7_readPipe_5 rfl rfl ?_
  refine r_get (k := 1) (i := 0) (j := 0) (v := rV 2 0) rfl rfl ho1 rfl hX7 (by decide) rfl fX7_12 dX7_readPipe_6 (fun _ => rfl) ?_
  refine r_callV (z := 0) (k := 2) (i := 0) (As := []) (st := []) kX9_place i_X9_place e_X9_place lX7_62 dX7_readPipe_9 rfl rfl ho2 rfl rfl rfl rfl rfl (Nat.le_of_ble_eq_true rfl) ?_
  exact H
set_option maxRecDepth 100000 in
theorem bX7_readPipe_12 {d : Nat} {Q : Option MV → MS → Prop} {x1 : Int32} {s0 : Int32} {σ : MS}  (H : (R mj_OC d mX7_toldPond (fun r σ' => R mj_OC (d + 1) mX7_readPipe Q 17 [some (rV 1 0), some (iV x1), some (iV s0), none, none] (r.toList ++ []) σ') 0 [some (rV 1 0), none, none] [] σ)) : R mj_OC (d + 1) mX7_readPipe Q 12 [some (rV 1 0), some (iV x1), none, none, none] [iV s0] σ := by
  refine r_istore_n dX7_readPipe_12 rfl (by decide) rfl ?_
  refine r_aload_n dX7_readPipe_13 rfl rfl ?_
  refine r_callV (z := 2) (k := 1) (i := 0) (As := []) (st := []) kX7_toldPond i_X7_toldPond e_X7_toldPond lX7_120 dX7_readPipe_14 rfl rfl ho1 rfl rfl rfl rfl rfl (Nat.le_of_ble_eq_true rfl) ?_
  exact H
set_option maxRecDepth 100000 in
theorem bX7_readPipe_17 {d : Nat} {Q : Option MV → MS → Prop} {x1 : Int32} {x2 : Int32} {s0 : Int32} {σ : MS}  (H : ((¬ (σ.1 1 0 2) = 0 → ((¬ (σ.1 1 0 2) = 0 → (R mj_OC d mX7_number (fun r σ' => R mj_OC (d + 1) mX7_readPipe Q 68 [some (rV 1 0), some (iV x1), some (iV x2), some (iV s0), none] (r.toList ++ []) σ') 0 [some (rV 1 0), some (iV (1 : Int32)), some (iV (99 : Int32)), none, none] [] σ)) ∧ ((σ.1 1 0 2) = 0 → ((¬ x1 = s0 → (R mj_OC d mX7_number (fun r σ' => R mj_OC (d + 1) mX7_readPipe Q 68 [some (rV 1 0), some (iV x1), some (iV x2), some (iV s0), none] (r.toList ++ []) σ') 0 [some (rV 1 0), some (iV (1 : Int32)), some (iV (99 : Int32)), none, none] [] σ)) ∧ (x1 = s0 → (R mj_OC d mX7_fail (fun r σ' => R mj_OC (d + 1) mX7_readPipe Q 61 [some (rV 1 0), some (iV x1), some (iV x2), some (iV s0), none] (r.toList ++ []) σ') 0 [some (rV 1 0), some (iV (5 : Int32)), some (iV x2)] [] σ)))))) ∧ ((σ.1 1 0 2) = 0 → (σ.2.2 1 0 < 2 ∧ (R mj_OC d mX0_hasPipe (fun r σ' => R mj_OC (d + 1) mX7_readPipe Q 34 [some (rV 1 0), some (iV x1), some (iV x2), some (iV s0), none] (r.toList ++ []) σ') 0 [some (rV 3 (σ.2.2 1 0)), some (iV x1), some (iV s0), none] [] σ))))) : R mj_OC (d + 1) mX7_readPipe Q 17 [some (rV 1 0), some (iV x1), some (iV x2), none, none] [iV s0] σ := by
  refine r_istore_n dX7_readPipe_17 rfl (by decide) rfl ?_
  refine r_aload_n dX7_readPipe_18 rfl rfl ?_
  refine r_get (k := 1) (i := 0) (j := 2) (v := iV (σ.1 1 0 2)) rfl rfl ho1 rfl hX7 (by decide) rfl fX7_29 dX7_readPipe_19 (fun _ => rfl) ?_
  refine r_if_ne (tgt := 43) dX7_readPipe_22 (by decide) (fun c => ?_) (fun c => ?_)
  · have H := H.1 c
    refine r_aload_n dX7_readPipe_43 rfl rfl ?_
    refine r_get (k := 1) (i := 0) (j := 2) (v := iV (σ.1 1 0 2)) rfl rfl ho1 rfl hX7 (by decide) rfl fX7_29 dX7_readPipe_44 (fun _ => rfl) ?_
    refine r_if_ne (tgt := 61) dX7_readPipe_47 (by decide) (fun c => ?_) (fun c => ?_)
    · have H := H.1 c
      refine r_aload_n dX7_readPipe_61 rfl rfl ?_
      refine r_iconst (v := (1 : Int32)) dX7_readPipe_62 rfl ?_
      refine r_bipush (v := (99 : Int32)) dX7_readPipe_63 rfl ?_
      refine r_callV (z := 2) (k := 1) (i := 0) (As := [iV (1 : Int32), iV (99 : Int32)]) (st := []) kX7_number i_X7_number e_X7_number lX7_112 dX7_readPipe_65 rfl rfl ho1 rfl rfl rfl rfl rfl (Nat.le_of_ble_eq_true rfl) ?_
      exact H
    · have H := H.2 c
      refine r_iload_n dX7_readPipe_50 rfl rfl ?_
      refine r_iload_n dX7_readPipe_51 rfl rfl ?_
      refine r_icmp_ne (tgt := 61) dX7_readPipe_52 (by decide) (fun c => ?_) (fun c => ?_)
      · have H := H.1 c
        refine r_aload_n dX7_readPipe_61 rfl rfl ?_
        refine r_iconst (v := (1 : Int32)) dX7_readPipe_62 rfl ?_
        refine r_bipush (v := (99 : Int32)) dX7_readPipe_63 rfl ?_
        refine r_callV (z := 2) (k := 1) (i := 0) (As := [iV (1 : Int32), iV (99 : Int32)]) (st := []) kX7_number i_X7_number e_X7_number lX7_112 dX7_readPipe_65 rfl rfl ho1 rfl rfl rfl rfl rfl (Nat.le_of_ble_eq_true rfl) ?_
        exact H
      · have H := H.2 c
        refine r_aload_n dX7_readPipe_55 rfl rfl ?_
        refine r_iconst (v := (5 : Int32)) dX7_readPipe_56 rfl ?_
        refine r_iload_n dX7_readPipe_57 rfl rfl ?_
        refine r_callV (z := 0) (k := 1) (i := 0) (As := [iV (5 : Int32), iV x2]) (st := []) kX7_fail i_X7_fail e_X7_fail lX7_64 dX7_readPipe_58 rfl rfl ho1 rfl rfl rfl rfl rfl (Nat.le_of_ble_eq_true rfl) ?_
        exact H
  · have H := H.2 c
    refine r_aload_n dX7_readPipe_25 rfl rfl ?_
    refine r_get (k := 1) (i := 0) (j := 1) (v := rV 3 (σ.2.2 1 0)) rfl rfl ho1 rfl hX7 (by decide) rfl fX7_21 dX7_readPipe_26 (fun _ => rfl) ?_
    refine r_iload_n dX7_readPipe_29 rfl rfl ?_
    refine r_iload_n dX7_readPipe_30 rfl rfl ?_
    obtain ⟨q1, H⟩ := H
    refine r_callV (z := 1) (k := 3) (i := (σ.2.2 1 0)) (As := [iV x1, iV s0]) (st := []) kX0_hasPipe i_X0_hasPipe e_X0_hasPipe lX7_136 dX7_readPipe_31 rfl rfl (ho3 q1) rfl rfl rfl rfl rfl (Nat.le_of_ble_eq_true rfl) ?_
    exact H
set_option maxRecDepth 100000 in
theorem bX7_readPipe_34 {d : Nat} {Q : Option MV → MS → Prop} {x1 : Int32} {x2 : Int32} {x3 : Int32} {s0 : Int32} {σ : MS}  (H : ((s0 = 0 → ((¬ (σ.1 1 0 2) = 0 → (R mj_OC d mX7_number (fun r σ' => R mj_OC (d + 1) mX7_readPipe Q 68 [some (rV 1 0), some (iV x1), some (iV x2), some (iV x3), none] (r.toList ++ []) σ') 0 [some (rV 1 0), some (iV (1 : Int32)), some (iV (99 : Int32)), none, none] [] σ)) ∧ ((σ.1 1 0 2) = 0 → ((¬ x1 = x3 → (R mj_OC d mX7_number (fun r σ' => R mj_OC (d + 1) mX7_readPipe Q 68 [some (rV 1 0), some (iV x1), some (iV x2), some (iV x3), none] (r.toList ++ []) σ') 0 [some (rV 1 0), some (iV (1 : Int32)), some (iV (99 : Int32)), none, none] [] σ)) ∧ (x1 = x3 → (R mj_OC d mX7_fail (fun r σ' => R mj_OC (d + 1) mX7_readPipe Q 61 [some (rV 1 0), some (iV x1), some (iV x2), some (iV x3), none] (r.toList ++ []) σ') 0 [some (rV 1 0), some (iV (5 : Int32)), some (iV x2)] [] σ)))))) ∧ (¬ s0 = 0 → (R mj_OC d mX7_fail (fun r σ' => R mj_OC (d + 1) mX7_readPipe Q 43 [some (rV 1 0), some (iV x1), some (iV x2), some (iV x3), none] (r.toList ++ []) σ') 0 [some (rV 1 0), some (iV (3 : Int32)), some (iV x2)] [] σ)))) : R mj_OC (d + 1) mX7_readPipe Q 34 [some (rV 1 0), some (iV x1), some (iV x2), some (iV x3), none] [iV s0] σ := by
  refine r_if_eq (tgt := 43) dX7_readPipe_34 (by decide) (fun c => ?_) (fun c => ?_)
  · have H := H.1 c
    refine r_aload_n dX7_readPipe_43 rfl rfl ?_
    refine r_get (k := 1) (i := 0) (j := 2) (v := iV (σ.1 1 0 2)) rfl rfl ho1 rfl hX7 (by decide) rfl fX7_29 dX7_readPipe_44 (fun _ => rfl) ?_
    refine r_if_ne (tgt := 61) dX7_readPipe_47 (by decide) (fun c => ?_) (fun c => ?_)
    · have H := H.1 c
      refine r_aload_n dX7_readPipe_61 rfl rfl ?_
      refine r_iconst (v := (1 : Int32)) dX7_readPipe_62 rfl ?_
      refine r_bipush (v := (99 : Int32)) dX7_readPipe_63 rfl ?_
      refine r_callV (z := 2) (k := 1) (i := 0) (As := [iV (1 : Int32), iV (99 : Int32)]) (st := []) kX7_number i_X7_number e_X7_number lX7_112 dX7_readPipe_65 rfl rfl ho1 rfl rfl rfl rfl rfl (Nat.le_of_ble_eq_true rfl) ?_
      exact H
    · have H := H.2 c
      refine r_iload_n dX7_readPipe_50 rfl rfl ?_
      refine r_iload_n dX7_readPipe_51 rfl rfl ?_
      refine r_icmp_ne (tgt := 61) dX7_readPipe_52 (by decide) (fun c => ?_) (fun c => ?_)
      · have H := H.1 c
        refine r_aload_n dX7_readPipe_61 rfl rfl ?_
        refine r_iconst (v := (1 : Int32)) dX7_readPipe_62 rfl ?_
        refine r_bipush (v := (99 : Int32)) dX7_readPipe_63 rfl ?_
        refine r_callV (z := 2) (k := 1) (i := 0) (As := [iV (1 : Int32), iV (99 : Int32)]) (st := []) kX7_number i_X7_number e_X7_number lX7_112 dX7_readPipe_65 rfl rfl ho1 rfl rfl rfl rfl rfl (Nat.le_of_ble_eq_true rfl) ?_
        exact H
      · have H := H.2 c
        refine r_aload_n dX7_readPipe_55 rfl rfl ?_
        refine r_iconst (v := (5 : Int32)) dX7_readPipe_56 rfl ?_
        refine r_iload_n dX7_readPipe_57 rfl rfl ?_
        refine r_callV (z := 0) (k := 1) (i := 0) (As := [iV (5 : Int32), iV x2]) (st := []) kX7_fail i_X7_fail e_X7_fail lX7_64 dX7_readPipe_58 rfl rfl ho1 rfl rfl rfl rfl rfl (Nat.le_of_ble_eq_true rfl) ?_
        exact H
  · have H := H.2 c
    refine r_aload_n dX7_readPipe_37 rfl rfl ?_
    refine r_iconst (v := (3 : Int32)) dX7_readPipe_38 rfl ?_
    refine r_iload_n dX7_readPipe_39 rfl rfl ?_
    refine r_callV (z := 0) (k := 1) (i := 0) (As := [iV (3 : Int32), iV x2]) (st := []) kX7_fail i_X7_fail e_X7_fail lX7_64 dX7_readPipe_40 rfl rfl ho1 rfl rfl rfl rfl rfl (Nat.le_of_ble_eq_true rfl) ?_
    exact H
set_option maxRecDepth 100000 in
theorem bX7_readPipe_43 {d : Nat} {Q : Option MV → MS → Prop} {x1 : Int32} {x2 : Int32} {x3 : Int32} {σ : MS}  (H : ((¬ (σ.1 1 0 2) = 0 → (R mj_OC d mX7_number (fun r σ' => R mj_OC (d + 1) mX7_readPipe Q 68 [some (rV 1 0), some (iV x1), some (iV x2), some (iV x3), none] (r.toList ++ []) σ') 0 [some (rV 1 0), some (iV (1 : Int32)), some (iV (99 : Int32)), none, none] [] σ)) ∧ ((σ.1 1 0 2) = 0 → ((¬ x1 = x3 → (R mj_OC d mX7_number (fun r σ' => R mj_OC (d + 1) mX7_readPipe Q 68 [some (rV 1 0), some (iV x1), some (iV x2), some (iV x3), none] (r.toList ++ []) σ') 0 [some (rV 1 0), some (iV (1 : Int32)), some (iV (99 : Int32)), none, none] [] σ)) ∧ (x1 = x3 → (R mj_OC d mX7_fail (fun r σ' => R mj_OC (d + 1) mX7_readPipe Q 61 [some (rV 1 0), some (iV x1), some (iV x2), some (iV x3), none] (r.toList ++ []) σ') 0 [some (rV 1 0), some (iV (5 : Int32)), some (iV x2)] [] σ)))))) : R mj_OC (d + 1) mX7_readPipe Q 43 [some (rV 1 0), some (iV x1), some (iV x2), some (iV x3), none] [] σ := by
  refine r_aload_n dX7_readPipe_43 rfl rfl ?_
  refine r_get (k := 1) (i := 0) (j := 2) (v := iV (σ.1 1 0 2)) rfl rfl ho1 rfl hX7 (by decide) rfl fX7_29 dX7_readPipe_44 (fun _ => rfl) ?_
  refine r_if_ne (tgt := 61) dX7_readPipe_47 (by decide) (fun c => ?_) (fun c => ?_)
  · have H := H.1 c
    refine r_aload_n dX7_readPipe_61 rfl rfl ?_
    refine r_iconst (v := (1 : Int32)) dX7_readPipe_62 rfl ?_
    refine r_bipush (v := (99 : Int32)) dX7_readPipe_63 rfl ?_
    refine r_callV (z := 2) (k := 1) (i := 0) (As := [iV (1 : Int32), iV (99 : Int32)]) (st := []) kX7_number i_X7_number e_X7_number lX7_112 dX7_readPipe_65 rfl rfl ho1 rfl rfl rfl rfl rfl (Nat.le_of_ble_eq_true rfl) ?_
    exact H
  · have H := H.2 c
    refine r_iload_n dX7_readPipe_50 rfl rfl ?_
    refine r_iload_n dX7_readPipe_51 rfl rfl ?_
    refine r_icmp_ne (tgt := 61) dX7_readPipe_52 (by decide) (fun c => ?_) (fun c => ?_)
    · have H := H.1 c
      refine r_aload_n dX7_readPipe_61 rfl rfl ?_
      refine r_iconst (v := (1 : Int32)) dX7_readPipe_62 rfl ?_
      refine r_bipush (v := (99 : Int32)) dX7_readPipe_63 rfl ?_
      refine r_callV (z := 2) (k := 1) (i := 0) (As := [iV (1 : Int32), iV (99 : Int32)]) (st := []) kX7_number i_X7_number e_X7_number lX7_112 dX7_readPipe_65 rfl rfl ho1 rfl rfl rfl rfl rfl (Nat.le_of_ble_eq_true rfl) ?_
      exact H
    · have H := H.2 c
      refine r_aload_n dX7_readPipe_55 rfl rfl ?_
      refine r_iconst (v := (5 : Int32)) dX7_readPipe_56 rfl ?_
      refine r_iload_n dX7_readPipe_57 rfl rfl ?_
      refine r_callV (z := 0) (k := 1) (i := 0) (As := [iV (5 : Int32), iV x2]) (st := []) kX7_fail i_X7_fail e_X7_fail lX7_64 dX7_readPipe_58 rfl rfl ho1 rfl rfl rfl rfl rfl (Nat.le_of_ble_eq_true rfl) ?_
      exact H
set_option maxRecDepth 100000 in
theorem bX7_readPipe_61 {d : Nat} {Q : Option MV → MS → Prop} {x1 : Int32} {x2 : Int32} {x3 : Int32} {σ : MS}  (H : (R mj_OC d mX7_number (fun r σ' => R mj_OC (d + 1) mX7_readPipe Q 68 [some (rV 1 0), some (iV x1), some (iV x2), some (iV x3), none] (r.toList ++ []) σ') 0 [some (rV 1 0), some (iV (1 : Int32)), some (iV (99 : Int32)), none, none] [] σ)) : R mj_OC (d + 1) mX7_readPipe Q 61 [some (rV 1 0), some (iV x1), some (iV x2), some (iV x3), none] [] σ := by
  refine r_aload_n dX7_readPipe_61 rfl rfl ?_
  refine r_iconst (v := (1 : Int32)) dX7_readPipe_62 rfl ?_
  refine r_bipush (v := (99 : Int32)) dX7_readPipe_63 rfl ?_
  refine r_callV (z := 2) (k := 1) (i := 0) (As := [iV (1 : Int32), iV (99 : Int32)]) (st := []) kX7_number i_X7_number e_X7_number lX7_112 dX7_readPipe_65 rfl rfl ho1 rfl rfl rfl rfl rfl (Nat.le_of_ble_eq_true rfl) ?_
  exact H
set_option maxRecDepth 100000 in
theorem bX7_readPipe_68 {d : Nat} {Q : Option MV → MS → Prop} {x1 : Int32} {x2 : Int32} {x3 : Int32} {s0 : Int32} {σ : MS}  (H : ((¬ (σ.1 1 0 2) = 0 → Q none σ) ∧ ((σ.1 1 0 2) = 0 → (σ.2.2 1 0 < 2 ∧ (R mj_OC d mX0_addPipe (fun r σ' => R mj_OC (d + 1) mX7_readPipe Q 88 [some (rV 1 0), some (iV x1), some (iV x2), some (iV x3), some (iV s0)] (r.toList ++ []) σ') 0 [some (rV 3 (σ.2.2 1 0)), some (iV x1), some (iV x3), some (iV s0)] [] σ))))) : R mj_OC (d + 1) mX7_readPipe Q 68 [some (rV 1 0), some (iV x1), some (iV x2), some (iV x3), none] [iV s0] σ := by
  refine r_istore dX7_readPipe_68 (by decide) rfl ?_
  refine r_aload_n dX7_readPipe_70 rfl rfl ?_
  refine r_get (k := 1) (i := 0) (j := 2) (v := iV (σ.1 1 0 2)) rfl rfl ho1 rfl hX7 (by decide) rfl fX7_29 dX7_readPipe_71 (fun _ => rfl) ?_
  refine r_if_ne (tgt := 88) dX7_readPipe_74 (by decide) (fun c => ?_) (fun c => ?_)
  · have H := H.1 c
    exact r_vret dX7_readPipe_88 rfl H
  · have H := H.2 c
    refine r_aload_n dX7_readPipe_77 rfl rfl ?_
    refine r_get (k := 1) (i := 0) (j := 1) (v := rV 3 (σ.2.2 1 0)) rfl rfl ho1 rfl hX7 (by decide) rfl fX7_21 dX7_readPipe_78 (fun _ => rfl) ?_
    refine r_iload_n dX7_readPipe_81 rfl rfl ?_
    refine r_iload_n dX7_readPipe_82 rfl rfl ?_
    refine r_iload dX7_readPipe_83 rfl ?_
    obtain ⟨q1, H⟩ := H
    refine r_callV (z := 0) (k := 3) (i := (σ.2.2 1 0)) (As := [iV x1, iV x3, iV s0]) (st := []) kX0_addPipe i_X0_addPipe e_X0_addPipe lX7_140 dX7_readPipe_85 rfl rfl (ho3 q1) rfl rfl rfl rfl rfl (Nat.le_of_ble_eq_true rfl) ?_
    exact H
set_option maxRecDepth 100000 in
theorem bX7_readPipe_88 {d : Nat} {Q : Option MV → MS → Prop} {x1 : Int32} {x2 : Int32} {x3 : Int32} {x4 : Int32} {σ : MS}  (H : Q none σ) : R mj_OC d mX7_readPipe Q 88 [some (rV 1 0), some (iV x1), some (iV x2), some (iV x3), some (iV x4)] [] σ := by
  exact r_vret dX7_readPipe_88 rfl H
set_option maxRecDepth 100000 in
theorem bX7_readTurn_0 {d : Nat} {Q : Option MV → MS → Prop}  {σ : MS}  (H : (R mj_OC d mX9_place (fun r σ' => R mj_OC (d + 1) mX7_readTurn Q 7 [some (rV 1 0), none, none, none, none] (r.toList ++ []) σ') 0 [some (rV 2 0)] [] σ)) : R mj_OC (d + 1) mX7_readTurn Q 0 [some (rV 1 0), none, none, none, none] [] σ := by
  refine r_aload_n dX7_readTurn_0 rfl rfl ?_
  refine r_get (k := 1) (i := 0) (j := 0) (v := rV 2 0) rfl rfl ho1 rfl hX7 (by decide) rfl fX7_12 dX7_readTurn_1 (fun _ => rfl) ?_
  refine r_callV (z := 0) (k := 2) (i := 0) (As := []) (st := []) kX9_place i_X9_place e_X9_place lX7_62 dX7_readTurn_4 rfl rfl ho2 rfl rfl rfl rfl rfl (Nat.le_of_ble_eq_true rfl) ?_
  exact H
set_option maxRecDepth 100000 in
theorem bX7_readTurn_7 {d : Nat} {Q : Option MV → MS → Prop} {s0 : Int32} {σ : MS}  (H : (R mj_OC d mX7_number (fun r σ' => R mj_OC (d + 1) mX7_readTurn Q 15 [some (rV 1 0), some (iV s0), none, none, none] (r.toList ++ []) σ') 0 [some (rV 1 0), some (iV (0 : Int32)), some (iV (9 : Int32)), none, none] [] σ)) : R mj_OC (d + 1) mX7_readTurn Q 7 [some (rV 1 0), none, none, none, none] [iV s0] σ := by
  refine r_istore_n dX7_readTurn_7 rfl (by decide) rfl ?_
  refine r_aload_n dX7_readTurn_8 rfl rfl ?_
  refine r_iconst (v := (0 : Int32)) dX7_readTurn_9 rfl ?_
  refine r_bipush (v := (9 : Int32)) dX7_readTurn_10 rfl ?_
  refine r_callV (z := 2) (k := 1) (i := 0) (As := [iV (0 : Int32), iV (9 : Int32)]) (st := []) kX7_number i_X7_number e_X7_number lX7_112 dX7_readTurn_12 rfl rfl ho1 rfl rfl rfl rfl rfl (Nat.le_of_ble_eq_true rfl) ?_
  exact H
set_option maxRecDepth 100000 in
theorem bX7_readTurn_15 {d : Nat} {Q : Option MV → MS → Prop} {x1 : Int32} {s0 : Int32} {σ : MS}  (H : (σ.2.2 1 0 < 2 ∧ ((s0 < (σ.1 3 (σ.2.2 1 0) 6) → (R mj_OC d mX7_number (fun r σ' => R mj_OC (d + 1) mX7_readTurn Q 40 [some (rV 1 0), some (iV x1), some (iV s0), none, none] (r.toList ++ []) σ') 0 [some (rV 1 0), some (iV (0 : Int32)), some (iV (99 : Int32)), none, none] [] σ)) ∧ (¬ s0 < (σ.1 3 (σ.2.2 1 0) 6) → (R mj_OC d mX7_fail (fun r σ' => R mj_OC (d + 1) mX7_readTurn Q 33 [some (rV 1 0), some (iV x1), some (iV s0), none, none] (r.toList ++ []) σ') 0 [some (rV 1 0), some (iV (4 : Int32)), some (iV x1)] [] σ))))) : R mj_OC (d + 1) mX7_readTurn Q 15 [some (rV 1 0), some (iV x1), none, none, none] [iV s0] σ := by
  refine r_istore_n dX7_readTurn_15 rfl (by decide) rfl ?_
  refine r_iload_n dX7_readTurn_16 rfl rfl ?_
  refine r_aload_n dX7_readTurn_17 rfl rfl ?_
  refine r_get (k := 1) (i := 0) (j := 1) (v := rV 3 (σ.2.2 1 0)) rfl rfl ho1 rfl hX7 (by decide) rfl fX7_21 dX7_readTurn_18 (fun _ => rfl) ?_
  obtain ⟨q1, H⟩ := H
  refine r_get (k := 3) (i := (σ.2.2 1 0)) (j := 6) (v := iV (σ.1 3 (σ.2.2 1 0) 6)) rfl rfl (ho3 q1) rfl hX0 (by decide) rfl fX7_143 dX7_readTurn_21 (fun _ => rfl) ?_
  refine r_icmp_lt (tgt := 33) dX7_readTurn_24 (by decide) (fun c => ?_) (fun c => ?_)
  · have H := H.1 c
    refine r_aload_n dX7_readTurn_33 rfl rfl ?_
    refine r_iconst (v := (0 : Int32)) dX7_readTurn_34 rfl ?_
    refine r_bipush (v := (99 : Int32)) dX7_readTurn_35 rfl ?_
    refine r_callV (z := 2) (k := 1) (i := 0) (As := [iV (0 : Int32), iV (99 : Int32)]) (st := []) kX7_number i_X7_number e_X7_number lX7_112 dX7_readTurn_37 rfl rfl ho1 rfl rfl rfl rfl rfl (Nat.le_of_ble_eq_true rfl) ?_
    exact H
  · have H := H.2 c
    refine r_aload_n dX7_readTurn_27 rfl rfl ?_
    refine r_iconst (v := (4 : Int32)) dX7_readTurn_28 rfl ?_
    refine r_iload_n dX7_readTurn_29 rfl rfl ?_
    refine r_callV (z := 0) (k := 1) (i := 0) (As := [iV (4 : Int32), iV x1]) (st := []) kX7_fail i_X7_fail e_X7_fail lX7_64 dX7_readTurn_30 rfl rfl ho1 rfl rfl rfl rfl rfl (Nat.le_of_ble_eq_true rfl) ?_
    exact H
set_option maxRecDepth 100000 in
theorem bX7_readTurn_33 {d : Nat} {Q : Option MV → MS → Prop} {x1 : Int32} {x2 : Int32} {σ : MS}  (H : (R mj_OC d mX7_number (fun r σ' => R mj_OC (d + 1) mX7_readTurn Q 40 [some (rV 1 0), some (iV x1), some (iV x2), none, none] (r.toList ++ []) σ') 0 [some (rV 1 0), some (iV (0 : Int32)), some (iV (99 : Int32)), none, none] [] σ)) : R mj_OC (d + 1) mX7_readTurn Q 33 [some (rV 1 0), some (iV x1), some (iV x2), none, none] [] σ := by
  refine r_aload_n dX7_readTurn_33 rfl rfl ?_
  refine r_iconst (v := (0 : Int32)) dX7_readTurn_34 rfl ?_
  refine r_bipush (v := (99 : Int32)) dX7_readTurn_35 rfl ?_
  refine r_callV (z := 2) (k := 1) (i := 0) (As := [iV (0 : Int32), iV (99 : Int32)]) (st := []) kX7_number i_X7_number e_X7_number lX7_112 dX7_readTurn_37 rfl rfl ho1 rfl rfl rfl rfl rfl (Nat.le_of_ble_eq_true rfl) ?_
  exact H
set_option maxRecDepth 100000 in
theorem bX7_readTurn_40 {d : Nat} {Q : Option MV → MS → Prop} {x1 : Int32} {x2 : Int32} {s0 : Int32} {σ : MS}  (H : (R mj_OC d mX7_number (fun r σ' => R mj_OC (d + 1) mX7_readTurn Q 48 [some (rV 1 0), some (iV x1), some (iV x2), some (iV s0), none] (r.toList ++ []) σ') 0 [some (rV 1 0), some (iV (1 : Int32)), some (iV (20 : Int32)), none, none] [] σ)) : R mj_OC (d + 1) mX7_readTurn Q 40 [some (rV 1 0), some (iV x1), some (iV x2), none, none] [iV s0] σ := by
  refine r_istore_n dX7_readTurn_40 rfl (by decide) rfl ?_
  refine r_aload_n dX7_readTurn_41 rfl rfl ?_
  refine r_iconst (v := (1 : Int32)) dX7_readTurn_42 rfl ?_
  refine r_bipush (v := (20 : Int32)) dX7_readTurn_43 rfl ?_
  refine r_callV (z := 2) (k := 1) (i := 0) (As := [iV (1 : Int32), iV (20 : Int32)]) (st := []) kX7_number i_X7_number e_X7_number lX7_112 dX7_readTurn_45 rfl rfl ho1 rfl rfl rfl rfl rfl (Nat.le_of_ble_eq_true rfl) ?_
  exact H
set_option maxRecDepth 100000 in
theorem bX7_readTurn_48 {d : Nat} {Q : Option MV → MS → Prop} {x1 : Int32} {x2 : Int32} {x3 : Int32} {s0 : Int32} {σ : MS}  (H : ((¬ (σ.1 1 0 2) = 0 → Q none σ) ∧ ((σ.1 1 0 2) = 0 → (σ.2.2 1 0 < 2 ∧ (R mj_OC d mX0_addTurn (fun r σ' => R mj_OC (d + 1) mX7_readTurn Q 68 [some (rV 1 0), some (iV x1), some (iV x2), some (iV x3), some (iV s0)] (r.toList ++ []) σ') 0 [some (rV 3 (σ.2.2 1 0)), some (iV x2), some (iV x3), some (iV s0), none] [] σ))))) : R mj_OC (d + 1) mX7_readTurn Q 48 [some (rV 1 0), some (iV x1), some (iV x2), some (iV x3), none] [iV s0] σ := by
  refine r_istore dX7_readTurn_48 (by decide) rfl ?_
  refine r_aload_n dX7_readTurn_50 rfl rfl ?_
  refine r_get (k := 1) (i := 0) (j := 2) (v := iV (σ.1 1 0 2)) rfl rfl ho1 rfl hX7 (by decide) rfl fX7_29 dX7_readTurn_51 (fun _ => rfl) ?_
  refine r_if_ne (tgt := 68) dX7_readTurn_54 (by decide) (fun c => ?_) (fun c => ?_)
  · have H := H.1 c
    exact r_vret dX7_readTurn_68 rfl H
  · have H := H.2 c
    refine r_aload_n dX7_readTurn_57 rfl rfl ?_
    refine r_get (k := 1) (i := 0) (j := 1) (v := rV 3 (σ.2.2 1 0)) rfl rfl ho1 rfl hX7 (by decide) rfl fX7_21 dX7_readTurn_58 (fun _ => rfl) ?_
    refine r_iload_n dX7_readTurn_61 rfl rfl ?_
    refine r_iload_n dX7_readTurn_62 rfl rfl ?_
    refine r_iload dX7_readTurn_63 rfl ?_
    obtain ⟨q1, H⟩ := H
    refine r_callV (z := 1) (k := 3) (i := (σ.2.2 1 0)) (As := [iV x2, iV x3, iV s0]) (st := []) kX0_addTurn i_X0_addTurn e_X0_addTurn lX7_146 dX7_readTurn_65 rfl rfl (ho3 q1) rfl rfl rfl rfl rfl (Nat.le_of_ble_eq_true rfl) ?_
    exact H
set_option maxRecDepth 100000 in
theorem bX7_readTurn_68 {d : Nat} {Q : Option MV → MS → Prop} {x1 : Int32} {x2 : Int32} {x3 : Int32} {x4 : Int32} {σ : MS}  (H : Q none σ) : R mj_OC d mX7_readTurn Q 68 [some (rV 1 0), some (iV x1), some (iV x2), some (iV x3), some (iV x4)] [] σ := by
  exact r_vret dX7_readTurn_68 rfl H
set_option maxRecDepth 100000 in
theorem bX7_readBoat_0 {d : Nat} {Q : Option MV → MS → Prop}  {σ : MS}  (H : (R mj_OC d mX9_place (fun r σ' => R mj_OC (d + 1) mX7_readBoat Q 7 [some (rV 1 0), none, none, none, none] (r.toList ++ []) σ') 0 [some (rV 2 0)] [] σ)) : R mj_OC (d + 1) mX7_readBoat Q 0 [some (rV 1 0), none, none, none, none] [] σ := by
  refine r_aload_n dX7_readBoat_0 rfl rfl ?_
  refine r_get (k := 1) (i := 0) (j := 0) (v := rV 2 0) rfl rfl ho1 rfl hX7 (by decide) rfl fX7_12 dX7_readBoat_1 (fun _ => rfl) ?_
  refine r_callV (z := 0) (k := 2) (i := 0) (As := []) (st := []) kX9_place i_X9_place e_X9_place lX7_62 dX7_readBoat_4 rfl rfl ho2 rfl rfl rfl rfl rfl (Nat.le_of_ble_eq_true rfl) ?_
  exact H
set_option maxRecDepth 100000 in
theorem bX7_readBoat_7 {d : Nat} {Q : Option MV → MS → Prop} {s0 : Int32} {σ : MS}  (H : (R mj_OC d mX7_toldPond (fun r σ' => R mj_OC (d + 1) mX7_readBoat Q 12 [some (rV 1 0), some (iV s0), none, none, none] (r.toList ++ []) σ') 0 [some (rV 1 0), none, none] [] σ)) : R mj_OC (d + 1) mX7_readBoat Q 7 [some (rV 1 0), none, none, none, none] [iV s0] σ := by
  refine r_istore_n dX7_readBoat_7 rfl (by decide) rfl ?_
  refine r_aload_n dX7_readBoat_8 rfl rfl ?_
  refine r_callV (z := 2) (k := 1) (i := 0) (As := []) (st := []) kX7_toldPond i_X7_toldPond e_X7_toldPond lX7_120 dX7_readBoat_9 rfl rfl ho1 rfl rfl rfl rfl rfl (Nat.le_of_ble_eq_true rfl) ?_
  exact H
set_option maxRecDepth 100000 in
theorem bX7_readBoat_12 {d : Nat} {Q : Option MV → MS → Prop} {x1 : Int32} {s0 : Int32} {σ : MS}  (H : ((¬ (σ.1 1 0 2) = 0 → ((¬ (-1 : Int32) = (-1 : Int32) → (R mj_OC d mX7_number (fun r σ' => R mj_OC (d + 1) mX7_readBoat Q 54 [some (rV 1 0), some (iV x1), some (iV s0), some (iV (-1 : Int32)), none] (r.toList ++ []) σ') 0 [some (rV 1 0), some (iV (0 : Int32)), some (iV (99 : Int32)), none, none] [] σ)) ∧ ((-1 : Int32) = (-1 : Int32) → (R mj_OC d mX7_fail (fun r σ' => R mj_OC (d + 1) mX7_readBoat Q 47 [some (rV 1 0), some (iV x1), some (iV s0), some (iV (-1 : Int32)), none] (r.toList ++ []) σ') 0 [some (rV 1 0), some (iV (4 : Int32)), some (iV x1)] [] σ)))) ∧ ((σ.1 1 0 2) = 0 → (σ.2.2 1 0 < 2 ∧ (R mj_OC d mX4_ofPond (fun r σ' => R mj_OC (d + 1) mX7_readBoat Q 31 [some (rV 1 0), some (iV x1), some (iV s0), none, none] (r.toList ++ []) σ') 0 [some (rV 4 (σ.2.2 1 0)), some (iV s0), none] [] σ))))) : R mj_OC (d + 1) mX7_readBoat Q 12 [some (rV 1 0), some (iV x1), none, none, none] [iV s0] σ := by
  refine r_istore_n dX7_readBoat_12 rfl (by decide) rfl ?_
  refine r_aload_n dX7_readBoat_13 rfl rfl ?_
  refine r_get (k := 1) (i := 0) (j := 2) (v := iV (σ.1 1 0 2)) rfl rfl ho1 rfl hX7 (by decide) rfl fX7_29 dX7_readBoat_14 (fun _ => rfl) ?_
  refine r_if_ne (tgt := 34) dX7_readBoat_17 (by decide) (fun c => ?_) (fun c => ?_)
  · have H := H.1 c
    refine r_iconst (v := (-1 : Int32)) dX7_readBoat_34 rfl ?_
    refine r_istore_n dX7_readBoat_35 rfl (by decide) rfl ?_
    refine r_iload_n dX7_readBoat_36 rfl rfl ?_
    refine r_iconst (v := (-1 : Int32)) dX7_readBoat_37 rfl ?_
    refine r_icmp_ne (tgt := 47) dX7_readBoat_38 (by decide) (fun c => ?_) (fun c => ?_)
    · have H := H.1 c
      refine r_aload_n dX7_readBoat_47 rfl rfl ?_
      refine r_iconst (v := (0 : Int32)) dX7_readBoat_48 rfl ?_
      refine r_bipush (v := (99 : Int32)) dX7_readBoat_49 rfl ?_
      refine r_callV (z := 2) (k := 1) (i := 0) (As := [iV (0 : Int32), iV (99 : Int32)]) (st := []) kX7_number i_X7_number e_X7_number lX7_112 dX7_readBoat_51 rfl rfl ho1 rfl rfl rfl rfl rfl (Nat.le_of_ble_eq_true rfl) ?_
      exact H
    · have H := H.2 c
      refine r_aload_n dX7_readBoat_41 rfl rfl ?_
      refine r_iconst (v := (4 : Int32)) dX7_readBoat_42 rfl ?_
      refine r_iload_n dX7_readBoat_43 rfl rfl ?_
      refine r_callV (z := 0) (k := 1) (i := 0) (As := [iV (4 : Int32), iV x1]) (st := []) kX7_fail i_X7_fail e_X7_fail lX7_64 dX7_readBoat_44 rfl rfl ho1 rfl rfl rfl rfl rfl (Nat.le_of_ble_eq_true rfl) ?_
      exact H
  · have H := H.2 c
    refine r_aload_n dX7_readBoat_20 rfl rfl ?_
    refine r_get (k := 1) (i := 0) (j := 1) (v := rV 3 (σ.2.2 1 0)) rfl rfl ho1 rfl hX7 (by decide) rfl fX7_21 dX7_readBoat_21 (fun _ => rfl) ?_
    obtain ⟨q1, H⟩ := H
    refine r_get (k := 3) (i := (σ.2.2 1 0)) (j := 14) (v := rV 4 (σ.2.2 1 0)) rfl rfl (ho3 q1) rfl hX0 (by decide) rfl fX7_123 dX7_readBoat_24 (fun _ => rfl) ?_
    refine r_iload_n dX7_readBoat_27 rfl rfl ?_
    refine r_callV (z := 1) (k := 4) (i := (σ.2.2 1 0)) (As := [iV s0]) (st := []) kX4_ofPond i_X4_ofPond e_X4_ofPond lX7_127 dX7_readBoat_28 rfl rfl (ho4 q1) rfl rfl rfl rfl rfl (Nat.le_of_ble_eq_true rfl) ?_
    exact H
set_option maxRecDepth 100000 in
theorem bX7_readBoat_31 {d : Nat} {Q : Option MV → MS → Prop} {x1 : Int32} {x2 : Int32} {s0 : Int32} {σ : MS}  (H : ((¬ s0 = (-1 : Int32) → (R mj_OC d mX7_number (fun r σ' => R mj_OC (d + 1) mX7_readBoat Q 54 [some (rV 1 0), some (iV x1), some (iV x2), some (iV s0), none] (r.toList ++ []) σ') 0 [some (rV 1 0), some (iV (0 : Int32)), some (iV (99 : Int32)), none, none] [] σ)) ∧ (s0 = (-1 : Int32) → (R mj_OC d mX7_fail (fun r σ' => R mj_OC (d + 1) mX7_readBoat Q 47 [some (rV 1 0), some (iV x1), some (iV x2), some (iV s0), none] (r.toList ++ []) σ') 0 [some (rV 1 0), some (iV (4 : Int32)), some (iV x1)] [] σ)))) : R mj_OC (d + 1) mX7_readBoat Q 31 [some (rV 1 0), some (iV x1), some (iV x2), none, none] [iV s0] σ := by
  refine r_goto (tgt := 35) dX7_readBoat_31 (by decide) ?_
  refine r_istore_n dX7_readBoat_35 rfl (by decide) rfl ?_
  refine r_iload_n dX7_readBoat_36 rfl rfl ?_
  refine r_iconst (v := (-1 : Int32)) dX7_readBoat_37 rfl ?_
  refine r_icmp_ne (tgt := 47) dX7_readBoat_38 (by decide) (fun c => ?_) (fun c => ?_)
  · have H := H.1 c
    refine r_aload_n dX7_readBoat_47 rfl rfl ?_
    refine r_iconst (v := (0 : Int32)) dX7_readBoat_48 rfl ?_
    refine r_bipush (v := (99 : Int32)) dX7_readBoat_49 rfl ?_
    refine r_callV (z := 2) (k := 1) (i := 0) (As := [iV (0 : Int32), iV (99 : Int32)]) (st := []) kX7_number i_X7_number e_X7_number lX7_112 dX7_readBoat_51 rfl rfl ho1 rfl rfl rfl rfl rfl (Nat.le_of_ble_eq_true rfl) ?_
    exact H
  · have H := H.2 c
    refine r_aload_n dX7_readBoat_41 rfl rfl ?_
    refine r_iconst (v := (4 : Int32)) dX7_readBoat_42 rfl ?_
    refine r_iload_n dX7_readBoat_43 rfl rfl ?_
    refine r_callV (z := 0) (k := 1) (i := 0) (As := [iV (4 : Int32), iV x1]) (st := []) kX7_fail i_X7_fail e_X7_fail lX7_64 dX7_readBoat_44 rfl rfl ho1 rfl rfl rfl rfl rfl (Nat.le_of_ble_eq_true rfl) ?_
    exact H
set_option maxRecDepth 100000 in
theorem bX7_readBoat_47 {d : Nat} {Q : Option MV → MS → Prop} {x1 : Int32} {x2 : Int32} {x3 : Int32} {σ : MS}  (H : (R mj_OC d mX7_number (fun r σ' => R mj_OC (d + 1) mX7_readBoat Q 54 [some (rV 1 0), some (iV x1), some (iV x2), some (iV x3), none] (r.toList ++ []) σ') 0 [some (rV 1 0), some (iV (0 : Int32)), some (iV (99 : Int32)), none, none] [] σ)) : R mj_OC (d + 1) mX7_readBoat Q 47 [some (rV 1 0), some (iV x1), some (iV x2), some (iV x3), none] [] σ := by
  refine r_aload_n dX7_readBoat_47 rfl rfl ?_
  refine r_iconst (v := (0 : Int32)) dX7_readBoat_48 rfl ?_
  refine r_bipush (v := (99 : Int32)) dX7_readBoat_49 rfl ?_
  refine r_callV (z := 2) (k := 1) (i := 0) (As := [iV (0 : Int32), iV (99 : Int32)]) (st := []) kX7_number i_X7_number e_X7_number lX7_112 dX7_readBoat_51 rfl rfl ho1 rfl rfl rfl rfl rfl (Nat.le_of_ble_eq_true rfl) ?_
  exact H
set_option maxRecDepth 100000 in
theorem bX7_readBoat_54 {d : Nat} {Q : Option MV → MS → Prop} {x1 : Int32} {x2 : Int32} {x3 : Int32} {s0 : Int32} {σ : MS}  (H : ((¬ (σ.1 1 0 2) = 0 → Q none σ) ∧ ((σ.1 1 0 2) = 0 → (σ.2.2 1 0 < 2 ∧ (R mj_OC d mX4_addBoat (fun r σ' => R mj_OC (d + 1) mX7_readBoat Q 76 [some (rV 1 0), some (iV x1), some (iV x2), some (iV x3), some (iV s0)] (r.toList ++ []) σ') 0 [some (rV 4 (σ.2.2 1 0)), some (iV x3), some (iV s0)] [] σ))))) : R mj_OC (d + 1) mX7_readBoat Q 54 [some (rV 1 0), some (iV x1), some (iV x2), some (iV x3), none] [iV s0] σ := by
  refine r_istore dX7_readBoat_54 (by decide) rfl ?_
  refine r_aload_n dX7_readBoat_56 rfl rfl ?_
  refine r_get (k := 1) (i := 0) (j := 2) (v := iV (σ.1 1 0 2)) rfl rfl ho1 rfl hX7 (by decide) rfl fX7_29 dX7_readBoat_57 (fun _ => rfl) ?_
  refine r_if_ne (tgt := 76) dX7_readBoat_60 (by decide) (fun c => ?_) (fun c => ?_)
  · have H := H.1 c
    exact r_vret dX7_readBoat_76 rfl H
  · have H := H.2 c
    refine r_aload_n dX7_readBoat_63 rfl rfl ?_
    refine r_get (k := 1) (i := 0) (j := 1) (v := rV 3 (σ.2.2 1 0)) rfl rfl ho1 rfl hX7 (by decide) rfl fX7_21 dX7_readBoat_64 (fun _ => rfl) ?_
    obtain ⟨q1, H⟩ := H
    refine r_get (k := 3) (i := (σ.2.2 1 0)) (j := 14) (v := rV 4 (σ.2.2 1 0)) rfl rfl (ho3 q1) rfl hX0 (by decide) rfl fX7_123 dX7_readBoat_67 (fun _ => rfl) ?_
    refine r_iload_n dX7_readBoat_70 rfl rfl ?_
    refine r_iload dX7_readBoat_71 rfl ?_
    refine r_callV (z := 0) (k := 4) (i := (σ.2.2 1 0)) (As := [iV x3, iV s0]) (st := []) kX4_addBoat i_X4_addBoat e_X4_addBoat lX7_149 dX7_readBoat_73 rfl rfl (ho4 q1) rfl rfl rfl rfl rfl (Nat.le_of_ble_eq_true rfl) ?_
    exact H
set_option maxRecDepth 100000 in
theorem bX7_readBoat_76 {d : Nat} {Q : Option MV → MS → Prop} {x1 : Int32} {x2 : Int32} {x3 : Int32} {x4 : Int32} {σ : MS}  (H : Q none σ) : R mj_OC d mX7_readBoat Q 76 [some (rV 1 0), some (iV x1), some (iV x2), some (iV x3), some (iV x4)] [] σ := by
  exact r_vret dX7_readBoat_76 rfl H
set_option maxRecDepth 100000 in
theorem bX7_readSpring_0 {d : Nat} {Q : Option MV → MS → Prop}  {σ : MS}  (H : (R mj_OC d mX9_place (fun r σ' => R mj_OC (d + 1) mX7_readSpring Q 7 [some (rV 1 0), none, none, none] (r.toList ++ []) σ') 0 [some (rV 2 0)] [] σ)) : R mj_OC (d + 1) mX7_readSpring Q 0 [some (rV 1 0), none, none, none] [] σ := by
  refine r_aload_n dX7_readSpring_0 rfl rfl ?_
  refine r_get (k := 1) (i := 0) (j := 0) (v := rV 2 0) rfl rfl ho1 rfl hX7 (by decide) rfl fX7_12 dX7_readSpring_1 (fun _ => rfl) ?_
  refine r_callV (z := 0) (k := 2) (i := 0) (As := []) (st := []) kX9_place i_X9_place e_X9_place lX7_62 dX7_readSpring_4 rfl rfl ho2 rfl rfl rfl rfl rfl (Nat.le_of_ble_eq_true rfl) ?_
  exact H
set_option maxRecDepth 100000 in
theorem bX7_readSpring_7 {d : Nat} {Q : Option MV → MS → Prop} {s0 : Int32} {σ : MS}  (H : (R mj_OC d mX7_toldPond (fun r σ' => R mj_OC (d + 1) mX7_readSpring Q 12 [some (rV 1 0), some (iV s0), none, none] (r.toList ++ []) σ') 0 [some (rV 1 0), none, none] [] σ)) : R mj_OC (d + 1) mX7_readSpring Q 7 [some (rV 1 0), none, none, none] [iV s0] σ := by
  refine r_istore_n dX7_readSpring_7 rfl (by decide) rfl ?_
  refine r_aload_n dX7_readSpring_8 rfl rfl ?_
  refine r_callV (z := 2) (k := 1) (i := 0) (As := []) (st := []) kX7_toldPond i_X7_toldPond e_X7_toldPond lX7_120 dX7_readSpring_9 rfl rfl ho1 rfl rfl rfl rfl rfl (Nat.le_of_ble_eq_true rfl) ?_
  exact H
set_option maxRecDepth 100000 in
theorem bX7_readSpring_12 {d : Nat} {Q : Option MV → MS → Prop} {x1 : Int32} {s0 : Int32} {σ : MS}  (H : ((¬ (σ.1 1 0 2) = 0 → (R mj_OC d mX7_number (fun r σ' => R mj_OC (d + 1) mX7_readSpring Q 45 [some (rV 1 0), some (iV x1), some (iV s0), none] (r.toList ++ []) σ') 0 [some (rV 1 0), some (iV (0 : Int32)), some (iV (9 : Int32)), none, none] [] σ)) ∧ ((σ.1 1 0 2) = 0 → ((¬ (((σ.1 1 0 5) >>> (s0 &&& 31)) &&& (1 : Int32)) = (1 : Int32) → (R mj_OC d mX7_number (fun r σ' => R mj_OC (d + 1) mX7_readSpring Q 45 [some (rV 1 0), some (iV x1), some (iV s0), none] (r.toList ++ []) σ') 0 [some (rV 1 0), some (iV (0 : Int32)), some (iV (9 : Int32)), none, none] [] σ)) ∧ ((((σ.1 1 0 5) >>> (s0 &&& 31)) &&& (1 : Int32)) = (1 : Int32) → (R mj_OC d mX7_fail (fun r σ' => R mj_OC (d + 1) mX7_readSpring Q 38 [some (rV 1 0), some (iV x1), some (iV s0), none] (r.toList ++ []) σ') 0 [some (rV 1 0), some (iV (3 : Int32)), some (iV x1)] [] σ)))))) : R mj_OC (d + 1) mX7_readSpring Q 12 [some (rV 1 0), some (iV x1), none, none] [iV s0] σ := by
  refine r_istore_n dX7_readSpring_12 rfl (by decide) rfl ?_
  refine r_aload_n dX7_readSpring_13 rfl rfl ?_
  refine r_get (k := 1) (i := 0) (j := 2) (v := iV (σ.1 1 0 2)) rfl rfl ho1 rfl hX7 (by decide) rfl fX7_29 dX7_readSpring_14 (fun _ => rfl) ?_
  refine r_if_ne (tgt := 38) dX7_readSpring_17 (by decide) (fun c => ?_) (fun c => ?_)
  · have H := H.1 c
    refine r_aload_n dX7_readSpring_38 rfl rfl ?_
    refine r_iconst (v := (0 : Int32)) dX7_readSpring_39 rfl ?_
    refine r_bipush (v := (9 : Int32)) dX7_readSpring_40 rfl ?_
    refine r_callV (z := 2) (k := 1) (i := 0) (As := [iV (0 : Int32), iV (9 : Int32)]) (st := []) kX7_number i_X7_number e_X7_number lX7_112 dX7_readSpring_42 rfl rfl ho1 rfl rfl rfl rfl rfl (Nat.le_of_ble_eq_true rfl) ?_
    exact H
  · have H := H.2 c
    refine r_aload_n dX7_readSpring_20 rfl rfl ?_
    refine r_get (k := 1) (i := 0) (j := 5) (v := iV (σ.1 1 0 5)) rfl rfl ho1 rfl hX7 (by decide) rfl fX7_35 dX7_readSpring_21 (fun _ => rfl) ?_
    refine r_iload_n dX7_readSpring_24 rfl rfl ?_
    refine r_ishr dX7_readSpring_25 ?_
    refine r_iconst (v := (1 : Int32)) dX7_readSpring_26 rfl ?_
    refine r_iand dX7_readSpring_27 ?_
    refine r_iconst (v := (1 : Int32)) dX7_readSpring_28 rfl ?_
    refine r_icmp_ne (tgt := 38) dX7_readSpring_29 (by decide) (fun c => ?_) (fun c => ?_)
    · have H := H.1 c
      refine r_aload_n dX7_readSpring_38 rfl rfl ?_
      refine r_iconst (v := (0 : Int32)) dX7_readSpring_39 rfl ?_
      refine r_bipush (v := (9 : Int32)) dX7_readSpring_40 rfl ?_
      refine r_callV (z := 2) (k := 1) (i := 0) (As := [iV (0 : Int32), iV (9 : Int32)]) (st := []) kX7_number i_X7_number e_X7_number lX7_112 dX7_readSpring_42 rfl rfl ho1 rfl rfl rfl rfl rfl (Nat.le_of_ble_eq_true rfl) ?_
      exact H
    · have H := H.2 c
      refine r_aload_n dX7_readSpring_32 rfl rfl ?_
      refine r_iconst (v := (3 : Int32)) dX7_readSpring_33 rfl ?_
      refine r_iload_n dX7_readSpring_34 rfl rfl ?_
      refine r_callV (z := 0) (k := 1) (i := 0) (As := [iV (3 : Int32), iV x1]) (st := []) kX7_fail i_X7_fail e_X7_fail lX7_64 dX7_readSpring_35 rfl rfl ho1 rfl rfl rfl rfl rfl (Nat.le_of_ble_eq_true rfl) ?_
      exact H
set_option maxRecDepth 100000 in
theorem bX7_readSpring_38 {d : Nat} {Q : Option MV → MS → Prop} {x1 : Int32} {x2 : Int32} {σ : MS}  (H : (R mj_OC d mX7_number (fun r σ' => R mj_OC (d + 1) mX7_readSpring Q 45 [some (rV 1 0), some (iV x1), some (iV x2), none] (r.toList ++ []) σ') 0 [some (rV 1 0), some (iV (0 : Int32)), some (iV (9 : Int32)), none, none] [] σ)) : R mj_OC (d + 1) mX7_readSpring Q 38 [some (rV 1 0), some (iV x1), some (iV x2), none] [] σ := by
  refine r_aload_n dX7_readSpring_38 rfl rfl ?_
  refine r_iconst (v := (0 : Int32)) dX7_readSpring_39 rfl ?_
  refine r_bipush (v := (9 : Int32)) dX7_readSpring_40 rfl ?_
  refine r_callV (z := 2) (k := 1) (i := 0) (As := [iV (0 : Int32), iV (9 : Int32)]) (st := []) kX7_number i_X7_number e_X7_number lX7_112 dX7_readSpring_42 rfl rfl ho1 rfl rfl rfl rfl rfl (Nat.le_of_ble_eq_true rfl) ?_
  exact H
set_option maxRecDepth 100000 in
theorem bX7_readSpring_45 {d : Nat} {Q : Option MV → MS → Prop} {x1 : Int32} {x2 : Int32} {s0 : Int32} {σ : MS}  (H : ((¬ (σ.1 1 0 2) = 0 → Q none σ) ∧ ((σ.1 1 0 2) = 0 → (σ.2.2 1 0 < 2 ∧ vp_in x2 7 ∧ Q none (uI (uI σ 1 0 5 ((σ.1 1 0 5) ||| ((1 : Int32) <<< (x2 &&& 31)))) 20 (σ.2.2 1 0) ((x2).toNatClampNeg) s0))))) : R mj_OC d mX7_readSpring Q 45 [some (rV 1 0), some (iV x1), some (iV x2), none] [iV s0] σ := by
  refine r_istore_n dX7_readSpring_45 rfl (by decide) rfl ?_
  refine r_aload_n dX7_readSpring_46 rfl rfl ?_
  refine r_get (k := 1) (i := 0) (j := 2) (v := iV (σ.1 1 0 2)) rfl rfl ho1 rfl hX7 (by decide) rfl fX7_29 dX7_readSpring_47 (fun _ => rfl) ?_
  refine r_if_ne (tgt := 75) dX7_readSpring_50 (by decide) (fun c => ?_) (fun c => ?_)
  · have H := H.1 c
    exact r_vret dX7_readSpring_75 rfl H
  · have H := H.2 c
    refine r_aload_n dX7_readSpring_53 rfl rfl ?_
    refine r_dup_r dX7_readSpring_54 ?_
    refine r_get (k := 1) (i := 0) (j := 5) (v := iV (σ.1 1 0 5)) rfl rfl ho1 rfl hX7 (by decide) rfl fX7_35 dX7_readSpring_55 (fun _ => rfl) ?_
    refine r_iconst (v := (1 : Int32)) dX7_readSpring_58 rfl ?_
    refine r_iload_n dX7_readSpring_59 rfl rfl ?_
    refine r_ishl dX7_readSpring_60 ?_
    refine r_ior dX7_readSpring_61 ?_
    refine r_putI (k := 1) (i := 0) (j := 5) (ty0 := tyX7) rfl rfl ho1 rfl hX7 (by decide) rfl fX7_35 dX7_readSpring_62 rfl tyX7_ok nmX7 rfl rfl rfl ?_
    refine r_aload_n dX7_readSpring_65 rfl rfl ?_
    refine r_get (k := 1) (i := 0) (j := 1) (v := rV 3 (σ.2.2 1 0)) rfl rfl ho1 rfl hX7 (by decide) rfl fX7_21 dX7_readSpring_66 (fun _ => rfl) ?_
    obtain ⟨q1, H⟩ := H
    refine r_get (k := 3) (i := (σ.2.2 1 0)) (j := 5) (v := rV 20 (σ.2.2 1 0)) rfl rfl (ho3 q1) rfl hX0 (by decide) rfl fX7_152 dX7_readSpring_69 (fun _ => rfl) ?_
    refine r_iload_n dX7_readSpring_72 rfl rfl ?_
    refine r_iload_n dX7_readSpring_73 rfl rfl ?_
    obtain ⟨q2, H⟩ := H
    refine r_iast (k := 20) (i := (σ.2.2 1 0)) rfl (ho20 q1) q2 dX7_readSpring_74 ?_
    exact r_vret dX7_readSpring_75 rfl H
set_option maxRecDepth 100000 in
theorem bX7_readJam_0 {d : Nat} {Q : Option MV → MS → Prop}  {σ : MS}  (H : (R mj_OC d mX7_number (fun r σ' => R mj_OC (d + 1) mX7_readJam Q 16 [some (rV 1 0)] (r.toList ++ [rV 3 (σ.2.2 1 0)]) σ') 0 [some (rV 1 0), some (iV (0 : Int32)), some (iV (100 : Int32)), none, none] [] (uI σ 1 0 6 (1 : Int32)))) : R mj_OC (d + 1) mX7_readJam Q 0 [some (rV 1 0)] [] σ := by
  refine r_aload_n dX7_readJam_0 rfl rfl ?_
  refine r_iconst (v := (1 : Int32)) dX7_readJam_1 rfl ?_
  refine r_putI (k := 1) (i := 0) (j := 6) (ty0 := tyX7) rfl rfl ho1 rfl hX7 (by decide) rfl fX7_38 dX7_readJam_2 rfl tyX7_ok nmX7 rfl (by decide) (by decide) ?_
  refine r_aload_n dX7_readJam_5 rfl rfl ?_
  refine r_get (k := 1) (i := 0) (j := 1) (v := rV 3 (σ.2.2 1 0)) rfl rfl ho1 rfl hX7 (by decide) rfl fX7_21 dX7_readJam_6 (fun _ => rfl) ?_
  refine r_aload_n dX7_readJam_9 rfl rfl ?_
  refine r_iconst (v := (0 : Int32)) dX7_readJam_10 rfl ?_
  refine r_bipush (v := (100 : Int32)) dX7_readJam_11 rfl ?_
  refine r_callV (z := 2) (k := 1) (i := 0) (As := [iV (0 : Int32), iV (100 : Int32)]) (st := [rV 3 (σ.2.2 1 0)]) kX7_number i_X7_number e_X7_number lX7_112 dX7_readJam_13 rfl rfl ho1 rfl rfl rfl rfl rfl (Nat.le_of_ble_eq_true rfl) ?_
  exact H
set_option maxRecDepth 100000 in
theorem bX7_readJam_16 {d : Nat} {Q : Option MV → MS → Prop} {s0 : Int32} {w1 : Nat} {σ : MS} (hw1 : w1 < 2) (H : Q none (uI σ 3 w1 12 s0)) : R mj_OC d mX7_readJam Q 16 [some (rV 1 0)] [iV s0, rV 3 w1] σ := by
  refine r_putI (k := 3) (i := w1) (j := 12) (ty0 := tyX0) rfl rfl (ho3 hw1) rfl hX0 (by decide) rfl fX7_156 dX7_readJam_16 rfl tyX0_ok nmX0 rfl rfl rfl ?_
  exact r_vret dX7_readJam_19 rfl H
set_option maxRecDepth 100000 in
theorem bX7_readSeed_0 {d : Nat} {Q : Option MV → MS → Prop}  {σ : MS}  (H : (R mj_OC d mX7_number (fun r σ' => R mj_OC (d + 1) mX7_readSeed Q 16 [some (rV 1 0)] (r.toList ++ [rV 3 (σ.2.2 1 0)]) σ') 0 [some (rV 1 0), some (iV (0 : Int32)), some (iV (99999 : Int32)), none, none] [] (uI σ 1 0 7 (1 : Int32)))) : R mj_OC (d + 1) mX7_readSeed Q 0 [some (rV 1 0)] [] σ := by
  refine r_aload_n dX7_readSeed_0 rfl rfl ?_
  refine r_iconst (v := (1 : Int32)) dX7_readSeed_1 rfl ?_
  refine r_putI (k := 1) (i := 0) (j := 7) (ty0 := tyX7) rfl rfl ho1 rfl hX7 (by decide) rfl fX7_42 dX7_readSeed_2 rfl tyX7_ok nmX7 rfl (by decide) (by decide) ?_
  refine r_aload_n dX7_readSeed_5 rfl rfl ?_
  refine r_get (k := 1) (i := 0) (j := 1) (v := rV 3 (σ.2.2 1 0)) rfl rfl ho1 rfl hX7 (by decide) rfl fX7_21 dX7_readSeed_6 (fun _ => rfl) ?_
  refine r_aload_n dX7_readSeed_9 rfl rfl ?_
  refine r_iconst (v := (0 : Int32)) dX7_readSeed_10 rfl ?_
  refine r_ldc (v := (99999 : Int32)) oX7_159 dX7_readSeed_11 ?_
  refine r_callV (z := 2) (k := 1) (i := 0) (As := [iV (0 : Int32), iV (99999 : Int32)]) (st := [rV 3 (σ.2.2 1 0)]) kX7_number i_X7_number e_X7_number lX7_112 dX7_readSeed_13 rfl rfl ho1 rfl rfl rfl rfl rfl (Nat.le_of_ble_eq_true rfl) ?_
  exact H
set_option maxRecDepth 100000 in
theorem bX7_readSeed_16 {d : Nat} {Q : Option MV → MS → Prop} {s0 : Int32} {w1 : Nat} {σ : MS} (hw1 : w1 < 2) (H : Q none (uI σ 3 w1 13 s0)) : R mj_OC d mX7_readSeed Q 16 [some (rV 1 0)] [iV s0, rV 3 w1] σ := by
  refine r_putI (k := 3) (i := w1) (j := 13) (ty0 := tyX0) rfl rfl (ho3 hw1) rfl hX0 (by decide) rfl fX7_160 dX7_readSeed_16 rfl tyX0_ok nmX0 rfl rfl rfl ?_
  exact r_vret dX7_readSeed_19 rfl H
set_option maxRecDepth 100000 in
theorem bX7_readLaw_0 {d : Nat} {Q : Option MV → MS → Prop}  {σ : MS}  (H : (R mj_OC d mX9_kind (fun r σ' => R mj_OC (d + 1) mX7_readLaw Q 7 [some (rV 1 0), none] (r.toList ++ []) σ') 0 [some (rV 2 0)] [] σ)) : R mj_OC (d + 1) mX7_readLaw Q 0 [some (rV 1 0), none] [] σ := by
  refine r_aload_n dX7_readLaw_0 rfl rfl ?_
  refine r_get (k := 1) (i := 0) (j := 0) (v := rV 2 0) rfl rfl ho1 rfl hX7 (by decide) rfl fX7_12 dX7_readLaw_1 (fun _ => rfl) ?_
  refine r_callV (z := 0) (k := 2) (i := 0) (As := []) (st := []) kX9_kind i_X9_kind e_X9_kind lX7_55 dX7_readLaw_4 rfl rfl ho2 rfl rfl rfl rfl rfl (Nat.le_of_ble_eq_true rfl) ?_
  exact H
set_option maxRecDepth 100000 in
theorem bX7_readLaw_7 {d : Nat} {Q : Option MV → MS → Prop} {s0 : Int32} {σ : MS}  (H : ((s0 < (9 : Int32) → (R mj_OC d mX9_place (fun r σ' => R mj_OC (d + 1) mX7_readLaw Q 33 [some (rV 1 0), none] (r.toList ++ [iV (1 : Int32), rV 1 0]) σ') 0 [some (rV 2 0)] [] σ)) ∧ (¬ s0 < (9 : Int32) → (R mj_OC d mX9_kind (fun r σ' => R mj_OC (d + 1) mX7_readLaw Q 19 [some (rV 1 0), none] (r.toList ++ []) σ') 0 [some (rV 2 0)] [] σ)))) : R mj_OC (d + 1) mX7_readLaw Q 7 [some (rV 1 0), none] [iV s0] σ := by
  refine r_bipush (v := (9 : Int32)) dX7_readLaw_7 rfl ?_
  refine r_icmp_lt (tgt := 24) dX7_readLaw_9 (by decide) (fun c => ?_) (fun c => ?_)
  · have H := H.1 c
    refine r_aload_n dX7_readLaw_24 rfl rfl ?_
    refine r_iconst (v := (1 : Int32)) dX7_readLaw_25 rfl ?_
    refine r_aload_n dX7_readLaw_26 rfl rfl ?_
    refine r_get (k := 1) (i := 0) (j := 0) (v := rV 2 0) rfl rfl ho1 rfl hX7 (by decide) rfl fX7_12 dX7_readLaw_27 (fun _ => rfl) ?_
    refine r_callV (z := 0) (k := 2) (i := 0) (As := []) (st := [iV (1 : Int32), rV 1 0]) kX9_place i_X9_place e_X9_place lX7_62 dX7_readLaw_30 rfl rfl ho2 rfl rfl rfl rfl rfl (Nat.le_of_ble_eq_true rfl) ?_
    exact H
  · have H := H.2 c
    refine r_aload_n dX7_readLaw_12 rfl rfl ?_
    refine r_get (k := 1) (i := 0) (j := 0) (v := rV 2 0) rfl rfl ho1 rfl hX7 (by decide) rfl fX7_12 dX7_readLaw_13 (fun _ => rfl) ?_
    refine r_callV (z := 0) (k := 2) (i := 0) (As := []) (st := []) kX9_kind i_X9_kind e_X9_kind lX7_55 dX7_readLaw_16 rfl rfl ho2 rfl rfl rfl rfl rfl (Nat.le_of_ble_eq_true rfl) ?_
    exact H
set_option maxRecDepth 100000 in
theorem bX7_readLaw_19 {d : Nat} {Q : Option MV → MS → Prop} {s0 : Int32} {σ : MS}  (H : ((s0 ≤ (11 : Int32) → (R mj_OC d mX9_kind (fun r σ' => R mj_OC (d + 1) mX7_readLaw Q 44 [some (rV 1 0), none] (r.toList ++ []) σ') 0 [some (rV 2 0)] [] σ)) ∧ (¬ s0 ≤ (11 : Int32) → (R mj_OC d mX9_place (fun r σ' => R mj_OC (d + 1) mX7_readLaw Q 33 [some (rV 1 0), none] (r.toList ++ [iV (1 : Int32), rV 1 0]) σ') 0 [some (rV 2 0)] [] σ)))) : R mj_OC (d + 1) mX7_readLaw Q 19 [some (rV 1 0), none] [iV s0] σ := by
  refine r_bipush (v := (11 : Int32)) dX7_readLaw_19 rfl ?_
  refine r_icmp_le (tgt := 37) dX7_readLaw_21 (by decide) (fun c => ?_) (fun c => ?_)
  · have H := H.1 c
    refine r_aload_n dX7_readLaw_37 rfl rfl ?_
    refine r_get (k := 1) (i := 0) (j := 0) (v := rV 2 0) rfl rfl ho1 rfl hX7 (by decide) rfl fX7_12 dX7_readLaw_38 (fun _ => rfl) ?_
    refine r_callV (z := 0) (k := 2) (i := 0) (As := []) (st := []) kX9_kind i_X9_kind e_X9_kind lX7_55 dX7_readLaw_41 rfl rfl ho2 rfl rfl rfl rfl rfl (Nat.le_of_ble_eq_true rfl) ?_
    exact H
  · have H := H.2 c
    refine r_aload_n dX7_readLaw_24 rfl rfl ?_
    refine r_iconst (v := (1 : Int32)) dX7_readLaw_25 rfl ?_
    refine r_aload_n dX7_readLaw_26 rfl rfl ?_
    refine r_get (k := 1) (i := 0) (j := 0) (v := rV 2 0) rfl rfl ho1 rfl hX7 (by decide) rfl fX7_12 dX7_readLaw_27 (fun _ => rfl) ?_
    refine r_callV (z := 0) (k := 2) (i := 0) (As := []) (st := [iV (1 : Int32), rV 1 0]) kX9_place i_X9_place e_X9_place lX7_62 dX7_readLaw_30 rfl rfl ho2 rfl rfl rfl rfl rfl (Nat.le_of_ble_eq_true rfl) ?_
    exact H
set_option maxRecDepth 100000 in
theorem bX7_readLaw_33 {d : Nat} {Q : Option MV → MS → Prop} {s0 : Int32} {s1 : Int32} {σ : MS}  (H : (R mj_OC d mX7_fail (fun r σ' => R mj_OC (d + 1) mX7_readLaw Q 36 [some (rV 1 0), none] (r.toList ++ []) σ') 0 [some (rV 1 0), some (iV s1), some (iV s0)] [] σ)) : R mj_OC (d + 1) mX7_readLaw Q 33 [some (rV 1 0), none] [iV s0, iV s1, rV 1 0] σ := by
  refine r_callV (z := 0) (k := 1) (i := 0) (As := [iV s1, iV s0]) (st := []) kX7_fail i_X7_fail e_X7_fail lX7_64 dX7_readLaw_33 rfl rfl ho1 rfl rfl rfl rfl rfl (Nat.le_of_ble_eq_true rfl) ?_
  exact H
set_option maxRecDepth 100000 in
theorem bX7_readLaw_36 {d : Nat} {Q : Option MV → MS → Prop}  {σ : MS}  (H : Q none σ) : R mj_OC d mX7_readLaw Q 36 [some (rV 1 0), none] [] σ := by
  exact r_vret dX7_readLaw_36 rfl H
set_option maxRecDepth 100000 in
theorem bX7_readLaw_44 {d : Nat} {Q : Option MV → MS → Prop} {s0 : Int32} {σ : MS}  (H : (σ.2.2 1 0 < 2 ∧ (R mj_OC d mX3_isTold (fun r σ' => R mj_OC (d + 1) mX7_readLaw Q 59 [some (rV 1 0), some (iV (s0 - (9 : Int32)))] (r.toList ++ []) σ') 0 [some (rV 5 (σ.2.2 1 0)), some (iV (s0 - (9 : Int32)))] [] σ))) : R mj_OC (d + 1) mX7_readLaw Q 44 [some (rV 1 0), none] [iV s0] σ := by
  refine r_bipush (v := (9 : Int32)) dX7_readLaw_44 rfl ?_
  refine r_isub dX7_readLaw_46 ?_
  refine r_istore_n dX7_readLaw_47 rfl (by decide) rfl ?_
  refine r_aload_n dX7_readLaw_48 rfl rfl ?_
  refine r_get (k := 1) (i := 0) (j := 1) (v := rV 3 (σ.2.2 1 0)) rfl rfl ho1 rfl hX7 (by decide) rfl fX7_21 dX7_readLaw_49 (fun _ => rfl) ?_
  obtain ⟨q1, H⟩ := H
  refine r_get (k := 3) (i := (σ.2.2 1 0)) (j := 15) (v := rV 5 (σ.2.2 1 0)) rfl rfl (ho3 q1) rfl hX0 (by decide) rfl fX7_163 dX7_readLaw_52 (fun _ => rfl) ?_
  refine r_iload_n dX7_readLaw_55 rfl rfl ?_
  refine r_callV (z := 0) (k := 5) (i := (σ.2.2 1 0)) (As := [iV (s0 - (9 : Int32))]) (st := []) kX3_isTold i_X3_isTold e_X3_isTold lX7_167 dX7_readLaw_56 rfl rfl (ho5 q1) rfl rfl rfl rfl rfl (Nat.le_of_ble_eq_true rfl) ?_
  exact H
set_option maxRecDepth 100000 in
theorem bX7_readLaw_59 {d : Nat} {Q : Option MV → MS → Prop} {x1 : Int32} {s0 : Int32} {σ : MS}  (H : ((s0 = 0 → (R mj_OC d mX9_advance (fun r σ' => R mj_OC (d + 1) mX7_readLaw Q 82 [some (rV 1 0), some (iV x1)] (r.toList ++ []) σ') 0 [some (rV 2 0)] [] σ)) ∧ (¬ s0 = 0 → (R mj_OC d mX9_place (fun r σ' => R mj_OC (d + 1) mX7_readLaw Q 71 [some (rV 1 0), some (iV x1)] (r.toList ++ [iV (3 : Int32), rV 1 0]) σ') 0 [some (rV 2 0)] [] σ)))) : R mj_OC (d + 1) mX7_readLaw Q 59 [some (rV 1 0), some (iV x1)] [iV s0] σ := by
  refine r_if_eq (tgt := 75) dX7_readLaw_59 (by decide) (fun c => ?_) (fun c => ?_)
  · have H := H.1 c
    refine r_aload_n dX7_readLaw_75 rfl rfl ?_
    refine r_get (k := 1) (i := 0) (j := 0) (v := rV 2 0) rfl rfl ho1 rfl hX7 (by decide) rfl fX7_12 dX7_readLaw_76 (fun _ => rfl) ?_
    refine r_callV (z := 0) (k := 2) (i := 0) (As := []) (st := []) kX9_advance i_X9_advance e_X9_advance lX7_72 dX7_readLaw_79 rfl rfl ho2 rfl rfl rfl rfl rfl (Nat.le_of_ble_eq_true rfl) ?_
    exact H
  · have H := H.2 c
    refine r_aload_n dX7_readLaw_62 rfl rfl ?_
    refine r_iconst (v := (3 : Int32)) dX7_readLaw_63 rfl ?_
    refine r_aload_n dX7_readLaw_64 rfl rfl ?_
    refine r_get (k := 1) (i := 0) (j := 0) (v := rV 2 0) rfl rfl ho1 rfl hX7 (by decide) rfl fX7_12 dX7_readLaw_65 (fun _ => rfl) ?_
    refine r_callV (z := 0) (k := 2) (i := 0) (As := []) (st := [iV (3 : Int32), rV 1 0]) kX9_place i_X9_place e_X9_place lX7_62 dX7_readLaw_68 rfl rfl ho2 rfl rfl rfl rfl rfl (Nat.le_of_ble_eq_true rfl) ?_
    exact H
set_option maxRecDepth 100000 in
theorem bX7_readLaw_71 {d : Nat} {Q : Option MV → MS → Prop} {x1 : Int32} {s0 : Int32} {s1 : Int32} {σ : MS}  (H : (R mj_OC d mX7_fail (fun r σ' => R mj_OC (d + 1) mX7_readLaw Q 74 [some (rV 1 0), some (iV x1)] (r.toList ++ []) σ') 0 [some (rV 1 0), some (iV s1), some (iV s0)] [] σ)) : R mj_OC (d + 1) mX7_readLaw Q 71 [some (rV 1 0), some (iV x1)] [iV s0, iV s1, rV 1 0] σ := by
  refine r_callV (z := 0) (k := 1) (i := 0) (As := [iV s1, iV s0]) (st := []) kX7_fail i_X7_fail e_X7_fail lX7_64 dX7_readLaw_71 rfl rfl ho1 rfl rfl rfl rfl rfl (Nat.le_of_ble_eq_true rfl) ?_
  exact H
set_option maxRecDepth 100000 in
theorem bX7_readLaw_74 {d : Nat} {Q : Option MV → MS → Prop} {x1 : Int32} {σ : MS}  (H : Q none σ) : R mj_OC d mX7_readLaw Q 74 [some (rV 1 0), some (iV x1)] [] σ := by
  exact r_vret dX7_readLaw_74 rfl H
set_option maxRecDepth 100000 in
theorem bX7_readLaw_82 {d : Nat} {Q : Option MV → MS → Prop} {x1 : Int32} {σ : MS}  (H : (σ.2.2 1 0 < 2 ∧ (R mj_OC d mX3_begin (fun r σ' => R mj_OC (d + 1) mX7_readLaw Q 98 [some (rV 1 0), some (iV x1)] (r.toList ++ []) σ') 0 [some (rV 5 (σ.2.2 1 0)), some (iV x1)] [] (uI σ 1 0 9 (0 : Int32))))) : R mj_OC (d + 1) mX7_readLaw Q 82 [some (rV 1 0), some (iV x1)] [] σ := by
  refine r_aload_n dX7_readLaw_82 rfl rfl ?_
  refine r_iconst (v := (0 : Int32)) dX7_readLaw_83 rfl ?_
  refine r_putI (k := 1) (i := 0) (j := 9) (ty0 := tyX7) rfl rfl ho1 rfl hX7 (by decide) rfl fX7_172 dX7_readLaw_84 rfl tyX7_ok nmX7 rfl rfl rfl ?_
  refine r_aload_n dX7_readLaw_87 rfl rfl ?_
  refine r_get (k := 1) (i := 0) (j := 1) (v := rV 3 (σ.2.2 1 0)) rfl rfl ho1 rfl hX7 (by decide) rfl fX7_21 dX7_readLaw_88 (fun _ => rfl) ?_
  obtain ⟨q1, H⟩ := H
  refine r_get (k := 3) (i := (σ.2.2 1 0)) (j := 15) (v := rV 5 (σ.2.2 1 0)) rfl rfl (ho3 q1) rfl hX0 (by decide) rfl fX7_163 dX7_readLaw_91 (fun _ => rfl) ?_
  refine r_iload_n dX7_readLaw_94 rfl rfl ?_
  refine r_callV (z := 0) (k := 5) (i := (σ.2.2 1 0)) (As := [iV x1]) (st := []) kX3_begin i_X3_begin e_X3_begin lX7_175 dX7_readLaw_95 rfl rfl (ho5 q1) rfl rfl rfl rfl rfl (Nat.le_of_ble_eq_true rfl) ?_
  exact H
set_option maxRecDepth 100000 in
theorem bX7_readLaw_98 {d : Nat} {Q : Option MV → MS → Prop} {x1 : Int32} {σ : MS}  (H : (R mj_OC d mX7_readRanked (fun r σ' => R mj_OC (d + 1) mX7_readLaw Q 103 [some (rV 1 0), some (iV x1)] (r.toList ++ []) σ') 0 [some (rV 1 0), some (iV (0 : Int32)), none, none, none] [] σ)) : R mj_OC (d + 1) mX7_readLaw Q 98 [some (rV 1 0), some (iV x1)] [] σ := by
  refine r_aload_n dX7_readLaw_98 rfl rfl ?_
  refine r_iconst (v := (0 : Int32)) dX7_readLaw_99 rfl ?_
  refine r_callV (z := 3) (k := 1) (i := 0) (As := [iV (0 : Int32)]) (st := []) kX7_readRanked i_X7_readRanked e_X7_readRanked lX7_178 dX7_readLaw_100 rfl rfl ho1 rfl rfl rfl rfl rfl (Nat.le_of_ble_eq_true rfl) ?_
  exact H
set_option maxRecDepth 100000 in
theorem bX7_readLaw_103 {d : Nat} {Q : Option MV → MS → Prop} {x1 : Int32} {σ : MS}  (H : (σ.2.2 1 0 < 2 ∧ (R mj_OC d mX3_end (fun r σ' => R mj_OC (d + 1) mX7_readLaw Q 114 [some (rV 1 0), some (iV x1)] (r.toList ++ []) σ') 0 [some (rV 5 (σ.2.2 1 0)), some (iV x1)] [] σ))) : R mj_OC (d + 1) mX7_readLaw Q 103 [some (rV 1 0), some (iV x1)] [] σ := by
  refine r_aload_n dX7_readLaw_103 rfl rfl ?_
  refine r_get (k := 1) (i := 0) (j := 1) (v := rV 3 (σ.2.2 1 0)) rfl rfl ho1 rfl hX7 (by decide) rfl fX7_21 dX7_readLaw_104 (fun _ => rfl) ?_
  obtain ⟨q1, H⟩ := H
  refine r_get (k := 3) (i := (σ.2.2 1 0)) (j := 15) (v := rV 5 (σ.2.2 1 0)) rfl rfl (ho3 q1) rfl hX0 (by decide) rfl fX7_163 dX7_readLaw_107 (fun _ => rfl) ?_
  refine r_iload_n dX7_readLaw_110 rfl rfl ?_
  refine r_callV (z := 0) (k := 5) (i := (σ.2.2 1 0)) (As := [iV x1]) (st := []) kX3_end i_X3_end e_X3_end lX7_181 dX7_readLaw_111 rfl rfl (ho5 q1) rfl rfl rfl rfl rfl (Nat.le_of_ble_eq_true rfl) ?_
  exact H
set_option maxRecDepth 100000 in
theorem bX7_readLaw_114 {d : Nat} {Q : Option MV → MS → Prop} {x1 : Int32} {σ : MS}  (H : Q none σ) : R mj_OC d mX7_readLaw Q 114 [some (rV 1 0), some (iV x1)] [] σ := by
  exact r_vret dX7_readLaw_114 rfl H
set_option maxRecDepth 100000 in
theorem bX7_readRanked_0 {d : Nat} {Q : Option MV → MS → Prop} {x1 : Int32} {σ : MS}  (H : (((σ.1 1 0 2) = 0 → ((x1 < (6 : Int32) → ((¬ x1 = (2 : Int32) → (R mj_OC d mX7_readRanked (fun r σ' => R mj_OC (d + 1) mX7_readRanked Q 36 [some (rV 1 0), some (iV x1), none, none, none] (r.toList ++ []) σ') 0 [some (rV 1 0), some (iV (x1 + (1 : Int32))), none, none, none] [] σ)) ∧ (x1 = (2 : Int32) → (R mj_OC d mX7_readDenied (fun r σ' => R mj_OC (d + 1) mX7_readRanked Q 28 [some (rV 1 0), some (iV x1), none, none, none] (r.toList ++ []) σ') 0 [some (rV 1 0), none, none] [] σ)))) ∧ (¬ x1 < (6 : Int32) → (R mj_OC d mX7_readPart (fun r σ' => R mj_OC (d + 1) mX7_readRanked Q 18 [some (rV 1 0), some (iV x1), none, none, none] (r.toList ++ []) σ') 0 [some (rV 1 0), none, none] [] σ)))) ∧ (¬ (σ.1 1 0 2) = 0 → Q none σ))) : R mj_OC (d + 1) mX7_readRanked Q 0 [some (rV 1 0), some (iV x1), none, none, none] [] σ := by
  refine r_aload_n dX7_readRanked_0 rfl rfl ?_
  refine r_get (k := 1) (i := 0) (j := 2) (v := iV (σ.1 1 0 2)) rfl rfl ho1 rfl hX7 (by decide) rfl fX7_29 dX7_readRanked_1 (fun _ => rfl) ?_
  refine r_if_eq (tgt := 8) dX7_readRanked_4 (by decide) (fun c => ?_) (fun c => ?_)
  · have H := H.1 c
    refine r_iload_n dX7_readRanked_8 rfl rfl ?_
    refine r_bipush (v := (6 : Int32)) dX7_readRanked_9 rfl ?_
    refine r_icmp_lt (tgt := 19) dX7_readRanked_11 (by decide) (fun c => ?_) (fun c => ?_)
    · have H := H.1 c
      refine r_iload_n dX7_readRanked_19 rfl rfl ?_
      refine r_iconst (v := (2 : Int32)) dX7_readRanked_20 rfl ?_
      refine r_icmp_ne (tgt := 29) dX7_readRanked_21 (by decide) (fun c => ?_) (fun c => ?_)
      · have H := H.1 c
        refine r_aload_n dX7_readRanked_29 rfl rfl ?_
        refine r_iload_n dX7_readRanked_30 rfl rfl ?_
        refine r_iconst (v := (1 : Int32)) dX7_readRanked_31 rfl ?_
        refine r_iadd dX7_readRanked_32 ?_
        refine r_callV (z := 3) (k := 1) (i := 0) (As := [iV (x1 + (1 : Int32))]) (st := []) kX7_readRanked i_X7_readRanked e_X7_readRanked lX7_178 dX7_readRanked_33 rfl rfl ho1 rfl rfl rfl rfl rfl (Nat.le_of_ble_eq_true rfl) ?_
        exact H
      · have H := H.2 c
        refine r_aload_n dX7_readRanked_24 rfl rfl ?_
        refine r_callV (z := 2) (k := 1) (i := 0) (As := []) (st := []) kX7_readDenied i_X7_readDenied e_X7_readDenied lX7_187 dX7_readRanked_25 rfl rfl ho1 rfl rfl rfl rfl rfl (Nat.le_of_ble_eq_true rfl) ?_
        exact H
    · have H := H.2 c
      refine r_aload_n dX7_readRanked_14 rfl rfl ?_
      refine r_callV (z := 2) (k := 1) (i := 0) (As := []) (st := []) kX7_readPart i_X7_readPart e_X7_readPart lX7_184 dX7_readRanked_15 rfl rfl ho1 rfl rfl rfl rfl rfl (Nat.le_of_ble_eq_true rfl) ?_
      exact H
  · have H := H.2 c
    exact r_vret dX7_readRanked_7 rfl H
set_option maxRecDepth 100000 in
theorem bX7_readRanked_18 {d : Nat} {Q : Option MV → MS → Prop} {x1 : Int32} {σ : MS}  (H : Q none σ) : R mj_OC d mX7_readRanked Q 18 [some (rV 1 0), some (iV x1), none, none, none] [] σ := by
  exact r_vret dX7_readRanked_18 rfl H
set_option maxRecDepth 100000 in
theorem bX7_readRanked_28 {d : Nat} {Q : Option MV → MS → Prop} {x1 : Int32} {σ : MS}  (H : Q none σ) : R mj_OC d mX7_readRanked Q 28 [some (rV 1 0), some (iV x1), none, none, none] [] σ := by
  exact r_vret dX7_readRanked_28 rfl H
set_option maxRecDepth 100000 in
theorem bX7_readRanked_36 {d : Nat} {Q : Option MV → MS → Prop} {x1 : Int32} {σ : MS}  (H : ((¬ x1 = (3 : Int32) → R mj_OC d mX7_readRanked Q 51 [some (rV 1 0), some (iV x1), some (iV (700 : Int32)), some (iV (0 : Int32)), none] [] σ) ∧ (x1 = (3 : Int32) → R mj_OC d mX7_readRanked Q 51 [some (rV 1 0), some (iV x1), some (iV (1 : Int32)), some (iV (0 : Int32)), none] [] σ))) : R mj_OC d mX7_readRanked Q 36 [some (rV 1 0), some (iV x1), none, none, none] [] σ := by
  refine r_iload_n dX7_readRanked_36 rfl rfl ?_
  refine r_iconst (v := (3 : Int32)) dX7_readRanked_37 rfl ?_
  refine r_icmp_ne (tgt := 45) dX7_readRanked_38 (by decide) (fun c => ?_) (fun c => ?_)
  · have H := H.1 c
    refine r_sipush (v := (700 : Int32)) dX7_readRanked_45 rfl ?_
    refine r_istore_n dX7_readRanked_48 rfl (by decide) rfl ?_
    refine r_iconst (v := (0 : Int32)) dX7_readRanked_49 rfl ?_
    refine r_istore_n dX7_readRanked_50 rfl (by decide) rfl ?_
    exact H
  · have H := H.2 c
    refine r_iconst (v := (1 : Int32)) dX7_readRanked_41 rfl ?_
    refine r_goto (tgt := 48) dX7_readRanked_42 (by decide) ?_
    refine r_istore_n dX7_readRanked_48 rfl (by decide) rfl ?_
    refine r_iconst (v := (0 : Int32)) dX7_readRanked_49 rfl ?_
    refine r_istore_n dX7_readRanked_50 rfl (by decide) rfl ?_
    exact H
set_option maxRecDepth 100000 in
theorem bX7_readRanked_51 {d : Nat} {Q : Option MV → MS → Prop} {x1 : Int32} {x2 : Int32} {x3 : Int32} {σ : MS}  (H : ((x2 ≤ x3 → Q none σ) ∧ (¬ x2 ≤ x3 → ((¬ (σ.1 1 0 2) = 0 → Q none σ) ∧ ((σ.1 1 0 2) = 0 → (R mj_OC d mX9_kind (fun r σ' => R mj_OC (d + 1) mX7_readRanked Q 70 [some (rV 1 0), some (iV x1), some (iV x2), some (iV x3), none] (r.toList ++ []) σ') 0 [some (rV 2 0)] [] σ)))))) : R mj_OC (d + 1) mX7_readRanked Q 51 [some (rV 1 0), some (iV x1), some (iV x2), some (iV x3), none] [] σ := by
  refine r_iload_n dX7_readRanked_51 rfl rfl ?_
  refine r_iload_n dX7_readRanked_52 rfl rfl ?_
  refine r_icmp_ge (tgt := 116) dX7_readRanked_53 (by decide) (fun c => ?_) (fun c => ?_)
  · have H := H.1 c
    exact r_vret dX7_readRanked_116 rfl H
  · have H := H.2 c
    refine r_aload_n dX7_readRanked_56 rfl rfl ?_
    refine r_get (k := 1) (i := 0) (j := 2) (v := iV (σ.1 1 0 2)) rfl rfl ho1 rfl hX7 (by decide) rfl fX7_29 dX7_readRanked_57 (fun _ => rfl) ?_
    refine r_if_ne (tgt := 116) dX7_readRanked_60 (by decide) (fun c => ?_) (fun c => ?_)
    · have H := H.1 c
      exact r_vret dX7_readRanked_116 rfl H
    · have H := H.2 c
      refine r_aload_n dX7_readRanked_63 rfl rfl ?_
      refine r_get (k := 1) (i := 0) (j := 0) (v := rV 2 0) rfl rfl ho1 rfl hX7 (by decide) rfl fX7_12 dX7_readRanked_64 (fun _ => rfl) ?_
      refine r_callV (z := 0) (k := 2) (i := 0) (As := []) (st := []) kX9_kind i_X9_kind e_X9_kind lX7_55 dX7_readRanked_67 rfl rfl ho2 rfl rfl rfl rfl rfl (Nat.le_of_ble_eq_true rfl) ?_
      exact H
set_option maxRecDepth 100000 in
theorem bX7_readRanked_70 {d : Nat} {Q : Option MV → MS → Prop} {x1 : Int32} {x2 : Int32} {x3 : Int32} {s0 : Int32} {σ : MS}  (H : (R mj_OC d mX7_rankOf (fun r σ' => R mj_OC (d + 1) mX7_readRanked Q 73 [some (rV 1 0), some (iV x1), some (iV x2), some (iV x3), none] (r.toList ++ []) σ') 0 [some (iV s0)] [] σ)) : R mj_OC (d + 1) mX7_readRanked Q 70 [some (rV 1 0), some (iV x1), some (iV x2), some (iV x3), none] [iV s0] σ := by
  refine r_callS (z := 0) (As := [iV s0]) (st := []) kX7_rankOf s_X7_rankOf lX7_190 dX7_readRanked_70 rfl rfl rfl rfl (Nat.le_of_ble_eq_true rfl) ?_
  exact H
set_option maxRecDepth 100000 in
theorem bX7_readRanked_73 {d : Nat} {Q : Option MV → MS → Prop} {x1 : Int32} {x2 : Int32} {x3 : Int32} {s0 : Int32} {σ : MS}  (H : ((¬ s0 = x1 → Q none σ) ∧ (s0 = x1 → (R mj_OC d mX9_kind (fun r σ' => R mj_OC (d + 1) mX7_readRanked Q 84 [some (rV 1 0), some (iV x1), some (iV x2), some (iV x3), none] (r.toList ++ []) σ') 0 [some (rV 2 0)] [] σ)))) : R mj_OC (d + 1) mX7_readRanked Q 73 [some (rV 1 0), some (iV x1), some (iV x2), some (iV x3), none] [iV s0] σ := by
  refine r_iload_n dX7_readRanked_73 rfl rfl ?_
  refine r_icmp_ne (tgt := 116) dX7_readRanked_74 (by decide) (fun c => ?_) (fun c => ?_)
  · have H := H.1 c
    exact r_vret dX7_readRanked_116 rfl H
  · have H := H.2 c
    refine r_aload_n dX7_readRanked_77 rfl rfl ?_
    refine r_get (k := 1) (i := 0) (j := 0) (v := rV 2 0) rfl rfl ho1 rfl hX7 (by decide) rfl fX7_12 dX7_readRanked_78 (fun _ => rfl) ?_
    refine r_callV (z := 0) (k := 2) (i := 0) (As := []) (st := []) kX9_kind i_X9_kind e_X9_kind lX7_55 dX7_readRanked_81 rfl rfl ho2 rfl rfl rfl rfl rfl (Nat.le_of_ble_eq_true rfl) ?_
    exact H
set_option maxRecDepth 100000 in
theorem bX7_readRanked_84 {d : Nat} {Q : Option MV → MS → Prop} {x1 : Int32} {x2 : Int32} {x3 : Int32} {s0 : Int32} {σ : MS}  (H : (R mj_OC d mX7_takeKnot (fun r σ' => R mj_OC (d + 1) mX7_readRanked Q 90 [some (rV 1 0), some (iV x1), some (iV x2), some (iV x3), some (iV s0)] (r.toList ++ []) σ') 0 [some (rV 1 0)] [] σ)) : R mj_OC (d + 1) mX7_readRanked Q 84 [some (rV 1 0), some (iV x1), some (iV x2), some (iV x3), none] [iV s0] σ := by
  refine r_istore dX7_readRanked_84 (by decide) rfl ?_
  refine r_aload_n dX7_readRanked_86 rfl rfl ?_
  refine r_callV (z := 0) (k := 1) (i := 0) (As := []) (st := []) kX7_takeKnot i_X7_takeKnot e_X7_takeKnot lX7_193 dX7_readRanked_87 rfl rfl ho1 rfl rfl rfl rfl rfl (Nat.le_of_ble_eq_true rfl) ?_
  exact H
set_option maxRecDepth 100000 in
theorem bX7_readRanked_90 {d : Nat} {Q : Option MV → MS → Prop} {x1 : Int32} {x2 : Int32} {x3 : Int32} {x4 : Int32} {σ : MS}  (H : (R mj_OC d mX7_readRanked (fun r σ' => R mj_OC (d + 1) mX7_readRanked Q 97 [some (rV 1 0), some (iV x1), some (iV x2), some (iV x3), some (iV x4)] (r.toList ++ []) σ') 0 [some (rV 1 0), some (iV (x1 + (1 : Int32))), none, none, none] [] σ)) : R mj_OC (d + 1) mX7_readRanked Q 90 [some (rV 1 0), some (iV x1), some (iV x2), some (iV x3), some (iV x4)] [] σ := by
  refine r_aload_n dX7_readRanked_90 rfl rfl ?_
  refine r_iload_n dX7_readRanked_91 rfl rfl ?_
  refine r_iconst (v := (1 : Int32)) dX7_readRanked_92 rfl ?_
  refine r_iadd dX7_readRanked_93 ?_
  refine r_callV (z := 3) (k := 1) (i := 0) (As := [iV (x1 + (1 : Int32))]) (st := []) kX7_readRanked i_X7_readRanked e_X7_readRanked lX7_178 dX7_readRanked_94 rfl rfl ho1 rfl rfl rfl rfl rfl (Nat.le_of_ble_eq_true rfl) ?_
  exact H
set_option maxRecDepth 100000 in
theorem bX7_readRanked_97 {d : Nat} {Q : Option MV → MS → Prop} {x1 : Int32} {x2 : Int32} {x3 : Int32} {x4 : Int32} {σ : MS}  (H : (σ.2.2 1 0 < 2 ∧ (R mj_OC d mX3_add (fun r σ' => R mj_OC (d + 1) mX7_readRanked Q 110 [some (rV 1 0), some (iV x1), some (iV x2), some (iV x3), some (iV x4)] (r.toList ++ []) σ') 0 [some (rV 5 (σ.2.2 1 0)), some (iV x4), some (iV (0 : Int32))] [] σ))) : R mj_OC (d + 1) mX7_readRanked Q 97 [some (rV 1 0), some (iV x1), some (iV x2), some (iV x3), some (iV x4)] [] σ := by
  refine r_aload_n dX7_readRanked_97 rfl rfl ?_
  refine r_get (k := 1) (i := 0) (j := 1) (v := rV 3 (σ.2.2 1 0)) rfl rfl ho1 rfl hX7 (by decide) rfl fX7_21 dX7_readRanked_98 (fun _ => rfl) ?_
  obtain ⟨q1, H⟩ := H
  refine r_get (k := 3) (i := (σ.2.2 1 0)) (j := 15) (v := rV 5 (σ.2.2 1 0)) rfl rfl (ho3 q1) rfl hX0 (by decide) rfl fX7_163 dX7_readRanked_101 (fun _ => rfl) ?_
  refine r_iload dX7_readRanked_104 rfl ?_
  refine r_iconst (v := (0 : Int32)) dX7_readRanked_106 rfl ?_
  refine r_callV (z := 0) (k := 5) (i := (σ.2.2 1 0)) (As := [iV x4, iV (0 : Int32)]) (st := []) kX3_add i_X3_add e_X3_add lX7_196 dX7_readRanked_107 rfl rfl (ho5 q1) rfl rfl rfl rfl rfl (Nat.le_of_ble_eq_true rfl) ?_
  exact H
set_option maxRecDepth 100000 in
theorem bX7_readRanked_110 {d : Nat} {Q : Option MV → MS → Prop} {x1 : Int32} {x2 : Int32} {x3 : Int32} {x4 : Int32} {σ : MS}  (H : R mj_OC d mX7_readRanked Q 51 [some (rV 1 0), some (iV x1), some (iV x2), some (iV (x3 + (1 : Int32))), none] [] σ) : R mj_OC d mX7_readRanked Q 110 [some (rV 1 0), some (iV x1), some (iV x2), some (iV x3), some (iV x4)] [] σ := by
  refine r_iinc (v := x3 + (1 : Int32)) dX7_readRanked_110 rfl rfl (by decide) rfl ?_
  refine r_goto (tgt := 51) dX7_readRanked_113 (by decide) ?_
  exact R.fw (ls' := [some (rV 1 0), some (iV x1), some (iV x2), some (iV (x3 + (1 : Int32))), none]) ⟨rfl, ⟨rfl, ⟨rfl, ⟨rfl, trivial⟩⟩⟩⟩ H
set_option maxRecDepth 100000 in
theorem bX7_rankOf_0 {d : Nat} {Q : Option MV → MS → Prop} {x0 : Int32} {σ : MS}  (H : ((x0 = 12 → Q (some (iV (0 : Int32))) σ) ∧ (¬ x0 = 12 → ((x0 = 13 → Q (some (iV (1 : Int32))) σ) ∧ (¬ x0 = 13 → ((x0 = 27 → Q (some (iV (4 : Int32))) σ) ∧ (¬ x0 = 27 → ((x0 = 28 → Q (some (iV (4 : Int32))) σ) ∧ (¬ x0 = 28 → ((x0 = 29 → Q (some (iV (5 : Int32))) σ) ∧ (¬ x0 = 29 → ((x0 = 30 → Q (some (iV (5 : Int32))) σ) ∧ (¬ x0 = 30 → ((x0 = 31 → Q (some (iV (3 : Int32))) σ) ∧ (¬ x0 = 31 → ((x0 = 32 → Q (some (iV (3 : Int32))) σ) ∧ (¬ x0 = 32 → ((x0 = 33 → Q (some (iV (3 : Int32))) σ) ∧ (¬ x0 = 33 → ((x0 = 34 → Q (some (iV (3 : Int32))) σ) ∧ (¬ x0 = 34 → ((x0 = 35 → Q (some (iV (3 : Int32))) σ) ∧ (¬ x0 = 35 → ((x0 = 36 → Q (some (iV (3 : Int32))) σ) ∧ (¬ x0 = 36 → Q (some (iV (-1 : Int32))) σ))))))))))))))))))))))))) : R mj_OC d mX7_rankOf Q 0 [some (iV x0)] [] σ := by
  refine r_iload_n dX7_rankOf_0 rfl rfl ?_
  by_cases c12 : x0 = 12
  · have H := H.1 c12
    refine r_tableIn (tgt := 116) (off := 115) dX7_rankOf_1 (by rw [c12]; decide) (by rw [c12]; decide) (by rw [c12]; rfl) (by decide) ?_
    refine r_iconst (v := (0 : Int32)) dX7_rankOf_116 rfl ?_
    exact r_iret dX7_rankOf_117 rfl H
  replace H := H.2 c12
  by_cases c13 : x0 = 13
  · have H := H.1 c13
    refine r_tableIn (tgt := 118) (off := 117) dX7_rankOf_1 (by rw [c13]; decide) (by rw [c13]; decide) (by rw [c13]; rfl) (by decide) ?_
    refine r_iconst (v := (1 : Int32)) dX7_rankOf_118 rfl ?_
    exact r_iret dX7_rankOf_119 rfl H
  replace H := H.2 c13
  by_cases c27 : x0 = 27
  · have H := H.1 c27
    refine r_tableIn (tgt := 122) (off := 121) dX7_rankOf_1 (by rw [c27]; decide) (by rw [c27]; decide) (by rw [c27]; rfl) (by decide) ?_
    refine r_iconst (v := (4 : Int32)) dX7_rankOf_122 rfl ?_
    exact r_iret dX7_rankOf_123 rfl H
  replace H := H.2 c27
  by_cases c28 : x0 = 28
  · have H := H.1 c28
    refine r_tableIn (tgt := 122) (off := 121) dX7_rankOf_1 (by rw [c28]; decide) (by rw [c28]; decide) (by rw [c28]; rfl) (by decide) ?_
    refine r_iconst (v := (4 : Int32)) dX7_rankOf_122 rfl ?_
    exact r_iret dX7_rankOf_123 rfl H
  replace H := H.2 c28
  by_cases c29 : x0 = 29
  · have H := H.1 c29
    refine r_tableIn (tgt := 124) (off := 123) dX7_rankOf_1 (by rw [c29]; decide) (by rw [c29]; decide) (by rw [c29]; rfl) (by decide) ?_
    refine r_iconst (v := (5 : Int32)) dX7_rankOf_124 rfl ?_
    exact r_iret dX7_rankOf_125 rfl H
  replace H := H.2 c29
  by_cases c30 : x0 = 30
  · have H := H.1 c30
    refine r_tableIn (tgt := 124) (off := 123) dX7_rankOf_1 (by rw [c30]; decide) (by rw [c30]; decide) (by rw [c30]; rfl) (by decide) ?_
    refine r_iconst (v := (5 : Int32)) dX7_rankOf_124 rfl ?_
    exact r_iret dX7_rankOf_125 rfl H
  replace H := H.2 c30
  by_cases c31 : x0 = 31
  · have H := H.1 c31
    refine r_tableIn (tgt := 120) (off := 119) dX7_rankOf_1 (by rw [c31]; decide) (by rw [c31]; decide) (by rw [c31]; rfl) (by decide) ?_
    refine r_iconst (v := (3 : Int32)) dX7_rankOf_120 rfl ?_
    exact r_iret dX7_rankOf_121 rfl H
  replace H := H.2 c31
  by_cases c32 : x0 = 32
  · have H := H.1 c32
    refine r_tableIn (tgt := 120) (off := 119) dX7_rankOf_1 (by rw [c32]; decide) (by rw [c32]; decide) (by rw [c32]; rfl) (by decide) ?_
    refine r_iconst (v := (3 : Int32)) dX7_rankOf_120 rfl ?_
    exact r_iret dX7_rankOf_121 rfl H
  replace H := H.2 c32
  by_cases c33 : x0 = 33
  · have H := H.1 c33
    refine r_tableIn (tgt := 120) (off := 119) dX7_rankOf_1 (by rw [c33]; decide) (by rw [c33]; decide) (by rw [c33]; rfl) (by decide) ?_
    refine r_iconst (v := (3 : Int32)) dX7_rankOf_120 rfl ?_
    exact r_iret dX7_rankOf_121 rfl H
  replace H := H.2 c33
  by_cases c34 : x0 = 34
  · have H := H.1 c34
    refine r_tableIn (tgt := 120) (off := 119) dX7_rankOf_1 (by rw [c34]; decide) (by rw [c34]; decide) (by rw [c34]; rfl) (by decide) ?_
    refine r_iconst (v := (3 : Int32)) dX7_rankOf_120 rfl ?_
    exact r_iret dX7_rankOf_121 rfl H
  replace H := H.2 c34
  by_cases c35 : x0 = 35
  · have H := H.1 c35
    refine r_tableIn (tgt := 120) (off := 119) dX7_rankOf_1 (by rw [c35]; decide) (by rw [c35]; decide) (by rw [c35]; rfl) (by decide) ?_
    refine r_iconst (v := (3 : Int32)) dX7_rankOf_120 rfl ?_
    exact r_iret dX7_rankOf_121 rfl H
  replace H := H.2 c35
  by_cases c36 : x0 = 36
  · have H := H.1 c36
    refine r_tableIn (tgt := 120) (off := 119) dX7_rankOf_1 (by rw [c36]; decide) (by rw [c36]; decide) (by rw [c36]; rfl) (by decide) ?_
    refine r_iconst (v := (3 : Int32)) dX7_rankOf_120 rfl ?_
    exact r_iret dX7_rankOf_121 rfl H
  replace H := H.2 c36
  have K : R mj_OC d mX7_rankOf Q 126 [some (iV x0)] [] σ := by
    refine r_iconst (v := (-1 : Int32)) dX7_rankOf_126 rfl ?_
    exact r_iret dX7_rankOf_127 rfl H
  by_cases b : x0.toInt < 12 ∨ 36 < x0.toInt
  · exact r_tableOut (tgt := 126) dX7_rankOf_1 b (by decide) K
  · have b2 : x0.toInt = 14 ∨ x0.toInt = 15 ∨ x0.toInt = 16 ∨ x0.toInt = 17 ∨ x0.toInt = 18 ∨ x0.toInt = 19 ∨ x0.toInt = 20 ∨ x0.toInt = 21 ∨ x0.toInt = 22 ∨ x0.toInt = 23 ∨ x0.toInt = 24 ∨ x0.toInt = 25 ∨ x0.toInt = 26 := by have z0 := lv_neT c12 (show (12 : Int32).toInt = 12 by decide); have z1 := lv_neT c13 (show (13 : Int32).toInt = 13 by decide); have z2 := lv_neT c27 (show (27 : Int32).toInt = 27 by decide); have z3 := lv_neT c28 (show (28 : Int32).toInt = 28 by decide); have z4 := lv_neT c29 (show (29 : Int32).toInt = 29 by decide); have z5 := lv_neT c30 (show (30 : Int32).toInt = 30 by decide); have z6 := lv_neT c31 (show (31 : Int32).toInt = 31 by decide); have z7 := lv_neT c32 (show (32 : Int32).toInt = 32 by decide); have z8 := lv_neT c33 (show (33 : Int32).toInt = 33 by decide); have z9 := lv_neT c34 (show (34 : Int32).toInt = 34 by decide); have z10 := lv_neT c35 (show (35 : Int32).toInt = 35 by decide); have z11 := lv_neT c36 (show (36 : Int32).toInt = 36 by decide); omega
    rcases b2 with b2 | b2 | b2 | b2 | b2 | b2 | b2 | b2 | b2 | b2 | b2 | b2 | b2
    · exact r_tableIn (tgt := 126) (off := 125) dX7_rankOf_1 (by rw [b2]; decide) (by rw [b2]; decide) (by rw [b2]; rfl) (by decide) K
    · exact r_tableIn (tgt := 126) (off := 125) dX7_rankOf_1 (by rw [b2]; decide) (by rw [b2]; decide) (by rw [b2]; rfl) (by decide) K
    · exact r_tableIn (tgt := 126) (off := 125) dX7_rankOf_1 (by rw [b2]; decide) (by rw [b2]; decide) (by rw [b2]; rfl) (by decide) K
    · exact r_tableIn (tgt := 126) (off := 125) dX7_rankOf_1 (by rw [b2]; decide) (by rw [b2]; decide) (by rw [b2]; rfl) (by decide) K
    · exact r_tableIn (tgt := 126) (off := 125) dX7_rankOf_1 (by rw [b2]; decide) (by rw [b2]; decide) (by rw [b2]; rfl) (by decide) K
    · exact r_tableIn (tgt := 126) (off := 125) dX7_rankOf_1 (by rw [b2]; decide) (by rw [b2]; decide) (by rw [b2]; rfl) (by decide) K
    · exact r_tableIn (tgt := 126) (off := 125) dX7_rankOf_1 (by rw [b2]; decide) (by rw [b2]; decide) (by rw [b2]; rfl) (by decide) K
    · exact r_tableIn (tgt := 126) (off := 125) dX7_rankOf_1 (by rw [b2]; decide) (by rw [b2]; decide) (by rw [b2]; rfl) (by decide) K
    · exact r_tableIn (tgt := 126) (off := 125) dX7_rankOf_1 (by rw [b2]; decide) (by rw [b2]; decide) (by rw [b2]; rfl) (by decide) K
    · exact r_tableIn (tgt := 126) (off := 125) dX7_rankOf_1 (by rw [b2]; decide) (by rw [b2]; decide) (by rw [b2]; rfl) (by decide) K
    · exact r_tableIn (tgt := 126) (off := 125) dX7_rankOf_1 (by rw [b2]; decide) (by rw [b2]; decide) (by rw [b2]; rfl) (by decide) K
    · exact r_tableIn (tgt := 126) (off := 125) dX7_rankOf_1 (by rw [b2]; decide) (by rw [b2]; decide) (by rw [b2]; rfl) (by decide) K
    · exact r_tableIn (tgt := 126) (off := 125) dX7_rankOf_1 (by rw [b2]; decide) (by rw [b2]; decide) (by rw [b2]; rfl) (by decide) K
set_option maxRecDepth 100000 in
theorem bX7_readDenied_0 {d : Nat} {Q : Option MV → MS → Prop}  {σ : MS}  (H : R mj_OC d mX7_readDenied Q 2 [some (rV 1 0), some (iV (0 : Int32)), none] [] σ) : R mj_OC d mX7_readDenied Q 0 [some (rV 1 0), none, none] [] σ := by
  refine r_iconst (v := (0 : Int32)) dX7_readDenied_0 rfl ?_
  refine r_istore_n dX7_readDenied_1 rfl (by decide) rfl ?_
  exact H
set_option maxRecDepth 100000 in
theorem bX7_readDenied_2 {d : Nat} {Q : Option MV → MS → Prop} {x1 : Int32} {σ : MS}  (H : (((700 : Int32) ≤ x1 → (R mj_OC d mX7_readRanked (fun r σ' => R mj_OC (d + 1) mX7_readDenied Q 43 [some (rV 1 0), some (iV x1), none] (r.toList ++ []) σ') 0 [some (rV 1 0), some (iV (3 : Int32)), none, none, none] [] σ)) ∧ (¬ (700 : Int32) ≤ x1 → ((¬ (σ.1 1 0 2) = 0 → (R mj_OC d mX7_readRanked (fun r σ' => R mj_OC (d + 1) mX7_readDenied Q 43 [some (rV 1 0), some (iV x1), none] (r.toList ++ []) σ') 0 [some (rV 1 0), some (iV (3 : Int32)), none, none, none] [] σ)) ∧ ((σ.1 1 0 2) = 0 → (R mj_OC d mX9_kind (fun r σ' => R mj_OC (d + 1) mX7_readDenied Q 23 [some (rV 1 0), some (iV x1), none] (r.toList ++ []) σ') 0 [some (rV 2 0)] [] σ)))))) : R mj_OC (d + 1) mX7_readDenied Q 2 [some (rV 1 0), some (iV x1), none] [] σ := by
  refine r_iload_n dX7_readDenied_2 rfl rfl ?_
  refine r_sipush (v := (700 : Int32)) dX7_readDenied_3 rfl ?_
  refine r_icmp_ge (tgt := 38) dX7_readDenied_6 (by decide) (fun c => ?_) (fun c => ?_)
  · have H := H.1 c
    refine r_aload_n dX7_readDenied_38 rfl rfl ?_
    refine r_iconst (v := (3 : Int32)) dX7_readDenied_39 rfl ?_
    refine r_callV (z := 3) (k := 1) (i := 0) (As := [iV (3 : Int32)]) (st := []) kX7_readRanked i_X7_readRanked e_X7_readRanked lX7_178 dX7_readDenied_40 rfl rfl ho1 rfl rfl rfl rfl rfl (Nat.le_of_ble_eq_true rfl) ?_
    exact H
  · have H := H.2 c
    refine r_aload_n dX7_readDenied_9 rfl rfl ?_
    refine r_get (k := 1) (i := 0) (j := 2) (v := iV (σ.1 1 0 2)) rfl rfl ho1 rfl hX7 (by decide) rfl fX7_29 dX7_readDenied_10 (fun _ => rfl) ?_
    refine r_if_ne (tgt := 38) dX7_readDenied_13 (by decide) (fun c => ?_) (fun c => ?_)
    · have H := H.1 c
      refine r_aload_n dX7_readDenied_38 rfl rfl ?_
      refine r_iconst (v := (3 : Int32)) dX7_readDenied_39 rfl ?_
      refine r_callV (z := 3) (k := 1) (i := 0) (As := [iV (3 : Int32)]) (st := []) kX7_readRanked i_X7_readRanked e_X7_readRanked lX7_178 dX7_readDenied_40 rfl rfl ho1 rfl rfl rfl rfl rfl (Nat.le_of_ble_eq_true rfl) ?_
      exact H
    · have H := H.2 c
      refine r_aload_n dX7_readDenied_16 rfl rfl ?_
      refine r_get (k := 1) (i := 0) (j := 0) (v := rV 2 0) rfl rfl ho1 rfl hX7 (by decide) rfl fX7_12 dX7_readDenied_17 (fun _ => rfl) ?_
      refine r_callV (z := 0) (k := 2) (i := 0) (As := []) (st := []) kX9_kind i_X9_kind e_X9_kind lX7_55 dX7_readDenied_20 rfl rfl ho2 rfl rfl rfl rfl rfl (Nat.le_of_ble_eq_true rfl) ?_
      exact H
set_option maxRecDepth 100000 in
theorem bX7_readDenied_23 {d : Nat} {Q : Option MV → MS → Prop} {x1 : Int32} {s0 : Int32} {σ : MS}  (H : ((¬ s0 = (14 : Int32) → (R mj_OC d mX7_readRanked (fun r σ' => R mj_OC (d + 1) mX7_readDenied Q 43 [some (rV 1 0), some (iV x1), none] (r.toList ++ []) σ') 0 [some (rV 1 0), some (iV (3 : Int32)), none, none, none] [] σ)) ∧ (s0 = (14 : Int32) → (R mj_OC d mX7_takeKnot (fun r σ' => R mj_OC (d + 1) mX7_readDenied Q 32 [some (rV 1 0), some (iV x1), none] (r.toList ++ []) σ') 0 [some (rV 1 0)] [] σ)))) : R mj_OC (d + 1) mX7_readDenied Q 23 [some (rV 1 0), some (iV x1), none] [iV s0] σ := by
  refine r_bipush (v := (14 : Int32)) dX7_readDenied_23 rfl ?_
  refine r_icmp_ne (tgt := 38) dX7_readDenied_25 (by decide) (fun c => ?_) (fun c => ?_)
  · have H := H.1 c
    refine r_aload_n dX7_readDenied_38 rfl rfl ?_
    refine r_iconst (v := (3 : Int32)) dX7_readDenied_39 rfl ?_
    refine r_callV (z := 3) (k := 1) (i := 0) (As := [iV (3 : Int32)]) (st := []) kX7_readRanked i_X7_readRanked e_X7_readRanked lX7_178 dX7_readDenied_40 rfl rfl ho1 rfl rfl rfl rfl rfl (Nat.le_of_ble_eq_true rfl) ?_
    exact H
  · have H := H.2 c
    refine r_aload_n dX7_readDenied_28 rfl rfl ?_
    refine r_callV (z := 0) (k := 1) (i := 0) (As := []) (st := []) kX7_takeKnot i_X7_takeKnot e_X7_takeKnot lX7_193 dX7_readDenied_29 rfl rfl ho1 rfl rfl rfl rfl rfl (Nat.le_of_ble_eq_true rfl) ?_
    exact H
set_option maxRecDepth 100000 in
theorem bX7_readDenied_32 {d : Nat} {Q : Option MV → MS → Prop} {x1 : Int32} {σ : MS}  (H : R mj_OC d mX7_readDenied Q 2 [some (rV 1 0), some (iV (x1 + (1 : Int32))), none] [] σ) : R mj_OC d mX7_readDenied Q 32 [some (rV 1 0), some (iV x1), none] [] σ := by
  refine r_iinc (v := x1 + (1 : Int32)) dX7_readDenied_32 rfl rfl (by decide) rfl ?_
  refine r_goto (tgt := 2) dX7_readDenied_35 (by decide) ?_
  exact H
set_option maxRecDepth 100000 in
theorem bX7_readDenied_43 {d : Nat} {Q : Option MV → MS → Prop} {x1 : Int32} {σ : MS}  (H : R mj_OC d mX7_readDenied Q 45 [some (rV 1 0), some (iV x1), some (iV (0 : Int32))] [] σ) : R mj_OC d mX7_readDenied Q 43 [some (rV 1 0), some (iV x1), none] [] σ := by
  refine r_iconst (v := (0 : Int32)) dX7_readDenied_43 rfl ?_
  refine r_istore_n dX7_readDenied_44 rfl (by decide) rfl ?_
  exact H
set_option maxRecDepth 100000 in
theorem bX7_readDenied_45 {d : Nat} {Q : Option MV → MS → Prop} {x1 : Int32} {x2 : Int32} {σ : MS}  (H : ((x1 ≤ x2 → Q none σ) ∧ (¬ x1 ≤ x2 → (σ.2.2 1 0 < 2 ∧ (R mj_OC d mX3_add (fun r σ' => R mj_OC (d + 1) mX7_readDenied Q 63 [some (rV 1 0), some (iV x1), some (iV x2)] (r.toList ++ []) σ') 0 [some (rV 5 (σ.2.2 1 0)), some (iV (14 : Int32)), some (iV (0 : Int32))] [] σ))))) : R mj_OC (d + 1) mX7_readDenied Q 45 [some (rV 1 0), some (iV x1), some (iV x2)] [] σ := by
  refine r_iload_n dX7_readDenied_45 rfl rfl ?_
  refine r_iload_n dX7_readDenied_46 rfl rfl ?_
  refine r_icmp_ge (tgt := 69) dX7_readDenied_47 (by decide) (fun c => ?_) (fun c => ?_)
  · have H := H.1 c
    exact r_vret dX7_readDenied_69 rfl H
  · have H := H.2 c
    refine r_aload_n dX7_readDenied_50 rfl rfl ?_
    refine r_get (k := 1) (i := 0) (j := 1) (v := rV 3 (σ.2.2 1 0)) rfl rfl ho1 rfl hX7 (by decide) rfl fX7_21 dX7_readDenied_51 (fun _ => rfl) ?_
    obtain ⟨q1, H⟩ := H
    refine r_get (k := 3) (i := (σ.2.2 1 0)) (j := 15) (v := rV 5 (σ.2.2 1 0)) rfl rfl (ho3 q1) rfl hX0 (by decide) rfl fX7_163 dX7_readDenied_54 (fun _ => rfl) ?_
    refine r_bipush (v := (14 : Int32)) dX7_readDenied_57 rfl ?_
    refine r_iconst (v := (0 : Int32)) dX7_readDenied_59 rfl ?_
    refine r_callV (z := 0) (k := 5) (i := (σ.2.2 1 0)) (As := [iV (14 : Int32), iV (0 : Int32)]) (st := []) kX3_add i_X3_add e_X3_add lX7_196 dX7_readDenied_60 rfl rfl (ho5 q1) rfl rfl rfl rfl rfl (Nat.le_of_ble_eq_true rfl) ?_
    exact H
set_option maxRecDepth 100000 in
theorem bX7_readDenied_63 {d : Nat} {Q : Option MV → MS → Prop} {x1 : Int32} {x2 : Int32} {σ : MS}  (H : R mj_OC d mX7_readDenied Q 45 [some (rV 1 0), some (iV x1), some (iV (x2 + (1 : Int32)))] [] σ) : R mj_OC d mX7_readDenied Q 63 [some (rV 1 0), some (iV x1), some (iV x2)] [] σ := by
  refine r_iinc (v := x2 + (1 : Int32)) dX7_readDenied_63 rfl rfl (by decide) rfl ?_
  refine r_goto (tgt := 45) dX7_readDenied_66 (by decide) ?_
  exact H
set_option maxRecDepth 100000 in
theorem bX7_readPart_0 {d : Nat} {Q : Option MV → MS → Prop}  {σ : MS}  (H : (R mj_OC d mX9_kind (fun r σ' => R mj_OC (d + 1) mX7_readPart Q 7 [some (rV 1 0), none, none] (r.toList ++ []) σ') 0 [some (rV 2 0)] [] σ)) : R mj_OC (d + 1) mX7_readPart Q 0 [some (rV 1 0), none, none] [] σ := by
  refine r_aload_n dX7_readPart_0 rfl rfl ?_
  refine r_get (k := 1) (i := 0) (j := 0) (v := rV 2 0) rfl rfl ho1 rfl hX7 (by decide) rfl fX7_12 dX7_readPart_1 (fun _ => rfl) ?_
  refine r_callV (z := 0) (k := 2) (i := 0) (As := []) (st := []) kX9_kind i_X9_kind e_X9_kind lX7_55 dX7_readPart_4 rfl rfl ho2 rfl rfl rfl rfl rfl (Nat.le_of_ble_eq_true rfl) ?_
  exact H
set_option maxRecDepth 100000 in
theorem bX7_readPart_7 {d : Nat} {Q : Option MV → MS → Prop} {s0 : Int32} {σ : MS}  (H : (R mj_OC d mX9_value (fun r σ' => R mj_OC (d + 1) mX7_readPart Q 15 [some (rV 1 0), some (iV s0), none] (r.toList ++ []) σ') 0 [some (rV 2 0)] [] σ)) : R mj_OC (d + 1) mX7_readPart Q 7 [some (rV 1 0), none, none] [iV s0] σ := by
  refine r_istore_n dX7_readPart_7 rfl (by decide) rfl ?_
  refine r_aload_n dX7_readPart_8 rfl rfl ?_
  refine r_get (k := 1) (i := 0) (j := 0) (v := rV 2 0) rfl rfl ho1 rfl hX7 (by decide) rfl fX7_12 dX7_readPart_9 (fun _ => rfl) ?_
  refine r_callV (z := 0) (k := 2) (i := 0) (As := []) (st := []) kX9_value i_X9_value e_X9_value lX7_198 dX7_readPart_12 rfl rfl ho2 rfl rfl rfl rfl rfl (Nat.le_of_ble_eq_true rfl) ?_
  exact H
set_option maxRecDepth 100000 in
theorem bX7_readPart_15 {d : Nat} {Q : Option MV → MS → Prop} {x1 : Int32} {s0 : Int32} {σ : MS}  (H : ((¬ x1 = (25 : Int32) → ((¬ x1 = (23 : Int32) → ((¬ x1 = (25 : Int32) → ((x1 = (23 : Int32) → (R mj_OC d mX7_takeKnot (fun r σ' => R mj_OC (d + 1) mX7_readPart Q 128 [some (rV 1 0), some (iV x1), some (iV s0)] (r.toList ++ []) σ') 0 [some (rV 1 0)] [] σ)) ∧ (¬ x1 = (23 : Int32) → ((x1 < (15 : Int32) → (R mj_OC d mX9_place (fun r σ' => R mj_OC (d + 1) mX7_readPart Q 152 [some (rV 1 0), some (iV x1), some (iV s0)] (r.toList ++ [iV (1 : Int32), rV 1 0]) σ') 0 [some (rV 2 0)] [] σ)) ∧ (¬ x1 < (15 : Int32) → (((21 : Int32) < x1 → (R mj_OC d mX9_place (fun r σ' => R mj_OC (d + 1) mX7_readPart Q 152 [some (rV 1 0), some (iV x1), some (iV s0)] (r.toList ++ [iV (1 : Int32), rV 1 0]) σ') 0 [some (rV 2 0)] [] σ)) ∧ (¬ (21 : Int32) < x1 → (R mj_OC d mX7_takeKnot (fun r σ' => R mj_OC (d + 1) mX7_readPart Q 128 [some (rV 1 0), some (iV x1), some (iV s0)] (r.toList ++ []) σ') 0 [some (rV 1 0)] [] σ)))))))) ∧ (x1 = (25 : Int32) → (R mj_OC d mX9_advance (fun r σ' => R mj_OC (d + 1) mX7_readPart Q 82 [some (rV 1 0), some (iV x1), some (iV s0)] (r.toList ++ []) σ') 0 [some (rV 2 0)] [] (uI σ 1 0 9 ((σ.1 1 0 9) + (1 : Int32))))))) ∧ (x1 = (23 : Int32) → ((s0 ≤ (9999 : Int32) → ((¬ x1 = (25 : Int32) → ((x1 = (23 : Int32) → (R mj_OC d mX7_takeKnot (fun r σ' => R mj_OC (d + 1) mX7_readPart Q 128 [some (rV 1 0), some (iV x1), some (iV s0)] (r.toList ++ []) σ') 0 [some (rV 1 0)] [] σ)) ∧ (¬ x1 = (23 : Int32) → ((x1 < (15 : Int32) → (R mj_OC d mX9_place (fun r σ' => R mj_OC (d + 1) mX7_readPart Q 152 [some (rV 1 0), some (iV x1), some (iV s0)] (r.toList ++ [iV (1 : Int32), rV 1 0]) σ') 0 [some (rV 2 0)] [] σ)) ∧ (¬ x1 < (15 : Int32) → (((21 : Int32) < x1 → (R mj_OC d mX9_place (fun r σ' => R mj_OC (d + 1) mX7_readPart Q 152 [some (rV 1 0), some (iV x1), some (iV s0)] (r.toList ++ [iV (1 : Int32), rV 1 0]) σ') 0 [some (rV 2 0)] [] σ)) ∧ (¬ (21 : Int32) < x1 → (R mj_OC d mX7_takeKnot (fun r σ' => R mj_OC (d + 1) mX7_readPart Q 128 [some (rV 1 0), some (iV x1), some (iV s0)] (r.toList ++ []) σ') 0 [some (rV 1 0)] [] σ)))))))) ∧ (x1 = (25 : Int32) → (R mj_OC d mX9_advance (fun r σ' => R mj_OC (d + 1) mX7_readPart Q 82 [some (rV 1 0), some (iV x1), some (iV s0)] (r.toList ++ []) σ') 0 [some (rV 2 0)] [] (uI σ 1 0 9 ((σ.1 1 0 9) + (1 : Int32))))))) ∧ (¬ s0 ≤ (9999 : Int32) → (R mj_OC d mX9_place (fun r σ' => R mj_OC (d + 1) mX7_readPart Q 53 [some (rV 1 0), some (iV x1), some (iV s0)] (r.toList ++ [iV (2 : Int32), rV 1 0]) σ') 0 [some (rV 2 0)] [] σ)))))) ∧ (x1 = (25 : Int32) → (((8 : Int32) ≤ (σ.1 1 0 9) → (R mj_OC d mX9_place (fun r σ' => R mj_OC (d + 1) mX7_readPart Q 53 [some (rV 1 0), some (iV x1), some (iV s0)] (r.toList ++ [iV (2 : Int32), rV 1 0]) σ') 0 [some (rV 2 0)] [] σ)) ∧ (¬ (8 : Int32) ≤ (σ.1 1 0 9) → ((¬ x1 = (23 : Int32) → ((¬ x1 = (25 : Int32) → ((x1 = (23 : Int32) → (R mj_OC d mX7_takeKnot (fun r σ' => R mj_OC (d + 1) mX7_readPart Q 128 [some (rV 1 0), some (iV x1), some (iV s0)] (r.toList ++ []) σ') 0 [some (rV 1 0)] [] σ)) ∧ (¬ x1 = (23 : Int32) → ((x1 < (15 : Int32) → (R mj_OC d mX9_place (fun r σ' => R mj_OC (d + 1) mX7_readPart Q 152 [some (rV 1 0), some (iV x1), some (iV s0)] (r.toList ++ [iV (1 : Int32), rV 1 0]) σ') 0 [some (rV 2 0)] [] σ)) ∧ (¬ x1 < (15 : Int32) → (((21 : Int32) < x1 → (R mj_OC d mX9_place (fun r σ' => R mj_OC (d + 1) mX7_readPart Q 152 [some (rV 1 0), some (iV x1), some (iV s0)] (r.toList ++ [iV (1 : Int32), rV 1 0]) σ') 0 [some (rV 2 0)] [] σ)) ∧ (¬ (21 : Int32) < x1 → (R mj_OC d mX7_takeKnot (fun r σ' => R mj_OC (d + 1) mX7_readPart Q 128 [some (rV 1 0), some (iV x1), some (iV s0)] (r.toList ++ []) σ') 0 [some (rV 1 0)] [] σ)))))))) ∧ (x1 = (25 : Int32) → (R mj_OC d mX9_advance (fun r σ' => R mj_OC (d + 1) mX7_readPart Q 82 [some (rV 1 0), some (iV x1), some (iV s0)] (r.toList ++ []) σ') 0 [some (rV 2 0)] [] (uI σ 1 0 9 ((σ.1 1 0 9) + (1 : Int32))))))) ∧ (x1 = (23 : Int32) → ((s0 ≤ (9999 : Int32) → ((¬ x1 = (25 : Int32) → ((x1 = (23 : Int32) → (R mj_OC d mX7_takeKnot (fun r σ' => R mj_OC (d + 1) mX7_readPart Q 128 [some (rV 1 0), some (iV x1), some (iV s0)] (r.toList ++ []) σ') 0 [some (rV 1 0)] [] σ)) ∧ (¬ x1 = (23 : Int32) → ((x1 < (15 : Int32) → (R mj_OC d mX9_place (fun r σ' => R mj_OC (d + 1) mX7_readPart Q 152 [some (rV 1 0), some (iV x1), some (iV s0)] (r.toList ++ [iV (1 : Int32), rV 1 0]) σ') 0 [some (rV 2 0)] [] σ)) ∧ (¬ x1 < (15 : Int32) → (((21 : Int32) < x1 → (R mj_OC d mX9_place (fun r σ' => R mj_OC (d + 1) mX7_readPart Q 152 [some (rV 1 0), some (iV x1), some (iV s0)] (r.toList ++ [iV (1 : Int32), rV 1 0]) σ') 0 [some (rV 2 0)] [] σ)) ∧ (¬ (21 : Int32) < x1 → (R mj_OC d mX7_takeKnot (fun r σ' => R mj_OC (d + 1) mX7_readPart Q 128 [some (rV 1 0), some (iV x1), some (iV s0)] (r.toList ++ []) σ') 0 [some (rV 1 0)] [] σ)))))))) ∧ (x1 = (25 : Int32) → (R mj_OC d mX9_advance (fun r σ' => R mj_OC (d + 1) mX7_readPart Q 82 [some (rV 1 0), some (iV x1), some (iV s0)] (r.toList ++ []) σ') 0 [some (rV 2 0)] [] (uI σ 1 0 9 ((σ.1 1 0 9) + (1 : Int32))))))) ∧ (¬ s0 ≤ (9999 : Int32) → (R mj_OC d mX9_place (fun r σ' => R mj_OC (d + 1) mX7_readPart Q 53 [some (rV 1 0), some (iV x1), some (iV s0)] (r.toList ++ [iV (2 : Int32), rV 1 0]) σ') 0 [some (rV 2 0)] [] σ)))))))))) : R mj_OC (d + 1) mX7_readPart Q 15 [some (rV 1 0), some (iV x1), none] [iV s0] σ := by
  refine r_istore_n dX7_readPart_15 rfl (by decide) rfl ?_
  refine r_iload_n dX7_readPart_16 rfl rfl ?_
  refine r_bipush (v := (25 : Int32)) dX7_readPart_17 rfl ?_
  refine r_icmp_ne (tgt := 31) dX7_readPart_19 (by decide) (fun c => ?_) (fun c => ?_)
  · have H := H.1 c
    refine r_iload_n dX7_readPart_31 rfl rfl ?_
    refine r_bipush (v := (23 : Int32)) dX7_readPart_32 rfl ?_
    refine r_icmp_ne (tgt := 59) dX7_readPart_34 (by decide) (fun c => ?_) (fun c => ?_)
    · have H := H.1 c
      refine r_iload_n dX7_readPart_59 rfl rfl ?_
      refine r_bipush (v := (25 : Int32)) dX7_readPart_60 rfl ?_
      refine r_icmp_ne (tgt := 106) dX7_readPart_62 (by decide) (fun c => ?_) (fun c => ?_)
      · have H := H.1 c
        refine r_iload_n dX7_readPart_106 rfl rfl ?_
        refine r_bipush (v := (23 : Int32)) dX7_readPart_107 rfl ?_
        refine r_icmp_eq (tgt := 124) dX7_readPart_109 (by decide) (fun c => ?_) (fun c => ?_)
        · have H := H.1 c
          refine r_aload_n dX7_readPart_124 rfl rfl ?_
          refine r_callV (z := 0) (k := 1) (i := 0) (As := []) (st := []) kX7_takeKnot i_X7_takeKnot e_X7_takeKnot lX7_193 dX7_readPart_125 rfl rfl ho1 rfl rfl rfl rfl rfl (Nat.le_of_ble_eq_true rfl) ?_
          exact H
        · have H := H.2 c
          refine r_iload_n dX7_readPart_112 rfl rfl ?_
          refine r_bipush (v := (15 : Int32)) dX7_readPart_113 rfl ?_
          refine r_icmp_lt (tgt := 143) dX7_readPart_115 (by decide) (fun c => ?_) (fun c => ?_)
          · have H := H.1 c
            refine r_aload_n dX7_readPart_143 rfl rfl ?_
            refine r_iconst (v := (1 : Int32)) dX7_readPart_144 rfl ?_
            refine r_aload_n dX7_readPart_145 rfl rfl ?_
            refine r_get (k := 1) (i := 0) (j := 0) (v := rV 2 0) rfl rfl ho1 rfl hX7 (by decide) rfl fX7_12 dX7_readPart_146 (fun _ => rfl) ?_
            refine r_callV (z := 0) (k := 2) (i := 0) (As := []) (st := [iV (1 : Int32), rV 1 0]) kX9_place i_X9_place e_X9_place lX7_62 dX7_readPart_149 rfl rfl ho2 rfl rfl rfl rfl rfl (Nat.le_of_ble_eq_true rfl) ?_
            exact H
          · have H := H.2 c
            refine r_iload_n dX7_readPart_118 rfl rfl ?_
            refine r_bipush (v := (21 : Int32)) dX7_readPart_119 rfl ?_
            refine r_icmp_gt (tgt := 143) dX7_readPart_121 (by decide) (fun c => ?_) (fun c => ?_)
            · have H := H.1 c
              refine r_aload_n dX7_readPart_143 rfl rfl ?_
              refine r_iconst (v := (1 : Int32)) dX7_readPart_144 rfl ?_
              refine r_aload_n dX7_readPart_145 rfl rfl ?_
              refine r_get (k := 1) (i := 0) (j := 0) (v := rV 2 0) rfl rfl ho1 rfl hX7 (by decide) rfl fX7_12 dX7_readPart_146 (fun _ => rfl) ?_
              refine r_callV (z := 0) (k := 2) (i := 0) (As := []) (st := [iV (1 : Int32), rV 1 0]) kX9_place i_X9_place e_X9_place lX7_62 dX7_readPart_149 rfl rfl ho2 rfl rfl rfl rfl rfl (Nat.le_of_ble_eq_true rfl) ?_
              exact H
            · have H := H.2 c
              refine r_aload_n dX7_readPart_124 rfl rfl ?_
              refine r_callV (z := 0) (k := 1) (i := 0) (As := []) (st := []) kX7_takeKnot i_X7_takeKnot e_X7_takeKnot lX7_193 dX7_readPart_125 rfl rfl ho1 rfl rfl rfl rfl rfl (Nat.le_of_ble_eq_true rfl) ?_
              exact H
      · have H := H.2 c
        refine r_aload_n dX7_readPart_65 rfl rfl ?_
        refine r_dup_r dX7_readPart_66 ?_
        refine r_get (k := 1) (i := 0) (j := 9) (v := iV (σ.1 1 0 9)) rfl rfl ho1 rfl hX7 (by decide) rfl fX7_172 dX7_readPart_67 (fun _ => rfl) ?_
        refine r_iconst (v := (1 : Int32)) dX7_readPart_70 rfl ?_
        refine r_iadd dX7_readPart_71 ?_
        refine r_putI (k := 1) (i := 0) (j := 9) (ty0 := tyX7) rfl rfl ho1 rfl hX7 (by decide) rfl fX7_172 dX7_readPart_72 rfl tyX7_ok nmX7 rfl rfl rfl ?_
        refine r_aload_n dX7_readPart_75 rfl rfl ?_
        refine r_get (k := 1) (i := 0) (j := 0) (v := rV 2 0) rfl rfl ho1 rfl hX7 (by decide) rfl fX7_12 dX7_readPart_76 (fun _ => rfl) ?_
        refine r_callV (z := 0) (k := 2) (i := 0) (As := []) (st := []) kX9_advance i_X9_advance e_X9_advance lX7_72 dX7_readPart_79 rfl rfl ho2 rfl rfl rfl rfl rfl (Nat.le_of_ble_eq_true rfl) ?_
        exact H
    · have H := H.2 c
      refine r_iload_n dX7_readPart_37 rfl rfl ?_
      refine r_sipush (v := (9999 : Int32)) dX7_readPart_38 rfl ?_
      refine r_icmp_le (tgt := 59) dX7_readPart_41 (by decide) (fun c => ?_) (fun c => ?_)
      · have H := H.1 c
        refine r_iload_n dX7_readPart_59 rfl rfl ?_
        refine r_bipush (v := (25 : Int32)) dX7_readPart_60 rfl ?_
        refine r_icmp_ne (tgt := 106) dX7_readPart_62 (by decide) (fun c => ?_) (fun c => ?_)
        · have H := H.1 c
          refine r_iload_n dX7_readPart_106 rfl rfl ?_
          refine r_bipush (v := (23 : Int32)) dX7_readPart_107 rfl ?_
          refine r_icmp_eq (tgt := 124) dX7_readPart_109 (by decide) (fun c => ?_) (fun c => ?_)
          · have H := H.1 c
            refine r_aload_n dX7_readPart_124 rfl rfl ?_
            refine r_callV (z := 0) (k := 1) (i := 0) (As := []) (st := []) kX7_takeKnot i_X7_takeKnot e_X7_takeKnot lX7_193 dX7_readPart_125 rfl rfl ho1 rfl rfl rfl rfl rfl (Nat.le_of_ble_eq_true rfl) ?_
            exact H
          · have H := H.2 c
            refine r_iload_n dX7_readPart_112 rfl rfl ?_
            refine r_bipush (v := (15 : Int32)) dX7_readPart_113 rfl ?_
            refine r_icmp_lt (tgt := 143) dX7_readPart_115 (by decide) (fun c => ?_) (fun c => ?_)
            · have H := H.1 c
              refine r_aload_n dX7_readPart_143 rfl rfl ?_
              refine r_iconst (v := (1 : Int32)) dX7_readPart_144 rfl ?_
              refine r_aload_n dX7_readPart_145 rfl rfl ?_
              refine r_get (k := 1) (i := 0) (j := 0) (v := rV 2 0) rfl rfl ho1 rfl hX7 (by decide) rfl fX7_12 dX7_readPart_146 (fun _ => rfl) ?_
              refine r_callV (z := 0) (k := 2) (i := 0) (As := []) (st := [iV (1 : Int32), rV 1 0]) kX9_place i_X9_place e_X9_place lX7_62 dX7_readPart_149 rfl rfl ho2 rfl rfl rfl rfl rfl (Nat.le_of_ble_eq_true rfl) ?_
              exact H
            · have H := H.2 c
              refine r_iload_n dX7_readPart_118 rfl rfl ?_
              refine r_bipush (v := (21 : Int32)) dX7_readPart_119 rfl ?_
              refine r_icmp_gt (tgt := 143) dX7_readPart_121 (by decide) (fun c => ?_) (fun c => ?_)
              · have H := H.1 c
                refine r_aload_n dX7_readPart_143 rfl rfl ?_
                refine r_iconst (v := (1 : Int32)) dX7_readPart_144 rfl ?_
                refine r_aload_n dX7_readPart_145 rfl rfl ?_
                refine r_get (k := 1) (i := 0) (j := 0) (v := rV 2 0) rfl rfl ho1 rfl hX7 (by decide) rfl fX7_12 dX7_readPart_146 (fun _ => rfl) ?_
                refine r_callV (z := 0) (k := 2) (i := 0) (As := []) (st := [iV (1 : Int32), rV 1 0]) kX9_place i_X9_place e_X9_place lX7_62 dX7_readPart_149 rfl rfl ho2 rfl rfl rfl rfl rfl (Nat.le_of_ble_eq_true rfl) ?_
                exact H
              · have H := H.2 c
                refine r_aload_n dX7_readPart_124 rfl rfl ?_
                refine r_callV (z := 0) (k := 1) (i := 0) (As := []) (st := []) kX7_takeKnot i_X7_takeKnot e_X7_takeKnot lX7_193 dX7_readPart_125 rfl rfl ho1 rfl rfl rfl rfl rfl (Nat.le_of_ble_eq_true rfl) ?_
                exact H
        · have H := H.2 c
          refine r_aload_n dX7_readPart_65 rfl rfl ?_
          refine r_dup_r dX7_readPart_66 ?_
          refine r_get (k := 1) (i := 0) (j := 9) (v := iV (σ.1 1 0 9)) rfl rfl ho1 rfl hX7 (by decide) rfl fX7_172 dX7_readPart_67 (fun _ => rfl) ?_
          refine r_iconst (v := (1 : Int32)) dX7_readPart_70 rfl ?_
          refine r_iadd dX7_readPart_71 ?_
          refine r_putI (k := 1) (i := 0) (j := 9) (ty0 := tyX7) rfl rfl ho1 rfl hX7 (by decide) rfl fX7_172 dX7_readPart_72 rfl tyX7_ok nmX7 rfl rfl rfl ?_
          refine r_aload_n dX7_readPart_75 rfl rfl ?_
          refine r_get (k := 1) (i := 0) (j := 0) (v := rV 2 0) rfl rfl ho1 rfl hX7 (by decide) rfl fX7_12 dX7_readPart_76 (fun _ => rfl) ?_
          refine r_callV (z := 0) (k := 2) (i := 0) (As := []) (st := []) kX9_advance i_X9_advance e_X9_advance lX7_72 dX7_readPart_79 rfl rfl ho2 rfl rfl rfl rfl rfl (Nat.le_of_ble_eq_true rfl) ?_
          exact H
      · have H := H.2 c
        refine r_aload_n dX7_readPart_44 rfl rfl ?_
        refine r_iconst (v := (2 : Int32)) dX7_readPart_45 rfl ?_
        refine r_aload_n dX7_readPart_46 rfl rfl ?_
        refine r_get (k := 1) (i := 0) (j := 0) (v := rV 2 0) rfl rfl ho1 rfl hX7 (by decide) rfl fX7_12 dX7_readPart_47 (fun _ => rfl) ?_
        refine r_callV (z := 0) (k := 2) (i := 0) (As := []) (st := [iV (2 : Int32), rV 1 0]) kX9_place i_X9_place e_X9_place lX7_62 dX7_readPart_50 rfl rfl ho2 rfl rfl rfl rfl rfl (Nat.le_of_ble_eq_true rfl) ?_
        exact H
  · have H := H.2 c
    refine r_aload_n dX7_readPart_22 rfl rfl ?_
    refine r_get (k := 1) (i := 0) (j := 9) (v := iV (σ.1 1 0 9)) rfl rfl ho1 rfl hX7 (by decide) rfl fX7_172 dX7_readPart_23 (fun _ => rfl) ?_
    refine r_bipush (v := (8 : Int32)) dX7_readPart_26 rfl ?_
    refine r_icmp_ge (tgt := 44) dX7_readPart_28 (by decide) (fun c => ?_) (fun c => ?_)
    · have H := H.1 c
      refine r_aload_n dX7_readPart_44 rfl rfl ?_
      refine r_iconst (v := (2 : Int32)) dX7_readPart_45 rfl ?_
      refine r_aload_n dX7_readPart_46 rfl rfl ?_
      refine r_get (k := 1) (i := 0) (j := 0) (v := rV 2 0) rfl rfl ho1 rfl hX7 (by decide) rfl fX7_12 dX7_readPart_47 (fun _ => rfl) ?_
      refine r_callV (z := 0) (k := 2) (i := 0) (As := []) (st := [iV (2 : Int32), rV 1 0]) kX9_place i_X9_place e_X9_place lX7_62 dX7_readPart_50 rfl rfl ho2 rfl rfl rfl rfl rfl (Nat.le_of_ble_eq_true rfl) ?_
      exact H
    · have H := H.2 c
      refine r_iload_n dX7_readPart_31 rfl rfl ?_
      refine r_bipush (v := (23 : Int32)) dX7_readPart_32 rfl ?_
      refine r_icmp_ne (tgt := 59) dX7_readPart_34 (by decide) (fun c => ?_) (fun c => ?_)
      · have H := H.1 c
        refine r_iload_n dX7_readPart_59 rfl rfl ?_
        refine r_bipush (v := (25 : Int32)) dX7_readPart_60 rfl ?_
        refine r_icmp_ne (tgt := 106) dX7_readPart_62 (by decide) (fun c => ?_) (fun c => ?_)
        · have H := H.1 c
          refine r_iload_n dX7_readPart_106 rfl rfl ?_
          refine r_bipush (v := (23 : Int32)) dX7_readPart_107 rfl ?_
          refine r_icmp_eq (tgt := 124) dX7_readPart_109 (by decide) (fun c => ?_) (fun c => ?_)
          · have H := H.1 c
            refine r_aload_n dX7_readPart_124 rfl rfl ?_
            refine r_callV (z := 0) (k := 1) (i := 0) (As := []) (st := []) kX7_takeKnot i_X7_takeKnot e_X7_takeKnot lX7_193 dX7_readPart_125 rfl rfl ho1 rfl rfl rfl rfl rfl (Nat.le_of_ble_eq_true rfl) ?_
            exact H
          · have H := H.2 c
            refine r_iload_n dX7_readPart_112 rfl rfl ?_
            refine r_bipush (v := (15 : Int32)) dX7_readPart_113 rfl ?_
            refine r_icmp_lt (tgt := 143) dX7_readPart_115 (by decide) (fun c => ?_) (fun c => ?_)
            · have H := H.1 c
              refine r_aload_n dX7_readPart_143 rfl rfl ?_
              refine r_iconst (v := (1 : Int32)) dX7_readPart_144 rfl ?_
              refine r_aload_n dX7_readPart_145 rfl rfl ?_
              refine r_get (k := 1) (i := 0) (j := 0) (v := rV 2 0) rfl rfl ho1 rfl hX7 (by decide) rfl fX7_12 dX7_readPart_146 (fun _ => rfl) ?_
              refine r_callV (z := 0) (k := 2) (i := 0) (As := []) (st := [iV (1 : Int32), rV 1 0]) kX9_place i_X9_place e_X9_place lX7_62 dX7_readPart_149 rfl rfl ho2 rfl rfl rfl rfl rfl (Nat.le_of_ble_eq_true rfl) ?_
              exact H
            · have H := H.2 c
              refine r_iload_n dX7_readPart_118 rfl rfl ?_
              refine r_bipush (v := (21 : Int32)) dX7_readPart_119 rfl ?_
              refine r_icmp_gt (tgt := 143) dX7_readPart_121 (by decide) (fun c => ?_) (fun c => ?_)
              · have H := H.1 c
                refine r_aload_n dX7_readPart_143 rfl rfl ?_
                refine r_iconst (v := (1 : Int32)) dX7_readPart_144 rfl ?_
                refine r_aload_n dX7_readPart_145 rfl rfl ?_
                refine r_get (k := 1) (i := 0) (j := 0) (v := rV 2 0) rfl rfl ho1 rfl hX7 (by decide) rfl fX7_12 dX7_readPart_146 (fun _ => rfl) ?_
                refine r_callV (z := 0) (k := 2) (i := 0) (As := []) (st := [iV (1 : Int32), rV 1 0]) kX9_place i_X9_place e_X9_place lX7_62 dX7_readPart_149 rfl rfl ho2 rfl rfl rfl rfl rfl (Nat.le_of_ble_eq_true rfl) ?_
                exact H
              · have H := H.2 c
                refine r_aload_n dX7_readPart_124 rfl rfl ?_
                refine r_callV (z := 0) (k := 1) (i := 0) (As := []) (st := []) kX7_takeKnot i_X7_takeKnot e_X7_takeKnot lX7_193 dX7_readPart_125 rfl rfl ho1 rfl rfl rfl rfl rfl (Nat.le_of_ble_eq_true rfl) ?_
                exact H
        · have H := H.2 c
          refine r_aload_n dX7_readPart_65 rfl rfl ?_
          refine r_dup_r dX7_readPart_66 ?_
          refine r_get (k := 1) (i := 0) (j := 9) (v := iV (σ.1 1 0 9)) rfl rfl ho1 rfl hX7 (by decide) rfl fX7_172 dX7_readPart_67 (fun _ => rfl) ?_
          refine r_iconst (v := (1 : Int32)) dX7_readPart_70 rfl ?_
          refine r_iadd dX7_readPart_71 ?_
          refine r_putI (k := 1) (i := 0) (j := 9) (ty0 := tyX7) rfl rfl ho1 rfl hX7 (by decide) rfl fX7_172 dX7_readPart_72 rfl tyX7_ok nmX7 rfl rfl rfl ?_
          refine r_aload_n dX7_readPart_75 rfl rfl ?_
          refine r_get (k := 1) (i := 0) (j := 0) (v := rV 2 0) rfl rfl ho1 rfl hX7 (by decide) rfl fX7_12 dX7_readPart_76 (fun _ => rfl) ?_
          refine r_callV (z := 0) (k := 2) (i := 0) (As := []) (st := []) kX9_advance i_X9_advance e_X9_advance lX7_72 dX7_readPart_79 rfl rfl ho2 rfl rfl rfl rfl rfl (Nat.le_of_ble_eq_true rfl) ?_
          exact H
      · have H := H.2 c
        refine r_iload_n dX7_readPart_37 rfl rfl ?_
        refine r_sipush (v := (9999 : Int32)) dX7_readPart_38 rfl ?_
        refine r_icmp_le (tgt := 59) dX7_readPart_41 (by decide) (fun c => ?_) (fun c => ?_)
        · have H := H.1 c
          refine r_iload_n dX7_readPart_59 rfl rfl ?_
          refine r_bipush (v := (25 : Int32)) dX7_readPart_60 rfl ?_
          refine r_icmp_ne (tgt := 106) dX7_readPart_62 (by decide) (fun c => ?_) (fun c => ?_)
          · have H := H.1 c
            refine r_iload_n dX7_readPart_106 rfl rfl ?_
            refine r_bipush (v := (23 : Int32)) dX7_readPart_107 rfl ?_
            refine r_icmp_eq (tgt := 124) dX7_readPart_109 (by decide) (fun c => ?_) (fun c => ?_)
            · have H := H.1 c
              refine r_aload_n dX7_readPart_124 rfl rfl ?_
              refine r_callV (z := 0) (k := 1) (i := 0) (As := []) (st := []) kX7_takeKnot i_X7_takeKnot e_X7_takeKnot lX7_193 dX7_readPart_125 rfl rfl ho1 rfl rfl rfl rfl rfl (Nat.le_of_ble_eq_true rfl) ?_
              exact H
            · have H := H.2 c
              refine r_iload_n dX7_readPart_112 rfl rfl ?_
              refine r_bipush (v := (15 : Int32)) dX7_readPart_113 rfl ?_
              refine r_icmp_lt (tgt := 143) dX7_readPart_115 (by decide) (fun c => ?_) (fun c => ?_)
              · have H := H.1 c
                refine r_aload_n dX7_readPart_143 rfl rfl ?_
                refine r_iconst (v := (1 : Int32)) dX7_readPart_144 rfl ?_
                refine r_aload_n dX7_readPart_145 rfl rfl ?_
                refine r_get (k := 1) (i := 0) (j := 0) (v := rV 2 0) rfl rfl ho1 rfl hX7 (by decide) rfl fX7_12 dX7_readPart_146 (fun _ => rfl) ?_
                refine r_callV (z := 0) (k := 2) (i := 0) (As := []) (st := [iV (1 : Int32), rV 1 0]) kX9_place i_X9_place e_X9_place lX7_62 dX7_readPart_149 rfl rfl ho2 rfl rfl rfl rfl rfl (Nat.le_of_ble_eq_true rfl) ?_
                exact H
              · have H := H.2 c
                refine r_iload_n dX7_readPart_118 rfl rfl ?_
                refine r_bipush (v := (21 : Int32)) dX7_readPart_119 rfl ?_
                refine r_icmp_gt (tgt := 143) dX7_readPart_121 (by decide) (fun c => ?_) (fun c => ?_)
                · have H := H.1 c
                  refine r_aload_n dX7_readPart_143 rfl rfl ?_
                  refine r_iconst (v := (1 : Int32)) dX7_readPart_144 rfl ?_
                  refine r_aload_n dX7_readPart_145 rfl rfl ?_
                  refine r_get (k := 1) (i := 0) (j := 0) (v := rV 2 0) rfl rfl ho1 rfl hX7 (by decide) rfl fX7_12 dX7_readPart_146 (fun _ => rfl) ?_
                  refine r_callV (z := 0) (k := 2) (i := 0) (As := []) (st := [iV (1 : Int32), rV 1 0]) kX9_place i_X9_place e_X9_place lX7_62 dX7_readPart_149 rfl rfl ho2 rfl rfl rfl rfl rfl (Nat.le_of_ble_eq_true rfl) ?_
                  exact H
                · have H := H.2 c
                  refine r_aload_n dX7_readPart_124 rfl rfl ?_
                  refine r_callV (z := 0) (k := 1) (i := 0) (As := []) (st := []) kX7_takeKnot i_X7_takeKnot e_X7_takeKnot lX7_193 dX7_readPart_125 rfl rfl ho1 rfl rfl rfl rfl rfl (Nat.le_of_ble_eq_true rfl) ?_
                  exact H
          · have H := H.2 c
            refine r_aload_n dX7_readPart_65 rfl rfl ?_
            refine r_dup_r dX7_readPart_66 ?_
            refine r_get (k := 1) (i := 0) (j := 9) (v := iV (σ.1 1 0 9)) rfl rfl ho1 rfl hX7 (by decide) rfl fX7_172 dX7_readPart_67 (fun _ => rfl) ?_
            refine r_iconst (v := (1 : Int32)) dX7_readPart_70 rfl ?_
            refine r_iadd dX7_readPart_71 ?_
            refine r_putI (k := 1) (i := 0) (j := 9) (ty0 := tyX7) rfl rfl ho1 rfl hX7 (by decide) rfl fX7_172 dX7_readPart_72 rfl tyX7_ok nmX7 rfl rfl rfl ?_
            refine r_aload_n dX7_readPart_75 rfl rfl ?_
            refine r_get (k := 1) (i := 0) (j := 0) (v := rV 2 0) rfl rfl ho1 rfl hX7 (by decide) rfl fX7_12 dX7_readPart_76 (fun _ => rfl) ?_
            refine r_callV (z := 0) (k := 2) (i := 0) (As := []) (st := []) kX9_advance i_X9_advance e_X9_advance lX7_72 dX7_readPart_79 rfl rfl ho2 rfl rfl rfl rfl rfl (Nat.le_of_ble_eq_true rfl) ?_
            exact H
        · have H := H.2 c
          refine r_aload_n dX7_readPart_44 rfl rfl ?_
          refine r_iconst (v := (2 : Int32)) dX7_readPart_45 rfl ?_
          refine r_aload_n dX7_readPart_46 rfl rfl ?_
          refine r_get (k := 1) (i := 0) (j := 0) (v := rV 2 0) rfl rfl ho1 rfl hX7 (by decide) rfl fX7_12 dX7_readPart_47 (fun _ => rfl) ?_
          refine r_callV (z := 0) (k := 2) (i := 0) (As := []) (st := [iV (2 : Int32), rV 1 0]) kX9_place i_X9_place e_X9_place lX7_62 dX7_readPart_50 rfl rfl ho2 rfl rfl rfl rfl rfl (Nat.le_of_ble_eq_true rfl) ?_
          exact H
set_option maxRecDepth 100000 in
theorem bX7_readPart_53 {d : Nat} {Q : Option MV → MS → Prop} {x1 : Int32} {x2 : Int32} {s0 : Int32} {s1 : Int32} {σ : MS}  (H : (R mj_OC d mX7_fail (fun r σ' => R mj_OC (d + 1) mX7_readPart Q 56 [some (rV 1 0), some (iV x1), some (iV x2)] (r.toList ++ []) σ') 0 [some (rV 1 0), some (iV s1), some (iV s0)] [] σ)) : R mj_OC (d + 1) mX7_readPart Q 53 [some (rV 1 0), some (iV x1), some (iV x2)] [iV s0, iV s1, rV 1 0] σ := by
  refine r_callV (z := 0) (k := 1) (i := 0) (As := [iV s1, iV s0]) (st := []) kX7_fail i_X7_fail e_X7_fail lX7_64 dX7_readPart_53 rfl rfl ho1 rfl rfl rfl rfl rfl (Nat.le_of_ble_eq_true rfl) ?_
  exact H
set_option maxRecDepth 100000 in
theorem bX7_readPart_56 {d : Nat} {Q : Option MV → MS → Prop} {x1 : Int32} {x2 : Int32} {σ : MS}  (H : Q none σ) : R mj_OC d mX7_readPart Q 56 [some (rV 1 0), some (iV x1), some (iV x2)] [] σ := by
  refine r_goto (tgt := 155) dX7_readPart_56 (by decide) ?_
  exact r_vret dX7_readPart_155 rfl H
set_option maxRecDepth 100000 in
theorem bX7_readPart_82 {d : Nat} {Q : Option MV → MS → Prop} {x1 : Int32} {x2 : Int32} {σ : MS}  (H : (R mj_OC d mX7_readRanked (fun r σ' => R mj_OC (d + 1) mX7_readPart Q 87 [some (rV 1 0), some (iV x1), some (iV x2)] (r.toList ++ []) σ') 0 [some (rV 1 0), some (iV (0 : Int32)), none, none, none] [] σ)) : R mj_OC (d + 1) mX7_readPart Q 82 [some (rV 1 0), some (iV x1), some (iV x2)] [] σ := by
  refine r_aload_n dX7_readPart_82 rfl rfl ?_
  refine r_iconst (v := (0 : Int32)) dX7_readPart_83 rfl ?_
  refine r_callV (z := 3) (k := 1) (i := 0) (As := [iV (0 : Int32)]) (st := []) kX7_readRanked i_X7_readRanked e_X7_readRanked lX7_178 dX7_readPart_84 rfl rfl ho1 rfl rfl rfl rfl rfl (Nat.le_of_ble_eq_true rfl) ?_
  exact H
set_option maxRecDepth 100000 in
theorem bX7_readPart_87 {d : Nat} {Q : Option MV → MS → Prop} {x1 : Int32} {x2 : Int32} {σ : MS}  (H : (R mj_OC d mX7_take (fun r σ' => R mj_OC (d + 1) mX7_readPart Q 93 [some (rV 1 0), some (iV x1), some (iV x2)] (r.toList ++ []) σ') 0 [some (rV 1 0), some (iV (26 : Int32))] [] σ)) : R mj_OC (d + 1) mX7_readPart Q 87 [some (rV 1 0), some (iV x1), some (iV x2)] [] σ := by
  refine r_aload_n dX7_readPart_87 rfl rfl ?_
  refine r_bipush (v := (26 : Int32)) dX7_readPart_88 rfl ?_
  refine r_callV (z := 0) (k := 1) (i := 0) (As := [iV (26 : Int32)]) (st := []) kX7_take i_X7_take e_X7_take lX7_102 dX7_readPart_90 rfl rfl ho1 rfl rfl rfl rfl rfl (Nat.le_of_ble_eq_true rfl) ?_
  exact H
set_option maxRecDepth 100000 in
theorem bX7_readPart_93 {d : Nat} {Q : Option MV → MS → Prop} {x1 : Int32} {x2 : Int32} {σ : MS}  (H : Q none (uI σ 1 0 9 ((σ.1 1 0 9) - (1 : Int32)))) : R mj_OC d mX7_readPart Q 93 [some (rV 1 0), some (iV x1), some (iV x2)] [] σ := by
  refine r_aload_n dX7_readPart_93 rfl rfl ?_
  refine r_dup_r dX7_readPart_94 ?_
  refine r_get (k := 1) (i := 0) (j := 9) (v := iV (σ.1 1 0 9)) rfl rfl ho1 rfl hX7 (by decide) rfl fX7_172 dX7_readPart_95 (fun _ => rfl) ?_
  refine r_iconst (v := (1 : Int32)) dX7_readPart_98 rfl ?_
  refine r_isub dX7_readPart_99 ?_
  refine r_putI (k := 1) (i := 0) (j := 9) (ty0 := tyX7) rfl rfl ho1 rfl hX7 (by decide) rfl fX7_172 dX7_readPart_100 rfl tyX7_ok nmX7 rfl rfl rfl ?_
  refine r_goto (tgt := 155) dX7_readPart_103 (by decide) ?_
  exact r_vret dX7_readPart_155 rfl H
set_option maxRecDepth 100000 in
theorem bX7_readPart_128 {d : Nat} {Q : Option MV → MS → Prop} {x1 : Int32} {x2 : Int32} {σ : MS}  (H : (σ.2.2 1 0 < 2 ∧ (R mj_OC d mX3_add (fun r σ' => R mj_OC (d + 1) mX7_readPart Q 140 [some (rV 1 0), some (iV x1), some (iV x2)] (r.toList ++ []) σ') 0 [some (rV 5 (σ.2.2 1 0)), some (iV x1), some (iV x2)] [] σ))) : R mj_OC (d + 1) mX7_readPart Q 128 [some (rV 1 0), some (iV x1), some (iV x2)] [] σ := by
  refine r_aload_n dX7_readPart_128 rfl rfl ?_
  refine r_get (k := 1) (i := 0) (j := 1) (v := rV 3 (σ.2.2 1 0)) rfl rfl ho1 rfl hX7 (by decide) rfl fX7_21 dX7_readPart_129 (fun _ => rfl) ?_
  obtain ⟨q1, H⟩ := H
  refine r_get (k := 3) (i := (σ.2.2 1 0)) (j := 15) (v := rV 5 (σ.2.2 1 0)) rfl rfl (ho3 q1) rfl hX0 (by decide) rfl fX7_163 dX7_readPart_132 (fun _ => rfl) ?_
  refine r_iload_n dX7_readPart_135 rfl rfl ?_
  refine r_iload_n dX7_readPart_136 rfl rfl ?_
  refine r_callV (z := 0) (k := 5) (i := (σ.2.2 1 0)) (As := [iV x1, iV x2]) (st := []) kX3_add i_X3_add e_X3_add lX7_196 dX7_readPart_137 rfl rfl (ho5 q1) rfl rfl rfl rfl rfl (Nat.le_of_ble_eq_true rfl) ?_
  exact H
set_option maxRecDepth 100000 in
theorem bX7_readPart_140 {d : Nat} {Q : Option MV → MS → Prop} {x1 : Int32} {x2 : Int32} {σ : MS}  (H : Q none σ) : R mj_OC d mX7_readPart Q 140 [some (rV 1 0), some (iV x1), some (iV x2)] [] σ := by
  refine r_goto (tgt := 155) dX7_readPart_140 (by decide) ?_
  exact r_vret dX7_readPart_155 rfl H
set_option maxRecDepth 100000 in
theorem bX7_readPart_152 {d : Nat} {Q : Option MV → MS → Prop} {x1 : Int32} {x2 : Int32} {s0 : Int32} {s1 : Int32} {σ : MS}  (H : (R mj_OC d mX7_fail (fun r σ' => R mj_OC (d + 1) mX7_readPart Q 155 [some (rV 1 0), some (iV x1), some (iV x2)] (r.toList ++ []) σ') 0 [some (rV 1 0), some (iV s1), some (iV s0)] [] σ)) : R mj_OC (d + 1) mX7_readPart Q 152 [some (rV 1 0), some (iV x1), some (iV x2)] [iV s0, iV s1, rV 1 0] σ := by
  refine r_callV (z := 0) (k := 1) (i := 0) (As := [iV s1, iV s0]) (st := []) kX7_fail i_X7_fail e_X7_fail lX7_64 dX7_readPart_152 rfl rfl ho1 rfl rfl rfl rfl rfl (Nat.le_of_ble_eq_true rfl) ?_
  exact H
set_option maxRecDepth 100000 in
theorem bX7_readPart_155 {d : Nat} {Q : Option MV → MS → Prop} {x1 : Int32} {x2 : Int32} {σ : MS}  (H : Q none σ) : R mj_OC d mX7_readPart Q 155 [some (rV 1 0), some (iV x1), some (iV x2)] [] σ := by
  exact r_vret dX7_readPart_155 rfl H
set_option maxRecDepth 100000 in
theorem bX7_takeKnot_0 {d : Nat} {Q : Option MV → MS → Prop}  {σ : MS}  (H : (((σ.1 1 0 2) = 0 → (((σ.1 1 0 8) < (64 : Int32) → (R mj_OC d mX9_advance (fun r σ' => R mj_OC (d + 1) mX7_takeKnot Q 47 [some (rV 1 0)] (r.toList ++ []) σ') 0 [some (rV 2 0)] [] (uI σ 1 0 8 ((σ.1 1 0 8) + (1 : Int32))))) ∧ (¬ (σ.1 1 0 8) < (64 : Int32) → (R mj_OC d mX9_place (fun r σ' => R mj_OC (d + 1) mX7_takeKnot Q 26 [some (rV 1 0)] (r.toList ++ [iV (2 : Int32), rV 1 0]) σ') 0 [some (rV 2 0)] [] σ)))) ∧ (¬ (σ.1 1 0 2) = 0 → Q none σ))) : R mj_OC (d + 1) mX7_takeKnot Q 0 [some (rV 1 0)] [] σ := by
  refine r_aload_n dX7_takeKnot_0 rfl rfl ?_
  refine r_get (k := 1) (i := 0) (j := 2) (v := iV (σ.1 1 0 2)) rfl rfl ho1 rfl hX7 (by decide) rfl fX7_29 dX7_takeKnot_1 (fun _ => rfl) ?_
  refine r_if_eq (tgt := 8) dX7_takeKnot_4 (by decide) (fun c => ?_) (fun c => ?_)
  · have H := H.1 c
    refine r_aload_n dX7_takeKnot_8 rfl rfl ?_
    refine r_get (k := 1) (i := 0) (j := 8) (v := iV (σ.1 1 0 8)) rfl rfl ho1 rfl hX7 (by decide) rfl fX7_45 dX7_takeKnot_9 (fun _ => rfl) ?_
    refine r_bipush (v := (64 : Int32)) dX7_takeKnot_12 rfl ?_
    refine r_icmp_lt (tgt := 30) dX7_takeKnot_14 (by decide) (fun c => ?_) (fun c => ?_)
    · have H := H.1 c
      refine r_aload_n dX7_takeKnot_30 rfl rfl ?_
      refine r_dup_r dX7_takeKnot_31 ?_
      refine r_get (k := 1) (i := 0) (j := 8) (v := iV (σ.1 1 0 8)) rfl rfl ho1 rfl hX7 (by decide) rfl fX7_45 dX7_takeKnot_32 (fun _ => rfl) ?_
      refine r_iconst (v := (1 : Int32)) dX7_takeKnot_35 rfl ?_
      refine r_iadd dX7_takeKnot_36 ?_
      refine r_putI (k := 1) (i := 0) (j := 8) (ty0 := tyX7) rfl rfl ho1 rfl hX7 (by decide) rfl fX7_45 dX7_takeKnot_37 rfl tyX7_ok nmX7 rfl rfl rfl ?_
      refine r_aload_n dX7_takeKnot_40 rfl rfl ?_
      refine r_get (k := 1) (i := 0) (j := 0) (v := rV 2 0) rfl rfl ho1 rfl hX7 (by decide) rfl fX7_12 dX7_takeKnot_41 (fun _ => rfl) ?_
      refine r_callV (z := 0) (k := 2) (i := 0) (As := []) (st := []) kX9_advance i_X9_advance e_X9_advance lX7_72 dX7_takeKnot_44 rfl rfl ho2 rfl rfl rfl rfl rfl (Nat.le_of_ble_eq_true rfl) ?_
      exact H
    · have H := H.2 c
      refine r_aload_n dX7_takeKnot_17 rfl rfl ?_
      refine r_iconst (v := (2 : Int32)) dX7_takeKnot_18 rfl ?_
      refine r_aload_n dX7_takeKnot_19 rfl rfl ?_
      refine r_get (k := 1) (i := 0) (j := 0) (v := rV 2 0) rfl rfl ho1 rfl hX7 (by decide) rfl fX7_12 dX7_takeKnot_20 (fun _ => rfl) ?_
      refine r_callV (z := 0) (k := 2) (i := 0) (As := []) (st := [iV (2 : Int32), rV 1 0]) kX9_place i_X9_place e_X9_place lX7_62 dX7_takeKnot_23 rfl rfl ho2 rfl rfl rfl rfl rfl (Nat.le_of_ble_eq_true rfl) ?_
      exact H
  · have H := H.2 c
    exact r_vret dX7_takeKnot_7 rfl H
set_option maxRecDepth 100000 in
theorem bX7_takeKnot_26 {d : Nat} {Q : Option MV → MS → Prop} {s0 : Int32} {s1 : Int32} {σ : MS}  (H : (R mj_OC d mX7_fail (fun r σ' => R mj_OC (d + 1) mX7_takeKnot Q 29 [some (rV 1 0)] (r.toList ++ []) σ') 0 [some (rV 1 0), some (iV s1), some (iV s0)] [] σ)) : R mj_OC (d + 1) mX7_takeKnot Q 26 [some (rV 1 0)] [iV s0, iV s1, rV 1 0] σ := by
  refine r_callV (z := 0) (k := 1) (i := 0) (As := [iV s1, iV s0]) (st := []) kX7_fail i_X7_fail e_X7_fail lX7_64 dX7_takeKnot_26 rfl rfl ho1 rfl rfl rfl rfl rfl (Nat.le_of_ble_eq_true rfl) ?_
  exact H
set_option maxRecDepth 100000 in
theorem bX7_takeKnot_29 {d : Nat} {Q : Option MV → MS → Prop}  {σ : MS}  (H : Q none σ) : R mj_OC d mX7_takeKnot Q 29 [some (rV 1 0)] [] σ := by
  exact r_vret dX7_takeKnot_29 rfl H
set_option maxRecDepth 100000 in
theorem bX7_takeKnot_47 {d : Nat} {Q : Option MV → MS → Prop}  {σ : MS}  (H : Q none σ) : R mj_OC d mX7_takeKnot Q 47 [some (rV 1 0)] [] σ := by
  exact r_vret dX7_takeKnot_47 rfl H
set_option maxRecDepth 100000 in
theorem bX7_take_0 {d : Nat} {Q : Option MV → MS → Prop} {x1 : Int32} {σ : MS}  (H : (((σ.1 1 0 2) = 0 → (R mj_OC d mX9_kind (fun r σ' => R mj_OC (d + 1) mX7_take Q 15 [some (rV 1 0), some (iV x1)] (r.toList ++ []) σ') 0 [some (rV 2 0)] [] σ)) ∧ (¬ (σ.1 1 0 2) = 0 → Q none σ))) : R mj_OC (d + 1) mX7_take Q 0 [some (rV 1 0), some (iV x1)] [] σ := by
  refine r_aload_n dX7_take_0 rfl rfl ?_
  refine r_get (k := 1) (i := 0) (j := 2) (v := iV (σ.1 1 0 2)) rfl rfl ho1 rfl hX7 (by decide) rfl fX7_29 dX7_take_1 (fun _ => rfl) ?_
  refine r_if_eq (tgt := 8) dX7_take_4 (by decide) (fun c => ?_) (fun c => ?_)
  · have H := H.1 c
    refine r_aload_n dX7_take_8 rfl rfl ?_
    refine r_get (k := 1) (i := 0) (j := 0) (v := rV 2 0) rfl rfl ho1 rfl hX7 (by decide) rfl fX7_12 dX7_take_9 (fun _ => rfl) ?_
    refine r_callV (z := 0) (k := 2) (i := 0) (As := []) (st := []) kX9_kind i_X9_kind e_X9_kind lX7_55 dX7_take_12 rfl rfl ho2 rfl rfl rfl rfl rfl (Nat.le_of_ble_eq_true rfl) ?_
    exact H
  · have H := H.2 c
    exact r_vret dX7_take_7 rfl H
set_option maxRecDepth 100000 in
theorem bX7_take_15 {d : Nat} {Q : Option MV → MS → Prop} {x1 : Int32} {s0 : Int32} {σ : MS}  (H : ((s0 = x1 → (R mj_OC d mX9_advance (fun r σ' => R mj_OC (d + 1) mX7_take Q 39 [some (rV 1 0), some (iV x1)] (r.toList ++ []) σ') 0 [some (rV 2 0)] [] σ)) ∧ (¬ s0 = x1 → (R mj_OC d mX9_place (fun r σ' => R mj_OC (d + 1) mX7_take Q 28 [some (rV 1 0), some (iV x1)] (r.toList ++ [iV (1 : Int32), rV 1 0]) σ') 0 [some (rV 2 0)] [] σ)))) : R mj_OC (d + 1) mX7_take Q 15 [some (rV 1 0), some (iV x1)] [iV s0] σ := by
  refine r_iload_n dX7_take_15 rfl rfl ?_
  refine r_icmp_eq (tgt := 32) dX7_take_16 (by decide) (fun c => ?_) (fun c => ?_)
  · have H := H.1 c
    refine r_aload_n dX7_take_32 rfl rfl ?_
    refine r_get (k := 1) (i := 0) (j := 0) (v := rV 2 0) rfl rfl ho1 rfl hX7 (by decide) rfl fX7_12 dX7_take_33 (fun _ => rfl) ?_
    refine r_callV (z := 0) (k := 2) (i := 0) (As := []) (st := []) kX9_advance i_X9_advance e_X9_advance lX7_72 dX7_take_36 rfl rfl ho2 rfl rfl rfl rfl rfl (Nat.le_of_ble_eq_true rfl) ?_
    exact H
  · have H := H.2 c
    refine r_aload_n dX7_take_19 rfl rfl ?_
    refine r_iconst (v := (1 : Int32)) dX7_take_20 rfl ?_
    refine r_aload_n dX7_take_21 rfl rfl ?_
    refine r_get (k := 1) (i := 0) (j := 0) (v := rV 2 0) rfl rfl ho1 rfl hX7 (by decide) rfl fX7_12 dX7_take_22 (fun _ => rfl) ?_
    refine r_callV (z := 0) (k := 2) (i := 0) (As := []) (st := [iV (1 : Int32), rV 1 0]) kX9_place i_X9_place e_X9_place lX7_62 dX7_take_25 rfl rfl ho2 rfl rfl rfl rfl rfl (Nat.le_of_ble_eq_true rfl) ?_
    exact H
set_option maxRecDepth 100000 in
theorem bX7_take_28 {d : Nat} {Q : Option MV → MS → Prop} {x1 : Int32} {s0 : Int32} {s1 : Int32} {σ : MS}  (H : (R mj_OC d mX7_fail (fun r σ' => R mj_OC (d + 1) mX7_take Q 31 [some (rV 1 0), some (iV x1)] (r.toList ++ []) σ') 0 [some (rV 1 0), some (iV s1), some (iV s0)] [] σ)) : R mj_OC (d + 1) mX7_take Q 28 [some (rV 1 0), some (iV x1)] [iV s0, iV s1, rV 1 0] σ := by
  refine r_callV (z := 0) (k := 1) (i := 0) (As := [iV s1, iV s0]) (st := []) kX7_fail i_X7_fail e_X7_fail lX7_64 dX7_take_28 rfl rfl ho1 rfl rfl rfl rfl rfl (Nat.le_of_ble_eq_true rfl) ?_
  exact H
set_option maxRecDepth 100000 in
theorem bX7_take_31 {d : Nat} {Q : Option MV → MS → Prop} {x1 : Int32} {σ : MS}  (H : Q none σ) : R mj_OC d mX7_take Q 31 [some (rV 1 0), some (iV x1)] [] σ := by
  exact r_vret dX7_take_31 rfl H
set_option maxRecDepth 100000 in
theorem bX7_take_39 {d : Nat} {Q : Option MV → MS → Prop} {x1 : Int32} {σ : MS}  (H : Q none σ) : R mj_OC d mX7_take Q 39 [some (rV 1 0), some (iV x1)] [] σ := by
  exact r_vret dX7_take_39 rfl H
set_option maxRecDepth 100000 in
theorem bX7_number_0 {d : Nat} {Q : Option MV → MS → Prop} {x1 : Int32} {x2 : Int32} {σ : MS}  (H : (R mj_OC d mX9_place (fun r σ' => R mj_OC (d + 1) mX7_number Q 7 [some (rV 1 0), some (iV x1), some (iV x2), none, none] (r.toList ++ []) σ') 0 [some (rV 2 0)] [] σ)) : R mj_OC (d + 1) mX7_number Q 0 [some (rV 1 0), some (iV x1), some (iV x2), none, none] [] σ := by
  refine r_aload_n dX7_number_0 rfl rfl ?_
  refine r_get (k := 1) (i := 0) (j := 0) (v := rV 2 0) rfl rfl ho1 rfl hX7 (by decide) rfl fX7_12 dX7_number_1 (fun _ => rfl) ?_
  refine r_callV (z := 0) (k := 2) (i := 0) (As := []) (st := []) kX9_place i_X9_place e_X9_place lX7_62 dX7_number_4 rfl rfl ho2 rfl rfl rfl rfl rfl (Nat.le_of_ble_eq_true rfl) ?_
  exact H
set_option maxRecDepth 100000 in
theorem bX7_number_7 {d : Nat} {Q : Option MV → MS → Prop} {x1 : Int32} {x2 : Int32} {s0 : Int32} {σ : MS}  (H : (R mj_OC d mX9_value (fun r σ' => R mj_OC (d + 1) mX7_number Q 15 [some (rV 1 0), some (iV x1), some (iV x2), some (iV s0), none] (r.toList ++ []) σ') 0 [some (rV 2 0)] [] σ)) : R mj_OC (d + 1) mX7_number Q 7 [some (rV 1 0), some (iV x1), some (iV x2), none, none] [iV s0] σ := by
  refine r_istore_n dX7_number_7 rfl (by decide) rfl ?_
  refine r_aload_n dX7_number_8 rfl rfl ?_
  refine r_get (k := 1) (i := 0) (j := 0) (v := rV 2 0) rfl rfl ho1 rfl hX7 (by decide) rfl fX7_12 dX7_number_9 (fun _ => rfl) ?_
  refine r_callV (z := 0) (k := 2) (i := 0) (As := []) (st := []) kX9_value i_X9_value e_X9_value lX7_198 dX7_number_12 rfl rfl ho2 rfl rfl rfl rfl rfl (Nat.le_of_ble_eq_true rfl) ?_
  exact H
set_option maxRecDepth 100000 in
theorem bX7_number_15 {d : Nat} {Q : Option MV → MS → Prop} {x1 : Int32} {x2 : Int32} {x3 : Int32} {s0 : Int32} {σ : MS}  (H : (R mj_OC d mX7_take (fun r σ' => R mj_OC (d + 1) mX7_number Q 23 [some (rV 1 0), some (iV x1), some (iV x2), some (iV x3), some (iV s0)] (r.toList ++ []) σ') 0 [some (rV 1 0), some (iV (23 : Int32))] [] σ)) : R mj_OC (d + 1) mX7_number Q 15 [some (rV 1 0), some (iV x1), some (iV x2), some (iV x3), none] [iV s0] σ := by
  refine r_istore dX7_number_15 (by decide) rfl ?_
  refine r_aload_n dX7_number_17 rfl rfl ?_
  refine r_bipush (v := (23 : Int32)) dX7_number_18 rfl ?_
  refine r_callV (z := 0) (k := 1) (i := 0) (As := [iV (23 : Int32)]) (st := []) kX7_take i_X7_take e_X7_take lX7_102 dX7_number_20 rfl rfl ho1 rfl rfl rfl rfl rfl (Nat.le_of_ble_eq_true rfl) ?_
  exact H
set_option maxRecDepth 100000 in
theorem bX7_number_23 {d : Nat} {Q : Option MV → MS → Prop} {x1 : Int32} {x2 : Int32} {x3 : Int32} {x4 : Int32} {σ : MS}  (H : ((x4 < x1 → (R mj_OC d mX7_fail (fun r σ' => R mj_OC (d + 1) mX7_number Q 41 [some (rV 1 0), some (iV x1), some (iV x2), some (iV x3), some (iV x4)] (r.toList ++ []) σ') 0 [some (rV 1 0), some (iV (2 : Int32)), some (iV x3)] [] σ)) ∧ (¬ x4 < x1 → ((x4 ≤ x2 → ((¬ (σ.1 1 0 2) = 0 → Q (some (iV (0 : Int32))) σ) ∧ ((σ.1 1 0 2) = 0 → Q (some (iV x4)) σ))) ∧ (¬ x4 ≤ x2 → (R mj_OC d mX7_fail (fun r σ' => R mj_OC (d + 1) mX7_number Q 41 [some (rV 1 0), some (iV x1), some (iV x2), some (iV x3), some (iV x4)] (r.toList ++ []) σ') 0 [some (rV 1 0), some (iV (2 : Int32)), some (iV x3)] [] σ)))))) : R mj_OC (d + 1) mX7_number Q 23 [some (rV 1 0), some (iV x1), some (iV x2), some (iV x3), some (iV x4)] [] σ := by
  refine r_iload dX7_number_23 rfl ?_
  refine r_iload_n dX7_number_25 rfl rfl ?_
  refine r_icmp_lt (tgt := 35) dX7_number_26 (by decide) (fun c => ?_) (fun c => ?_)
  · have H := H.1 c
    refine r_aload_n dX7_number_35 rfl rfl ?_
    refine r_iconst (v := (2 : Int32)) dX7_number_36 rfl ?_
    refine r_iload_n dX7_number_37 rfl rfl ?_
    refine r_callV (z := 0) (k := 1) (i := 0) (As := [iV (2 : Int32), iV x3]) (st := []) kX7_fail i_X7_fail e_X7_fail lX7_64 dX7_number_38 rfl rfl ho1 rfl rfl rfl rfl rfl (Nat.le_of_ble_eq_true rfl) ?_
    exact H
  · have H := H.2 c
    refine r_iload dX7_number_29 rfl ?_
    refine r_iload_n dX7_number_31 rfl rfl ?_
    refine r_icmp_le (tgt := 41) dX7_number_32 (by decide) (fun c => ?_) (fun c => ?_)
    · have H := H.1 c
      refine r_aload_n dX7_number_41 rfl rfl ?_
      refine r_get (k := 1) (i := 0) (j := 2) (v := iV (σ.1 1 0 2)) rfl rfl ho1 rfl hX7 (by decide) rfl fX7_29 dX7_number_42 (fun _ => rfl) ?_
      refine r_if_ne (tgt := 53) dX7_number_45 (by decide) (fun c => ?_) (fun c => ?_)
      · have H := H.1 c
        refine r_iconst (v := (0 : Int32)) dX7_number_53 rfl ?_
        exact r_iret dX7_number_54 rfl H
      · have H := H.2 c
        refine r_iload dX7_number_48 rfl ?_
        refine r_goto (tgt := 54) dX7_number_50 (by decide) ?_
        exact r_iret dX7_number_54 rfl H
    · have H := H.2 c
      refine r_aload_n dX7_number_35 rfl rfl ?_
      refine r_iconst (v := (2 : Int32)) dX7_number_36 rfl ?_
      refine r_iload_n dX7_number_37 rfl rfl ?_
      refine r_callV (z := 0) (k := 1) (i := 0) (As := [iV (2 : Int32), iV x3]) (st := []) kX7_fail i_X7_fail e_X7_fail lX7_64 dX7_number_38 rfl rfl ho1 rfl rfl rfl rfl rfl (Nat.le_of_ble_eq_true rfl) ?_
      exact H
set_option maxRecDepth 100000 in
theorem bX7_number_41 {d : Nat} {Q : Option MV → MS → Prop} {x1 : Int32} {x2 : Int32} {x3 : Int32} {x4 : Int32} {σ : MS}  (H : ((¬ (σ.1 1 0 2) = 0 → Q (some (iV (0 : Int32))) σ) ∧ ((σ.1 1 0 2) = 0 → Q (some (iV x4)) σ))) : R mj_OC d mX7_number Q 41 [some (rV 1 0), some (iV x1), some (iV x2), some (iV x3), some (iV x4)] [] σ := by
  refine r_aload_n dX7_number_41 rfl rfl ?_
  refine r_get (k := 1) (i := 0) (j := 2) (v := iV (σ.1 1 0 2)) rfl rfl ho1 rfl hX7 (by decide) rfl fX7_29 dX7_number_42 (fun _ => rfl) ?_
  refine r_if_ne (tgt := 53) dX7_number_45 (by decide) (fun c => ?_) (fun c => ?_)
  · have H := H.1 c
    refine r_iconst (v := (0 : Int32)) dX7_number_53 rfl ?_
    exact r_iret dX7_number_54 rfl H
  · have H := H.2 c
    refine r_iload dX7_number_48 rfl ?_
    refine r_goto (tgt := 54) dX7_number_50 (by decide) ?_
    exact r_iret dX7_number_54 rfl H
set_option maxRecDepth 100000 in
theorem bX7_ownWord_0 {d : Nat} {Q : Option MV → MS → Prop}  {σ : MS}  (H : (R mj_OC d mX9_value (fun r σ' => R mj_OC (d + 1) mX7_ownWord Q 7 [some (rV 1 0), none] (r.toList ++ []) σ') 0 [some (rV 2 0)] [] σ)) : R mj_OC (d + 1) mX7_ownWord Q 0 [some (rV 1 0), none] [] σ := by
  refine r_aload_n dX7_ownWord_0 rfl rfl ?_
  refine r_get (k := 1) (i := 0) (j := 0) (v := rV 2 0) rfl rfl ho1 rfl hX7 (by decide) rfl fX7_12 dX7_ownWord_1 (fun _ => rfl) ?_
  refine r_callV (z := 0) (k := 2) (i := 0) (As := []) (st := []) kX9_value i_X9_value e_X9_value lX7_198 dX7_ownWord_4 rfl rfl ho2 rfl rfl rfl rfl rfl (Nat.le_of_ble_eq_true rfl) ?_
  exact H
set_option maxRecDepth 100000 in
theorem bX7_ownWord_7 {d : Nat} {Q : Option MV → MS → Prop} {s0 : Int32} {σ : MS}  (H : (R mj_OC d mX7_take (fun r σ' => R mj_OC (d + 1) mX7_ownWord Q 14 [some (rV 1 0), some (iV s0)] (r.toList ++ []) σ') 0 [some (rV 1 0), some (iV (22 : Int32))] [] σ)) : R mj_OC (d + 1) mX7_ownWord Q 7 [some (rV 1 0), none] [iV s0] σ := by
  refine r_istore_n dX7_ownWord_7 rfl (by decide) rfl ?_
  refine r_aload_n dX7_ownWord_8 rfl rfl ?_
  refine r_bipush (v := (22 : Int32)) dX7_ownWord_9 rfl ?_
  refine r_callV (z := 0) (k := 1) (i := 0) (As := [iV (22 : Int32)]) (st := []) kX7_take i_X7_take e_X7_take lX7_102 dX7_ownWord_11 rfl rfl ho1 rfl rfl rfl rfl rfl (Nat.le_of_ble_eq_true rfl) ?_
  exact H
set_option maxRecDepth 100000 in
theorem bX7_ownWord_14 {d : Nat} {Q : Option MV → MS → Prop} {x1 : Int32} {σ : MS}  (H : ((¬ (σ.1 1 0 2) = 0 → Q (some (iV (0 : Int32))) σ) ∧ ((σ.1 1 0 2) = 0 → Q (some (iV x1)) σ))) : R mj_OC d mX7_ownWord Q 14 [some (rV 1 0), some (iV x1)] [] σ := by
  refine r_aload_n dX7_ownWord_14 rfl rfl ?_
  refine r_get (k := 1) (i := 0) (j := 2) (v := iV (σ.1 1 0 2)) rfl rfl ho1 rfl hX7 (by decide) rfl fX7_29 dX7_ownWord_15 (fun _ => rfl) ?_
  refine r_if_ne (tgt := 25) dX7_ownWord_18 (by decide) (fun c => ?_) (fun c => ?_)
  · have H := H.1 c
    refine r_iconst (v := (0 : Int32)) dX7_ownWord_25 rfl ?_
    exact r_iret dX7_ownWord_26 rfl H
  · have H := H.2 c
    refine r_iload_n dX7_ownWord_21 rfl rfl ?_
    refine r_goto (tgt := 26) dX7_ownWord_22 (by decide) ?_
    exact r_iret dX7_ownWord_26 rfl H
set_option maxRecDepth 100000 in
theorem bX7_toldPond_0 {d : Nat} {Q : Option MV → MS → Prop}  {σ : MS}  (H : (R mj_OC d mX9_place (fun r σ' => R mj_OC (d + 1) mX7_toldPond Q 7 [some (rV 1 0), none, none] (r.toList ++ []) σ') 0 [some (rV 2 0)] [] σ)) : R mj_OC (d + 1) mX7_toldPond Q 0 [some (rV 1 0), none, none] [] σ := by
  refine r_aload_n dX7_toldPond_0 rfl rfl ?_
  refine r_get (k := 1) (i := 0) (j := 0) (v := rV 2 0) rfl rfl ho1 rfl hX7 (by decide) rfl fX7_12 dX7_toldPond_1 (fun _ => rfl) ?_
  refine r_callV (z := 0) (k := 2) (i := 0) (As := []) (st := []) kX9_place i_X9_place e_X9_place lX7_62 dX7_toldPond_4 rfl rfl ho2 rfl rfl rfl rfl rfl (Nat.le_of_ble_eq_true rfl) ?_
  exact H
set_option maxRecDepth 100000 in
theorem bX7_toldPond_7 {d : Nat} {Q : Option MV → MS → Prop} {s0 : Int32} {σ : MS}  (H : (R mj_OC d mX7_ownWord (fun r σ' => R mj_OC (d + 1) mX7_toldPond Q 16 [some (rV 1 0), some (iV s0), none] (r.toList ++ [rV 3 (σ.2.2 1 0)]) σ') 0 [some (rV 1 0), none] [] σ)) : R mj_OC (d + 1) mX7_toldPond Q 7 [some (rV 1 0), none, none] [iV s0] σ := by
  refine r_istore_n dX7_toldPond_7 rfl (by decide) rfl ?_
  refine r_aload_n dX7_toldPond_8 rfl rfl ?_
  refine r_get (k := 1) (i := 0) (j := 1) (v := rV 3 (σ.2.2 1 0)) rfl rfl ho1 rfl hX7 (by decide) rfl fX7_21 dX7_toldPond_9 (fun _ => rfl) ?_
  refine r_aload_n dX7_toldPond_12 rfl rfl ?_
  refine r_callV (z := 1) (k := 1) (i := 0) (As := []) (st := [rV 3 (σ.2.2 1 0)]) kX7_ownWord i_X7_ownWord e_X7_ownWord lX7_105 dX7_toldPond_13 rfl rfl ho1 rfl rfl rfl rfl rfl (Nat.le_of_ble_eq_true rfl) ?_
  exact H
set_option maxRecDepth 100000 in
theorem bX7_toldPond_16 {d : Nat} {Q : Option MV → MS → Prop} {x1 : Int32} {s0 : Int32} {w1 : Nat} {σ : MS} (hw1 : w1 < 2) (H : (R mj_OC d mX0_pondNamed (fun r σ' => R mj_OC (d + 1) mX7_toldPond Q 19 [some (rV 1 0), some (iV x1), none] (r.toList ++ []) σ') 0 [some (rV 3 w1), some (iV s0), none] [] σ)) : R mj_OC (d + 1) mX7_toldPond Q 16 [some (rV 1 0), some (iV x1), none] [iV s0, rV 3 w1] σ := by
  refine r_callV (z := 1) (k := 3) (i := w1) (As := [iV s0]) (st := []) kX0_pondNamed i_X0_pondNamed e_X0_pondNamed lX7_108 dX7_toldPond_16 rfl rfl (ho3 hw1) rfl rfl rfl rfl rfl (Nat.le_of_ble_eq_true rfl) ?_
  exact H
set_option maxRecDepth 100000 in
theorem bX7_toldPond_19 {d : Nat} {Q : Option MV → MS → Prop} {x1 : Int32} {s0 : Int32} {σ : MS}  (H : ((¬ s0 = (-1 : Int32) → Q (some (iV s0)) σ) ∧ (s0 = (-1 : Int32) → (R mj_OC d mX7_fail (fun r σ' => R mj_OC (d + 1) mX7_toldPond Q 31 [some (rV 1 0), some (iV x1), some (iV s0)] (r.toList ++ []) σ') 0 [some (rV 1 0), some (iV (4 : Int32)), some (iV x1)] [] σ)))) : R mj_OC (d + 1) mX7_toldPond Q 19 [some (rV 1 0), some (iV x1), none] [iV s0] σ := by
  refine r_istore_n dX7_toldPond_19 rfl (by decide) rfl ?_
  refine r_iload_n dX7_toldPond_20 rfl rfl ?_
  refine r_iconst (v := (-1 : Int32)) dX7_toldPond_21 rfl ?_
  refine r_icmp_ne (tgt := 31) dX7_toldPond_22 (by decide) (fun c => ?_) (fun c => ?_)
  · have H := H.1 c
    refine r_iload_n dX7_toldPond_31 rfl rfl ?_
    exact r_iret dX7_toldPond_32 rfl H
  · have H := H.2 c
    refine r_aload_n dX7_toldPond_25 rfl rfl ?_
    refine r_iconst (v := (4 : Int32)) dX7_toldPond_26 rfl ?_
    refine r_iload_n dX7_toldPond_27 rfl rfl ?_
    refine r_callV (z := 0) (k := 1) (i := 0) (As := [iV (4 : Int32), iV x1]) (st := []) kX7_fail i_X7_fail e_X7_fail lX7_64 dX7_toldPond_28 rfl rfl ho1 rfl rfl rfl rfl rfl (Nat.le_of_ble_eq_true rfl) ?_
    exact H
set_option maxRecDepth 100000 in
theorem bX7_toldPond_31 {d : Nat} {Q : Option MV → MS → Prop} {x1 : Int32} {x2 : Int32} {σ : MS}  (H : Q (some (iV x2)) σ) : R mj_OC d mX7_toldPond Q 31 [some (rV 1 0), some (iV x1), some (iV x2)] [] σ := by
  refine r_iload_n dX7_toldPond_31 rfl rfl ?_
  exact r_iret dX7_toldPond_32 rfl H
set_option maxRecDepth 100000 in
theorem bX9_hasRoom_0 {d : Nat} {Q : Option MV → MS → Prop}  {σ : MS}  (H : (((700 : Int32) < ((σ.1 2 0 0) + (20 : Int32)) → Q (some (iV (0 : Int32))) σ) ∧ (¬ (700 : Int32) < ((σ.1 2 0 0) + (20 : Int32)) → Q (some (iV (1 : Int32))) σ))) : R mj_OC d mX9_hasRoom Q 0 [some (rV 2 0)] [] σ := by
  refine r_aload_n dX9_hasRoom_0 rfl rfl ?_
  refine r_get (k := 2) (i := 0) (j := 0) (v := iV (σ.1 2 0 0)) rfl rfl ho2 rfl hX9 (by decide) rfl fX9_24 dX9_hasRoom_1 (fun _ => rfl) ?_
  refine r_bipush (v := (20 : Int32)) dX9_hasRoom_4 rfl ?_
  refine r_iadd dX9_hasRoom_6 ?_
  refine r_sipush (v := (700 : Int32)) dX9_hasRoom_7 rfl ?_
  refine r_icmp_gt (tgt := 17) dX9_hasRoom_10 (by decide) (fun c => ?_) (fun c => ?_)
  · have H := H.1 c
    refine r_iconst (v := (0 : Int32)) dX9_hasRoom_17 rfl ?_
    exact r_zret dX9_hasRoom_18 rfl (by decide) H
  · have H := H.2 c
    refine r_iconst (v := (1 : Int32)) dX9_hasRoom_13 rfl ?_
    refine r_goto (tgt := 18) dX9_hasRoom_14 (by decide) ?_
    exact r_zret dX9_hasRoom_18 rfl (by decide) H
set_option maxRecDepth 100000 in
theorem bX9_append_0 {d : Nat} {Q : Option MV → MS → Prop} {x1 : Int32} {σ : MS}  (H : R mj_OC d mX9_append Q 3 [some (rV 2 0), some (iV x1), some (iV (24 : Int32))] [] σ) : R mj_OC d mX9_append Q 0 [some (rV 2 0), some (iV x1), none] [] σ := by
  refine r_bipush (v := (24 : Int32)) dX9_append_0 rfl ?_
  refine r_istore_n dX9_append_2 rfl (by decide) rfl ?_
  exact H
set_option maxRecDepth 100000 in
theorem bX9_append_3 {d : Nat} {Q : Option MV → MS → Prop} {x1 : Int32} {x2 : Int32} {σ : MS}  (H : ((x2 < 0 → Q none σ) ∧ (¬ x2 < 0 → (((700 : Int32) ≤ (σ.1 2 0 0) → Q none σ) ∧ (¬ (700 : Int32) ≤ (σ.1 2 0 0) → (vp_in (σ.1 2 0 0) 700 ∧ R mj_OC d mX9_append Q 3 [some (rV 2 0), some (iV x1), some (iV (x2 + (-8 : Int32)))] [] (uI (uI σ 12 0 (((σ.1 2 0 0)).toNatClampNeg) (((x1.toUInt32 >>> (x2.toUInt32 &&& Int32.toUInt32 31)).toInt32) &&& (255 : Int32))) 2 0 0 ((σ.1 2 0 0) + (1 : Int32))))))))) : R mj_OC d mX9_append Q 3 [some (rV 2 0), some (iV x1), some (iV x2)] [] σ := by
  refine r_iload_n dX9_append_3 rfl rfl ?_
  refine r_if_lt (tgt := 49) dX9_append_4 (by decide) (fun c => ?_) (fun c => ?_)
  · have H := H.1 c
    exact r_vret dX9_append_49 rfl H
  · have H := H.2 c
    refine r_aload_n dX9_append_7 rfl rfl ?_
    refine r_get (k := 2) (i := 0) (j := 0) (v := iV (σ.1 2 0 0)) rfl rfl ho2 rfl hX9 (by decide) rfl fX9_24 dX9_append_8 (fun _ => rfl) ?_
    refine r_sipush (v := (700 : Int32)) dX9_append_11 rfl ?_
    refine r_icmp_ge (tgt := 49) dX9_append_14 (by decide) (fun c => ?_) (fun c => ?_)
    · have H := H.1 c
      exact r_vret dX9_append_49 rfl H
    · have H := H.2 c
      refine r_aload_n dX9_append_17 rfl rfl ?_
      refine r_get (k := 2) (i := 0) (j := 1) (v := rV 12 0) rfl rfl ho2 rfl hX9 (by decide) rfl fX9_9 dX9_append_18 (fun _ => rfl) ?_
      refine r_aload_n dX9_append_21 rfl rfl ?_
      refine r_get (k := 2) (i := 0) (j := 0) (v := iV (σ.1 2 0 0)) rfl rfl ho2 rfl hX9 (by decide) rfl fX9_24 dX9_append_22 (fun _ => rfl) ?_
      refine r_iload_n dX9_append_25 rfl rfl ?_
      refine r_iload_n dX9_append_26 rfl rfl ?_
      refine r_iushr (v := (x1.toUInt32 >>> (x2.toUInt32 &&& Int32.toUInt32 31)).toInt32) dX9_append_27 rfl ?_
      refine r_sipush (v := (255 : Int32)) dX9_append_28 rfl ?_
      refine r_iand dX9_append_31 ?_
      obtain ⟨q1, H⟩ := H
      refine r_iast (k := 12) (i := 0) rfl ho12 q1 dX9_append_32 ?_
      refine r_aload_n dX9_append_33 rfl rfl ?_
      refine r_dup_r dX9_append_34 ?_
      refine r_get (k := 2) (i := 0) (j := 0) (v := iV (σ.1 2 0 0)) rfl rfl ho2 rfl hX9 (by decide) rfl fX9_24 dX9_append_35 (fun _ => rfl) ?_
      refine r_iconst (v := (1 : Int32)) dX9_append_38 rfl ?_
      refine r_iadd dX9_append_39 ?_
      refine r_putI (k := 2) (i := 0) (j := 0) (ty0 := tyX9) rfl rfl ho2 rfl hX9 (by decide) rfl fX9_24 dX9_append_40 rfl tyX9_ok nmX9 rfl rfl rfl ?_
      refine r_iinc (v := x2 + (-8 : Int32)) dX9_append_43 rfl rfl (by decide) rfl ?_
      refine r_goto (tgt := 3) dX9_append_46 (by decide) ?_
      exact H
set_option maxRecDepth 100000 in
theorem bX9_open_0 {d : Nat} {Q : Option MV → MS → Prop} {x1 : Int32} {σ : MS}  (H : R mj_OC (d + 1) mX9_open Q 29 [some (rV 2 0), some (iV x1), some (iV (if (σ.1 2 0 0) < x1 then (σ.1 2 0 0) else x1)), some (iV (0 : Int32)), some (iV (0 : Int32)), none] [] (uI (uI (uI σ 2 0 0 (0 : Int32)) 2 0 5 (0 : Int32)) 2 0 6 (0 : Int32))) : R mj_OC (d + 1) mX9_open Q 0 [some (rV 2 0), some (iV x1), none, none, none, none] [] σ := by
  refine r_iload_n dX9_open_0 rfl rfl ?_
  refine r_aload_n dX9_open_1 rfl rfl ?_
  refine r_get (k := 2) (i := 0) (j := 0) (v := iV (σ.1 2 0 0)) rfl rfl ho2 rfl hX9 (by decide) rfl fX9_24 dX9_open_2 (fun _ => rfl) ?_
  refine r_mmin lX9_28 dX9_open_5 (Nat.le_of_ble_eq_true rfl) ?_
  refine r_istore_n dX9_open_8 rfl (by decide) rfl ?_
  refine r_aload_n dX9_open_9 rfl rfl ?_
  refine r_iconst (v := (0 : Int32)) dX9_open_10 rfl ?_
  refine r_putI (k := 2) (i := 0) (j := 0) (ty0 := tyX9) rfl rfl ho2 rfl hX9 (by decide) rfl fX9_24 dX9_open_11 rfl tyX9_ok nmX9 rfl rfl rfl ?_
  refine r_aload_n dX9_open_14 rfl rfl ?_
  refine r_iconst (v := (0 : Int32)) dX9_open_15 rfl ?_
  refine r_putI (k := 2) (i := 0) (j := 5) (ty0 := tyX9) rfl rfl ho2 rfl hX9 (by decide) rfl fX9_34 dX9_open_16 rfl tyX9_ok nmX9 rfl rfl rfl ?_
  refine r_aload_n dX9_open_19 rfl rfl ?_
  refine r_iconst (v := (0 : Int32)) dX9_open_20 rfl ?_
  refine r_putI (k := 2) (i := 0) (j := 6) (ty0 := tyX9) rfl rfl ho2 rfl hX9 (by decide) rfl fX9_37 dX9_open_21 rfl tyX9_ok nmX9 rfl rfl rfl ?_
  refine r_iconst (v := (0 : Int32)) dX9_open_24 rfl ?_
  refine r_istore_n dX9_open_25 rfl (by decide) rfl ?_
  refine r_iconst (v := (0 : Int32)) dX9_open_26 rfl ?_
  refine r_istore dX9_open_27 (by decide) rfl ?_
  exact H
set_option maxRecDepth 100000 in
theorem bX9_open_29 {d : Nat} {Q : Option MV → MS → Prop} {x1 : Int32} {x2 : Int32} {x3 : Int32} {x4 : Int32} {σ : MS}  (H : (((700 : Int32) ≤ x4 → (R mj_OC d mX9_add (fun r σ' => R mj_OC (d + 1) mX9_open Q 127 [some (rV 2 0), some (iV x1), some (iV x2), some (iV x3), some (iV x4), none] (r.toList ++ []) σ') 0 [some (rV 2 0), some (iV (37 : Int32)), some (iV x2), some (iV (0 : Int32))] [] σ)) ∧ (¬ (700 : Int32) ≤ x4 → ((x2 ≤ x3 → (R mj_OC d mX9_add (fun r σ' => R mj_OC (d + 1) mX9_open Q 127 [some (rV 2 0), some (iV x1), some (iV x2), some (iV x3), some (iV x4), none] (r.toList ++ []) σ') 0 [some (rV 2 0), some (iV (37 : Int32)), some (iV x2), some (iV (0 : Int32))] [] σ)) ∧ (¬ x2 ≤ x3 → (vp_in x3 700 ∧ (((σ.1 12 0 ((x3).toNatClampNeg)) = (32 : Int32) → R mj_OC (d + 1) mX9_open Q 29 [some (rV 2 0), some (iV x1), some (iV x2), some (iV (x3 + (1 : Int32))), some (iV (x4 + (1 : Int32))), none] [] σ) ∧ (¬ (σ.1 12 0 ((x3).toNatClampNeg)) = (32 : Int32) → ((¬ (σ.1 12 0 ((x3).toNatClampNeg)) = (10 : Int32) → (R mj_OC d mX9_isLetter (fun r σ' => R mj_OC (d + 1) mX9_open Q 75 [some (rV 2 0), some (iV x1), some (iV x2), some (iV x3), some (iV x4), some (iV (σ.1 12 0 ((x3).toNatClampNeg)))] (r.toList ++ []) σ') 0 [some (iV (σ.1 12 0 ((x3).toNatClampNeg)))] [] σ)) ∧ ((σ.1 12 0 ((x3).toNatClampNeg)) = (10 : Int32) → R mj_OC (d + 1) mX9_open Q 29 [some (rV 2 0), some (iV x1), some (iV x2), some (iV (x3 + (1 : Int32))), some (iV (x4 + (1 : Int32))), none] [] σ)))))))))) : R mj_OC (d + 1) mX9_open Q 29 [some (rV 2 0), some (iV x1), some (iV x2), some (iV x3), some (iV x4), none] [] σ := by
  refine r_iload dX9_open_29 rfl ?_
  refine r_sipush (v := (700 : Int32)) dX9_open_31 rfl ?_
  refine r_icmp_ge (tgt := 119) dX9_open_34 (by decide) (fun c => ?_) (fun c => ?_)
  · have H := H.1 c
    refine r_aload_n dX9_open_119 rfl rfl ?_
    refine r_bipush (v := (37 : Int32)) dX9_open_120 rfl ?_
    refine r_iload_n dX9_open_122 rfl rfl ?_
    refine r_iconst (v := (0 : Int32)) dX9_open_123 rfl ?_
    refine r_callV (z := 0) (k := 2) (i := 0) (As := [iV (37 : Int32), iV x2, iV (0 : Int32)]) (st := []) kX9_add i_X9_add e_X9_add lX9_56 dX9_open_124 rfl rfl ho2 rfl rfl rfl rfl rfl (Nat.le_of_ble_eq_true rfl) ?_
    exact H
  · have H := H.2 c
    refine r_iload_n dX9_open_37 rfl rfl ?_
    refine r_iload_n dX9_open_38 rfl rfl ?_
    refine r_icmp_ge (tgt := 119) dX9_open_39 (by decide) (fun c => ?_) (fun c => ?_)
    · have H := H.1 c
      refine r_aload_n dX9_open_119 rfl rfl ?_
      refine r_bipush (v := (37 : Int32)) dX9_open_120 rfl ?_
      refine r_iload_n dX9_open_122 rfl rfl ?_
      refine r_iconst (v := (0 : Int32)) dX9_open_123 rfl ?_
      refine r_callV (z := 0) (k := 2) (i := 0) (As := [iV (37 : Int32), iV x2, iV (0 : Int32)]) (st := []) kX9_add i_X9_add e_X9_add lX9_56 dX9_open_124 rfl rfl ho2 rfl rfl rfl rfl rfl (Nat.le_of_ble_eq_true rfl) ?_
      exact H
    · have H := H.2 c
      refine r_aload_n dX9_open_42 rfl rfl ?_
      refine r_get (k := 2) (i := 0) (j := 1) (v := rV 12 0) rfl rfl ho2 rfl hX9 (by decide) rfl fX9_9 dX9_open_43 (fun _ => rfl) ?_
      refine r_iload_n dX9_open_46 rfl rfl ?_
      obtain ⟨q1, H⟩ := H
      refine r_iald (k := 12) (i := 0) rfl ho12 q1 dX9_open_47 ?_
      refine r_istore dX9_open_48 (by decide) rfl ?_
      refine r_iload dX9_open_50 rfl ?_
      refine r_bipush (v := (32 : Int32)) dX9_open_52 rfl ?_
      refine r_icmp_eq (tgt := 64) dX9_open_54 (by decide) (fun c => ?_) (fun c => ?_)
      · have H := H.1 c
        refine r_iinc (v := x3 + (1 : Int32)) dX9_open_64 rfl rfl (by decide) rfl ?_
        refine r_goto (tgt := 113) dX9_open_67 (by decide) ?_
        refine r_iinc (v := x4 + (1 : Int32)) dX9_open_113 rfl rfl (by decide) rfl ?_
        refine r_goto (tgt := 29) dX9_open_116 (by decide) ?_
        exact R.fw (ls' := [some (rV 2 0), some (iV x1), some (iV x2), some (iV (x3 + (1 : Int32))), some (iV (x4 + (1 : Int32))), none]) ⟨rfl, ⟨rfl, ⟨rfl, ⟨rfl, ⟨rfl, trivial⟩⟩⟩⟩⟩ H
      · have H := H.2 c
        refine r_iload dX9_open_57 rfl ?_
        refine r_bipush (v := (10 : Int32)) dX9_open_59 rfl ?_
        refine r_icmp_ne (tgt := 70) dX9_open_61 (by decide) (fun c => ?_) (fun c => ?_)
        · have H := H.1 c
          refine r_iload dX9_open_70 rfl ?_
          refine r_callS (z := 0) (As := [iV (σ.1 12 0 ((x3).toNatClampNeg))]) (st := []) kX9_isLetter s_X9_isLetter lX9_40 dX9_open_72 rfl rfl rfl rfl (Nat.le_of_ble_eq_true rfl) ?_
          exact H
        · have H := H.2 c
          refine r_iinc (v := x3 + (1 : Int32)) dX9_open_64 rfl rfl (by decide) rfl ?_
          refine r_goto (tgt := 113) dX9_open_67 (by decide) ?_
          refine r_iinc (v := x4 + (1 : Int32)) dX9_open_113 rfl rfl (by decide) rfl ?_
          refine r_goto (tgt := 29) dX9_open_116 (by decide) ?_
          exact R.fw (ls' := [some (rV 2 0), some (iV x1), some (iV x2), some (iV (x3 + (1 : Int32))), some (iV (x4 + (1 : Int32))), none]) ⟨rfl, ⟨rfl, ⟨rfl, ⟨rfl, ⟨rfl, trivial⟩⟩⟩⟩⟩ H
set_option maxRecDepth 100000 in
theorem bX9_open_75 {d : Nat} {Q : Option MV → MS → Prop} {x1 : Int32} {x2 : Int32} {x3 : Int32} {x4 : Int32} {x5 : Int32} {s0 : Int32} {σ : MS}  (H : ((s0 = 0 → (R mj_OC d mX9_isDigit (fun r σ' => R mj_OC (d + 1) mX9_open Q 93 [some (rV 2 0), some (iV x1), some (iV x2), some (iV x3), some (iV x4), some (iV x5)] (r.toList ++ []) σ') 0 [some (iV x5)] [] σ)) ∧ (¬ s0 = 0 → (R mj_OC d mX9_addWord (fun r σ' => R mj_OC (d + 1) mX9_open Q 84 [some (rV 2 0), some (iV x1), some (iV x2), some (iV x3), some (iV x4), some (iV x5)] (r.toList ++ []) σ') 0 [some (rV 2 0), some (iV x3), some (iV x2), none, none] [] σ)))) : R mj_OC (d + 1) mX9_open Q 75 [some (rV 2 0), some (iV x1), some (iV x2), some (iV x3), some (iV x4), some (iV x5)] [iV s0] σ := by
  refine r_if_eq (tgt := 88) dX9_open_75 (by decide) (fun c => ?_) (fun c => ?_)
  · have H := H.1 c
    refine r_iload dX9_open_88 rfl ?_
    refine r_callS (z := 0) (As := [iV x5]) (st := []) kX9_isDigit s_X9_isDigit lX9_47 dX9_open_90 rfl rfl rfl rfl (Nat.le_of_ble_eq_true rfl) ?_
    exact H
  · have H := H.2 c
    refine r_aload_n dX9_open_78 rfl rfl ?_
    refine r_iload_n dX9_open_79 rfl rfl ?_
    refine r_iload_n dX9_open_80 rfl rfl ?_
    refine r_callV (z := 2) (k := 2) (i := 0) (As := [iV x3, iV x2]) (st := []) kX9_addWord i_X9_addWord e_X9_addWord lX9_44 dX9_open_81 rfl rfl ho2 rfl rfl rfl rfl rfl (Nat.le_of_ble_eq_true rfl) ?_
    exact H
set_option maxRecDepth 100000 in
theorem bX9_open_84 {d : Nat} {Q : Option MV → MS → Prop} {x1 : Int32} {x2 : Int32} {x3 : Int32} {x4 : Int32} {x5 : Int32} {s0 : Int32} {σ : MS}  (H : R mj_OC d mX9_open Q 29 [some (rV 2 0), some (iV x1), some (iV x2), some (iV s0), some (iV (x4 + (1 : Int32))), none] [] σ) : R mj_OC d mX9_open Q 84 [some (rV 2 0), some (iV x1), some (iV x2), some (iV x3), some (iV x4), some (iV x5)] [iV s0] σ := by
  refine r_istore_n dX9_open_84 rfl (by decide) rfl ?_
  refine r_goto (tgt := 113) dX9_open_85 (by decide) ?_
  refine r_iinc (v := x4 + (1 : Int32)) dX9_open_113 rfl rfl (by decide) rfl ?_
  refine r_goto (tgt := 29) dX9_open_116 (by decide) ?_
  exact R.fw (ls' := [some (rV 2 0), some (iV x1), some (iV x2), some (iV s0), some (iV (x4 + (1 : Int32))), none]) ⟨rfl, ⟨rfl, ⟨rfl, ⟨rfl, ⟨rfl, trivial⟩⟩⟩⟩⟩ H
set_option maxRecDepth 100000 in
theorem bX9_open_93 {d : Nat} {Q : Option MV → MS → Prop} {x1 : Int32} {x2 : Int32} {x3 : Int32} {x4 : Int32} {x5 : Int32} {s0 : Int32} {σ : MS}  (H : ((s0 = 0 → (R mj_OC d mX9_addSign (fun r σ' => R mj_OC (d + 1) mX9_open Q 112 [some (rV 2 0), some (iV x1), some (iV x2), some (iV x3), some (iV x4), some (iV x5)] (r.toList ++ []) σ') 0 [some (rV 2 0), some (iV x3), some (iV x2), none, none, none] [] σ)) ∧ (¬ s0 = 0 → (R mj_OC d mX9_addNumber (fun r σ' => R mj_OC (d + 1) mX9_open Q 102 [some (rV 2 0), some (iV x1), some (iV x2), some (iV x3), some (iV x4), some (iV x5)] (r.toList ++ []) σ') 0 [some (rV 2 0), some (iV x3), some (iV x2), none, none] [] σ)))) : R mj_OC (d + 1) mX9_open Q 93 [some (rV 2 0), some (iV x1), some (iV x2), some (iV x3), some (iV x4), some (iV x5)] [iV s0] σ := by
  refine r_if_eq (tgt := 106) dX9_open_93 (by decide) (fun c => ?_) (fun c => ?_)
  · have H := H.1 c
    refine r_aload_n dX9_open_106 rfl rfl ?_
    refine r_iload_n dX9_open_107 rfl rfl ?_
    refine r_iload_n dX9_open_108 rfl rfl ?_
    refine r_callV (z := 3) (k := 2) (i := 0) (As := [iV x3, iV x2]) (st := []) kX9_addSign i_X9_addSign e_X9_addSign lX9_53 dX9_open_109 rfl rfl ho2 rfl rfl rfl rfl rfl (Nat.le_of_ble_eq_true rfl) ?_
    exact H
  · have H := H.2 c
    refine r_aload_n dX9_open_96 rfl rfl ?_
    refine r_iload_n dX9_open_97 rfl rfl ?_
    refine r_iload_n dX9_open_98 rfl rfl ?_
    refine r_callV (z := 2) (k := 2) (i := 0) (As := [iV x3, iV x2]) (st := []) kX9_addNumber i_X9_addNumber e_X9_addNumber lX9_50 dX9_open_99 rfl rfl ho2 rfl rfl rfl rfl rfl (Nat.le_of_ble_eq_true rfl) ?_
    exact H
set_option maxRecDepth 100000 in
theorem bX9_open_102 {d : Nat} {Q : Option MV → MS → Prop} {x1 : Int32} {x2 : Int32} {x3 : Int32} {x4 : Int32} {x5 : Int32} {s0 : Int32} {σ : MS}  (H : R mj_OC d mX9_open Q 29 [some (rV 2 0), some (iV x1), some (iV x2), some (iV s0), some (iV (x4 + (1 : Int32))), none] [] σ) : R mj_OC d mX9_open Q 102 [some (rV 2 0), some (iV x1), some (iV x2), some (iV x3), some (iV x4), some (iV x5)] [iV s0] σ := by
  refine r_istore_n dX9_open_102 rfl (by decide) rfl ?_
  refine r_goto (tgt := 113) dX9_open_103 (by decide) ?_
  refine r_iinc (v := x4 + (1 : Int32)) dX9_open_113 rfl rfl (by decide) rfl ?_
  refine r_goto (tgt := 29) dX9_open_116 (by decide) ?_
  exact R.fw (ls' := [some (rV 2 0), some (iV x1), some (iV x2), some (iV s0), some (iV (x4 + (1 : Int32))), none]) ⟨rfl, ⟨rfl, ⟨rfl, ⟨rfl, ⟨rfl, trivial⟩⟩⟩⟩⟩ H
set_option maxRecDepth 100000 in
theorem bX9_open_112 {d : Nat} {Q : Option MV → MS → Prop} {x1 : Int32} {x2 : Int32} {x3 : Int32} {x4 : Int32} {x5 : Int32} {s0 : Int32} {σ : MS}  (H : R mj_OC d mX9_open Q 29 [some (rV 2 0), some (iV x1), some (iV x2), some (iV s0), some (iV (x4 + (1 : Int32))), none] [] σ) : R mj_OC d mX9_open Q 112 [some (rV 2 0), some (iV x1), some (iV x2), some (iV x3), some (iV x4), some (iV x5)] [iV s0] σ := by
  refine r_istore_n dX9_open_112 rfl (by decide) rfl ?_
  refine r_iinc (v := x4 + (1 : Int32)) dX9_open_113 rfl rfl (by decide) rfl ?_
  refine r_goto (tgt := 29) dX9_open_116 (by decide) ?_
  exact R.fw (ls' := [some (rV 2 0), some (iV x1), some (iV x2), some (iV s0), some (iV (x4 + (1 : Int32))), none]) ⟨rfl, ⟨rfl, ⟨rfl, ⟨rfl, ⟨rfl, trivial⟩⟩⟩⟩⟩ H
set_option maxRecDepth 100000 in
theorem bX9_open_127 {d : Nat} {Q : Option MV → MS → Prop} {x1 : Int32} {x2 : Int32} {x3 : Int32} {x4 : Int32} {σ : MS}  (H : Q none σ) : R mj_OC d mX9_open Q 127 [some (rV 2 0), some (iV x1), some (iV x2), some (iV x3), some (iV x4), none] [] σ := by
  exact r_vret dX9_open_127 rfl H
set_option maxRecDepth 100000 in
theorem bX9_add_0 {d : Nat} {Q : Option MV → MS → Prop} {x1 : Int32} {x2 : Int32} {x3 : Int32} {σ : MS}  (H : (((700 : Int32) < (σ.1 2 0 5) → Q none σ) ∧ (¬ (700 : Int32) < (σ.1 2 0 5) → (vp_in (σ.1 2 0 5) 701 ∧ Q none (uI (uI (uI (uI σ 13 0 (((σ.1 2 0 5)).toNatClampNeg) x1) 14 0 (((σ.1 2 0 5)).toNatClampNeg) x2) 15 0 (((σ.1 2 0 5)).toNatClampNeg) x3) 2 0 5 ((σ.1 2 0 5) + (1 : Int32))))))) : R mj_OC d mX9_add Q 0 [some (rV 2 0), some (iV x1), some (iV x2), some (iV x3)] [] σ := by
  refine r_aload_n dX9_add_0 rfl rfl ?_
  refine r_get (k := 2) (i := 0) (j := 5) (v := iV (σ.1 2 0 5)) rfl rfl ho2 rfl hX9 (by decide) rfl fX9_34 dX9_add_1 (fun _ => rfl) ?_
  refine r_sipush (v := (700 : Int32)) dX9_add_4 rfl ?_
  refine r_icmp_gt (tgt := 50) dX9_add_7 (by decide) (fun c => ?_) (fun c => ?_)
  · have H := H.1 c
    exact r_vret dX9_add_50 rfl H
  · have H := H.2 c
    refine r_aload_n dX9_add_10 rfl rfl ?_
    refine r_get (k := 2) (i := 0) (j := 2) (v := rV 13 0) rfl rfl ho2 rfl hX9 (by decide) rfl fX9_15 dX9_add_11 (fun _ => rfl) ?_
    refine r_aload_n dX9_add_14 rfl rfl ?_
    refine r_get (k := 2) (i := 0) (j := 5) (v := iV (σ.1 2 0 5)) rfl rfl ho2 rfl hX9 (by decide) rfl fX9_34 dX9_add_15 (fun _ => rfl) ?_
    refine r_iload_n dX9_add_18 rfl rfl ?_
    obtain ⟨q1, H⟩ := H
    refine r_iast (k := 13) (i := 0) rfl ho13 q1 dX9_add_19 ?_
    refine r_aload_n dX9_add_20 rfl rfl ?_
    refine r_get (k := 2) (i := 0) (j := 3) (v := rV 14 0) rfl rfl ho2 rfl hX9 (by decide) rfl fX9_18 dX9_add_21 (fun _ => rfl) ?_
    refine r_aload_n dX9_add_24 rfl rfl ?_
    refine r_get (k := 2) (i := 0) (j := 5) (v := iV (σ.1 2 0 5)) rfl rfl ho2 rfl hX9 (by decide) rfl fX9_34 dX9_add_25 (fun _ => rfl) ?_
    refine r_iload_n dX9_add_28 rfl rfl ?_
    refine r_iast (k := 14) (i := 0) rfl ho14 q1 dX9_add_29 ?_
    refine r_aload_n dX9_add_30 rfl rfl ?_
    refine r_get (k := 2) (i := 0) (j := 4) (v := rV 15 0) rfl rfl ho2 rfl hX9 (by decide) rfl fX9_21 dX9_add_31 (fun _ => rfl) ?_
    refine r_aload_n dX9_add_34 rfl rfl ?_
    refine r_get (k := 2) (i := 0) (j := 5) (v := iV (σ.1 2 0 5)) rfl rfl ho2 rfl hX9 (by decide) rfl fX9_34 dX9_add_35 (fun _ => rfl) ?_
    refine r_iload_n dX9_add_38 rfl rfl ?_
    refine r_iast (k := 15) (i := 0) rfl ho15 q1 dX9_add_39 ?_
    refine r_aload_n dX9_add_40 rfl rfl ?_
    refine r_dup_r dX9_add_41 ?_
    refine r_get (k := 2) (i := 0) (j := 5) (v := iV (σ.1 2 0 5)) rfl rfl ho2 rfl hX9 (by decide) rfl fX9_34 dX9_add_42 (fun _ => rfl) ?_
    refine r_iconst (v := (1 : Int32)) dX9_add_45 rfl ?_
    refine r_iadd dX9_add_46 ?_
    refine r_putI (k := 2) (i := 0) (j := 5) (ty0 := tyX9) rfl rfl ho2 rfl hX9 (by decide) rfl fX9_34 dX9_add_47 rfl tyX9_ok nmX9 rfl rfl rfl ?_
    exact r_vret dX9_add_50 rfl H
set_option maxRecDepth 100000 in
theorem bX9_isLetter_0 {d : Nat} {Q : Option MV → MS → Prop} {x0 : Int32} {σ : MS}  (H : ((x0 < (97 : Int32) → Q (some (iV (0 : Int32))) σ) ∧ (¬ x0 < (97 : Int32) → (((122 : Int32) < x0 → Q (some (iV (0 : Int32))) σ) ∧ (¬ (122 : Int32) < x0 → Q (some (iV (1 : Int32))) σ))))) : R mj_OC d mX9_isLetter Q 0 [some (iV x0)] [] σ := by
  refine r_iload_n dX9_isLetter_0 rfl rfl ?_
  refine r_bipush (v := (97 : Int32)) dX9_isLetter_1 rfl ?_
  refine r_icmp_lt (tgt := 16) dX9_isLetter_3 (by decide) (fun c => ?_) (fun c => ?_)
  · have H := H.1 c
    refine r_iconst (v := (0 : Int32)) dX9_isLetter_16 rfl ?_
    exact r_zret dX9_isLetter_17 rfl (by decide) H
  · have H := H.2 c
    refine r_iload_n dX9_isLetter_6 rfl rfl ?_
    refine r_bipush (v := (122 : Int32)) dX9_isLetter_7 rfl ?_
    refine r_icmp_gt (tgt := 16) dX9_isLetter_9 (by decide) (fun c => ?_) (fun c => ?_)
    · have H := H.1 c
      refine r_iconst (v := (0 : Int32)) dX9_isLetter_16 rfl ?_
      exact r_zret dX9_isLetter_17 rfl (by decide) H
    · have H := H.2 c
      refine r_iconst (v := (1 : Int32)) dX9_isLetter_12 rfl ?_
      refine r_goto (tgt := 17) dX9_isLetter_13 (by decide) ?_
      exact r_zret dX9_isLetter_17 rfl (by decide) H
set_option maxRecDepth 100000 in
theorem bX9_isDigit_0 {d : Nat} {Q : Option MV → MS → Prop} {x0 : Int32} {σ : MS}  (H : ((x0 < (48 : Int32) → Q (some (iV (0 : Int32))) σ) ∧ (¬ x0 < (48 : Int32) → (((57 : Int32) < x0 → Q (some (iV (0 : Int32))) σ) ∧ (¬ (57 : Int32) < x0 → Q (some (iV (1 : Int32))) σ))))) : R mj_OC d mX9_isDigit Q 0 [some (iV x0)] [] σ := by
  refine r_iload_n dX9_isDigit_0 rfl rfl ?_
  refine r_bipush (v := (48 : Int32)) dX9_isDigit_1 rfl ?_
  refine r_icmp_lt (tgt := 16) dX9_isDigit_3 (by decide) (fun c => ?_) (fun c => ?_)
  · have H := H.1 c
    refine r_iconst (v := (0 : Int32)) dX9_isDigit_16 rfl ?_
    exact r_zret dX9_isDigit_17 rfl (by decide) H
  · have H := H.2 c
    refine r_iload_n dX9_isDigit_6 rfl rfl ?_
    refine r_bipush (v := (57 : Int32)) dX9_isDigit_7 rfl ?_
    refine r_icmp_gt (tgt := 16) dX9_isDigit_9 (by decide) (fun c => ?_) (fun c => ?_)
    · have H := H.1 c
      refine r_iconst (v := (0 : Int32)) dX9_isDigit_16 rfl ?_
      exact r_zret dX9_isDigit_17 rfl (by decide) H
    · have H := H.2 c
      refine r_iconst (v := (1 : Int32)) dX9_isDigit_12 rfl ?_
      refine r_goto (tgt := 17) dX9_isDigit_13 (by decide) ?_
      exact r_zret dX9_isDigit_17 rfl (by decide) H
set_option maxRecDepth 100000 in
theorem bX9_addWord_0 {d : Nat} {Q : Option MV → MS → Prop} {x1 : Int32} {x2 : Int32} {σ : MS}  (H : R mj_OC d mX9_addWord Q 5 [some (rV 2 0), some (iV x1), some (iV x2), some (iV (0 : Int32)), some (iV x1)] [] σ) : R mj_OC d mX9_addWord Q 0 [some (rV 2 0), some (iV x1), some (iV x2), none, none] [] σ := by
  refine r_iconst (v := (0 : Int32)) dX9_addWord_0 rfl ?_
  refine r_istore_n dX9_addWord_1 rfl (by decide) rfl ?_
  refine r_iload_n dX9_addWord_2 rfl rfl ?_
  refine r_istore dX9_addWord_3 (by decide) rfl ?_
  exact H
set_option maxRecDepth 100000 in
theorem bX9_addWord_5 {d : Nat} {Q : Option MV → MS → Prop} {x1 : Int32} {x2 : Int32} {x3 : Int32} {x4 : Int32} {σ : MS}  (H : ((x2 ≤ x4 → (((x4 - x1) ≤ (6 : Int32) → (R mj_OC d mX9_kindOfWord (fun r σ' => R mj_OC (d + 1) mX9_addWord Q 65 [some (rV 2 0), some (iV x1), some (iV x2), some (iV x3), some (iV x4)] (r.toList ++ [rV 2 0]) σ') 0 [some (iV x3), none, none, none, none] [] σ)) ∧ (¬ (x4 - x1) ≤ (6 : Int32) → (R mj_OC d mX9_add (fun r σ' => R mj_OC (d + 1) mX9_addWord Q 70 [some (rV 2 0), some (iV x1), some (iV x2), some (iV x3), some (iV x4)] (r.toList ++ []) σ') 0 [some (rV 2 0), some (iV (38 : Int32)), some (iV x1), some (iV x3)] [] σ)))) ∧ (¬ x2 ≤ x4 → (vp_in x4 700 ∧ (R mj_OC d mX9_isLetter (fun r σ' => R mj_OC (d + 1) mX9_addWord Q 21 [some (rV 2 0), some (iV x1), some (iV x2), some (iV x3), some (iV x4)] (r.toList ++ []) σ') 0 [some (iV (σ.1 12 0 ((x4).toNatClampNeg)))] [] σ))))) : R mj_OC (d + 1) mX9_addWord Q 5 [some (rV 2 0), some (iV x1), some (iV x2), some (iV x3), some (iV x4)] [] σ := by
  refine r_iload dX9_addWord_5 rfl ?_
  refine r_iload_n dX9_addWord_7 rfl rfl ?_
  refine r_icmp_ge (tgt := 46) dX9_addWord_8 (by decide) (fun c => ?_) (fun c => ?_)
  · have H := H.1 c
    refine r_aload_n dX9_addWord_46 rfl rfl ?_
    refine r_iload dX9_addWord_47 rfl ?_
    refine r_iload_n dX9_addWord_49 rfl rfl ?_
    refine r_isub dX9_addWord_50 ?_
    refine r_bipush (v := (6 : Int32)) dX9_addWord_51 rfl ?_
    refine r_icmp_le (tgt := 61) dX9_addWord_53 (by decide) (fun c => ?_) (fun c => ?_)
    · have H := H.1 c
      refine r_iload_n dX9_addWord_61 rfl rfl ?_
      refine r_callS (z := 4) (As := [iV x3]) (st := [rV 2 0]) kX9_kindOfWord s_X9_kindOfWord lX9_64 dX9_addWord_62 rfl rfl rfl rfl (Nat.le_of_ble_eq_true rfl) ?_
      exact H
    · have H := H.2 c
      refine r_bipush (v := (38 : Int32)) dX9_addWord_56 rfl ?_
      refine r_goto (tgt := 65) dX9_addWord_58 (by decide) ?_
      refine r_iload_n dX9_addWord_65 rfl rfl ?_
      refine r_iload_n dX9_addWord_66 rfl rfl ?_
      refine r_callV (z := 0) (k := 2) (i := 0) (As := [iV (38 : Int32), iV x1, iV x3]) (st := []) kX9_add i_X9_add e_X9_add lX9_56 dX9_addWord_67 rfl rfl ho2 rfl rfl rfl rfl rfl (Nat.le_of_ble_eq_true rfl) ?_
      exact H
  · have H := H.2 c
    refine r_aload_n dX9_addWord_11 rfl rfl ?_
    refine r_get (k := 2) (i := 0) (j := 1) (v := rV 12 0) rfl rfl ho2 rfl hX9 (by decide) rfl fX9_9 dX9_addWord_12 (fun _ => rfl) ?_
    refine r_iload dX9_addWord_15 rfl ?_
    obtain ⟨q1, H⟩ := H
    refine r_iald (k := 12) (i := 0) rfl ho12 q1 dX9_addWord_17 ?_
    refine r_callS (z := 0) (As := [iV (σ.1 12 0 ((x4).toNatClampNeg))]) (st := []) kX9_isLetter s_X9_isLetter lX9_40 dX9_addWord_18 rfl rfl rfl rfl (Nat.le_of_ble_eq_true rfl) ?_
    exact H
set_option maxRecDepth 100000 in
theorem bX9_addWord_21 {d : Nat} {Q : Option MV → MS → Prop} {x1 : Int32} {x2 : Int32} {x3 : Int32} {x4 : Int32} {s0 : Int32} {σ : MS}  (H : ((s0 = 0 → (((x4 - x1) ≤ (6 : Int32) → (R mj_OC d mX9_kindOfWord (fun r σ' => R mj_OC (d + 1) mX9_addWord Q 65 [some (rV 2 0), some (iV x1), some (iV x2), some (iV x3), some (iV x4)] (r.toList ++ [rV 2 0]) σ') 0 [some (iV x3), none, none, none, none] [] σ)) ∧ (¬ (x4 - x1) ≤ (6 : Int32) → (R mj_OC d mX9_add (fun r σ' => R mj_OC (d + 1) mX9_addWord Q 70 [some (rV 2 0), some (iV x1), some (iV x2), some (iV x3), some (iV x4)] (r.toList ++ []) σ') 0 [some (rV 2 0), some (iV (38 : Int32)), some (iV x1), some (iV x3)] [] σ)))) ∧ (¬ s0 = 0 → (vp_in x4 700 ∧ (R mj_OC d mX9_packed (fun r σ' => R mj_OC (d + 1) mX9_addWord Q 39 [some (rV 2 0), some (iV x1), some (iV x2), some (iV x3), some (iV x4)] (r.toList ++ []) σ') 0 [some (iV x3), some (iV (x4 - x1)), some (iV (σ.1 12 0 ((x4).toNatClampNeg)))] [] σ))))) : R mj_OC (d + 1) mX9_addWord Q 21 [some (rV 2 0), some (iV x1), some (iV x2), some (iV x3), some (iV x4)] [iV s0] σ := by
  refine r_if_eq (tgt := 46) dX9_addWord_21 (by decide) (fun c => ?_) (fun c => ?_)
  · have H := H.1 c
    refine r_aload_n dX9_addWord_46 rfl rfl ?_
    refine r_iload dX9_addWord_47 rfl ?_
    refine r_iload_n dX9_addWord_49 rfl rfl ?_
    refine r_isub dX9_addWord_50 ?_
    refine r_bipush (v := (6 : Int32)) dX9_addWord_51 rfl ?_
    refine r_icmp_le (tgt := 61) dX9_addWord_53 (by decide) (fun c => ?_) (fun c => ?_)
    · have H := H.1 c
      refine r_iload_n dX9_addWord_61 rfl rfl ?_
      refine r_callS (z := 4) (As := [iV x3]) (st := [rV 2 0]) kX9_kindOfWord s_X9_kindOfWord lX9_64 dX9_addWord_62 rfl rfl rfl rfl (Nat.le_of_ble_eq_true rfl) ?_
      exact H
    · have H := H.2 c
      refine r_bipush (v := (38 : Int32)) dX9_addWord_56 rfl ?_
      refine r_goto (tgt := 65) dX9_addWord_58 (by decide) ?_
      refine r_iload_n dX9_addWord_65 rfl rfl ?_
      refine r_iload_n dX9_addWord_66 rfl rfl ?_
      refine r_callV (z := 0) (k := 2) (i := 0) (As := [iV (38 : Int32), iV x1, iV x3]) (st := []) kX9_add i_X9_add e_X9_add lX9_56 dX9_addWord_67 rfl rfl ho2 rfl rfl rfl rfl rfl (Nat.le_of_ble_eq_true rfl) ?_
      exact H
  · have H := H.2 c
    refine r_iload_n dX9_addWord_24 rfl rfl ?_
    refine r_iload dX9_addWord_25 rfl ?_
    refine r_iload_n dX9_addWord_27 rfl rfl ?_
    refine r_isub dX9_addWord_28 ?_
    refine r_aload_n dX9_addWord_29 rfl rfl ?_
    refine r_get (k := 2) (i := 0) (j := 1) (v := rV 12 0) rfl rfl ho2 rfl hX9 (by decide) rfl fX9_9 dX9_addWord_30 (fun _ => rfl) ?_
    refine r_iload dX9_addWord_33 rfl ?_
    obtain ⟨q1, H⟩ := H
    refine r_iald (k := 12) (i := 0) rfl ho12 q1 dX9_addWord_35 ?_
    refine r_callS (z := 0) (As := [iV x3, iV (x4 - x1), iV (σ.1 12 0 ((x4).toNatClampNeg))]) (st := []) kX9_packed s_X9_packed lX9_60 dX9_addWord_36 rfl rfl rfl rfl (Nat.le_of_ble_eq_true rfl) ?_
    exact H
set_option maxRecDepth 100000 in
theorem bX9_addWord_39 {d : Nat} {Q : Option MV → MS → Prop} {x1 : Int32} {x2 : Int32} {x3 : Int32} {x4 : Int32} {s0 : Int32} {σ : MS}  (H : R mj_OC d mX9_addWord Q 5 [some (rV 2 0), some (iV x1), some (iV x2), some (iV s0), some (iV (x4 + (1 : Int32)))] [] σ) : R mj_OC d mX9_addWord Q 39 [some (rV 2 0), some (iV x1), some (iV x2), some (iV x3), some (iV x4)] [iV s0] σ := by
  refine r_istore_n dX9_addWord_39 rfl (by decide) rfl ?_
  refine r_iinc (v := x4 + (1 : Int32)) dX9_addWord_40 rfl rfl (by decide) rfl ?_
  refine r_goto (tgt := 5) dX9_addWord_43 (by decide) ?_
  exact H
set_option maxRecDepth 100000 in
theorem bX9_addWord_65 {d : Nat} {Q : Option MV → MS → Prop} {x1 : Int32} {x2 : Int32} {x3 : Int32} {x4 : Int32} {s0 : Int32} {σ : MS}  (H : (R mj_OC d mX9_add (fun r σ' => R mj_OC (d + 1) mX9_addWord Q 70 [some (rV 2 0), some (iV x1), some (iV x2), some (iV x3), some (iV x4)] (r.toList ++ []) σ') 0 [some (rV 2 0), some (iV s0), some (iV x1), some (iV x3)] [] σ)) : R mj_OC (d + 1) mX9_addWord Q 65 [some (rV 2 0), some (iV x1), some (iV x2), some (iV x3), some (iV x4)] [iV s0, rV 2 0] σ := by
  refine r_iload_n dX9_addWord_65 rfl rfl ?_
  refine r_iload_n dX9_addWord_66 rfl rfl ?_
  refine r_callV (z := 0) (k := 2) (i := 0) (As := [iV s0, iV x1, iV x3]) (st := []) kX9_add i_X9_add e_X9_add lX9_56 dX9_addWord_67 rfl rfl ho2 rfl rfl rfl rfl rfl (Nat.le_of_ble_eq_true rfl) ?_
  exact H
set_option maxRecDepth 100000 in
theorem bX9_addWord_70 {d : Nat} {Q : Option MV → MS → Prop} {x1 : Int32} {x2 : Int32} {x3 : Int32} {x4 : Int32} {σ : MS}  (H : Q (some (iV x4)) σ) : R mj_OC d mX9_addWord Q 70 [some (rV 2 0), some (iV x1), some (iV x2), some (iV x3), some (iV x4)] [] σ := by
  refine r_iload dX9_addWord_70 rfl ?_
  exact r_iret dX9_addWord_72 rfl H
set_option maxRecDepth 100000 in
theorem bX9_packed_0 {d : Nat} {Q : Option MV → MS → Prop} {x0 : Int32} {x1 : Int32} {x2 : Int32} {σ : MS}  (H : (((6 : Int32) ≤ x1 → Q (some (iV x0)) σ) ∧ (¬ (6 : Int32) ≤ x1 → Q (some (iV (x0 ||| (((x2 - (97 : Int32)) + (1 : Int32)) <<< (((5 : Int32) * ((5 : Int32) - x1)) &&& 31))))) σ))) : R mj_OC d mX9_packed Q 0 [some (iV x0), some (iV x1), some (iV x2)] [] σ := by
  refine r_iload_n dX9_packed_0 rfl rfl ?_
  refine r_bipush (v := (6 : Int32)) dX9_packed_1 rfl ?_
  refine r_icmp_ge (tgt := 23) dX9_packed_3 (by decide) (fun c => ?_) (fun c => ?_)
  · have H := H.1 c
    refine r_iload_n dX9_packed_23 rfl rfl ?_
    exact r_iret dX9_packed_24 rfl H
  · have H := H.2 c
    refine r_iload_n dX9_packed_6 rfl rfl ?_
    refine r_iload_n dX9_packed_7 rfl rfl ?_
    refine r_bipush (v := (97 : Int32)) dX9_packed_8 rfl ?_
    refine r_isub dX9_packed_10 ?_
    refine r_iconst (v := (1 : Int32)) dX9_packed_11 rfl ?_
    refine r_iadd dX9_packed_12 ?_
    refine r_iconst (v := (5 : Int32)) dX9_packed_13 rfl ?_
    refine r_iconst (v := (5 : Int32)) dX9_packed_14 rfl ?_
    refine r_iload_n dX9_packed_15 rfl rfl ?_
    refine r_isub dX9_packed_16 ?_
    refine r_imul dX9_packed_17 ?_
    refine r_ishl dX9_packed_18 ?_
    refine r_ior dX9_packed_19 ?_
    refine r_goto (tgt := 24) dX9_packed_20 (by decide) ?_
    exact r_iret dX9_packed_24 rfl H
set_option maxRecDepth 100000 in
theorem bX9_kindOfWord_0 {d : Nat} {Q : Option MV → MS → Prop} {x0 : Int32} {σ : MS}  (H : R mj_OC d mX9_kindOfWord Q 9 [some (iV x0), some (iV (0 : Int32)), some (iV (0 : Int32)), some (iV (0 : Int32)), some (iV (0 : Int32))] [] σ) : R mj_OC d mX9_kindOfWord Q 0 [some (iV x0), none, none, none, none] [] σ := by
  refine r_iconst (v := (0 : Int32)) dX9_kindOfWord_0 rfl ?_
  refine r_istore_n dX9_kindOfWord_1 rfl (by decide) rfl ?_
  refine r_iconst (v := (0 : Int32)) dX9_kindOfWord_2 rfl ?_
  refine r_istore_n dX9_kindOfWord_3 rfl (by decide) rfl ?_
  refine r_iconst (v := (0 : Int32)) dX9_kindOfWord_4 rfl ?_
  refine r_istore_n dX9_kindOfWord_5 rfl (by decide) rfl ?_
  refine r_iconst (v := (0 : Int32)) dX9_kindOfWord_6 rfl ?_
  refine r_istore dX9_kindOfWord_7 (by decide) rfl ?_
  exact H
set_option maxRecDepth 100000 in
theorem bX9_kindOfWord_9 {d : Nat} {Q : Option MV → MS → Prop} {x0 : Int32} {x1 : Int32} {x2 : Int32} {x3 : Int32} {x4 : Int32} {σ : MS}  (H : (R mj_OC d mJ0_length_8abf5 (fun r σ' => R mj_OC (d + 1) mX9_kindOfWord Q 16 [some (iV x0), some (iV x1), some (iV x2), some (iV x3), some (iV x4)] (r.toList ++ [iV x4]) σ') 0 [some (rV 200 0)] [] σ)) : R mj_OC (d + 1) mX9_kindOfWord Q 9 [some (iV x0), some (iV x1), some (iV x2), some (iV x3), some (iV x4)] [] σ := by
  refine r_iload dX9_kindOfWord_9 rfl ?_
  refine r_ldcS (i := 0) rfl dX9_kindOfWord_11 ?_
  refine r_callT (z := 0) (i := 0) (As := []) (st := [iV x4]) (by decide) rfl kJ0_length_8abf5 i_J0_length_8abf5 e_J0_length_8abf5 lX9_70 dX9_kindOfWord_13 rfl rfl rfl rfl (Nat.le_of_ble_eq_true rfl) ?_
  exact H
set_option maxRecDepth 100000 in
theorem bX9_kindOfWord_16 {d : Nat} {Q : Option MV → MS → Prop} {x0 : Int32} {x1 : Int32} {x2 : Int32} {x3 : Int32} {x4 : Int32} {s0 : Int32} {s1 : Int32} {σ : MS}  (H : ((s0 ≤ s1 → Q (some (iV (22 : Int32))) σ) ∧ (¬ s0 ≤ s1 → (R mj_OC d mJ0_charAt_5068e (fun r σ' => R mj_OC (d + 1) mX9_kindOfWord Q 26 [some (iV x0), some (iV x1), some (iV x2), some (iV x3), some (iV x4)] (r.toList ++ []) σ') 0 [some (rV 200 0), some (iV x4)] [] σ)))) : R mj_OC (d + 1) mX9_kindOfWord Q 16 [some (iV x0), some (iV x1), some (iV x2), some (iV x3), some (iV x4)] [iV s0, iV s1] σ := by
  refine r_icmp_ge (tgt := 73) dX9_kindOfWord_16 (by decide) (fun c => ?_) (fun c => ?_)
  · have H := H.1 c
    refine r_bipush (v := (22 : Int32)) dX9_kindOfWord_73 rfl ?_
    exact r_iret dX9_kindOfWord_75 rfl H
  · have H := H.2 c
    refine r_ldcS (i := 0) rfl dX9_kindOfWord_19 ?_
    refine r_iload dX9_kindOfWord_21 rfl ?_
    refine r_callT (z := 0) (i := 0) (As := [iV x4]) (st := []) (by decide) rfl kJ0_charAt_5068e i_J0_charAt_5068e e_J0_charAt_5068e lX9_76 dX9_kindOfWord_23 rfl rfl rfl rfl (Nat.le_of_ble_eq_true rfl) ?_
    exact H
set_option maxRecDepth 100000 in
theorem bX9_kindOfWord_26 {d : Nat} {Q : Option MV → MS → Prop} {x0 : Int32} {x1 : Int32} {x2 : Int32} {x3 : Int32} {x4 : Int32} {s0 : Int32} {σ : MS}  (H : ((s0 = (32 : Int32) → ((¬ x3 = x0 → R mj_OC (d + 1) mX9_kindOfWord Q 9 [some (iV x0), some (iV (x1 + (1 : Int32))), some (iV (x4 + (1 : Int32))), some (iV (0 : Int32)), some (iV (x4 + (1 : Int32)))] [] σ) ∧ (x3 = x0 → Q (some (iV x1)) σ))) ∧ (¬ s0 = (32 : Int32) → (R mj_OC d mJ0_charAt_5068e (fun r σ' => R mj_OC (d + 1) mX9_kindOfWord Q 43 [some (iV x0), some (iV x1), some (iV x2), some (iV x3), some (iV x4)] (r.toList ++ [iV (x4 - x2), iV x3]) σ') 0 [some (rV 200 0), some (iV x4)] [] σ)))) : R mj_OC (d + 1) mX9_kindOfWord Q 26 [some (iV x0), some (iV x1), some (iV x2), some (iV x3), some (iV x4)] [iV s0] σ := by
  refine r_bipush (v := (32 : Int32)) dX9_kindOfWord_26 rfl ?_
  refine r_icmp_eq (tgt := 50) dX9_kindOfWord_28 (by decide) (fun c => ?_) (fun c => ?_)
  · have H := H.1 c
    refine r_iload_n dX9_kindOfWord_50 rfl rfl ?_
    refine r_iload_n dX9_kindOfWord_51 rfl rfl ?_
    refine r_icmp_ne (tgt := 57) dX9_kindOfWord_52 (by decide) (fun c => ?_) (fun c => ?_)
    · have H := H.1 c
      refine r_iinc (v := x1 + (1 : Int32)) dX9_kindOfWord_57 rfl rfl (by decide) rfl ?_
      refine r_iload dX9_kindOfWord_60 rfl ?_
      refine r_iconst (v := (1 : Int32)) dX9_kindOfWord_62 rfl ?_
      refine r_iadd dX9_kindOfWord_63 ?_
      refine r_istore_n dX9_kindOfWord_64 rfl (by decide) rfl ?_
      refine r_iconst (v := (0 : Int32)) dX9_kindOfWord_65 rfl ?_
      refine r_istore_n dX9_kindOfWord_66 rfl (by decide) rfl ?_
      refine r_iinc (v := x4 + (1 : Int32)) dX9_kindOfWord_67 rfl rfl (by decide) rfl ?_
      refine r_goto (tgt := 9) dX9_kindOfWord_70 (by decide) ?_
      exact H
    · have H := H.2 c
      refine r_iload_n dX9_kindOfWord_55 rfl rfl ?_
      exact r_iret dX9_kindOfWord_56 rfl H
  · have H := H.2 c
    refine r_iload_n dX9_kindOfWord_31 rfl rfl ?_
    refine r_iload dX9_kindOfWord_32 rfl ?_
    refine r_iload_n dX9_kindOfWord_34 rfl rfl ?_
    refine r_isub dX9_kindOfWord_35 ?_
    refine r_ldcS (i := 0) rfl dX9_kindOfWord_36 ?_
    refine r_iload dX9_kindOfWord_38 rfl ?_
    refine r_callT (z := 0) (i := 0) (As := [iV x4]) (st := [iV (x4 - x2), iV x3]) (by decide) rfl kJ0_charAt_5068e i_J0_charAt_5068e e_J0_charAt_5068e lX9_76 dX9_kindOfWord_40 rfl rfl rfl rfl (Nat.le_of_ble_eq_true rfl) ?_
    exact H
set_option maxRecDepth 100000 in
theorem bX9_kindOfWord_43 {d : Nat} {Q : Option MV → MS → Prop} {x0 : Int32} {x1 : Int32} {x2 : Int32} {x3 : Int32} {x4 : Int32} {s0 : Int32} {s1 : Int32} {s2 : Int32} {σ : MS}  (H : (R mj_OC d mX9_packed (fun r σ' => R mj_OC (d + 1) mX9_kindOfWord Q 46 [some (iV x0), some (iV x1), some (iV x2), some (iV x3), some (iV x4)] (r.toList ++ []) σ') 0 [some (iV s2), some (iV s1), some (iV s0)] [] σ)) : R mj_OC (d + 1) mX9_kindOfWord Q 43 [some (iV x0), some (iV x1), some (iV x2), some (iV x3), some (iV x4)] [iV s0, iV s1, iV s2] σ := by
  refine r_callS (z := 0) (As := [iV s2, iV s1, iV s0]) (st := []) kX9_packed s_X9_packed lX9_60 dX9_kindOfWord_43 rfl rfl rfl rfl (Nat.le_of_ble_eq_true rfl) ?_
  exact H
set_option maxRecDepth 100000 in
theorem bX9_kindOfWord_46 {d : Nat} {Q : Option MV → MS → Prop} {x0 : Int32} {x1 : Int32} {x2 : Int32} {x3 : Int32} {x4 : Int32} {s0 : Int32} {σ : MS}  (H : R mj_OC d mX9_kindOfWord Q 9 [some (iV x0), some (iV x1), some (iV x2), some (iV s0), some (iV (x4 + (1 : Int32)))] [] σ) : R mj_OC d mX9_kindOfWord Q 46 [some (iV x0), some (iV x1), some (iV x2), some (iV x3), some (iV x4)] [iV s0] σ := by
  refine r_istore_n dX9_kindOfWord_46 rfl (by decide) rfl ?_
  refine r_goto (tgt := 67) dX9_kindOfWord_47 (by decide) ?_
  refine r_iinc (v := x4 + (1 : Int32)) dX9_kindOfWord_67 rfl rfl (by decide) rfl ?_
  refine r_goto (tgt := 9) dX9_kindOfWord_70 (by decide) ?_
  exact H
set_option maxRecDepth 100000 in
theorem bX9_addNumber_0 {d : Nat} {Q : Option MV → MS → Prop} {x1 : Int32} {x2 : Int32} {σ : MS}  (H : R mj_OC d mX9_addNumber Q 5 [some (rV 2 0), some (iV x1), some (iV x2), some (iV (0 : Int32)), some (iV x1)] [] σ) : R mj_OC d mX9_addNumber Q 0 [some (rV 2 0), some (iV x1), some (iV x2), none, none] [] σ := by
  refine r_iconst (v := (0 : Int32)) dX9_addNumber_0 rfl ?_
  refine r_istore_n dX9_addNumber_1 rfl (by decide) rfl ?_
  refine r_iload_n dX9_addNumber_2 rfl rfl ?_
  refine r_istore dX9_addNumber_3 (by decide) rfl ?_
  exact H
set_option maxRecDepth 100000 in
theorem bX9_addNumber_5 {d : Nat} {Q : Option MV → MS → Prop} {x1 : Int32} {x2 : Int32} {x3 : Int32} {x4 : Int32} {σ : MS}  (H : ((x2 ≤ x4 → (R mj_OC d mX9_add (fun r σ' => R mj_OC (d + 1) mX9_addNumber Q 59 [some (rV 2 0), some (iV x1), some (iV x2), some (iV x3), some (iV x4)] (r.toList ++ []) σ') 0 [some (rV 2 0), some (iV (23 : Int32)), some (iV x1), some (iV x3)] [] σ)) ∧ (¬ x2 ≤ x4 → (vp_in x4 700 ∧ (R mj_OC d mX9_isDigit (fun r σ' => R mj_OC (d + 1) mX9_addNumber Q 21 [some (rV 2 0), some (iV x1), some (iV x2), some (iV x3), some (iV x4)] (r.toList ++ []) σ') 0 [some (iV (σ.1 12 0 ((x4).toNatClampNeg)))] [] σ))))) : R mj_OC (d + 1) mX9_addNumber Q 5 [some (rV 2 0), some (iV x1), some (iV x2), some (iV x3), some (iV x4)] [] σ := by
  refine r_iload dX9_addNumber_5 rfl ?_
  refine r_iload_n dX9_addNumber_7 rfl rfl ?_
  refine r_icmp_ge (tgt := 51) dX9_addNumber_8 (by decide) (fun c => ?_) (fun c => ?_)
  · have H := H.1 c
    refine r_aload_n dX9_addNumber_51 rfl rfl ?_
    refine r_bipush (v := (23 : Int32)) dX9_addNumber_52 rfl ?_
    refine r_iload_n dX9_addNumber_54 rfl rfl ?_
    refine r_iload_n dX9_addNumber_55 rfl rfl ?_
    refine r_callV (z := 0) (k := 2) (i := 0) (As := [iV (23 : Int32), iV x1, iV x3]) (st := []) kX9_add i_X9_add e_X9_add lX9_56 dX9_addNumber_56 rfl rfl ho2 rfl rfl rfl rfl rfl (Nat.le_of_ble_eq_true rfl) ?_
    exact H
  · have H := H.2 c
    refine r_aload_n dX9_addNumber_11 rfl rfl ?_
    refine r_get (k := 2) (i := 0) (j := 1) (v := rV 12 0) rfl rfl ho2 rfl hX9 (by decide) rfl fX9_9 dX9_addNumber_12 (fun _ => rfl) ?_
    refine r_iload dX9_addNumber_15 rfl ?_
    obtain ⟨q1, H⟩ := H
    refine r_iald (k := 12) (i := 0) rfl ho12 q1 dX9_addNumber_17 ?_
    refine r_callS (z := 0) (As := [iV (σ.1 12 0 ((x4).toNatClampNeg))]) (st := []) kX9_isDigit s_X9_isDigit lX9_47 dX9_addNumber_18 rfl rfl rfl rfl (Nat.le_of_ble_eq_true rfl) ?_
    exact H
set_option maxRecDepth 100000 in
theorem bX9_addNumber_21 {d : Nat} {Q : Option MV → MS → Prop} {x1 : Int32} {x2 : Int32} {x3 : Int32} {x4 : Int32} {s0 : Int32} {σ : MS}  (H : ((s0 = 0 → (R mj_OC d mX9_add (fun r σ' => R mj_OC (d + 1) mX9_addNumber Q 59 [some (rV 2 0), some (iV x1), some (iV x2), some (iV x3), some (iV x4)] (r.toList ++ []) σ') 0 [some (rV 2 0), some (iV (23 : Int32)), some (iV x1), some (iV x3)] [] σ)) ∧ (¬ s0 = 0 → (vp_in x4 700 ∧ R mj_OC (d + 1) mX9_addNumber Q 5 [some (rV 2 0), some (iV x1), some (iV x2), some (iV (if (((x3 * (10 : Int32)) + (σ.1 12 0 ((x4).toNatClampNeg))) - (48 : Int32)) < (1000000 : Int32) then (((x3 * (10 : Int32)) + (σ.1 12 0 ((x4).toNatClampNeg))) - (48 : Int32)) else (1000000 : Int32))), some (iV (x4 + (1 : Int32)))] [] σ)))) : R mj_OC (d + 1) mX9_addNumber Q 21 [some (rV 2 0), some (iV x1), some (iV x2), some (iV x3), some (iV x4)] [iV s0] σ := by
  refine r_if_eq (tgt := 51) dX9_addNumber_21 (by decide) (fun c => ?_) (fun c => ?_)
  · have H := H.1 c
    refine r_aload_n dX9_addNumber_51 rfl rfl ?_
    refine r_bipush (v := (23 : Int32)) dX9_addNumber_52 rfl ?_
    refine r_iload_n dX9_addNumber_54 rfl rfl ?_
    refine r_iload_n dX9_addNumber_55 rfl rfl ?_
    refine r_callV (z := 0) (k := 2) (i := 0) (As := [iV (23 : Int32), iV x1, iV x3]) (st := []) kX9_add i_X9_add e_X9_add lX9_56 dX9_addNumber_56 rfl rfl ho2 rfl rfl rfl rfl rfl (Nat.le_of_ble_eq_true rfl) ?_
    exact H
  · have H := H.2 c
    refine r_ldc (v := (1000000 : Int32)) oX9_80 dX9_addNumber_24 ?_
    refine r_iload_n dX9_addNumber_26 rfl rfl ?_
    refine r_bipush (v := (10 : Int32)) dX9_addNumber_27 rfl ?_
    refine r_imul dX9_addNumber_29 ?_
    refine r_aload_n dX9_addNumber_30 rfl rfl ?_
    refine r_get (k := 2) (i := 0) (j := 1) (v := rV 12 0) rfl rfl ho2 rfl hX9 (by decide) rfl fX9_9 dX9_addNumber_31 (fun _ => rfl) ?_
    refine r_iload dX9_addNumber_34 rfl ?_
    obtain ⟨q1, H⟩ := H
    refine r_iald (k := 12) (i := 0) rfl ho12 q1 dX9_addNumber_36 ?_
    refine r_iadd dX9_addNumber_37 ?_
    refine r_bipush (v := (48 : Int32)) dX9_addNumber_38 rfl ?_
    refine r_isub dX9_addNumber_40 ?_
    refine r_mmin lX9_28 dX9_addNumber_41 (Nat.le_of_ble_eq_true rfl) ?_
    refine r_istore_n dX9_addNumber_44 rfl (by decide) rfl ?_
    refine r_iinc (v := x4 + (1 : Int32)) dX9_addNumber_45 rfl rfl (by decide) rfl ?_
    refine r_goto (tgt := 5) dX9_addNumber_48 (by decide) ?_
    exact H
set_option maxRecDepth 100000 in
theorem bX9_addNumber_59 {d : Nat} {Q : Option MV → MS → Prop} {x1 : Int32} {x2 : Int32} {x3 : Int32} {x4 : Int32} {σ : MS}  (H : Q (some (iV x4)) σ) : R mj_OC d mX9_addNumber Q 59 [some (rV 2 0), some (iV x1), some (iV x2), some (iV x3), some (iV x4)] [] σ := by
  refine r_iload dX9_addNumber_59 rfl ?_
  exact r_iret dX9_addNumber_61 rfl H
set_option maxRecDepth 100000 in
theorem bX9_addSign_0 {d : Nat} {Q : Option MV → MS → Prop} {x1 : Int32} {x2 : Int32} {σ : MS}  (H : (vp_in x1 700 ∧ (R mj_OC d mJ0_indexOf_0f7a4 (fun r σ' => R mj_OC (d + 1) mX9_addSign Q 12 [some (rV 2 0), some (iV x1), some (iV x2), none, none, none] (r.toList ++ []) σ') 0 [some (rV 200 1), some (iV (((σ.1 12 0 ((x1).toNatClampNeg)).toUInt32 % 65536).toInt32))] [] σ))) : R mj_OC (d + 1) mX9_addSign Q 0 [some (rV 2 0), some (iV x1), some (iV x2), none, none, none] [] σ := by
  refine r_ldcS (i := 1) rfl dX9_addSign_0 ?_
  refine r_aload_n dX9_addSign_2 rfl rfl ?_
  refine r_get (k := 2) (i := 0) (j := 1) (v := rV 12 0) rfl rfl ho2 rfl hX9 (by decide) rfl fX9_9 dX9_addSign_3 (fun _ => rfl) ?_
  refine r_iload_n dX9_addSign_6 rfl rfl ?_
  obtain ⟨q1, H⟩ := H
  refine r_iald (k := 12) (i := 0) rfl ho12 q1 dX9_addSign_7 ?_
  refine r_i2c (v := ((σ.1 12 0 ((x1).toNatClampNeg)).toUInt32 % 65536).toInt32) dX9_addSign_8 rfl ?_
  refine r_callT (z := 0) (i := 1) (As := [iV (((σ.1 12 0 ((x1).toNatClampNeg)).toUInt32 % 65536).toInt32)]) (st := []) (by decide) rfl kJ0_indexOf_0f7a4 i_J0_indexOf_0f7a4 e_J0_indexOf_0f7a4 lX9_83 dX9_addSign_9 rfl rfl rfl rfl (Nat.le_of_ble_eq_true rfl) ?_
  exact H
set_option maxRecDepth 100000 in
theorem bX9_addSign_12 {d : Nat} {Q : Option MV → MS → Prop} {x1 : Int32} {x2 : Int32} {s0 : Int32} {σ : MS}  (H : ((0 ≤ s0 → ((x2 ≤ (x1 + (1 : Int32)) → (R mj_OC d mX9_add (fun r σ' => R mj_OC (d + 1) mX9_addSign Q 63 [some (rV 2 0), some (iV x1), some (iV x2), some (iV s0), some (iV ((24 : Int32) + s0)), some (iV ((24 : Int32) + s0))] (r.toList ++ []) σ') 0 [some (rV 2 0), some (iV ((24 : Int32) + s0)), some (iV x1), some (iV (0 : Int32))] [] σ)) ∧ (¬ x2 ≤ (x1 + (1 : Int32)) → (vp_in (x1 + (1 : Int32)) 700 ∧ (R mj_OC d mX9_withSecond (fun r σ' => R mj_OC (d + 1) mX9_addSign Q 48 [some (rV 2 0), some (iV x1), some (iV x2), some (iV s0), some (iV ((24 : Int32) + s0)), none] (r.toList ++ []) σ') 0 [some (iV ((24 : Int32) + s0)), some (iV (σ.1 12 0 (((x1 + (1 : Int32))).toNatClampNeg)))] [] σ))))) ∧ (¬ 0 ≤ s0 → ((x2 ≤ (x1 + (1 : Int32)) → (R mj_OC d mX9_add (fun r σ' => R mj_OC (d + 1) mX9_addSign Q 63 [some (rV 2 0), some (iV x1), some (iV x2), some (iV s0), some (iV (38 : Int32)), some (iV (38 : Int32))] (r.toList ++ []) σ') 0 [some (rV 2 0), some (iV (38 : Int32)), some (iV x1), some (iV (0 : Int32))] [] σ)) ∧ (¬ x2 ≤ (x1 + (1 : Int32)) → (vp_in (x1 + (1 : Int32)) 700 ∧ (R mj_OC d mX9_withSecond (fun r σ' => R mj_OC (d + 1) mX9_addSign Q 48 [some (rV 2 0), some (iV x1), some (iV x2), some (iV s0), some (iV (38 : Int32)), none] (r.toList ++ []) σ') 0 [some (iV (38 : Int32)), some (iV (σ.1 12 0 (((x1 + (1 : Int32))).toNatClampNeg)))] [] σ))))))) : R mj_OC (d + 1) mX9_addSign Q 12 [some (rV 2 0), some (iV x1), some (iV x2), none, none, none] [iV s0] σ := by
  refine r_istore_n dX9_addSign_12 rfl (by decide) rfl ?_
  refine r_iload_n dX9_addSign_13 rfl rfl ?_
  refine r_if_ge (tgt := 22) dX9_addSign_14 (by decide) (fun c => ?_) (fun c => ?_)
  · have H := H.1 c
    refine r_bipush (v := (24 : Int32)) dX9_addSign_22 rfl ?_
    refine r_iload_n dX9_addSign_24 rfl rfl ?_
    refine r_iadd dX9_addSign_25 ?_
    refine r_istore dX9_addSign_26 (by decide) rfl ?_
    refine r_iload_n dX9_addSign_28 rfl rfl ?_
    refine r_iconst (v := (1 : Int32)) dX9_addSign_29 rfl ?_
    refine r_iadd dX9_addSign_30 ?_
    refine r_iload_n dX9_addSign_31 rfl rfl ?_
    refine r_icmp_ge (tgt := 51) dX9_addSign_32 (by decide) (fun c => ?_) (fun c => ?_)
    · have H := H.1 c
      refine r_iload dX9_addSign_51 rfl ?_
      refine r_istore dX9_addSign_53 (by decide) rfl ?_
      refine r_aload_n dX9_addSign_55 rfl rfl ?_
      refine r_iload dX9_addSign_56 rfl ?_
      refine r_iload_n dX9_addSign_58 rfl rfl ?_
      refine r_iconst (v := (0 : Int32)) dX9_addSign_59 rfl ?_
      refine r_callV (z := 0) (k := 2) (i := 0) (As := [iV ((24 : Int32) + s0), iV x1, iV (0 : Int32)]) (st := []) kX9_add i_X9_add e_X9_add lX9_56 dX9_addSign_60 rfl rfl ho2 rfl rfl rfl rfl rfl (Nat.le_of_ble_eq_true rfl) ?_
      exact H
    · have H := H.2 c
      refine r_iload dX9_addSign_35 rfl ?_
      refine r_aload_n dX9_addSign_37 rfl rfl ?_
      refine r_get (k := 2) (i := 0) (j := 1) (v := rV 12 0) rfl rfl ho2 rfl hX9 (by decide) rfl fX9_9 dX9_addSign_38 (fun _ => rfl) ?_
      refine r_iload_n dX9_addSign_41 rfl rfl ?_
      refine r_iconst (v := (1 : Int32)) dX9_addSign_42 rfl ?_
      refine r_iadd dX9_addSign_43 ?_
      obtain ⟨q1, H⟩ := H
      refine r_iald (k := 12) (i := 0) rfl ho12 q1 dX9_addSign_44 ?_
      refine r_callS (z := 0) (As := [iV ((24 : Int32) + s0), iV (σ.1 12 0 (((x1 + (1 : Int32))).toNatClampNeg))]) (st := []) kX9_withSecond s_X9_withSecond lX9_86 dX9_addSign_45 rfl rfl rfl rfl (Nat.le_of_ble_eq_true rfl) ?_
      exact H
  · have H := H.2 c
    refine r_bipush (v := (38 : Int32)) dX9_addSign_17 rfl ?_
    refine r_goto (tgt := 26) dX9_addSign_19 (by decide) ?_
    refine r_istore dX9_addSign_26 (by decide) rfl ?_
    refine r_iload_n dX9_addSign_28 rfl rfl ?_
    refine r_iconst (v := (1 : Int32)) dX9_addSign_29 rfl ?_
    refine r_iadd dX9_addSign_30 ?_
    refine r_iload_n dX9_addSign_31 rfl rfl ?_
    refine r_icmp_ge (tgt := 51) dX9_addSign_32 (by decide) (fun c => ?_) (fun c => ?_)
    · have H := H.1 c
      refine r_iload dX9_addSign_51 rfl ?_
      refine r_istore dX9_addSign_53 (by decide) rfl ?_
      refine r_aload_n dX9_addSign_55 rfl rfl ?_
      refine r_iload dX9_addSign_56 rfl ?_
      refine r_iload_n dX9_addSign_58 rfl rfl ?_
      refine r_iconst (v := (0 : Int32)) dX9_addSign_59 rfl ?_
      refine r_callV (z := 0) (k := 2) (i := 0) (As := [iV (38 : Int32), iV x1, iV (0 : Int32)]) (st := []) kX9_add i_X9_add e_X9_add lX9_56 dX9_addSign_60 rfl rfl ho2 rfl rfl rfl rfl rfl (Nat.le_of_ble_eq_true rfl) ?_
      exact H
    · have H := H.2 c
      refine r_iload dX9_addSign_35 rfl ?_
      refine r_aload_n dX9_addSign_37 rfl rfl ?_
      refine r_get (k := 2) (i := 0) (j := 1) (v := rV 12 0) rfl rfl ho2 rfl hX9 (by decide) rfl fX9_9 dX9_addSign_38 (fun _ => rfl) ?_
      refine r_iload_n dX9_addSign_41 rfl rfl ?_
      refine r_iconst (v := (1 : Int32)) dX9_addSign_42 rfl ?_
      refine r_iadd dX9_addSign_43 ?_
      obtain ⟨q2, H⟩ := H
      refine r_iald (k := 12) (i := 0) rfl ho12 q2 dX9_addSign_44 ?_
      refine r_callS (z := 0) (As := [iV (38 : Int32), iV (σ.1 12 0 (((x1 + (1 : Int32))).toNatClampNeg))]) (st := []) kX9_withSecond s_X9_withSecond lX9_86 dX9_addSign_45 rfl rfl rfl rfl (Nat.le_of_ble_eq_true rfl) ?_
      exact H
set_option maxRecDepth 100000 in
theorem bX9_addSign_48 {d : Nat} {Q : Option MV → MS → Prop} {x1 : Int32} {x2 : Int32} {x3 : Int32} {x4 : Int32} {s0 : Int32} {σ : MS}  (H : (R mj_OC d mX9_add (fun r σ' => R mj_OC (d + 1) mX9_addSign Q 63 [some (rV 2 0), some (iV x1), some (iV x2), some (iV x3), some (iV x4), some (iV s0)] (r.toList ++ []) σ') 0 [some (rV 2 0), some (iV s0), some (iV x1), some (iV (0 : Int32))] [] σ)) : R mj_OC (d + 1) mX9_addSign Q 48 [some (rV 2 0), some (iV x1), some (iV x2), some (iV x3), some (iV x4), none] [iV s0] σ := by
  refine r_goto (tgt := 53) dX9_addSign_48 (by decide) ?_
  refine r_istore dX9_addSign_53 (by decide) rfl ?_
  refine r_aload_n dX9_addSign_55 rfl rfl ?_
  refine r_iload dX9_addSign_56 rfl ?_
  refine r_iload_n dX9_addSign_58 rfl rfl ?_
  refine r_iconst (v := (0 : Int32)) dX9_addSign_59 rfl ?_
  refine r_callV (z := 0) (k := 2) (i := 0) (As := [iV s0, iV x1, iV (0 : Int32)]) (st := []) kX9_add i_X9_add e_X9_add lX9_56 dX9_addSign_60 rfl rfl ho2 rfl rfl rfl rfl rfl (Nat.le_of_ble_eq_true rfl) ?_
  exact H
set_option maxRecDepth 100000 in
theorem bX9_addSign_63 {d : Nat} {Q : Option MV → MS → Prop} {x1 : Int32} {x2 : Int32} {x3 : Int32} {x4 : Int32} {x5 : Int32} {σ : MS}  (H : ((¬ x5 = x4 → Q (some (iV (x1 + (2 : Int32)))) σ) ∧ (x5 = x4 → Q (some (iV (x1 + (1 : Int32)))) σ))) : R mj_OC d mX9_addSign Q 63 [some (rV 2 0), some (iV x1), some (iV x2), some (iV x3), some (iV x4), some (iV x5)] [] σ := by
  refine r_iload dX9_addSign_63 rfl ?_
  refine r_iload dX9_addSign_65 rfl ?_
  refine r_icmp_ne (tgt := 76) dX9_addSign_67 (by decide) (fun c => ?_) (fun c => ?_)
  · have H := H.1 c
    refine r_iload_n dX9_addSign_76 rfl rfl ?_
    refine r_iconst (v := (2 : Int32)) dX9_addSign_77 rfl ?_
    refine r_iadd dX9_addSign_78 ?_
    exact r_iret dX9_addSign_79 rfl H
  · have H := H.2 c
    refine r_iload_n dX9_addSign_70 rfl rfl ?_
    refine r_iconst (v := (1 : Int32)) dX9_addSign_71 rfl ?_
    refine r_iadd dX9_addSign_72 ?_
    refine r_goto (tgt := 79) dX9_addSign_73 (by decide) ?_
    exact r_iret dX9_addSign_79 rfl H
set_option maxRecDepth 100000 in
theorem bX9_withSecond_0 {d : Nat} {Q : Option MV → MS → Prop} {x0 : Int32} {x1 : Int32} {σ : MS}  (H : ((¬ x0 = (32 : Int32) → ((¬ x0 = (32 : Int32) → ((¬ x0 = (33 : Int32) → Q (some (iV x0)) σ) ∧ (x0 = (33 : Int32) → ((¬ x1 = (61 : Int32) → Q (some (iV x0)) σ) ∧ (x1 = (61 : Int32) → Q (some (iV (35 : Int32))) σ))))) ∧ (x0 = (32 : Int32) → ((¬ x1 = (61 : Int32) → ((¬ x0 = (33 : Int32) → Q (some (iV x0)) σ) ∧ (x0 = (33 : Int32) → ((¬ x1 = (61 : Int32) → Q (some (iV x0)) σ) ∧ (x1 = (61 : Int32) → Q (some (iV (35 : Int32))) σ))))) ∧ (x1 = (61 : Int32) → Q (some (iV (34 : Int32))) σ))))) ∧ (x0 = (32 : Int32) → ((¬ x1 = (62 : Int32) → ((¬ x0 = (32 : Int32) → ((¬ x0 = (33 : Int32) → Q (some (iV x0)) σ) ∧ (x0 = (33 : Int32) → ((¬ x1 = (61 : Int32) → Q (some (iV x0)) σ) ∧ (x1 = (61 : Int32) → Q (some (iV (35 : Int32))) σ))))) ∧ (x0 = (32 : Int32) → ((¬ x1 = (61 : Int32) → ((¬ x0 = (33 : Int32) → Q (some (iV x0)) σ) ∧ (x0 = (33 : Int32) → ((¬ x1 = (61 : Int32) → Q (some (iV x0)) σ) ∧ (x1 = (61 : Int32) → Q (some (iV (35 : Int32))) σ))))) ∧ (x1 = (61 : Int32) → Q (some (iV (34 : Int32))) σ))))) ∧ (x1 = (62 : Int32) → Q (some (iV (36 : Int32))) σ))))) : R mj_OC d mX9_withSecond Q 0 [some (iV x0), some (iV x1)] [] σ := by
  refine r_iload_n dX9_withSecond_0 rfl rfl ?_
  refine r_bipush (v := (32 : Int32)) dX9_withSecond_1 rfl ?_
  refine r_icmp_ne (tgt := 15) dX9_withSecond_3 (by decide) (fun c => ?_) (fun c => ?_)
  · have H := H.1 c
    refine r_iload_n dX9_withSecond_15 rfl rfl ?_
    refine r_bipush (v := (32 : Int32)) dX9_withSecond_16 rfl ?_
    refine r_icmp_ne (tgt := 30) dX9_withSecond_18 (by decide) (fun c => ?_) (fun c => ?_)
    · have H := H.1 c
      refine r_iload_n dX9_withSecond_30 rfl rfl ?_
      refine r_bipush (v := (33 : Int32)) dX9_withSecond_31 rfl ?_
      refine r_icmp_ne (tgt := 47) dX9_withSecond_33 (by decide) (fun c => ?_) (fun c => ?_)
      · have H := H.1 c
        refine r_iload_n dX9_withSecond_47 rfl rfl ?_
        exact r_iret dX9_withSecond_48 rfl H
      · have H := H.2 c
        refine r_iload_n dX9_withSecond_36 rfl rfl ?_
        refine r_bipush (v := (61 : Int32)) dX9_withSecond_37 rfl ?_
        refine r_icmp_ne (tgt := 47) dX9_withSecond_39 (by decide) (fun c => ?_) (fun c => ?_)
        · have H := H.1 c
          refine r_iload_n dX9_withSecond_47 rfl rfl ?_
          exact r_iret dX9_withSecond_48 rfl H
        · have H := H.2 c
          refine r_bipush (v := (35 : Int32)) dX9_withSecond_42 rfl ?_
          refine r_goto (tgt := 48) dX9_withSecond_44 (by decide) ?_
          exact r_iret dX9_withSecond_48 rfl H
    · have H := H.2 c
      refine r_iload_n dX9_withSecond_21 rfl rfl ?_
      refine r_bipush (v := (61 : Int32)) dX9_withSecond_22 rfl ?_
      refine r_icmp_ne (tgt := 30) dX9_withSecond_24 (by decide) (fun c => ?_) (fun c => ?_)
      · have H := H.1 c
        refine r_iload_n dX9_withSecond_30 rfl rfl ?_
        refine r_bipush (v := (33 : Int32)) dX9_withSecond_31 rfl ?_
        refine r_icmp_ne (tgt := 47) dX9_withSecond_33 (by decide) (fun c => ?_) (fun c => ?_)
        · have H := H.1 c
          refine r_iload_n dX9_withSecond_47 rfl rfl ?_
          exact r_iret dX9_withSecond_48 rfl H
        · have H := H.2 c
          refine r_iload_n dX9_withSecond_36 rfl rfl ?_
          refine r_bipush (v := (61 : Int32)) dX9_withSecond_37 rfl ?_
          refine r_icmp_ne (tgt := 47) dX9_withSecond_39 (by decide) (fun c => ?_) (fun c => ?_)
          · have H := H.1 c
            refine r_iload_n dX9_withSecond_47 rfl rfl ?_
            exact r_iret dX9_withSecond_48 rfl H
          · have H := H.2 c
            refine r_bipush (v := (35 : Int32)) dX9_withSecond_42 rfl ?_
            refine r_goto (tgt := 48) dX9_withSecond_44 (by decide) ?_
            exact r_iret dX9_withSecond_48 rfl H
      · have H := H.2 c
        refine r_bipush (v := (34 : Int32)) dX9_withSecond_27 rfl ?_
        exact r_iret dX9_withSecond_29 rfl H
  · have H := H.2 c
    refine r_iload_n dX9_withSecond_6 rfl rfl ?_
    refine r_bipush (v := (62 : Int32)) dX9_withSecond_7 rfl ?_
    refine r_icmp_ne (tgt := 15) dX9_withSecond_9 (by decide) (fun c => ?_) (fun c => ?_)
    · have H := H.1 c
      refine r_iload_n dX9_withSecond_15 rfl rfl ?_
      refine r_bipush (v := (32 : Int32)) dX9_withSecond_16 rfl ?_
      refine r_icmp_ne (tgt := 30) dX9_withSecond_18 (by decide) (fun c => ?_) (fun c => ?_)
      · have H := H.1 c
        refine r_iload_n dX9_withSecond_30 rfl rfl ?_
        refine r_bipush (v := (33 : Int32)) dX9_withSecond_31 rfl ?_
        refine r_icmp_ne (tgt := 47) dX9_withSecond_33 (by decide) (fun c => ?_) (fun c => ?_)
        · have H := H.1 c
          refine r_iload_n dX9_withSecond_47 rfl rfl ?_
          exact r_iret dX9_withSecond_48 rfl H
        · have H := H.2 c
          refine r_iload_n dX9_withSecond_36 rfl rfl ?_
          refine r_bipush (v := (61 : Int32)) dX9_withSecond_37 rfl ?_
          refine r_icmp_ne (tgt := 47) dX9_withSecond_39 (by decide) (fun c => ?_) (fun c => ?_)
          · have H := H.1 c
            refine r_iload_n dX9_withSecond_47 rfl rfl ?_
            exact r_iret dX9_withSecond_48 rfl H
          · have H := H.2 c
            refine r_bipush (v := (35 : Int32)) dX9_withSecond_42 rfl ?_
            refine r_goto (tgt := 48) dX9_withSecond_44 (by decide) ?_
            exact r_iret dX9_withSecond_48 rfl H
      · have H := H.2 c
        refine r_iload_n dX9_withSecond_21 rfl rfl ?_
        refine r_bipush (v := (61 : Int32)) dX9_withSecond_22 rfl ?_
        refine r_icmp_ne (tgt := 30) dX9_withSecond_24 (by decide) (fun c => ?_) (fun c => ?_)
        · have H := H.1 c
          refine r_iload_n dX9_withSecond_30 rfl rfl ?_
          refine r_bipush (v := (33 : Int32)) dX9_withSecond_31 rfl ?_
          refine r_icmp_ne (tgt := 47) dX9_withSecond_33 (by decide) (fun c => ?_) (fun c => ?_)
          · have H := H.1 c
            refine r_iload_n dX9_withSecond_47 rfl rfl ?_
            exact r_iret dX9_withSecond_48 rfl H
          · have H := H.2 c
            refine r_iload_n dX9_withSecond_36 rfl rfl ?_
            refine r_bipush (v := (61 : Int32)) dX9_withSecond_37 rfl ?_
            refine r_icmp_ne (tgt := 47) dX9_withSecond_39 (by decide) (fun c => ?_) (fun c => ?_)
            · have H := H.1 c
              refine r_iload_n dX9_withSecond_47 rfl rfl ?_
              exact r_iret dX9_withSecond_48 rfl H
            · have H := H.2 c
              refine r_bipush (v := (35 : Int32)) dX9_withSecond_42 rfl ?_
              refine r_goto (tgt := 48) dX9_withSecond_44 (by decide) ?_
              exact r_iret dX9_withSecond_48 rfl H
        · have H := H.2 c
          refine r_bipush (v := (34 : Int32)) dX9_withSecond_27 rfl ?_
          exact r_iret dX9_withSecond_29 rfl H
    · have H := H.2 c
      refine r_bipush (v := (36 : Int32)) dX9_withSecond_12 rfl ?_
      exact r_iret dX9_withSecond_14 rfl H
set_option maxRecDepth 100000 in
theorem bX9_kind_0 {d : Nat} {Q : Option MV → MS → Prop}  {σ : MS}  (H : (vp_in (σ.1 2 0 6) 701 ∧ Q (some (iV (σ.1 13 0 (((σ.1 2 0 6)).toNatClampNeg)))) σ)) : R mj_OC d mX9_kind Q 0 [some (rV 2 0)] [] σ := by
  refine r_aload_n dX9_kind_0 rfl rfl ?_
  refine r_get (k := 2) (i := 0) (j := 2) (v := rV 13 0) rfl rfl ho2 rfl hX9 (by decide) rfl fX9_15 dX9_kind_1 (fun _ => rfl) ?_
  refine r_aload_n dX9_kind_4 rfl rfl ?_
  refine r_get (k := 2) (i := 0) (j := 6) (v := iV (σ.1 2 0 6)) rfl rfl ho2 rfl hX9 (by decide) rfl fX9_37 dX9_kind_5 (fun _ => rfl) ?_
  obtain ⟨q1, H⟩ := H
  refine r_iald (k := 13) (i := 0) rfl ho13 q1 dX9_kind_8 ?_
  exact r_iret dX9_kind_9 rfl H
set_option maxRecDepth 100000 in
theorem bX9_place_0 {d : Nat} {Q : Option MV → MS → Prop}  {σ : MS}  (H : (vp_in (σ.1 2 0 6) 701 ∧ Q (some (iV (σ.1 14 0 (((σ.1 2 0 6)).toNatClampNeg)))) σ)) : R mj_OC d mX9_place Q 0 [some (rV 2 0)] [] σ := by
  refine r_aload_n dX9_place_0 rfl rfl ?_
  refine r_get (k := 2) (i := 0) (j := 3) (v := rV 14 0) rfl rfl ho2 rfl hX9 (by decide) rfl fX9_18 dX9_place_1 (fun _ => rfl) ?_
  refine r_aload_n dX9_place_4 rfl rfl ?_
  refine r_get (k := 2) (i := 0) (j := 6) (v := iV (σ.1 2 0 6)) rfl rfl ho2 rfl hX9 (by decide) rfl fX9_37 dX9_place_5 (fun _ => rfl) ?_
  obtain ⟨q1, H⟩ := H
  refine r_iald (k := 14) (i := 0) rfl ho14 q1 dX9_place_8 ?_
  exact r_iret dX9_place_9 rfl H
set_option maxRecDepth 100000 in
theorem bX9_value_0 {d : Nat} {Q : Option MV → MS → Prop}  {σ : MS}  (H : (vp_in (σ.1 2 0 6) 701 ∧ Q (some (iV (σ.1 15 0 (((σ.1 2 0 6)).toNatClampNeg)))) σ)) : R mj_OC d mX9_value Q 0 [some (rV 2 0)] [] σ := by
  refine r_aload_n dX9_value_0 rfl rfl ?_
  refine r_get (k := 2) (i := 0) (j := 4) (v := rV 15 0) rfl rfl ho2 rfl hX9 (by decide) rfl fX9_21 dX9_value_1 (fun _ => rfl) ?_
  refine r_aload_n dX9_value_4 rfl rfl ?_
  refine r_get (k := 2) (i := 0) (j := 6) (v := iV (σ.1 2 0 6)) rfl rfl ho2 rfl hX9 (by decide) rfl fX9_37 dX9_value_5 (fun _ => rfl) ?_
  obtain ⟨q1, H⟩ := H
  refine r_iald (k := 15) (i := 0) rfl ho15 q1 dX9_value_8 ?_
  exact r_iret dX9_value_9 rfl H
set_option maxRecDepth 100000 in
theorem bX9_advance_0 {d : Nat} {Q : Option MV → MS → Prop}  {σ : MS}  (H : (((σ.1 2 0 5) ≤ ((σ.1 2 0 6) + (1 : Int32)) → Q none σ) ∧ (¬ (σ.1 2 0 5) ≤ ((σ.1 2 0 6) + (1 : Int32)) → Q none (uI σ 2 0 6 ((σ.1 2 0 6) + (1 : Int32)))))) : R mj_OC d mX9_advance Q 0 [some (rV 2 0)] [] σ := by
  refine r_aload_n dX9_advance_0 rfl rfl ?_
  refine r_get (k := 2) (i := 0) (j := 6) (v := iV (σ.1 2 0 6)) rfl rfl ho2 rfl hX9 (by decide) rfl fX9_37 dX9_advance_1 (fun _ => rfl) ?_
  refine r_iconst (v := (1 : Int32)) dX9_advance_4 rfl ?_
  refine r_iadd dX9_advance_5 ?_
  refine r_aload_n dX9_advance_6 rfl rfl ?_
  refine r_get (k := 2) (i := 0) (j := 5) (v := iV (σ.1 2 0 5)) rfl rfl ho2 rfl hX9 (by decide) rfl fX9_34 dX9_advance_7 (fun _ => rfl) ?_
  refine r_icmp_ge (tgt := 23) dX9_advance_10 (by decide) (fun c => ?_) (fun c => ?_)
  · have H := H.1 c
    exact r_vret dX9_advance_23 rfl H
  · have H := H.2 c
    refine r_aload_n dX9_advance_13 rfl rfl ?_
    refine r_dup_r dX9_advance_14 ?_
    refine r_get (k := 2) (i := 0) (j := 6) (v := iV (σ.1 2 0 6)) rfl rfl ho2 rfl hX9 (by decide) rfl fX9_37 dX9_advance_15 (fun _ => rfl) ?_
    refine r_iconst (v := (1 : Int32)) dX9_advance_18 rfl ?_
    refine r_iadd dX9_advance_19 ?_
    refine r_putI (k := 2) (i := 0) (j := 6) (ty0 := tyX9) rfl rfl ho2 rfl hX9 (by decide) rfl fX9_37 dX9_advance_20 rfl tyX9_ok nmX9 rfl rfl rfl ?_
    exact r_vret dX9_advance_23 rfl H
