set_option maxRecDepth 100000 in
theorem bX11_common_0 {d : Nat} {Q : Option MV → MS → Prop} {x0 : Int32} {x1 : Int32} {σ : MS}  (H : R mj_OM d mX11_common Q 4 [some (iV x0), some (iV x1), some (iV x0), some (iV x1), none] [] σ) : R mj_OM d mX11_common Q 0 [some (iV x0), some (iV x1), none, none, none] [] σ := by
  refine r_iload_n dX11_common_0 rfl rfl ?_
  refine r_istore_n dX11_common_1 rfl (by decide) rfl ?_
  refine r_iload_n dX11_common_2 rfl rfl ?_
  refine r_istore_n dX11_common_3 rfl (by decide) rfl ?_
  exact H
set_option maxRecDepth 100000 in
theorem bX11_common_4 {d : Nat} {Q : Option MV → MS → Prop} {x0 : Int32} {x1 : Int32} {x2 : Int32} {x3 : Int32} {σ : MS}  (H : ((x3 = 0 → Q (some (iV x2)) σ) ∧ (¬ x3 = 0 → ((¬ x3 = 0) ∧ R mj_OM d mX11_common Q 4 [some (iV x0), some (iV x1), some (iV x3), some (iV (x2 - x2 / x3 * x3)), none] [] σ)))) : R mj_OM d mX11_common Q 4 [some (iV x0), some (iV x1), some (iV x2), some (iV x3), none] [] σ := by
  refine r_iload_n dX11_common_4 rfl rfl ?_
  refine r_if_eq (tgt := 21) dX11_common_5 (by decide) (fun c => ?_) (fun c => ?_)
  · have H := H.1 c
    refine r_iload_n dX11_common_21 rfl rfl ?_
    exact r_iret dX11_common_22 rfl H
  · have H := H.2 c
    refine r_iload_n dX11_common_8 rfl rfl ?_
    refine r_iload_n dX11_common_9 rfl rfl ?_
    obtain ⟨q1, H⟩ := H
    refine r_irem dX11_common_10 q1 ?_
    refine r_istore dX11_common_11 (by decide) rfl ?_
    refine r_iload_n dX11_common_13 rfl rfl ?_
    refine r_istore_n dX11_common_14 rfl (by decide) rfl ?_
    refine r_iload dX11_common_15 rfl ?_
    refine r_istore_n dX11_common_17 rfl (by decide) rfl ?_
    refine r_goto (tgt := 4) dX11_common_18 (by decide) ?_
    exact R.fw (ls' := [some (iV x0), some (iV x1), some (iV x3), some (iV (x2 - x2 / x3 * x3)), none]) ⟨rfl, ⟨rfl, ⟨rfl, ⟨rfl, trivial⟩⟩⟩⟩ H
set_option maxRecDepth 100000 in
theorem bX11_part_0 {d : Nat} {Q : Option MV → MS → Prop} {x0 : Int32} {x1 : Int32} {x2 : Int32} {σ : MS}  (H : (R mj_OM d mX11_common (fun r σ' => R mj_OM (d + 1) mX11_part Q 5 [some (iV x0), some (iV x1), some (iV x2), none] (r.toList ++ []) σ') 0 [some (iV x0), some (iV x1), none, none, none] [] σ)) : R mj_OM (d + 1) mX11_part Q 0 [some (iV x0), some (iV x1), some (iV x2), none] [] σ := by
  refine r_iload_n dX11_part_0 rfl rfl ?_
  refine r_iload_n dX11_part_1 rfl rfl ?_
  refine r_callS (z := 3) (As := [iV x0, iV x1]) (st := []) kX11_common s_X11_common lX11_443 dX11_part_2 rfl rfl rfl rfl (Nat.le_of_ble_eq_true rfl) ?_
  exact H
set_option maxRecDepth 100000 in
theorem bX11_part_5 {d : Nat} {Q : Option MV → MS → Prop} {x0 : Int32} {x1 : Int32} {x2 : Int32} {s0 : Int32} {σ : MS}  (H : ((¬ x2 = 0 → ((¬ s0 = 0) ∧ Q (some (iV (x1 / s0))) σ)) ∧ (x2 = 0 → ((¬ s0 = 0) ∧ Q (some (iV (x0 / s0))) σ)))) : R mj_OM d mX11_part Q 5 [some (iV x0), some (iV x1), some (iV x2), none] [iV s0] σ := by
  refine r_istore_n dX11_part_5 rfl (by decide) rfl ?_
  refine r_iload_n dX11_part_6 rfl rfl ?_
  refine r_if_ne (tgt := 16) dX11_part_7 (by decide) (fun c => ?_) (fun c => ?_)
  · have H := H.1 c
    refine r_iload_n dX11_part_16 rfl rfl ?_
    refine r_iload_n dX11_part_17 rfl rfl ?_
    obtain ⟨q1, H⟩ := H
    refine r_idiv dX11_part_18 q1 ?_
    exact r_iret dX11_part_19 rfl H
  · have H := H.2 c
    refine r_iload_n dX11_part_10 rfl rfl ?_
    refine r_iload_n dX11_part_11 rfl rfl ?_
    obtain ⟨q2, H⟩ := H
    refine r_idiv dX11_part_12 q2 ?_
    refine r_goto (tgt := 19) dX11_part_13 (by decide) ?_
    exact r_iret dX11_part_19 rfl H
set_option maxRecDepth 100000 in
theorem bX11_isPart_0 {d : Nat} {Q : Option MV → MS → Prop} {x0 : Int32} {σ : MS}  (H : ((x0 = 0 → Q (some (iV (1 : Int32))) σ) ∧ (¬ x0 = 0 → ((¬ x0 = (1 : Int32) → Q (some (iV (0 : Int32))) σ) ∧ (x0 = (1 : Int32) → Q (some (iV (1 : Int32))) σ))))) : R mj_OM d mX11_isPart Q 0 [some (iV x0)] [] σ := by
  refine r_iload_n dX11_isPart_0 rfl rfl ?_
  refine r_if_eq (tgt := 9) dX11_isPart_1 (by decide) (fun c => ?_) (fun c => ?_)
  · have H := H.1 c
    refine r_iconst (v := (1 : Int32)) dX11_isPart_9 rfl ?_
    refine r_goto (tgt := 14) dX11_isPart_10 (by decide) ?_
    exact r_zret dX11_isPart_14 rfl (by decide) H
  · have H := H.2 c
    refine r_iload_n dX11_isPart_4 rfl rfl ?_
    refine r_iconst (v := (1 : Int32)) dX11_isPart_5 rfl ?_
    refine r_icmp_ne (tgt := 13) dX11_isPart_6 (by decide) (fun c => ?_) (fun c => ?_)
    · have H := H.1 c
      refine r_iconst (v := (0 : Int32)) dX11_isPart_13 rfl ?_
      exact r_zret dX11_isPart_14 rfl (by decide) H
    · have H := H.2 c
      refine r_iconst (v := (1 : Int32)) dX11_isPart_9 rfl ?_
      refine r_goto (tgt := 14) dX11_isPart_10 (by decide) ?_
      exact r_zret dX11_isPart_14 rfl (by decide) H
set_option maxRecDepth 100000 in
theorem bX11_orNone_0 {d : Nat} {Q : Option MV → MS → Prop} {x0 : Int32} {σ : MS}  (H : ((¬ x0 = (-1 : Int32) → Q (some (iV x0)) σ) ∧ (x0 = (-1 : Int32) → Q (some (iV (-2 : Int32))) σ))) : R mj_OM d mX11_orNone Q 0 [some (iV x0)] [] σ := by
  refine r_iload_n dX11_orNone_0 rfl rfl ?_
  refine r_iconst (v := (-1 : Int32)) dX11_orNone_1 rfl ?_
  refine r_icmp_ne (tgt := 10) dX11_orNone_2 (by decide) (fun c => ?_) (fun c => ?_)
  · have H := H.1 c
    refine r_iload_n dX11_orNone_10 rfl rfl ?_
    exact r_iret dX11_orNone_11 rfl H
  · have H := H.2 c
    refine r_bipush (v := (-2 : Int32)) dX11_orNone_5 rfl ?_
    refine r_goto (tgt := 11) dX11_orNone_7 (by decide) ?_
    exact r_iret dX11_orNone_11 rfl H
set_option maxRecDepth 100000 in
theorem bX11_lockOf_0 {d : Nat} {Q : Option MV → MS → Prop} {x1 : Int32} {σ : MS}  (H : R mj_OM d mX11_lockOf Q 2 [some (rV 45 0), some (iV x1), some (iV (0 : Int32))] [] σ) : R mj_OM d mX11_lockOf Q 0 [some (rV 45 0), some (iV x1), none] [] σ := by
  refine r_iconst (v := (0 : Int32)) dX11_lockOf_0 rfl ?_
  refine r_istore_n dX11_lockOf_1 rfl (by decide) rfl ?_
  exact H
set_option maxRecDepth 100000 in
theorem bX11_lockOf_2 {d : Nat} {Q : Option MV → MS → Prop} {x1 : Int32} {x2 : Int32} {σ : MS}  (H : (vp_in (1 : Int32) 18 ∧ (((σ.1 47 0 1) ≤ x2 → Q (some (iV (-1 : Int32))) σ) ∧ (¬ (σ.1 47 0 1) ≤ x2 → (vp_in x2 6 ∧ ((¬ (σ.1 53 0 ((x2).toNatClampNeg)) = x1 → R mj_OM d mX11_lockOf Q 2 [some (rV 45 0), some (iV x1), some (iV (x2 + (1 : Int32)))] [] σ) ∧ ((σ.1 53 0 ((x2).toNatClampNeg)) = x1 → Q (some (iV x2)) σ))))))) : R mj_OM d mX11_lockOf Q 2 [some (rV 45 0), some (iV x1), some (iV x2)] [] σ := by
  refine r_iload_n dX11_lockOf_2 rfl rfl ?_
  refine r_aload_n dX11_lockOf_3 rfl rfl ?_
  refine r_get (k := 45) (i := 0) (j := 3) (v := rV 47 0) rfl rfl ho45 rfl hX11 (by decide) rfl fX11_13 dX11_lockOf_4 (fun _ => rfl) ?_
  refine r_iconst (v := (1 : Int32)) dX11_lockOf_7 rfl ?_
  obtain ⟨q1, H⟩ := H
  refine r_iald (k := 47) (i := 0) rfl ho47 q1 dX11_lockOf_8 ?_
  refine r_icmp_ge (tgt := 30) dX11_lockOf_9 (by decide) (fun c => ?_) (fun c => ?_)
  · have H := H.1 c
    refine r_iconst (v := (-1 : Int32)) dX11_lockOf_30 rfl ?_
    exact r_iret dX11_lockOf_31 rfl H
  · have H := H.2 c
    refine r_aload_n dX11_lockOf_12 rfl rfl ?_
    refine r_get (k := 45) (i := 0) (j := 9) (v := rV 53 0) rfl rfl ho45 rfl hX11 (by decide) rfl fX11_31 dX11_lockOf_13 (fun _ => rfl) ?_
    refine r_iload_n dX11_lockOf_16 rfl rfl ?_
    obtain ⟨q2, H⟩ := H
    refine r_iald (k := 53) (i := 0) rfl ho53 q2 dX11_lockOf_17 ?_
    refine r_iload_n dX11_lockOf_18 rfl rfl ?_
    refine r_icmp_ne (tgt := 24) dX11_lockOf_19 (by decide) (fun c => ?_) (fun c => ?_)
    · have H := H.1 c
      refine r_iinc (v := x2 + (1 : Int32)) dX11_lockOf_24 rfl rfl (by decide) rfl ?_
      refine r_goto (tgt := 2) dX11_lockOf_27 (by decide) ?_
      exact H
    · have H := H.2 c
      refine r_iload_n dX11_lockOf_22 rfl rfl ?_
      exact r_iret dX11_lockOf_23 rfl H
set_option maxRecDepth 100000 in
theorem bX11_pond_0 {d : Nat} {Q : Option MV → MS → Prop} {x1 : Int32} {x2 : Int32} {σ : MS}  (H : (R mj_OM d mX11_isPond (fun r σ' => R mj_OM (d + 1) mX11_pond Q 6 [some (rV 45 0), some (iV x1), some (iV x2)] (r.toList ++ [rV 45 0]) σ') 0 [some (rV 45 0), some (iV x1)] [] σ)) : R mj_OM (d + 1) mX11_pond Q 0 [some (rV 45 0), some (iV x1), some (iV x2)] [] σ := by
  refine r_aload_n dX11_pond_0 rfl rfl ?_
  refine r_aload_n dX11_pond_1 rfl rfl ?_
  refine r_iload_n dX11_pond_2 rfl rfl ?_
  refine r_callV (z := 0) (k := 45) (i := 0) (As := [iV x1]) (st := [rV 45 0]) kX11_isPond i_X11_isPond e_X11_isPond lX11_446 dX11_pond_3 rfl rfl ho45 rfl rfl rfl rfl rfl (Nat.le_of_ble_eq_true rfl) ?_
  exact H
set_option maxRecDepth 100000 in
theorem bX11_pond_6 {d : Nat} {Q : Option MV → MS → Prop} {x1 : Int32} {x2 : Int32} {s0 : Int32} {σ : MS}  (H : ((¬ s0 = 0 → ((x2 < 0 → (((2 : Int32) = 0 → ((x2 = 0 → (vp_in x1 14 ∧ Q (some (iV (σ.1 49 0 ((x1).toNatClampNeg)))) (uI σ 45 0 0 (2 : Int32)))) ∧ (¬ x2 = 0 → ((x2 = 1 → (vp_in x1 14 ∧ Q (some (iV (σ.1 50 0 ((x1).toNatClampNeg)))) (uI σ 45 0 0 (2 : Int32)))) ∧ (¬ x2 = 1 → ((x2 = 2 → (vp_in x1 161 ∧ Q (some (iV (σ.1 74 0 ((x1).toNatClampNeg)))) (uI σ 45 0 0 (2 : Int32)))) ∧ (¬ x2 = 2 → ((x2 = 3 → (vp_in x1 14 ∧ Q (some (iV (σ.1 52 0 ((x1).toNatClampNeg)))) (uI σ 45 0 0 (2 : Int32)))) ∧ (¬ x2 = 3 → (R mj_OM d mX11_lockOf (fun r σ' => R mj_OM (d + 1) mX11_pond Q 105 [some (rV 45 0), some (iV x1), some (iV x2)] (r.toList ++ []) σ') 0 [some (rV 45 0), some (iV x1), none] [] (uI σ 45 0 0 (2 : Int32)))))))))))) ∧ (¬ (2 : Int32) = 0 → Q (some (iV (0 : Int32))) (uI σ 45 0 0 (2 : Int32))))) ∧ (¬ x2 < 0 → ((x2 ≤ (4 : Int32) → (((0 : Int32) = 0 → ((x2 = 0 → (vp_in x1 14 ∧ Q (some (iV (σ.1 49 0 ((x1).toNatClampNeg)))) (uI σ 45 0 0 (0 : Int32)))) ∧ (¬ x2 = 0 → ((x2 = 1 → (vp_in x1 14 ∧ Q (some (iV (σ.1 50 0 ((x1).toNatClampNeg)))) (uI σ 45 0 0 (0 : Int32)))) ∧ (¬ x2 = 1 → ((x2 = 2 → (vp_in x1 161 ∧ Q (some (iV (σ.1 74 0 ((x1).toNatClampNeg)))) (uI σ 45 0 0 (0 : Int32)))) ∧ (¬ x2 = 2 → ((x2 = 3 → (vp_in x1 14 ∧ Q (some (iV (σ.1 52 0 ((x1).toNatClampNeg)))) (uI σ 45 0 0 (0 : Int32)))) ∧ (¬ x2 = 3 → (R mj_OM d mX11_lockOf (fun r σ' => R mj_OM (d + 1) mX11_pond Q 105 [some (rV 45 0), some (iV x1), some (iV x2)] (r.toList ++ []) σ') 0 [some (rV 45 0), some (iV x1), none] [] (uI σ 45 0 0 (0 : Int32)))))))))))) ∧ (¬ (0 : Int32) = 0 → Q (some (iV (0 : Int32))) (uI σ 45 0 0 (0 : Int32))))) ∧ (¬ x2 ≤ (4 : Int32) → (((2 : Int32) = 0 → ((x2 = 0 → (vp_in x1 14 ∧ Q (some (iV (σ.1 49 0 ((x1).toNatClampNeg)))) (uI σ 45 0 0 (2 : Int32)))) ∧ (¬ x2 = 0 → ((x2 = 1 → (vp_in x1 14 ∧ Q (some (iV (σ.1 50 0 ((x1).toNatClampNeg)))) (uI σ 45 0 0 (2 : Int32)))) ∧ (¬ x2 = 1 → ((x2 = 2 → (vp_in x1 161 ∧ Q (some (iV (σ.1 74 0 ((x1).toNatClampNeg)))) (uI σ 45 0 0 (2 : Int32)))) ∧ (¬ x2 = 2 → ((x2 = 3 → (vp_in x1 14 ∧ Q (some (iV (σ.1 52 0 ((x1).toNatClampNeg)))) (uI σ 45 0 0 (2 : Int32)))) ∧ (¬ x2 = 3 → (R mj_OM d mX11_lockOf (fun r σ' => R mj_OM (d + 1) mX11_pond Q 105 [some (rV 45 0), some (iV x1), some (iV x2)] (r.toList ++ []) σ') 0 [some (rV 45 0), some (iV x1), none] [] (uI σ 45 0 0 (2 : Int32)))))))))))) ∧ (¬ (2 : Int32) = 0 → Q (some (iV (0 : Int32))) (uI σ 45 0 0 (2 : Int32))))))))) ∧ (s0 = 0 → (((1 : Int32) = 0 → ((x2 = 0 → (vp_in x1 14 ∧ Q (some (iV (σ.1 49 0 ((x1).toNatClampNeg)))) (uI σ 45 0 0 (1 : Int32)))) ∧ (¬ x2 = 0 → ((x2 = 1 → (vp_in x1 14 ∧ Q (some (iV (σ.1 50 0 ((x1).toNatClampNeg)))) (uI σ 45 0 0 (1 : Int32)))) ∧ (¬ x2 = 1 → ((x2 = 2 → (vp_in x1 161 ∧ Q (some (iV (σ.1 74 0 ((x1).toNatClampNeg)))) (uI σ 45 0 0 (1 : Int32)))) ∧ (¬ x2 = 2 → ((x2 = 3 → (vp_in x1 14 ∧ Q (some (iV (σ.1 52 0 ((x1).toNatClampNeg)))) (uI σ 45 0 0 (1 : Int32)))) ∧ (¬ x2 = 3 → (R mj_OM d mX11_lockOf (fun r σ' => R mj_OM (d + 1) mX11_pond Q 105 [some (rV 45 0), some (iV x1), some (iV x2)] (r.toList ++ []) σ') 0 [some (rV 45 0), some (iV x1), none] [] (uI σ 45 0 0 (1 : Int32)))))))))))) ∧ (¬ (1 : Int32) = 0 → Q (some (iV (0 : Int32))) (uI σ 45 0 0 (1 : Int32))))))) : R mj_OM (d + 1) mX11_pond Q 6 [some (rV 45 0), some (iV x1), some (iV x2)] [iV s0, rV 45 0] σ := by
  refine r_if_ne (tgt := 13) dX11_pond_6 (by decide) (fun c => ?_) (fun c => ?_)
  · have H := H.1 c
    refine r_iload_n dX11_pond_13 rfl rfl ?_
    refine r_if_lt (tgt := 22) dX11_pond_14 (by decide) (fun c => ?_) (fun c => ?_)
    · have H := H.1 c
      refine r_iconst (v := (2 : Int32)) dX11_pond_22 rfl ?_
      refine r_goto (tgt := 27) dX11_pond_23 (by decide) ?_
      refine r_putI (k := 45) (i := 0) (j := 0) (ty0 := tyX11) rfl rfl ho45 rfl hX11 (by decide) rfl fX11_151 dX11_pond_27 rfl tyX11_ok nmX11 rfl rfl rfl ?_
      refine r_aload_n dX11_pond_30 rfl rfl ?_
      refine r_get (k := 45) (i := 0) (j := 0) (v := iV (2 : Int32)) rfl rfl ho45 rfl hX11 (by decide) rfl fX11_151 dX11_pond_31 (fun _ => rfl) ?_
      refine r_if_eq (tgt := 39) dX11_pond_34 (by decide) (fun c => ?_) (fun c => ?_)
      · have H := H.1 c
        refine r_iload_n dX11_pond_39 rfl rfl ?_
        by_cases c0 : x2 = 0
        · have H := H.1 c0
          refine r_tableIn (tgt := 72) (off := 32) dX11_pond_40 (by rw [c0]; decide) (by rw [c0]; decide) (by rw [c0]; rfl) (by decide) ?_
          refine r_aload_n dX11_pond_72 rfl rfl ?_
          refine r_get (k := 45) (i := 0) (j := 5) (v := rV 49 0) rfl rfl ho45 rfl hX11 (by decide) rfl fX11_19 dX11_pond_73 (fun _ => rfl) ?_
          refine r_iload_n dX11_pond_76 rfl rfl ?_
          obtain ⟨q1, H⟩ := H
          refine r_iald (k := 49) (i := 0) rfl ho49 q1 dX11_pond_77 ?_
          exact r_iret dX11_pond_78 rfl H
        replace H := H.2 c0
        by_cases c1 : x2 = 1
        · have H := H.1 c1
          refine r_tableIn (tgt := 79) (off := 39) dX11_pond_40 (by rw [c1]; decide) (by rw [c1]; decide) (by rw [c1]; rfl) (by decide) ?_
          refine r_aload_n dX11_pond_79 rfl rfl ?_
          refine r_get (k := 45) (i := 0) (j := 6) (v := rV 50 0) rfl rfl ho45 rfl hX11 (by decide) rfl fX11_22 dX11_pond_80 (fun _ => rfl) ?_
          refine r_iload_n dX11_pond_83 rfl rfl ?_
          obtain ⟨q2, H⟩ := H
          refine r_iald (k := 50) (i := 0) rfl ho50 q2 dX11_pond_84 ?_
          exact r_iret dX11_pond_85 rfl H
        replace H := H.2 c1
        by_cases c2 : x2 = 2
        · have H := H.1 c2
          refine r_tableIn (tgt := 86) (off := 46) dX11_pond_40 (by rw [c2]; decide) (by rw [c2]; decide) (by rw [c2]; rfl) (by decide) ?_
          refine r_aload_n dX11_pond_86 rfl rfl ?_
          refine r_get (k := 45) (i := 0) (j := 44) (v := rV 74 0) rfl rfl ho45 rfl hX11 (by decide) rfl fX11_99 dX11_pond_87 (fun _ => rfl) ?_
          refine r_iload_n dX11_pond_90 rfl rfl ?_
          obtain ⟨q3, H⟩ := H
          refine r_iald (k := 74) (i := 0) rfl ho74 q3 dX11_pond_91 ?_
          exact r_iret dX11_pond_92 rfl H
        replace H := H.2 c2
        by_cases c3 : x2 = 3
        · have H := H.1 c3
          refine r_tableIn (tgt := 93) (off := 53) dX11_pond_40 (by rw [c3]; decide) (by rw [c3]; decide) (by rw [c3]; rfl) (by decide) ?_
          refine r_aload_n dX11_pond_93 rfl rfl ?_
          refine r_get (k := 45) (i := 0) (j := 8) (v := rV 52 0) rfl rfl ho45 rfl hX11 (by decide) rfl fX11_28 dX11_pond_94 (fun _ => rfl) ?_
          refine r_iload_n dX11_pond_97 rfl rfl ?_
          obtain ⟨q4, H⟩ := H
          refine r_iald (k := 52) (i := 0) rfl ho52 q4 dX11_pond_98 ?_
          exact r_iret dX11_pond_99 rfl H
        replace H := H.2 c3
        refine r_tableOut (tgt := 100) dX11_pond_40 (by have z0 := lv_neT c0 (show (0 : Int32).toInt = 0 by decide); have z1 := lv_neT c1 (show (1 : Int32).toInt = 1 by decide); have z2 := lv_neT c2 (show (2 : Int32).toInt = 2 by decide); have z3 := lv_neT c3 (show (3 : Int32).toInt = 3 by decide); omega) (by decide) ?_
        refine r_aload_n dX11_pond_100 rfl rfl ?_
        refine r_iload_n dX11_pond_101 rfl rfl ?_
        refine r_callV (z := 1) (k := 45) (i := 0) (As := [iV x1]) (st := []) kX11_lockOf i_X11_lockOf e_X11_lockOf lX11_449 dX11_pond_102 rfl rfl ho45 rfl rfl rfl rfl rfl (Nat.le_of_ble_eq_true rfl) ?_
        exact H
      · have H := H.2 c
        refine r_iconst (v := (0 : Int32)) dX11_pond_37 rfl ?_
        exact r_iret dX11_pond_38 rfl H
    · have H := H.2 c
      refine r_iload_n dX11_pond_17 rfl rfl ?_
      refine r_iconst (v := (4 : Int32)) dX11_pond_18 rfl ?_
      refine r_icmp_le (tgt := 26) dX11_pond_19 (by decide) (fun c => ?_) (fun c => ?_)
      · have H := H.1 c
        refine r_iconst (v := (0 : Int32)) dX11_pond_26 rfl ?_
        refine r_putI (k := 45) (i := 0) (j := 0) (ty0 := tyX11) rfl rfl ho45 rfl hX11 (by decide) rfl fX11_151 dX11_pond_27 rfl tyX11_ok nmX11 rfl rfl rfl ?_
        refine r_aload_n dX11_pond_30 rfl rfl ?_
        refine r_get (k := 45) (i := 0) (j := 0) (v := iV (0 : Int32)) rfl rfl ho45 rfl hX11 (by decide) rfl fX11_151 dX11_pond_31 (fun _ => rfl) ?_
        refine r_if_eq (tgt := 39) dX11_pond_34 (by decide) (fun c => ?_) (fun c => ?_)
        · have H := H.1 c
          refine r_iload_n dX11_pond_39 rfl rfl ?_
          by_cases c0 : x2 = 0
          · have H := H.1 c0
            refine r_tableIn (tgt := 72) (off := 32) dX11_pond_40 (by rw [c0]; decide) (by rw [c0]; decide) (by rw [c0]; rfl) (by decide) ?_
            refine r_aload_n dX11_pond_72 rfl rfl ?_
            refine r_get (k := 45) (i := 0) (j := 5) (v := rV 49 0) rfl rfl ho45 rfl hX11 (by decide) rfl fX11_19 dX11_pond_73 (fun _ => rfl) ?_
            refine r_iload_n dX11_pond_76 rfl rfl ?_
            obtain ⟨q5, H⟩ := H
            refine r_iald (k := 49) (i := 0) rfl ho49 q5 dX11_pond_77 ?_
            exact r_iret dX11_pond_78 rfl H
          replace H := H.2 c0
          by_cases c1 : x2 = 1
          · have H := H.1 c1
            refine r_tableIn (tgt := 79) (off := 39) dX11_pond_40 (by rw [c1]; decide) (by rw [c1]; decide) (by rw [c1]; rfl) (by decide) ?_
            refine r_aload_n dX11_pond_79 rfl rfl ?_
            refine r_get (k := 45) (i := 0) (j := 6) (v := rV 50 0) rfl rfl ho45 rfl hX11 (by decide) rfl fX11_22 dX11_pond_80 (fun _ => rfl) ?_
            refine r_iload_n dX11_pond_83 rfl rfl ?_
            obtain ⟨q6, H⟩ := H
            refine r_iald (k := 50) (i := 0) rfl ho50 q6 dX11_pond_84 ?_
            exact r_iret dX11_pond_85 rfl H
          replace H := H.2 c1
          by_cases c2 : x2 = 2
          · have H := H.1 c2
            refine r_tableIn (tgt := 86) (off := 46) dX11_pond_40 (by rw [c2]; decide) (by rw [c2]; decide) (by rw [c2]; rfl) (by decide) ?_
            refine r_aload_n dX11_pond_86 rfl rfl ?_
            refine r_get (k := 45) (i := 0) (j := 44) (v := rV 74 0) rfl rfl ho45 rfl hX11 (by decide) rfl fX11_99 dX11_pond_87 (fun _ => rfl) ?_
            refine r_iload_n dX11_pond_90 rfl rfl ?_
            obtain ⟨q7, H⟩ := H
            refine r_iald (k := 74) (i := 0) rfl ho74 q7 dX11_pond_91 ?_
            exact r_iret dX11_pond_92 rfl H
          replace H := H.2 c2
          by_cases c3 : x2 = 3
          · have H := H.1 c3
            refine r_tableIn (tgt := 93) (off := 53) dX11_pond_40 (by rw [c3]; decide) (by rw [c3]; decide) (by rw [c3]; rfl) (by decide) ?_
            refine r_aload_n dX11_pond_93 rfl rfl ?_
            refine r_get (k := 45) (i := 0) (j := 8) (v := rV 52 0) rfl rfl ho45 rfl hX11 (by decide) rfl fX11_28 dX11_pond_94 (fun _ => rfl) ?_
            refine r_iload_n dX11_pond_97 rfl rfl ?_
            obtain ⟨q8, H⟩ := H
            refine r_iald (k := 52) (i := 0) rfl ho52 q8 dX11_pond_98 ?_
            exact r_iret dX11_pond_99 rfl H
          replace H := H.2 c3
          refine r_tableOut (tgt := 100) dX11_pond_40 (by have z0 := lv_neT c0 (show (0 : Int32).toInt = 0 by decide); have z1 := lv_neT c1 (show (1 : Int32).toInt = 1 by decide); have z2 := lv_neT c2 (show (2 : Int32).toInt = 2 by decide); have z3 := lv_neT c3 (show (3 : Int32).toInt = 3 by decide); omega) (by decide) ?_
          refine r_aload_n dX11_pond_100 rfl rfl ?_
          refine r_iload_n dX11_pond_101 rfl rfl ?_
          refine r_callV (z := 1) (k := 45) (i := 0) (As := [iV x1]) (st := []) kX11_lockOf i_X11_lockOf e_X11_lockOf lX11_449 dX11_pond_102 rfl rfl ho45 rfl rfl rfl rfl rfl (Nat.le_of_ble_eq_true rfl) ?_
          exact H
        · have H := H.2 c
          refine r_iconst (v := (0 : Int32)) dX11_pond_37 rfl ?_
          exact r_iret dX11_pond_38 rfl H
      · have H := H.2 c
        refine r_iconst (v := (2 : Int32)) dX11_pond_22 rfl ?_
        refine r_goto (tgt := 27) dX11_pond_23 (by decide) ?_
        refine r_putI (k := 45) (i := 0) (j := 0) (ty0 := tyX11) rfl rfl ho45 rfl hX11 (by decide) rfl fX11_151 dX11_pond_27 rfl tyX11_ok nmX11 rfl rfl rfl ?_
        refine r_aload_n dX11_pond_30 rfl rfl ?_
        refine r_get (k := 45) (i := 0) (j := 0) (v := iV (2 : Int32)) rfl rfl ho45 rfl hX11 (by decide) rfl fX11_151 dX11_pond_31 (fun _ => rfl) ?_
        refine r_if_eq (tgt := 39) dX11_pond_34 (by decide) (fun c => ?_) (fun c => ?_)
        · have H := H.1 c
          refine r_iload_n dX11_pond_39 rfl rfl ?_
          by_cases c0 : x2 = 0
          · have H := H.1 c0
            refine r_tableIn (tgt := 72) (off := 32) dX11_pond_40 (by rw [c0]; decide) (by rw [c0]; decide) (by rw [c0]; rfl) (by decide) ?_
            refine r_aload_n dX11_pond_72 rfl rfl ?_
            refine r_get (k := 45) (i := 0) (j := 5) (v := rV 49 0) rfl rfl ho45 rfl hX11 (by decide) rfl fX11_19 dX11_pond_73 (fun _ => rfl) ?_
            refine r_iload_n dX11_pond_76 rfl rfl ?_
            obtain ⟨q9, H⟩ := H
            refine r_iald (k := 49) (i := 0) rfl ho49 q9 dX11_pond_77 ?_
            exact r_iret dX11_pond_78 rfl H
          replace H := H.2 c0
          by_cases c1 : x2 = 1
          · have H := H.1 c1
            refine r_tableIn (tgt := 79) (off := 39) dX11_pond_40 (by rw [c1]; decide) (by rw [c1]; decide) (by rw [c1]; rfl) (by decide) ?_
            refine r_aload_n dX11_pond_79 rfl rfl ?_
            refine r_get (k := 45) (i := 0) (j := 6) (v := rV 50 0) rfl rfl ho45 rfl hX11 (by decide) rfl fX11_22 dX11_pond_80 (fun _ => rfl) ?_
            refine r_iload_n dX11_pond_83 rfl rfl ?_
            obtain ⟨q10, H⟩ := H
            refine r_iald (k := 50) (i := 0) rfl ho50 q10 dX11_pond_84 ?_
            exact r_iret dX11_pond_85 rfl H
          replace H := H.2 c1
          by_cases c2 : x2 = 2
          · have H := H.1 c2
            refine r_tableIn (tgt := 86) (off := 46) dX11_pond_40 (by rw [c2]; decide) (by rw [c2]; decide) (by rw [c2]; rfl) (by decide) ?_
            refine r_aload_n dX11_pond_86 rfl rfl ?_
            refine r_get (k := 45) (i := 0) (j := 44) (v := rV 74 0) rfl rfl ho45 rfl hX11 (by decide) rfl fX11_99 dX11_pond_87 (fun _ => rfl) ?_
            refine r_iload_n dX11_pond_90 rfl rfl ?_
            obtain ⟨q11, H⟩ := H
            refine r_iald (k := 74) (i := 0) rfl ho74 q11 dX11_pond_91 ?_
            exact r_iret dX11_pond_92 rfl H
          replace H := H.2 c2
          by_cases c3 : x2 = 3
          · have H := H.1 c3
            refine r_tableIn (tgt := 93) (off := 53) dX11_pond_40 (by rw [c3]; decide) (by rw [c3]; decide) (by rw [c3]; rfl) (by decide) ?_
            refine r_aload_n dX11_pond_93 rfl rfl ?_
            refine r_get (k := 45) (i := 0) (j := 8) (v := rV 52 0) rfl rfl ho45 rfl hX11 (by decide) rfl fX11_28 dX11_pond_94 (fun _ => rfl) ?_
            refine r_iload_n dX11_pond_97 rfl rfl ?_
            obtain ⟨q12, H⟩ := H
            refine r_iald (k := 52) (i := 0) rfl ho52 q12 dX11_pond_98 ?_
            exact r_iret dX11_pond_99 rfl H
          replace H := H.2 c3
          refine r_tableOut (tgt := 100) dX11_pond_40 (by have z0 := lv_neT c0 (show (0 : Int32).toInt = 0 by decide); have z1 := lv_neT c1 (show (1 : Int32).toInt = 1 by decide); have z2 := lv_neT c2 (show (2 : Int32).toInt = 2 by decide); have z3 := lv_neT c3 (show (3 : Int32).toInt = 3 by decide); omega) (by decide) ?_
          refine r_aload_n dX11_pond_100 rfl rfl ?_
          refine r_iload_n dX11_pond_101 rfl rfl ?_
          refine r_callV (z := 1) (k := 45) (i := 0) (As := [iV x1]) (st := []) kX11_lockOf i_X11_lockOf e_X11_lockOf lX11_449 dX11_pond_102 rfl rfl ho45 rfl rfl rfl rfl rfl (Nat.le_of_ble_eq_true rfl) ?_
          exact H
        · have H := H.2 c
          refine r_iconst (v := (0 : Int32)) dX11_pond_37 rfl ?_
          exact r_iret dX11_pond_38 rfl H
  · have H := H.2 c
    refine r_iconst (v := (1 : Int32)) dX11_pond_9 rfl ?_
    refine r_goto (tgt := 27) dX11_pond_10 (by decide) ?_
    refine r_putI (k := 45) (i := 0) (j := 0) (ty0 := tyX11) rfl rfl ho45 rfl hX11 (by decide) rfl fX11_151 dX11_pond_27 rfl tyX11_ok nmX11 rfl rfl rfl ?_
    refine r_aload_n dX11_pond_30 rfl rfl ?_
    refine r_get (k := 45) (i := 0) (j := 0) (v := iV (1 : Int32)) rfl rfl ho45 rfl hX11 (by decide) rfl fX11_151 dX11_pond_31 (fun _ => rfl) ?_
    refine r_if_eq (tgt := 39) dX11_pond_34 (by decide) (fun c => ?_) (fun c => ?_)
    · have H := H.1 c
      refine r_iload_n dX11_pond_39 rfl rfl ?_
      by_cases c0 : x2 = 0
      · have H := H.1 c0
        refine r_tableIn (tgt := 72) (off := 32) dX11_pond_40 (by rw [c0]; decide) (by rw [c0]; decide) (by rw [c0]; rfl) (by decide) ?_
        refine r_aload_n dX11_pond_72 rfl rfl ?_
        refine r_get (k := 45) (i := 0) (j := 5) (v := rV 49 0) rfl rfl ho45 rfl hX11 (by decide) rfl fX11_19 dX11_pond_73 (fun _ => rfl) ?_
        refine r_iload_n dX11_pond_76 rfl rfl ?_
        obtain ⟨q13, H⟩ := H
        refine r_iald (k := 49) (i := 0) rfl ho49 q13 dX11_pond_77 ?_
        exact r_iret dX11_pond_78 rfl H
      replace H := H.2 c0
      by_cases c1 : x2 = 1
      · have H := H.1 c1
        refine r_tableIn (tgt := 79) (off := 39) dX11_pond_40 (by rw [c1]; decide) (by rw [c1]; decide) (by rw [c1]; rfl) (by decide) ?_
        refine r_aload_n dX11_pond_79 rfl rfl ?_
        refine r_get (k := 45) (i := 0) (j := 6) (v := rV 50 0) rfl rfl ho45 rfl hX11 (by decide) rfl fX11_22 dX11_pond_80 (fun _ => rfl) ?_
        refine r_iload_n dX11_pond_83 rfl rfl ?_
        obtain ⟨q14, H⟩ := H
        refine r_iald (k := 50) (i := 0) rfl ho50 q14 dX11_pond_84 ?_
        exact r_iret dX11_pond_85 rfl H
      replace H := H.2 c1
      by_cases c2 : x2 = 2
      · have H := H.1 c2
        refine r_tableIn (tgt := 86) (off := 46) dX11_pond_40 (by rw [c2]; decide) (by rw [c2]; decide) (by rw [c2]; rfl) (by decide) ?_
        refine r_aload_n dX11_pond_86 rfl rfl ?_
        refine r_get (k := 45) (i := 0) (j := 44) (v := rV 74 0) rfl rfl ho45 rfl hX11 (by decide) rfl fX11_99 dX11_pond_87 (fun _ => rfl) ?_
        refine r_iload_n dX11_pond_90 rfl rfl ?_
        obtain ⟨q15, H⟩ := H
        refine r_iald (k := 74) (i := 0) rfl ho74 q15 dX11_pond_91 ?_
        exact r_iret dX11_pond_92 rfl H
      replace H := H.2 c2
      by_cases c3 : x2 = 3
      · have H := H.1 c3
        refine r_tableIn (tgt := 93) (off := 53) dX11_pond_40 (by rw [c3]; decide) (by rw [c3]; decide) (by rw [c3]; rfl) (by decide) ?_
        refine r_aload_n dX11_pond_93 rfl rfl ?_
        refine r_get (k := 45) (i := 0) (j := 8) (v := rV 52 0) rfl rfl ho45 rfl hX11 (by decide) rfl fX11_28 dX11_pond_94 (fun _ => rfl) ?_
        refine r_iload_n dX11_pond_97 rfl rfl ?_
        obtain ⟨q16, H⟩ := H
        refine r_iald (k := 52) (i := 0) rfl ho52 q16 dX11_pond_98 ?_
        exact r_iret dX11_pond_99 rfl H
      replace H := H.2 c3
      refine r_tableOut (tgt := 100) dX11_pond_40 (by have z0 := lv_neT c0 (show (0 : Int32).toInt = 0 by decide); have z1 := lv_neT c1 (show (1 : Int32).toInt = 1 by decide); have z2 := lv_neT c2 (show (2 : Int32).toInt = 2 by decide); have z3 := lv_neT c3 (show (3 : Int32).toInt = 3 by decide); omega) (by decide) ?_
      refine r_aload_n dX11_pond_100 rfl rfl ?_
      refine r_iload_n dX11_pond_101 rfl rfl ?_
      refine r_callV (z := 1) (k := 45) (i := 0) (As := [iV x1]) (st := []) kX11_lockOf i_X11_lockOf e_X11_lockOf lX11_449 dX11_pond_102 rfl rfl ho45 rfl rfl rfl rfl rfl (Nat.le_of_ble_eq_true rfl) ?_
      exact H
    · have H := H.2 c
      refine r_iconst (v := (0 : Int32)) dX11_pond_37 rfl ?_
      exact r_iret dX11_pond_38 rfl H
set_option maxRecDepth 100000 in
theorem bX11_pond_105 {d : Nat} {Q : Option MV → MS → Prop} {x1 : Int32} {x2 : Int32} {s0 : Int32} {σ : MS}  (H : (R mj_OM d mX11_orNone (fun r σ' => R mj_OM (d + 1) mX11_pond Q 108 [some (rV 45 0), some (iV x1), some (iV x2)] (r.toList ++ []) σ') 0 [some (iV s0)] [] σ)) : R mj_OM (d + 1) mX11_pond Q 105 [some (rV 45 0), some (iV x1), some (iV x2)] [iV s0] σ := by
  refine r_callS (z := 0) (As := [iV s0]) (st := []) kX11_orNone s_X11_orNone lX11_452 dX11_pond_105 rfl rfl rfl rfl (Nat.le_of_ble_eq_true rfl) ?_
  exact H
set_option maxRecDepth 100000 in
theorem bX11_pond_108 {d : Nat} {Q : Option MV → MS → Prop} {x1 : Int32} {x2 : Int32} {s0 : Int32} {σ : MS}  (H : Q (some (iV s0)) σ) : R mj_OM d mX11_pond Q 108 [some (rV 45 0), some (iV x1), some (iV x2)] [iV s0] σ := by
  exact r_iret dX11_pond_108 rfl H
set_option maxRecDepth 100000 in
theorem bX11_level_0 {d : Nat} {Q : Option MV → MS → Prop} {x1 : Int32} {x2 : Int32} {σ : MS}  (H : (R mj_OM d mX11_isPond (fun r σ' => R mj_OM (d + 1) mX11_level Q 10 [some (rV 45 0), some (iV x1), some (iV x2)] (r.toList ++ []) σ') 0 [some (rV 45 0), some (iV x1)] [] (uI σ 45 0 0 (0 : Int32)))) : R mj_OM (d + 1) mX11_level Q 0 [some (rV 45 0), some (iV x1), some (iV x2)] [] σ := by
  refine r_aload_n dX11_level_0 rfl rfl ?_
  refine r_iconst (v := (0 : Int32)) dX11_level_1 rfl ?_
  refine r_putI (k := 45) (i := 0) (j := 0) (ty0 := tyX11) rfl rfl ho45 rfl hX11 (by decide) rfl fX11_151 dX11_level_2 rfl tyX11_ok nmX11 rfl rfl rfl ?_
  refine r_aload_n dX11_level_5 rfl rfl ?_
  refine r_iload_n dX11_level_6 rfl rfl ?_
  refine r_callV (z := 0) (k := 45) (i := 0) (As := [iV x1]) (st := []) kX11_isPond i_X11_isPond e_X11_isPond lX11_446 dX11_level_7 rfl rfl ho45 rfl rfl rfl rfl rfl (Nat.le_of_ble_eq_true rfl) ?_
  exact H
set_option maxRecDepth 100000 in
theorem bX11_level_10 {d : Nat} {Q : Option MV → MS → Prop} {x1 : Int32} {x2 : Int32} {s0 : Int32} {σ : MS}  (H : ((s0 = 0 → Q (some (iV (-1 : Int32))) σ) ∧ (¬ s0 = 0 → (R mj_OM d mX11_isPart (fun r σ' => R mj_OM (d + 1) mX11_level Q 17 [some (rV 45 0), some (iV x1), some (iV x2)] (r.toList ++ []) σ') 0 [some (iV x2)] [] σ)))) : R mj_OM (d + 1) mX11_level Q 10 [some (rV 45 0), some (iV x1), some (iV x2)] [iV s0] σ := by
  refine r_if_eq (tgt := 39) dX11_level_10 (by decide) (fun c => ?_) (fun c => ?_)
  · have H := H.1 c
    refine r_iconst (v := (-1 : Int32)) dX11_level_39 rfl ?_
    exact r_iret dX11_level_40 rfl H
  · have H := H.2 c
    refine r_iload_n dX11_level_13 rfl rfl ?_
    refine r_callS (z := 0) (As := [iV x2]) (st := []) kX11_isPart s_X11_isPart lX11_455 dX11_level_14 rfl rfl rfl rfl (Nat.le_of_ble_eq_true rfl) ?_
    exact H
set_option maxRecDepth 100000 in
theorem bX11_level_17 {d : Nat} {Q : Option MV → MS → Prop} {x1 : Int32} {x2 : Int32} {s0 : Int32} {σ : MS}  (H : ((s0 = 0 → Q (some (iV (-1 : Int32))) σ) ∧ (¬ s0 = 0 → (R mj_OM d mX11_fullOf (fun r σ' => R mj_OM (d + 1) mX11_level Q 26 [some (rV 45 0), some (iV x1), some (iV x2)] (r.toList ++ []) σ') 0 [some (rV 45 0), some (iV (0 : Int32)), some (iV x1)] [] σ)))) : R mj_OM (d + 1) mX11_level Q 17 [some (rV 45 0), some (iV x1), some (iV x2)] [iV s0] σ := by
  refine r_if_eq (tgt := 39) dX11_level_17 (by decide) (fun c => ?_) (fun c => ?_)
  · have H := H.1 c
    refine r_iconst (v := (-1 : Int32)) dX11_level_39 rfl ?_
    exact r_iret dX11_level_40 rfl H
  · have H := H.2 c
    refine r_aload_n dX11_level_20 rfl rfl ?_
    refine r_iconst (v := (0 : Int32)) dX11_level_21 rfl ?_
    refine r_iload_n dX11_level_22 rfl rfl ?_
    refine r_callV (z := 0) (k := 45) (i := 0) (As := [iV (0 : Int32), iV x1]) (st := []) kX11_fullOf i_X11_fullOf e_X11_fullOf lX11_346 dX11_level_23 rfl rfl ho45 rfl rfl rfl rfl rfl (Nat.le_of_ble_eq_true rfl) ?_
    exact H
set_option maxRecDepth 100000 in
theorem bX11_level_26 {d : Nat} {Q : Option MV → MS → Prop} {x1 : Int32} {x2 : Int32} {s0 : Int32} {σ : MS}  (H : (vp_in x1 14 ∧ (R mj_OM d mX11_part (fun r σ' => R mj_OM (d + 1) mX11_level Q 36 [some (rV 45 0), some (iV x1), some (iV x2)] (r.toList ++ []) σ') 0 [some (iV s0), some (iV (σ.1 49 0 ((x1).toNatClampNeg))), some (iV x2), none] [] σ))) : R mj_OM (d + 1) mX11_level Q 26 [some (rV 45 0), some (iV x1), some (iV x2)] [iV s0] σ := by
  refine r_aload_n dX11_level_26 rfl rfl ?_
  refine r_get (k := 45) (i := 0) (j := 5) (v := rV 49 0) rfl rfl ho45 rfl hX11 (by decide) rfl fX11_19 dX11_level_27 (fun _ => rfl) ?_
  refine r_iload_n dX11_level_30 rfl rfl ?_
  obtain ⟨q1, H⟩ := H
  refine r_iald (k := 49) (i := 0) rfl ho49 q1 dX11_level_31 ?_
  refine r_iload_n dX11_level_32 rfl rfl ?_
  refine r_callS (z := 1) (As := [iV s0, iV (σ.1 49 0 ((x1).toNatClampNeg)), iV x2]) (st := []) kX11_part s_X11_part lX11_458 dX11_level_33 rfl rfl rfl rfl (Nat.le_of_ble_eq_true rfl) ?_
  exact H
set_option maxRecDepth 100000 in
theorem bX11_level_36 {d : Nat} {Q : Option MV → MS → Prop} {x1 : Int32} {x2 : Int32} {s0 : Int32} {σ : MS}  (H : Q (some (iV s0)) σ) : R mj_OM d mX11_level Q 36 [some (rV 45 0), some (iV x1), some (iV x2)] [iV s0] σ := by
  refine r_goto (tgt := 40) dX11_level_36 (by decide) ?_
  exact r_iret dX11_level_40 rfl H
set_option maxRecDepth 100000 in
theorem bX11_pipe_0 {d : Nat} {Q : Option MV → MS → Prop} {x1 : Int32} {x2 : Int32} {σ : MS}  (H : (R mj_OM d mX11_isPipe (fun r σ' => R mj_OM (d + 1) mX11_pipe Q 10 [some (rV 45 0), some (iV x1), some (iV x2)] (r.toList ++ []) σ') 0 [some (rV 45 0), some (iV x1)] [] (uI σ 45 0 0 (0 : Int32)))) : R mj_OM (d + 1) mX11_pipe Q 0 [some (rV 45 0), some (iV x1), some (iV x2)] [] σ := by
  refine r_aload_n dX11_pipe_0 rfl rfl ?_
  refine r_iconst (v := (0 : Int32)) dX11_pipe_1 rfl ?_
  refine r_putI (k := 45) (i := 0) (j := 0) (ty0 := tyX11) rfl rfl ho45 rfl hX11 (by decide) rfl fX11_151 dX11_pipe_2 rfl tyX11_ok nmX11 rfl rfl rfl ?_
  refine r_aload_n dX11_pipe_5 rfl rfl ?_
  refine r_iload_n dX11_pipe_6 rfl rfl ?_
  refine r_callV (z := 0) (k := 45) (i := 0) (As := [iV x1]) (st := []) kX11_isPipe i_X11_isPipe e_X11_isPipe lX11_461 dX11_pipe_7 rfl rfl ho45 rfl rfl rfl rfl rfl (Nat.le_of_ble_eq_true rfl) ?_
  exact H
set_option maxRecDepth 100000 in
theorem bX11_pipe_10 {d : Nat} {Q : Option MV → MS → Prop} {x1 : Int32} {x2 : Int32} {s0 : Int32} {σ : MS}  (H : ((¬ s0 = 0 → ((x2 = 0 → (vp_in x1 20 ∧ Q (some (iV (σ.1 56 0 ((x1).toNatClampNeg)))) σ)) ∧ (¬ x2 = 0 → ((x2 = 1 → (vp_in x1 20 ∧ Q (some (iV (σ.1 57 0 ((x1).toNatClampNeg)))) σ)) ∧ (¬ x2 = 1 → ((x2 = 2 → (vp_in x1 20 ∧ Q (some (iV (σ.1 58 0 ((x1).toNatClampNeg)))) σ)) ∧ (¬ x2 = 2 → ((x2 = 3 → (R mj_OM d mX11_isOpen (fun r σ' => R mj_OM (d + 1) mX11_pipe Q 79 [some (rV 45 0), some (iV x1), some (iV x2)] (r.toList ++ []) σ') 0 [some (rV 45 0), some (iV (0 : Int32)), some (iV x1)] [] σ)) ∧ (¬ x2 = 3 → ((x2 = 4 → (R mj_OM d mX11_isJammed (fun r σ' => R mj_OM (d + 1) mX11_pipe Q 94 [some (rV 45 0), some (iV x1), some (iV x2)] (r.toList ++ []) σ') 0 [some (rV 45 0), some (iV (0 : Int32)), some (iV x1)] [] σ)) ∧ (¬ x2 = 4 → Q (some (iV (-1 : Int32))) σ))))))))))) ∧ (s0 = 0 → Q (some (iV (-1 : Int32))) σ))) : R mj_OM (d + 1) mX11_pipe Q 10 [some (rV 45 0), some (iV x1), some (iV x2)] [iV s0] σ := by
  refine r_if_ne (tgt := 15) dX11_pipe_10 (by decide) (fun c => ?_) (fun c => ?_)
  · have H := H.1 c
    refine r_iload_n dX11_pipe_15 rfl rfl ?_
    by_cases c0 : x2 = 0
    · have H := H.1 c0
      refine r_tableIn (tgt := 52) (off := 36) dX11_pipe_16 (by rw [c0]; decide) (by rw [c0]; decide) (by rw [c0]; rfl) (by decide) ?_
      refine r_aload_n dX11_pipe_52 rfl rfl ?_
      refine r_get (k := 45) (i := 0) (j := 12) (v := rV 56 0) rfl rfl ho45 rfl hX11 (by decide) rfl fX11_40 dX11_pipe_53 (fun _ => rfl) ?_
      refine r_iload_n dX11_pipe_56 rfl rfl ?_
      obtain ⟨q1, H⟩ := H
      refine r_iald (k := 56) (i := 0) rfl ho56 q1 dX11_pipe_57 ?_
      exact r_iret dX11_pipe_58 rfl H
    replace H := H.2 c0
    by_cases c1 : x2 = 1
    · have H := H.1 c1
      refine r_tableIn (tgt := 59) (off := 43) dX11_pipe_16 (by rw [c1]; decide) (by rw [c1]; decide) (by rw [c1]; rfl) (by decide) ?_
      refine r_aload_n dX11_pipe_59 rfl rfl ?_
      refine r_get (k := 45) (i := 0) (j := 13) (v := rV 57 0) rfl rfl ho45 rfl hX11 (by decide) rfl fX11_43 dX11_pipe_60 (fun _ => rfl) ?_
      refine r_iload_n dX11_pipe_63 rfl rfl ?_
      obtain ⟨q2, H⟩ := H
      refine r_iald (k := 57) (i := 0) rfl ho57 q2 dX11_pipe_64 ?_
      exact r_iret dX11_pipe_65 rfl H
    replace H := H.2 c1
    by_cases c2 : x2 = 2
    · have H := H.1 c2
      refine r_tableIn (tgt := 66) (off := 50) dX11_pipe_16 (by rw [c2]; decide) (by rw [c2]; decide) (by rw [c2]; rfl) (by decide) ?_
      refine r_aload_n dX11_pipe_66 rfl rfl ?_
      refine r_get (k := 45) (i := 0) (j := 14) (v := rV 58 0) rfl rfl ho45 rfl hX11 (by decide) rfl fX11_46 dX11_pipe_67 (fun _ => rfl) ?_
      refine r_iload_n dX11_pipe_70 rfl rfl ?_
      obtain ⟨q3, H⟩ := H
      refine r_iald (k := 58) (i := 0) rfl ho58 q3 dX11_pipe_71 ?_
      exact r_iret dX11_pipe_72 rfl H
    replace H := H.2 c2
    by_cases c3 : x2 = 3
    · have H := H.1 c3
      refine r_tableIn (tgt := 73) (off := 57) dX11_pipe_16 (by rw [c3]; decide) (by rw [c3]; decide) (by rw [c3]; rfl) (by decide) ?_
      refine r_aload_n dX11_pipe_73 rfl rfl ?_
      refine r_iconst (v := (0 : Int32)) dX11_pipe_74 rfl ?_
      refine r_iload_n dX11_pipe_75 rfl rfl ?_
      refine r_callV (z := 0) (k := 45) (i := 0) (As := [iV (0 : Int32), iV x1]) (st := []) kX11_isOpen i_X11_isOpen e_X11_isOpen lX11_375 dX11_pipe_76 rfl rfl ho45 rfl rfl rfl rfl rfl (Nat.le_of_ble_eq_true rfl) ?_
      exact H
    replace H := H.2 c3
    by_cases c4 : x2 = 4
    · have H := H.1 c4
      refine r_tableIn (tgt := 88) (off := 72) dX11_pipe_16 (by rw [c4]; decide) (by rw [c4]; decide) (by rw [c4]; rfl) (by decide) ?_
      refine r_aload_n dX11_pipe_88 rfl rfl ?_
      refine r_iconst (v := (0 : Int32)) dX11_pipe_89 rfl ?_
      refine r_iload_n dX11_pipe_90 rfl rfl ?_
      refine r_callV (z := 0) (k := 45) (i := 0) (As := [iV (0 : Int32), iV x1]) (st := []) kX11_isJammed i_X11_isJammed e_X11_isJammed lX11_368 dX11_pipe_91 rfl rfl ho45 rfl rfl rfl rfl rfl (Nat.le_of_ble_eq_true rfl) ?_
      exact H
    replace H := H.2 c4
    refine r_tableOut (tgt := 103) dX11_pipe_16 (by have z0 := lv_neT c0 (show (0 : Int32).toInt = 0 by decide); have z1 := lv_neT c1 (show (1 : Int32).toInt = 1 by decide); have z2 := lv_neT c2 (show (2 : Int32).toInt = 2 by decide); have z3 := lv_neT c3 (show (3 : Int32).toInt = 3 by decide); have z4 := lv_neT c4 (show (4 : Int32).toInt = 4 by decide); omega) (by decide) ?_
    refine r_iconst (v := (-1 : Int32)) dX11_pipe_103 rfl ?_
    exact r_iret dX11_pipe_104 rfl H
  · have H := H.2 c
    refine r_iconst (v := (-1 : Int32)) dX11_pipe_13 rfl ?_
    exact r_iret dX11_pipe_14 rfl H
set_option maxRecDepth 100000 in
theorem bX11_pipe_79 {d : Nat} {Q : Option MV → MS → Prop} {x1 : Int32} {x2 : Int32} {s0 : Int32} {σ : MS}  (H : ((s0 = 0 → Q (some (iV (0 : Int32))) σ) ∧ (¬ s0 = 0 → Q (some (iV (1 : Int32))) σ))) : R mj_OM d mX11_pipe Q 79 [some (rV 45 0), some (iV x1), some (iV x2)] [iV s0] σ := by
  refine r_if_eq (tgt := 86) dX11_pipe_79 (by decide) (fun c => ?_) (fun c => ?_)
  · have H := H.1 c
    refine r_iconst (v := (0 : Int32)) dX11_pipe_86 rfl ?_
    exact r_iret dX11_pipe_87 rfl H
  · have H := H.2 c
    refine r_iconst (v := (1 : Int32)) dX11_pipe_82 rfl ?_
    refine r_goto (tgt := 87) dX11_pipe_83 (by decide) ?_
    exact r_iret dX11_pipe_87 rfl H
set_option maxRecDepth 100000 in
theorem bX11_pipe_94 {d : Nat} {Q : Option MV → MS → Prop} {x1 : Int32} {x2 : Int32} {s0 : Int32} {σ : MS}  (H : ((s0 = 0 → Q (some (iV (0 : Int32))) σ) ∧ (¬ s0 = 0 → Q (some (iV (1 : Int32))) σ))) : R mj_OM d mX11_pipe Q 94 [some (rV 45 0), some (iV x1), some (iV x2)] [iV s0] σ := by
  refine r_if_eq (tgt := 101) dX11_pipe_94 (by decide) (fun c => ?_) (fun c => ?_)
  · have H := H.1 c
    refine r_iconst (v := (0 : Int32)) dX11_pipe_101 rfl ?_
    exact r_iret dX11_pipe_102 rfl H
  · have H := H.2 c
    refine r_iconst (v := (1 : Int32)) dX11_pipe_97 rfl ?_
    refine r_goto (tgt := 102) dX11_pipe_98 (by decide) ?_
    exact r_iret dX11_pipe_102 rfl H
set_option maxRecDepth 100000 in
theorem bX11_lock_0 {d : Nat} {Q : Option MV → MS → Prop} {x1 : Int32} {x2 : Int32} {σ : MS}  (H : (R mj_OM d mX11_isLock (fun r σ' => R mj_OM (d + 1) mX11_lock Q 10 [some (rV 45 0), some (iV x1), some (iV x2)] (r.toList ++ []) σ') 0 [some (rV 45 0), some (iV x1)] [] (uI σ 45 0 0 (0 : Int32)))) : R mj_OM (d + 1) mX11_lock Q 0 [some (rV 45 0), some (iV x1), some (iV x2)] [] σ := by
  refine r_aload_n dX11_lock_0 rfl rfl ?_
  refine r_iconst (v := (0 : Int32)) dX11_lock_1 rfl ?_
  refine r_putI (k := 45) (i := 0) (j := 0) (ty0 := tyX11) rfl rfl ho45 rfl hX11 (by decide) rfl fX11_151 dX11_lock_2 rfl tyX11_ok nmX11 rfl rfl rfl ?_
  refine r_aload_n dX11_lock_5 rfl rfl ?_
  refine r_iload_n dX11_lock_6 rfl rfl ?_
  refine r_callV (z := 0) (k := 45) (i := 0) (As := [iV x1]) (st := []) kX11_isLock i_X11_isLock e_X11_isLock lX11_464 dX11_lock_7 rfl rfl ho45 rfl rfl rfl rfl rfl (Nat.le_of_ble_eq_true rfl) ?_
  exact H
set_option maxRecDepth 100000 in
theorem bX11_lock_10 {d : Nat} {Q : Option MV → MS → Prop} {x1 : Int32} {x2 : Int32} {s0 : Int32} {σ : MS}  (H : ((¬ s0 = 0 → ((x2 = 0 → (vp_in x1 6 ∧ Q (some (iV (σ.1 53 0 ((x1).toNatClampNeg)))) σ)) ∧ (¬ x2 = 0 → ((x2 = 1 → (vp_in x1 6 ∧ Q (some (iV (σ.1 54 0 ((x1).toNatClampNeg)))) σ)) ∧ (¬ x2 = 1 → ((x2 = 2 → (vp_in x1 6 ∧ Q (some (iV (σ.1 55 0 ((x1).toNatClampNeg)))) σ)) ∧ (¬ x2 = 2 → ((x2 = 3 → (R mj_OM d mX11_boatIn (fun r σ' => R mj_OM (d + 1) mX11_lock Q 75 [some (rV 45 0), some (iV x1), some (iV x2)] (r.toList ++ []) σ') 0 [some (rV 45 0), some (iV (0 : Int32)), some (iV x1), none] [] σ)) ∧ (¬ x2 = 3 → Q (some (iV (-1 : Int32))) σ))))))))) ∧ (s0 = 0 → Q (some (iV (-1 : Int32))) σ))) : R mj_OM (d + 1) mX11_lock Q 10 [some (rV 45 0), some (iV x1), some (iV x2)] [iV s0] σ := by
  refine r_if_ne (tgt := 15) dX11_lock_10 (by decide) (fun c => ?_) (fun c => ?_)
  · have H := H.1 c
    refine r_iload_n dX11_lock_15 rfl rfl ?_
    by_cases c0 : x2 = 0
    · have H := H.1 c0
      refine r_tableIn (tgt := 48) (off := 32) dX11_lock_16 (by rw [c0]; decide) (by rw [c0]; decide) (by rw [c0]; rfl) (by decide) ?_
      refine r_aload_n dX11_lock_48 rfl rfl ?_
      refine r_get (k := 45) (i := 0) (j := 9) (v := rV 53 0) rfl rfl ho45 rfl hX11 (by decide) rfl fX11_31 dX11_lock_49 (fun _ => rfl) ?_
      refine r_iload_n dX11_lock_52 rfl rfl ?_
      obtain ⟨q1, H⟩ := H
      refine r_iald (k := 53) (i := 0) rfl ho53 q1 dX11_lock_53 ?_
      exact r_iret dX11_lock_54 rfl H
    replace H := H.2 c0
    by_cases c1 : x2 = 1
    · have H := H.1 c1
      refine r_tableIn (tgt := 55) (off := 39) dX11_lock_16 (by rw [c1]; decide) (by rw [c1]; decide) (by rw [c1]; rfl) (by decide) ?_
      refine r_aload_n dX11_lock_55 rfl rfl ?_
      refine r_get (k := 45) (i := 0) (j := 10) (v := rV 54 0) rfl rfl ho45 rfl hX11 (by decide) rfl fX11_34 dX11_lock_56 (fun _ => rfl) ?_
      refine r_iload_n dX11_lock_59 rfl rfl ?_
      obtain ⟨q2, H⟩ := H
      refine r_iald (k := 54) (i := 0) rfl ho54 q2 dX11_lock_60 ?_
      exact r_iret dX11_lock_61 rfl H
    replace H := H.2 c1
    by_cases c2 : x2 = 2
    · have H := H.1 c2
      refine r_tableIn (tgt := 62) (off := 46) dX11_lock_16 (by rw [c2]; decide) (by rw [c2]; decide) (by rw [c2]; rfl) (by decide) ?_
      refine r_aload_n dX11_lock_62 rfl rfl ?_
      refine r_get (k := 45) (i := 0) (j := 11) (v := rV 55 0) rfl rfl ho45 rfl hX11 (by decide) rfl fX11_37 dX11_lock_63 (fun _ => rfl) ?_
      refine r_iload_n dX11_lock_66 rfl rfl ?_
      obtain ⟨q3, H⟩ := H
      refine r_iald (k := 55) (i := 0) rfl ho55 q3 dX11_lock_67 ?_
      exact r_iret dX11_lock_68 rfl H
    replace H := H.2 c2
    by_cases c3 : x2 = 3
    · have H := H.1 c3
      refine r_tableIn (tgt := 69) (off := 53) dX11_lock_16 (by rw [c3]; decide) (by rw [c3]; decide) (by rw [c3]; rfl) (by decide) ?_
      refine r_aload_n dX11_lock_69 rfl rfl ?_
      refine r_iconst (v := (0 : Int32)) dX11_lock_70 rfl ?_
      refine r_iload_n dX11_lock_71 rfl rfl ?_
      refine r_callV (z := 1) (k := 45) (i := 0) (As := [iV (0 : Int32), iV x1]) (st := []) kX11_boatIn i_X11_boatIn e_X11_boatIn lX11_419 dX11_lock_72 rfl rfl ho45 rfl rfl rfl rfl rfl (Nat.le_of_ble_eq_true rfl) ?_
      exact H
    replace H := H.2 c3
    refine r_tableOut (tgt := 79) dX11_lock_16 (by have z0 := lv_neT c0 (show (0 : Int32).toInt = 0 by decide); have z1 := lv_neT c1 (show (1 : Int32).toInt = 1 by decide); have z2 := lv_neT c2 (show (2 : Int32).toInt = 2 by decide); have z3 := lv_neT c3 (show (3 : Int32).toInt = 3 by decide); omega) (by decide) ?_
    refine r_iconst (v := (-1 : Int32)) dX11_lock_79 rfl ?_
    exact r_iret dX11_lock_80 rfl H
  · have H := H.2 c
    refine r_iconst (v := (-1 : Int32)) dX11_lock_13 rfl ?_
    exact r_iret dX11_lock_14 rfl H
set_option maxRecDepth 100000 in
theorem bX11_lock_75 {d : Nat} {Q : Option MV → MS → Prop} {x1 : Int32} {x2 : Int32} {s0 : Int32} {σ : MS}  (H : (R mj_OM d mX11_orNone (fun r σ' => R mj_OM (d + 1) mX11_lock Q 78 [some (rV 45 0), some (iV x1), some (iV x2)] (r.toList ++ []) σ') 0 [some (iV s0)] [] σ)) : R mj_OM (d + 1) mX11_lock Q 75 [some (rV 45 0), some (iV x1), some (iV x2)] [iV s0] σ := by
  refine r_callS (z := 0) (As := [iV s0]) (st := []) kX11_orNone s_X11_orNone lX11_452 dX11_lock_75 rfl rfl rfl rfl (Nat.le_of_ble_eq_true rfl) ?_
  exact H
set_option maxRecDepth 100000 in
theorem bX11_lock_78 {d : Nat} {Q : Option MV → MS → Prop} {x1 : Int32} {x2 : Int32} {s0 : Int32} {σ : MS}  (H : Q (some (iV s0)) σ) : R mj_OM d mX11_lock Q 78 [some (rV 45 0), some (iV x1), some (iV x2)] [iV s0] σ := by
  exact r_iret dX11_lock_78 rfl H
set_option maxRecDepth 100000 in
theorem bX11_boat_0 {d : Nat} {Q : Option MV → MS → Prop} {x1 : Int32} {x2 : Int32} {σ : MS}  (H : (R mj_OM d mX11_isBoat (fun r σ' => R mj_OM (d + 1) mX11_boat Q 10 [some (rV 45 0), some (iV x1), some (iV x2)] (r.toList ++ []) σ') 0 [some (rV 45 0), some (iV x1)] [] (uI σ 45 0 0 (0 : Int32)))) : R mj_OM (d + 1) mX11_boat Q 0 [some (rV 45 0), some (iV x1), some (iV x2)] [] σ := by
  refine r_aload_n dX11_boat_0 rfl rfl ?_
  refine r_iconst (v := (0 : Int32)) dX11_boat_1 rfl ?_
  refine r_putI (k := 45) (i := 0) (j := 0) (ty0 := tyX11) rfl rfl ho45 rfl hX11 (by decide) rfl fX11_151 dX11_boat_2 rfl tyX11_ok nmX11 rfl rfl rfl ?_
  refine r_aload_n dX11_boat_5 rfl rfl ?_
  refine r_iload_n dX11_boat_6 rfl rfl ?_
  refine r_callV (z := 0) (k := 45) (i := 0) (As := [iV x1]) (st := []) kX11_isBoat i_X11_isBoat e_X11_isBoat lX11_467 dX11_boat_7 rfl rfl ho45 rfl rfl rfl rfl rfl (Nat.le_of_ble_eq_true rfl) ?_
  exact H
set_option maxRecDepth 100000 in
theorem bX11_boat_10 {d : Nat} {Q : Option MV → MS → Prop} {x1 : Int32} {x2 : Int32} {s0 : Int32} {σ : MS}  (H : ((¬ s0 = 0 → ((x2 = 0 → (vp_in x1 16 ∧ Q (some (iV (σ.1 62 0 ((x1).toNatClampNeg)))) σ)) ∧ (¬ x2 = 0 → ((x2 = 1 → (vp_in x1 16 ∧ Q (some (iV (σ.1 63 0 ((x1).toNatClampNeg)))) σ)) ∧ (¬ x2 = 1 → ((x2 = 2 → (vp_in x1 184 ∧ Q (some (iV (σ.1 75 0 ((x1).toNatClampNeg)))) σ)) ∧ (¬ x2 = 2 → ((x2 = 3 → (vp_in x1 184 ∧ Q (some (iV (σ.1 76 0 ((x1).toNatClampNeg)))) σ)) ∧ (¬ x2 = 3 → Q (some (iV (-1 : Int32))) σ))))))))) ∧ (s0 = 0 → Q (some (iV (-1 : Int32))) σ))) : R mj_OM d mX11_boat Q 10 [some (rV 45 0), some (iV x1), some (iV x2)] [iV s0] σ := by
  refine r_if_ne (tgt := 15) dX11_boat_10 (by decide) (fun c => ?_) (fun c => ?_)
  · have H := H.1 c
    refine r_iload_n dX11_boat_15 rfl rfl ?_
    by_cases c0 : x2 = 0
    · have H := H.1 c0
      refine r_tableIn (tgt := 48) (off := 32) dX11_boat_16 (by rw [c0]; decide) (by rw [c0]; decide) (by rw [c0]; rfl) (by decide) ?_
      refine r_aload_n dX11_boat_48 rfl rfl ?_
      refine r_get (k := 45) (i := 0) (j := 18) (v := rV 62 0) rfl rfl ho45 rfl hX11 (by decide) rfl fX11_58 dX11_boat_49 (fun _ => rfl) ?_
      refine r_iload_n dX11_boat_52 rfl rfl ?_
      obtain ⟨q1, H⟩ := H
      refine r_iald (k := 62) (i := 0) rfl ho62 q1 dX11_boat_53 ?_
      exact r_iret dX11_boat_54 rfl H
    replace H := H.2 c0
    by_cases c1 : x2 = 1
    · have H := H.1 c1
      refine r_tableIn (tgt := 55) (off := 39) dX11_boat_16 (by rw [c1]; decide) (by rw [c1]; decide) (by rw [c1]; rfl) (by decide) ?_
      refine r_aload_n dX11_boat_55 rfl rfl ?_
      refine r_get (k := 45) (i := 0) (j := 19) (v := rV 63 0) rfl rfl ho45 rfl hX11 (by decide) rfl fX11_61 dX11_boat_56 (fun _ => rfl) ?_
      refine r_iload_n dX11_boat_59 rfl rfl ?_
      obtain ⟨q2, H⟩ := H
      refine r_iald (k := 63) (i := 0) rfl ho63 q2 dX11_boat_60 ?_
      exact r_iret dX11_boat_61 rfl H
    replace H := H.2 c1
    by_cases c2 : x2 = 2
    · have H := H.1 c2
      refine r_tableIn (tgt := 62) (off := 46) dX11_boat_16 (by rw [c2]; decide) (by rw [c2]; decide) (by rw [c2]; rfl) (by decide) ?_
      refine r_aload_n dX11_boat_62 rfl rfl ?_
      refine r_get (k := 45) (i := 0) (j := 45) (v := rV 75 0) rfl rfl ho45 rfl hX11 (by decide) rfl fX11_102 dX11_boat_63 (fun _ => rfl) ?_
      refine r_iload_n dX11_boat_66 rfl rfl ?_
      obtain ⟨q3, H⟩ := H
      refine r_iald (k := 75) (i := 0) rfl ho75 q3 dX11_boat_67 ?_
      exact r_iret dX11_boat_68 rfl H
    replace H := H.2 c2
    by_cases c3 : x2 = 3
    · have H := H.1 c3
      refine r_tableIn (tgt := 69) (off := 53) dX11_boat_16 (by rw [c3]; decide) (by rw [c3]; decide) (by rw [c3]; rfl) (by decide) ?_
      refine r_aload_n dX11_boat_69 rfl rfl ?_
      refine r_get (k := 45) (i := 0) (j := 46) (v := rV 76 0) rfl rfl ho45 rfl hX11 (by decide) rfl fX11_105 dX11_boat_70 (fun _ => rfl) ?_
      refine r_iload_n dX11_boat_73 rfl rfl ?_
      obtain ⟨q4, H⟩ := H
      refine r_iald (k := 76) (i := 0) rfl ho76 q4 dX11_boat_74 ?_
      exact r_iret dX11_boat_75 rfl H
    replace H := H.2 c3
    refine r_tableOut (tgt := 76) dX11_boat_16 (by have z0 := lv_neT c0 (show (0 : Int32).toInt = 0 by decide); have z1 := lv_neT c1 (show (1 : Int32).toInt = 1 by decide); have z2 := lv_neT c2 (show (2 : Int32).toInt = 2 by decide); have z3 := lv_neT c3 (show (3 : Int32).toInt = 3 by decide); omega) (by decide) ?_
    refine r_iconst (v := (-1 : Int32)) dX11_boat_76 rfl ?_
    exact r_iret dX11_boat_77 rfl H
  · have H := H.2 c
    refine r_iconst (v := (-1 : Int32)) dX11_boat_13 rfl ?_
    exact r_iret dX11_boat_14 rfl H
set_option maxRecDepth 100000 in
theorem bX11_law_0 {d : Nat} {Q : Option MV → MS → Prop} {x1 : Int32} {x2 : Int32} {σ : MS}  (H : ((¬ x1 = 0 → ((¬ x1 = (1 : Int32) → ((¬ x1 = (2 : Int32) → (((0 : Int32) = 0 → Q (some (lV (-9223372036854775808 : Int64))) (uI σ 45 0 0 (0 : Int32))) ∧ (¬ (0 : Int32) = 0 → (R mj_OM d mX11_hasLaw (fun r σ' => R mj_OM (d + 1) mX11_law Q 58 [some (rV 45 0), some (iV x1), some (iV x2), some (iV (0 : Int32))] (r.toList ++ []) σ') 0 [some (rV 45 0), some (iV x1)] [] (uI σ 45 0 0 (0 : Int32)))))) ∧ (x1 = (2 : Int32) → (R mj_OM d mX11_isBoat (fun r σ' => R mj_OM (d + 1) mX11_law Q 40 [some (rV 45 0), some (iV x1), some (iV x2), none] (r.toList ++ []) σ') 0 [some (rV 45 0), some (iV x2)] [] (uI σ 45 0 0 (0 : Int32)))))) ∧ (x1 = (1 : Int32) → (R mj_OM d mX11_isPond (fun r σ' => R mj_OM (d + 1) mX11_law Q 27 [some (rV 45 0), some (iV x1), some (iV x2), none] (r.toList ++ []) σ') 0 [some (rV 45 0), some (iV x2)] [] (uI σ 45 0 0 (0 : Int32)))))) ∧ (x1 = 0 → (R mj_OM d mX11_isPipe (fun r σ' => R mj_OM (d + 1) mX11_law Q 14 [some (rV 45 0), some (iV x1), some (iV x2), none] (r.toList ++ []) σ') 0 [some (rV 45 0), some (iV x2)] [] (uI σ 45 0 0 (0 : Int32)))))) : R mj_OM (d + 1) mX11_law Q 0 [some (rV 45 0), some (iV x1), some (iV x2), none] [] σ := by
  refine r_aload_n dX11_law_0 rfl rfl ?_
  refine r_iconst (v := (0 : Int32)) dX11_law_1 rfl ?_
  refine r_putI (k := 45) (i := 0) (j := 0) (ty0 := tyX11) rfl rfl ho45 rfl hX11 (by decide) rfl fX11_151 dX11_law_2 rfl tyX11_ok nmX11 rfl rfl rfl ?_
  refine r_iload_n dX11_law_5 rfl rfl ?_
  refine r_if_ne (tgt := 17) dX11_law_6 (by decide) (fun c => ?_) (fun c => ?_)
  · have H := H.1 c
    refine r_iload_n dX11_law_17 rfl rfl ?_
    refine r_iconst (v := (1 : Int32)) dX11_law_18 rfl ?_
    refine r_icmp_ne (tgt := 30) dX11_law_19 (by decide) (fun c => ?_) (fun c => ?_)
    · have H := H.1 c
      refine r_iload_n dX11_law_30 rfl rfl ?_
      refine r_iconst (v := (2 : Int32)) dX11_law_31 rfl ?_
      refine r_icmp_ne (tgt := 47) dX11_law_32 (by decide) (fun c => ?_) (fun c => ?_)
      · have H := H.1 c
        refine r_iconst (v := (0 : Int32)) dX11_law_47 rfl ?_
        refine r_istore_n dX11_law_48 rfl (by decide) rfl ?_
        refine r_iload_n dX11_law_49 rfl rfl ?_
        refine r_if_eq (tgt := 61) dX11_law_50 (by decide) (fun c => ?_) (fun c => ?_)
        · have H := H.1 c
          refine r_ldc2 (v := (-9223372036854775808 : Int64)) olX11_472 dX11_law_61 ?_
          exact r_lret dX11_law_64 rfl H
        · have H := H.2 c
          refine r_aload_n dX11_law_53 rfl rfl ?_
          refine r_iload_n dX11_law_54 rfl rfl ?_
          refine r_callV (z := 0) (k := 45) (i := 0) (As := [iV x1]) (st := []) kX11_hasLaw i_X11_hasLaw e_X11_hasLaw lX11_384 dX11_law_55 rfl rfl ho45 rfl rfl rfl rfl rfl (Nat.le_of_ble_eq_true rfl) ?_
          exact H
      · have H := H.2 c
        refine r_aload_n dX11_law_35 rfl rfl ?_
        refine r_iload_n dX11_law_36 rfl rfl ?_
        refine r_callV (z := 0) (k := 45) (i := 0) (As := [iV x2]) (st := []) kX11_isBoat i_X11_isBoat e_X11_isBoat lX11_467 dX11_law_37 rfl rfl ho45 rfl rfl rfl rfl rfl (Nat.le_of_ble_eq_true rfl) ?_
        exact H
    · have H := H.2 c
      refine r_aload_n dX11_law_22 rfl rfl ?_
      refine r_iload_n dX11_law_23 rfl rfl ?_
      refine r_callV (z := 0) (k := 45) (i := 0) (As := [iV x2]) (st := []) kX11_isPond i_X11_isPond e_X11_isPond lX11_446 dX11_law_24 rfl rfl ho45 rfl rfl rfl rfl rfl (Nat.le_of_ble_eq_true rfl) ?_
      exact H
  · have H := H.2 c
    refine r_aload_n dX11_law_9 rfl rfl ?_
    refine r_iload_n dX11_law_10 rfl rfl ?_
    refine r_callV (z := 0) (k := 45) (i := 0) (As := [iV x2]) (st := []) kX11_isPipe i_X11_isPipe e_X11_isPipe lX11_461 dX11_law_11 rfl rfl ho45 rfl rfl rfl rfl rfl (Nat.le_of_ble_eq_true rfl) ?_
    exact H
set_option maxRecDepth 100000 in
theorem bX11_law_14 {d : Nat} {Q : Option MV → MS → Prop} {x1 : Int32} {x2 : Int32} {s0 : Int32} {σ : MS}  (H : ((s0 = 0 → Q (some (lV (-9223372036854775808 : Int64))) σ) ∧ (¬ s0 = 0 → (R mj_OM d mX11_hasLaw (fun r σ' => R mj_OM (d + 1) mX11_law Q 58 [some (rV 45 0), some (iV x1), some (iV x2), some (iV s0)] (r.toList ++ []) σ') 0 [some (rV 45 0), some (iV x1)] [] σ)))) : R mj_OM (d + 1) mX11_law Q 14 [some (rV 45 0), some (iV x1), some (iV x2), none] [iV s0] σ := by
  refine r_goto (tgt := 48) dX11_law_14 (by decide) ?_
  refine r_istore_n dX11_law_48 rfl (by decide) rfl ?_
  refine r_iload_n dX11_law_49 rfl rfl ?_
  refine r_if_eq (tgt := 61) dX11_law_50 (by decide) (fun c => ?_) (fun c => ?_)
  · have H := H.1 c
    refine r_ldc2 (v := (-9223372036854775808 : Int64)) olX11_472 dX11_law_61 ?_
    exact r_lret dX11_law_64 rfl H
  · have H := H.2 c
    refine r_aload_n dX11_law_53 rfl rfl ?_
    refine r_iload_n dX11_law_54 rfl rfl ?_
    refine r_callV (z := 0) (k := 45) (i := 0) (As := [iV x1]) (st := []) kX11_hasLaw i_X11_hasLaw e_X11_hasLaw lX11_384 dX11_law_55 rfl rfl ho45 rfl rfl rfl rfl rfl (Nat.le_of_ble_eq_true rfl) ?_
    exact H
set_option maxRecDepth 100000 in
theorem bX11_law_27 {d : Nat} {Q : Option MV → MS → Prop} {x1 : Int32} {x2 : Int32} {s0 : Int32} {σ : MS}  (H : ((s0 = 0 → Q (some (lV (-9223372036854775808 : Int64))) σ) ∧ (¬ s0 = 0 → (R mj_OM d mX11_hasLaw (fun r σ' => R mj_OM (d + 1) mX11_law Q 58 [some (rV 45 0), some (iV x1), some (iV x2), some (iV s0)] (r.toList ++ []) σ') 0 [some (rV 45 0), some (iV x1)] [] σ)))) : R mj_OM (d + 1) mX11_law Q 27 [some (rV 45 0), some (iV x1), some (iV x2), none] [iV s0] σ := by
  refine r_goto (tgt := 48) dX11_law_27 (by decide) ?_
  refine r_istore_n dX11_law_48 rfl (by decide) rfl ?_
  refine r_iload_n dX11_law_49 rfl rfl ?_
  refine r_if_eq (tgt := 61) dX11_law_50 (by decide) (fun c => ?_) (fun c => ?_)
  · have H := H.1 c
    refine r_ldc2 (v := (-9223372036854775808 : Int64)) olX11_472 dX11_law_61 ?_
    exact r_lret dX11_law_64 rfl H
  · have H := H.2 c
    refine r_aload_n dX11_law_53 rfl rfl ?_
    refine r_iload_n dX11_law_54 rfl rfl ?_
    refine r_callV (z := 0) (k := 45) (i := 0) (As := [iV x1]) (st := []) kX11_hasLaw i_X11_hasLaw e_X11_hasLaw lX11_384 dX11_law_55 rfl rfl ho45 rfl rfl rfl rfl rfl (Nat.le_of_ble_eq_true rfl) ?_
    exact H
set_option maxRecDepth 100000 in
theorem bX11_law_40 {d : Nat} {Q : Option MV → MS → Prop} {x1 : Int32} {x2 : Int32} {s0 : Int32} {σ : MS}  (H : ((s0 = 0 → (((0 : Int32) = 0 → Q (some (lV (-9223372036854775808 : Int64))) σ) ∧ (¬ (0 : Int32) = 0 → (R mj_OM d mX11_hasLaw (fun r σ' => R mj_OM (d + 1) mX11_law Q 58 [some (rV 45 0), some (iV x1), some (iV x2), some (iV (0 : Int32))] (r.toList ++ []) σ') 0 [some (rV 45 0), some (iV x1)] [] σ)))) ∧ (¬ s0 = 0 → (((1 : Int32) = 0 → Q (some (lV (-9223372036854775808 : Int64))) σ) ∧ (¬ (1 : Int32) = 0 → (R mj_OM d mX11_hasLaw (fun r σ' => R mj_OM (d + 1) mX11_law Q 58 [some (rV 45 0), some (iV x1), some (iV x2), some (iV (1 : Int32))] (r.toList ++ []) σ') 0 [some (rV 45 0), some (iV x1)] [] σ)))))) : R mj_OM (d + 1) mX11_law Q 40 [some (rV 45 0), some (iV x1), some (iV x2), none] [iV s0] σ := by
  refine r_if_eq (tgt := 47) dX11_law_40 (by decide) (fun c => ?_) (fun c => ?_)
  · have H := H.1 c
    refine r_iconst (v := (0 : Int32)) dX11_law_47 rfl ?_
    refine r_istore_n dX11_law_48 rfl (by decide) rfl ?_
    refine r_iload_n dX11_law_49 rfl rfl ?_
    refine r_if_eq (tgt := 61) dX11_law_50 (by decide) (fun c => ?_) (fun c => ?_)
    · have H := H.1 c
      refine r_ldc2 (v := (-9223372036854775808 : Int64)) olX11_472 dX11_law_61 ?_
      exact r_lret dX11_law_64 rfl H
    · have H := H.2 c
      refine r_aload_n dX11_law_53 rfl rfl ?_
      refine r_iload_n dX11_law_54 rfl rfl ?_
      refine r_callV (z := 0) (k := 45) (i := 0) (As := [iV x1]) (st := []) kX11_hasLaw i_X11_hasLaw e_X11_hasLaw lX11_384 dX11_law_55 rfl rfl ho45 rfl rfl rfl rfl rfl (Nat.le_of_ble_eq_true rfl) ?_
      exact H
  · have H := H.2 c
    refine r_iconst (v := (1 : Int32)) dX11_law_43 rfl ?_
    refine r_goto (tgt := 48) dX11_law_44 (by decide) ?_
    refine r_istore_n dX11_law_48 rfl (by decide) rfl ?_
    refine r_iload_n dX11_law_49 rfl rfl ?_
    refine r_if_eq (tgt := 61) dX11_law_50 (by decide) (fun c => ?_) (fun c => ?_)
    · have H := H.1 c
      refine r_ldc2 (v := (-9223372036854775808 : Int64)) olX11_472 dX11_law_61 ?_
      exact r_lret dX11_law_64 rfl H
    · have H := H.2 c
      refine r_aload_n dX11_law_53 rfl rfl ?_
      refine r_iload_n dX11_law_54 rfl rfl ?_
      refine r_callV (z := 0) (k := 45) (i := 0) (As := [iV x1]) (st := []) kX11_hasLaw i_X11_hasLaw e_X11_hasLaw lX11_384 dX11_law_55 rfl rfl ho45 rfl rfl rfl rfl rfl (Nat.le_of_ble_eq_true rfl) ?_
      exact H
set_option maxRecDepth 100000 in
theorem bX11_law_58 {d : Nat} {Q : Option MV → MS → Prop} {x1 : Int32} {x2 : Int32} {x3 : Int32} {s0 : Int32} {σ : MS}  (H : ((¬ s0 = 0 → ((¬ x1 = 0 → ((¬ x1 = (1 : Int32) → (vp_in x2 16 ∧ vp_in (σ.1 62 0 ((x2).toNatClampNeg)) 6 ∧ ((¬ x1 = 0 → (R mj_OM d mX11_calls (fun r σ' => R mj_OM (d + 1) mX11_law Q 117 [some (rV 45 0), some (iV x1), some (iV x2), some (iV x3)] (r.toList ++ []) σ') 0 [some (rV 45 0), some (iV (0 : Int32)), some (iV (σ.1 53 0 (((σ.1 62 0 ((x2).toNatClampNeg))).toNatClampNeg))), some (iV (0 : Int32))] [] σ)) ∧ (x1 = 0 → (vp_in x2 20 ∧ (R mj_OM d mX11_calls (fun r σ' => R mj_OM (d + 1) mX11_law Q 117 [some (rV 45 0), some (iV x1), some (iV x2), some (iV x3)] (r.toList ++ []) σ') 0 [some (rV 45 0), some (iV (0 : Int32)), some (iV (σ.1 53 0 (((σ.1 62 0 ((x2).toNatClampNeg))).toNatClampNeg))), some (iV (σ.1 58 0 ((x2).toNatClampNeg)))] [] σ)))))) ∧ (x1 = (1 : Int32) → ((¬ x1 = 0 → (R mj_OM d mX11_calls (fun r σ' => R mj_OM (d + 1) mX11_law Q 117 [some (rV 45 0), some (iV x1), some (iV x2), some (iV x3)] (r.toList ++ []) σ') 0 [some (rV 45 0), some (iV (0 : Int32)), some (iV x2), some (iV (0 : Int32))] [] σ)) ∧ (x1 = 0 → (vp_in x2 20 ∧ (R mj_OM d mX11_calls (fun r σ' => R mj_OM (d + 1) mX11_law Q 117 [some (rV 45 0), some (iV x1), some (iV x2), some (iV x3)] (r.toList ++ []) σ') 0 [some (rV 45 0), some (iV (0 : Int32)), some (iV x2), some (iV (σ.1 58 0 ((x2).toNatClampNeg)))] [] σ))))))) ∧ (x1 = 0 → (R mj_OM d mX11_sourceOf (fun r σ' => R mj_OM (d + 1) mX11_law Q 77 [some (rV 45 0), some (iV x1), some (iV x2), some (iV x3)] (r.toList ++ [iV (0 : Int32), rV 45 0]) σ') 0 [some (rV 45 0), some (iV (0 : Int32)), some (iV x2)] [] σ)))) ∧ (s0 = 0 → Q (some (lV (-9223372036854775808 : Int64))) σ))) : R mj_OM (d + 1) mX11_law Q 58 [some (rV 45 0), some (iV x1), some (iV x2), some (iV x3)] [iV s0] σ := by
  refine r_if_ne (tgt := 65) dX11_law_58 (by decide) (fun c => ?_) (fun c => ?_)
  · have H := H.1 c
    refine r_aload_n dX11_law_65 rfl rfl ?_
    refine r_iconst (v := (0 : Int32)) dX11_law_66 rfl ?_
    refine r_iload_n dX11_law_67 rfl rfl ?_
    refine r_if_ne (tgt := 80) dX11_law_68 (by decide) (fun c => ?_) (fun c => ?_)
    · have H := H.1 c
      refine r_iload_n dX11_law_80 rfl rfl ?_
      refine r_iconst (v := (1 : Int32)) dX11_law_81 rfl ?_
      refine r_icmp_ne (tgt := 89) dX11_law_82 (by decide) (fun c => ?_) (fun c => ?_)
      · have H := H.1 c
        refine r_aload_n dX11_law_89 rfl rfl ?_
        refine r_get (k := 45) (i := 0) (j := 9) (v := rV 53 0) rfl rfl ho45 rfl hX11 (by decide) rfl fX11_31 dX11_law_90 (fun _ => rfl) ?_
        refine r_aload_n dX11_law_93 rfl rfl ?_
        refine r_get (k := 45) (i := 0) (j := 18) (v := rV 62 0) rfl rfl ho45 rfl hX11 (by decide) rfl fX11_58 dX11_law_94 (fun _ => rfl) ?_
        refine r_iload_n dX11_law_97 rfl rfl ?_
        obtain ⟨q1, H⟩ := H
        refine r_iald (k := 62) (i := 0) rfl ho62 q1 dX11_law_98 ?_
        obtain ⟨q2, H⟩ := H
        refine r_iald (k := 53) (i := 0) rfl ho53 q2 dX11_law_99 ?_
        refine r_iload_n dX11_law_100 rfl rfl ?_
        refine r_if_ne (tgt := 113) dX11_law_101 (by decide) (fun c => ?_) (fun c => ?_)
        · have H := H.1 c
          refine r_iconst (v := (0 : Int32)) dX11_law_113 rfl ?_
          refine r_callV (z := 0) (k := 45) (i := 0) (As := [iV (0 : Int32), iV (σ.1 53 0 (((σ.1 62 0 ((x2).toNatClampNeg))).toNatClampNeg)), iV (0 : Int32)]) (st := []) kX11_calls i_X11_calls e_X11_calls lX11_400 dX11_law_114 rfl rfl ho45 rfl rfl rfl rfl rfl (Nat.le_of_ble_eq_true rfl) ?_
          exact H
        · have H := H.2 c
          refine r_aload_n dX11_law_104 rfl rfl ?_
          refine r_get (k := 45) (i := 0) (j := 14) (v := rV 58 0) rfl rfl ho45 rfl hX11 (by decide) rfl fX11_46 dX11_law_105 (fun _ => rfl) ?_
          refine r_iload_n dX11_law_108 rfl rfl ?_
          obtain ⟨q3, H⟩ := H
          refine r_iald (k := 58) (i := 0) rfl ho58 q3 dX11_law_109 ?_
          refine r_goto (tgt := 114) dX11_law_110 (by decide) ?_
          refine r_callV (z := 0) (k := 45) (i := 0) (As := [iV (0 : Int32), iV (σ.1 53 0 (((σ.1 62 0 ((x2).toNatClampNeg))).toNatClampNeg)), iV (σ.1 58 0 ((x2).toNatClampNeg))]) (st := []) kX11_calls i_X11_calls e_X11_calls lX11_400 dX11_law_114 rfl rfl ho45 rfl rfl rfl rfl rfl (Nat.le_of_ble_eq_true rfl) ?_
          exact H
      · have H := H.2 c
        refine r_iload_n dX11_law_85 rfl rfl ?_
        refine r_goto (tgt := 100) dX11_law_86 (by decide) ?_
        refine r_iload_n dX11_law_100 rfl rfl ?_
        refine r_if_ne (tgt := 113) dX11_law_101 (by decide) (fun c => ?_) (fun c => ?_)
        · have H := H.1 c
          refine r_iconst (v := (0 : Int32)) dX11_law_113 rfl ?_
          refine r_callV (z := 0) (k := 45) (i := 0) (As := [iV (0 : Int32), iV x2, iV (0 : Int32)]) (st := []) kX11_calls i_X11_calls e_X11_calls lX11_400 dX11_law_114 rfl rfl ho45 rfl rfl rfl rfl rfl (Nat.le_of_ble_eq_true rfl) ?_
          exact H
        · have H := H.2 c
          refine r_aload_n dX11_law_104 rfl rfl ?_
          refine r_get (k := 45) (i := 0) (j := 14) (v := rV 58 0) rfl rfl ho45 rfl hX11 (by decide) rfl fX11_46 dX11_law_105 (fun _ => rfl) ?_
          refine r_iload_n dX11_law_108 rfl rfl ?_
          obtain ⟨q4, H⟩ := H
          refine r_iald (k := 58) (i := 0) rfl ho58 q4 dX11_law_109 ?_
          refine r_goto (tgt := 114) dX11_law_110 (by decide) ?_
          refine r_callV (z := 0) (k := 45) (i := 0) (As := [iV (0 : Int32), iV x2, iV (σ.1 58 0 ((x2).toNatClampNeg))]) (st := []) kX11_calls i_X11_calls e_X11_calls lX11_400 dX11_law_114 rfl rfl ho45 rfl rfl rfl rfl rfl (Nat.le_of_ble_eq_true rfl) ?_
          exact H
    · have H := H.2 c
      refine r_aload_n dX11_law_71 rfl rfl ?_
      refine r_iconst (v := (0 : Int32)) dX11_law_72 rfl ?_
      refine r_iload_n dX11_law_73 rfl rfl ?_
      refine r_callV (z := 0) (k := 45) (i := 0) (As := [iV (0 : Int32), iV x2]) (st := [iV (0 : Int32), rV 45 0]) kX11_sourceOf i_X11_sourceOf e_X11_sourceOf lX11_353 dX11_law_74 rfl rfl ho45 rfl rfl rfl rfl rfl (Nat.le_of_ble_eq_true rfl) ?_
      exact H
  · have H := H.2 c
    refine r_ldc2 (v := (-9223372036854775808 : Int64)) olX11_472 dX11_law_61 ?_
    exact r_lret dX11_law_64 rfl H
set_option maxRecDepth 100000 in
theorem bX11_law_77 {d : Nat} {Q : Option MV → MS → Prop} {x1 : Int32} {x2 : Int32} {x3 : Int32} {s0 : Int32} {s1 : Int32} {σ : MS}  (H : ((¬ x1 = 0 → (R mj_OM d mX11_calls (fun r σ' => R mj_OM (d + 1) mX11_law Q 117 [some (rV 45 0), some (iV x1), some (iV x2), some (iV x3)] (r.toList ++ []) σ') 0 [some (rV 45 0), some (iV s1), some (iV s0), some (iV (0 : Int32))] [] σ)) ∧ (x1 = 0 → (vp_in x2 20 ∧ (R mj_OM d mX11_calls (fun r σ' => R mj_OM (d + 1) mX11_law Q 117 [some (rV 45 0), some (iV x1), some (iV x2), some (iV x3)] (r.toList ++ []) σ') 0 [some (rV 45 0), some (iV s1), some (iV s0), some (iV (σ.1 58 0 ((x2).toNatClampNeg)))] [] σ))))) : R mj_OM (d + 1) mX11_law Q 77 [some (rV 45 0), some (iV x1), some (iV x2), some (iV x3)] [iV s0, iV s1, rV 45 0] σ := by
  refine r_goto (tgt := 100) dX11_law_77 (by decide) ?_
  refine r_iload_n dX11_law_100 rfl rfl ?_
  refine r_if_ne (tgt := 113) dX11_law_101 (by decide) (fun c => ?_) (fun c => ?_)
  · have H := H.1 c
    refine r_iconst (v := (0 : Int32)) dX11_law_113 rfl ?_
    refine r_callV (z := 0) (k := 45) (i := 0) (As := [iV s1, iV s0, iV (0 : Int32)]) (st := []) kX11_calls i_X11_calls e_X11_calls lX11_400 dX11_law_114 rfl rfl ho45 rfl rfl rfl rfl rfl (Nat.le_of_ble_eq_true rfl) ?_
    exact H
  · have H := H.2 c
    refine r_aload_n dX11_law_104 rfl rfl ?_
    refine r_get (k := 45) (i := 0) (j := 14) (v := rV 58 0) rfl rfl ho45 rfl hX11 (by decide) rfl fX11_46 dX11_law_105 (fun _ => rfl) ?_
    refine r_iload_n dX11_law_108 rfl rfl ?_
    obtain ⟨q1, H⟩ := H
    refine r_iald (k := 58) (i := 0) rfl ho58 q1 dX11_law_109 ?_
    refine r_goto (tgt := 114) dX11_law_110 (by decide) ?_
    refine r_callV (z := 0) (k := 45) (i := 0) (As := [iV s1, iV s0, iV (σ.1 58 0 ((x2).toNatClampNeg))]) (st := []) kX11_calls i_X11_calls e_X11_calls lX11_400 dX11_law_114 rfl rfl ho45 rfl rfl rfl rfl rfl (Nat.le_of_ble_eq_true rfl) ?_
    exact H
set_option maxRecDepth 100000 in
theorem bX11_law_117 {d : Nat} {Q : Option MV → MS → Prop} {x1 : Int32} {x2 : Int32} {x3 : Int32} {σ : MS}  (H : (R mj_OM d mX11_goes (fun r σ' => R mj_OM (d + 1) mX11_law Q 122 [some (rV 45 0), some (iV x1), some (iV x2), some (iV x3)] (r.toList ++ []) σ') 0 [some (rV 45 0), some (iV x1), none] [] σ)) : R mj_OM (d + 1) mX11_law Q 117 [some (rV 45 0), some (iV x1), some (iV x2), some (iV x3)] [] σ := by
  refine r_aload_n dX11_law_117 rfl rfl ?_
  refine r_iload_n dX11_law_118 rfl rfl ?_
  refine r_callV (z := 1) (k := 45) (i := 0) (As := [iV x1]) (st := []) kX11_goes i_X11_goes e_X11_goes lX11_387 dX11_law_119 rfl rfl ho45 rfl rfl rfl rfl rfl (Nat.le_of_ble_eq_true rfl) ?_
  exact H
set_option maxRecDepth 100000 in
theorem bX11_law_122 {d : Nat} {Q : Option MV → MS → Prop} {x1 : Int32} {x2 : Int32} {x3 : Int32} {s0 : Int32} {σ : MS}  (H : ((s0 = 0 → Q (some (lV (-9223372036854775808 : Int64))) σ) ∧ (¬ s0 = 0 → (vp_in (0 : Int32) 64 ∧ Q (some (lV (σ.2.1 69 0 0))) σ)))) : R mj_OM d mX11_law Q 122 [some (rV 45 0), some (iV x1), some (iV x2), some (iV x3)] [iV s0] σ := by
  refine r_if_eq (tgt := 134) dX11_law_122 (by decide) (fun c => ?_) (fun c => ?_)
  · have H := H.1 c
    refine r_ldc2 (v := (-9223372036854775808 : Int64)) olX11_472 dX11_law_134 ?_
    exact r_lret dX11_law_137 rfl H
  · have H := H.2 c
    refine r_aload_n dX11_law_125 rfl rfl ?_
    refine r_get (k := 45) (i := 0) (j := 38) (v := rV 69 0) rfl rfl ho45 rfl hX11 (by decide) rfl fX11_84 dX11_law_126 (fun _ => rfl) ?_
    refine r_iconst (v := (0 : Int32)) dX11_law_129 rfl ?_
    obtain ⟨q1, H⟩ := H
    refine r_lald (k := 69) (i := 0) rfl ho69 q1 dX11_law_130 ?_
    refine r_goto (tgt := 137) dX11_law_131 (by decide) ?_
    exact r_lret dX11_law_137 rfl H
set_option maxRecDepth 100000 in
theorem bX11_runs_0 {d : Nat} {Q : Option MV → MS → Prop} {x1 : Int32} {x2 : Int32} {σ : MS}  (H : (R mj_OM d mX11_isPipe (fun r σ' => R mj_OM (d + 1) mX11_runs Q 10 [some (rV 45 0), some (iV x1), some (iV x2)] (r.toList ++ []) σ') 0 [some (rV 45 0), some (iV x1)] [] (uI σ 45 0 0 (0 : Int32)))) : R mj_OM (d + 1) mX11_runs Q 0 [some (rV 45 0), some (iV x1), some (iV x2)] [] σ := by
  refine r_aload_n dX11_runs_0 rfl rfl ?_
  refine r_iconst (v := (0 : Int32)) dX11_runs_1 rfl ?_
  refine r_putI (k := 45) (i := 0) (j := 0) (ty0 := tyX11) rfl rfl ho45 rfl hX11 (by decide) rfl fX11_151 dX11_runs_2 rfl tyX11_ok nmX11 rfl rfl rfl ?_
  refine r_aload_n dX11_runs_5 rfl rfl ?_
  refine r_iload_n dX11_runs_6 rfl rfl ?_
  refine r_callV (z := 0) (k := 45) (i := 0) (As := [iV x1]) (st := []) kX11_isPipe i_X11_isPipe e_X11_isPipe lX11_461 dX11_runs_7 rfl rfl ho45 rfl rfl rfl rfl rfl (Nat.le_of_ble_eq_true rfl) ?_
  exact H
set_option maxRecDepth 100000 in
theorem bX11_runs_10 {d : Nat} {Q : Option MV → MS → Prop} {x1 : Int32} {x2 : Int32} {s0 : Int32} {σ : MS}  (H : ((s0 = 0 → Q (some (iV (-1 : Int32))) σ) ∧ (¬ s0 = 0 → (R mj_OM d mX11_isPart (fun r σ' => R mj_OM (d + 1) mX11_runs Q 17 [some (rV 45 0), some (iV x1), some (iV x2)] (r.toList ++ []) σ') 0 [some (iV x2)] [] σ)))) : R mj_OM (d + 1) mX11_runs Q 10 [some (rV 45 0), some (iV x1), some (iV x2)] [iV s0] σ := by
  refine r_if_eq (tgt := 20) dX11_runs_10 (by decide) (fun c => ?_) (fun c => ?_)
  · have H := H.1 c
    refine r_iconst (v := (-1 : Int32)) dX11_runs_20 rfl ?_
    exact r_iret dX11_runs_21 rfl H
  · have H := H.2 c
    refine r_iload_n dX11_runs_13 rfl rfl ?_
    refine r_callS (z := 0) (As := [iV x2]) (st := []) kX11_isPart s_X11_isPart lX11_455 dX11_runs_14 rfl rfl rfl rfl (Nat.le_of_ble_eq_true rfl) ?_
    exact H
set_option maxRecDepth 100000 in
theorem bX11_runs_17 {d : Nat} {Q : Option MV → MS → Prop} {x1 : Int32} {x2 : Int32} {s0 : Int32} {σ : MS}  (H : ((¬ s0 = 0 → ((¬ x2 = 0 → (R mj_OM d mX11_sourceOf (fun r σ' => R mj_OM (d + 1) mX11_runs Q 41 [some (rV 45 0), some (iV x1), some (iV x2)] (r.toList ++ []) σ') 0 [some (rV 45 0), some (iV (0 : Int32)), some (iV x1)] [] σ)) ∧ (x2 = 0 → (R mj_OM d mX11_runOf (fun r σ' => R mj_OM (d + 1) mX11_runs Q 32 [some (rV 45 0), some (iV x1), some (iV x2)] (r.toList ++ []) σ') 0 [some (rV 45 0), some (iV (0 : Int32)), some (iV x1), none, none] [] σ)))) ∧ (s0 = 0 → Q (some (iV (-1 : Int32))) σ))) : R mj_OM (d + 1) mX11_runs Q 17 [some (rV 45 0), some (iV x1), some (iV x2)] [iV s0] σ := by
  refine r_if_ne (tgt := 22) dX11_runs_17 (by decide) (fun c => ?_) (fun c => ?_)
  · have H := H.1 c
    refine r_iload_n dX11_runs_22 rfl rfl ?_
    refine r_if_ne (tgt := 35) dX11_runs_23 (by decide) (fun c => ?_) (fun c => ?_)
    · have H := H.1 c
      refine r_aload_n dX11_runs_35 rfl rfl ?_
      refine r_iconst (v := (0 : Int32)) dX11_runs_36 rfl ?_
      refine r_iload_n dX11_runs_37 rfl rfl ?_
      refine r_callV (z := 0) (k := 45) (i := 0) (As := [iV (0 : Int32), iV x1]) (st := []) kX11_sourceOf i_X11_sourceOf e_X11_sourceOf lX11_353 dX11_runs_38 rfl rfl ho45 rfl rfl rfl rfl rfl (Nat.le_of_ble_eq_true rfl) ?_
      exact H
    · have H := H.2 c
      refine r_aload_n dX11_runs_26 rfl rfl ?_
      refine r_iconst (v := (0 : Int32)) dX11_runs_27 rfl ?_
      refine r_iload_n dX11_runs_28 rfl rfl ?_
      refine r_callV (z := 2) (k := 45) (i := 0) (As := [iV (0 : Int32), iV x1]) (st := []) kX11_runOf i_X11_runOf e_X11_runOf lX11_362 dX11_runs_29 rfl rfl ho45 rfl rfl rfl rfl rfl (Nat.le_of_ble_eq_true rfl) ?_
      exact H
  · have H := H.2 c
    refine r_iconst (v := (-1 : Int32)) dX11_runs_20 rfl ?_
    exact r_iret dX11_runs_21 rfl H
set_option maxRecDepth 100000 in
theorem bX11_runs_32 {d : Nat} {Q : Option MV → MS → Prop} {x1 : Int32} {x2 : Int32} {s0 : Int32} {σ : MS}  (H : Q (some (iV s0)) σ) : R mj_OM d mX11_runs Q 32 [some (rV 45 0), some (iV x1), some (iV x2)] [iV s0] σ := by
  refine r_goto (tgt := 41) dX11_runs_32 (by decide) ?_
  exact r_iret dX11_runs_41 rfl H
set_option maxRecDepth 100000 in
theorem bX11_runs_41 {d : Nat} {Q : Option MV → MS → Prop} {x1 : Int32} {x2 : Int32} {s0 : Int32} {σ : MS}  (H : Q (some (iV s0)) σ) : R mj_OM d mX11_runs Q 41 [some (rV 45 0), some (iV x1), some (iV x2)] [iV s0] σ := by
  exact r_iret dX11_runs_41 rfl H
set_option maxRecDepth 100000 in
theorem bX11_keepNow_0 {d : Nat} {Q : Option MV → MS → Prop}  {σ : MS}  (H : ((¬ (σ.1 45 0 48) = (20 : Int32) → (R mj_OM d mX11_copies (fun r σ' => R mj_OM (d + 1) mX11_keepNow Q 56 [some (rV 45 0), none] (r.toList ++ []) σ') 0 [some (rV 45 0), some (iV ((3 : Int32) + (σ.1 45 0 48))), some (iV (0 : Int32)), none] [] σ)) ∧ ((σ.1 45 0 48) = (20 : Int32) → R mj_OM (d + 1) mX11_keepNow Q 11 [some (rV 45 0), some (iV (1 : Int32))] [] σ))) : R mj_OM (d + 1) mX11_keepNow Q 0 [some (rV 45 0), none] [] σ := by
  refine r_aload_n dX11_keepNow_0 rfl rfl ?_
  refine r_get (k := 45) (i := 0) (j := 48) (v := iV (σ.1 45 0 48)) rfl rfl ho45 rfl hX11 (by decide) rfl fX11_320 dX11_keepNow_1 (fun _ => rfl) ?_
  refine r_bipush (v := (20 : Int32)) dX11_keepNow_4 rfl ?_
  refine r_icmp_ne (tgt := 45) dX11_keepNow_6 (by decide) (fun c => ?_) (fun c => ?_)
  · have H := H.1 c
    refine r_aload_n dX11_keepNow_45 rfl rfl ?_
    refine r_iconst (v := (3 : Int32)) dX11_keepNow_46 rfl ?_
    refine r_aload_n dX11_keepNow_47 rfl rfl ?_
    refine r_get (k := 45) (i := 0) (j := 48) (v := iV (σ.1 45 0 48)) rfl rfl ho45 rfl hX11 (by decide) rfl fX11_320 dX11_keepNow_48 (fun _ => rfl) ?_
    refine r_iadd dX11_keepNow_51 ?_
    refine r_iconst (v := (0 : Int32)) dX11_keepNow_52 rfl ?_
    refine r_callV (z := 1) (k := 45) (i := 0) (As := [iV ((3 : Int32) + (σ.1 45 0 48)), iV (0 : Int32)]) (st := []) kX11_copies i_X11_copies e_X11_copies lX11_474 dX11_keepNow_53 rfl rfl ho45 rfl rfl rfl rfl rfl (Nat.le_of_ble_eq_true rfl) ?_
    exact H
  · have H := H.2 c
    refine r_iconst (v := (1 : Int32)) dX11_keepNow_9 rfl ?_
    refine r_istore_n dX11_keepNow_10 rfl (by decide) rfl ?_
    exact H
set_option maxRecDepth 100000 in
theorem bX11_keepNow_11 {d : Nat} {Q : Option MV → MS → Prop} {x1 : Int32} {σ : MS}  (H : (((20 : Int32) ≤ x1 → (R mj_OM d mX11_copies (fun r σ' => R mj_OM (d + 1) mX11_keepNow Q 56 [some (rV 45 0), none] (r.toList ++ []) σ') 0 [some (rV 45 0), some (iV ((3 : Int32) + ((σ.1 45 0 48) - (1 : Int32)))), some (iV (0 : Int32)), none] [] (uI σ 45 0 48 ((σ.1 45 0 48) - (1 : Int32))))) ∧ (¬ (20 : Int32) ≤ x1 → (R mj_OM d mX11_copies (fun r σ' => R mj_OM (d + 1) mX11_keepNow Q 29 [some (rV 45 0), some (iV x1)] (r.toList ++ []) σ') 0 [some (rV 45 0), some (iV (((3 : Int32) + x1) - (1 : Int32))), some (iV ((3 : Int32) + x1)), none] [] σ)))) : R mj_OM (d + 1) mX11_keepNow Q 11 [some (rV 45 0), some (iV x1)] [] σ := by
  refine r_iload_n dX11_keepNow_11 rfl rfl ?_
  refine r_bipush (v := (20 : Int32)) dX11_keepNow_12 rfl ?_
  refine r_icmp_ge (tgt := 35) dX11_keepNow_14 (by decide) (fun c => ?_) (fun c => ?_)
  · have H := H.1 c
    refine r_aload_n dX11_keepNow_35 rfl rfl ?_
    refine r_dup_r dX11_keepNow_36 ?_
    refine r_get (k := 45) (i := 0) (j := 48) (v := iV (σ.1 45 0 48)) rfl rfl ho45 rfl hX11 (by decide) rfl fX11_320 dX11_keepNow_37 (fun _ => rfl) ?_
    refine r_iconst (v := (1 : Int32)) dX11_keepNow_40 rfl ?_
    refine r_isub dX11_keepNow_41 ?_
    refine r_putI (k := 45) (i := 0) (j := 48) (ty0 := tyX11) rfl rfl ho45 rfl hX11 (by decide) rfl fX11_320 dX11_keepNow_42 rfl tyX11_ok nmX11 rfl rfl rfl ?_
    refine r_aload_n dX11_keepNow_45 rfl rfl ?_
    refine r_iconst (v := (3 : Int32)) dX11_keepNow_46 rfl ?_
    refine r_aload_n dX11_keepNow_47 rfl rfl ?_
    refine r_get (k := 45) (i := 0) (j := 48) (v := iV ((σ.1 45 0 48) - (1 : Int32))) rfl rfl ho45 rfl hX11 (by decide) rfl fX11_320 dX11_keepNow_48 (fun _ => rfl) ?_
    refine r_iadd dX11_keepNow_51 ?_
    refine r_iconst (v := (0 : Int32)) dX11_keepNow_52 rfl ?_
    refine R.fw (ls' := [some (rV 45 0), none]) ⟨rfl, trivial⟩ ?_
    refine r_callV (z := 1) (k := 45) (i := 0) (As := [iV ((3 : Int32) + ((σ.1 45 0 48) - (1 : Int32))), iV (0 : Int32)]) (st := []) kX11_copies i_X11_copies e_X11_copies lX11_474 dX11_keepNow_53 rfl rfl ho45 rfl rfl rfl rfl rfl (Nat.le_of_ble_eq_true rfl) ?_
    exact H
  · have H := H.2 c
    refine r_aload_n dX11_keepNow_17 rfl rfl ?_
    refine r_iconst (v := (3 : Int32)) dX11_keepNow_18 rfl ?_
    refine r_iload_n dX11_keepNow_19 rfl rfl ?_
    refine r_iadd dX11_keepNow_20 ?_
    refine r_iconst (v := (1 : Int32)) dX11_keepNow_21 rfl ?_
    refine r_isub dX11_keepNow_22 ?_
    refine r_iconst (v := (3 : Int32)) dX11_keepNow_23 rfl ?_
    refine r_iload_n dX11_keepNow_24 rfl rfl ?_
    refine r_iadd dX11_keepNow_25 ?_
    refine r_callV (z := 1) (k := 45) (i := 0) (As := [iV (((3 : Int32) + x1) - (1 : Int32)), iV ((3 : Int32) + x1)]) (st := []) kX11_copies i_X11_copies e_X11_copies lX11_474 dX11_keepNow_26 rfl rfl ho45 rfl rfl rfl rfl rfl (Nat.le_of_ble_eq_true rfl) ?_
    exact H
set_option maxRecDepth 100000 in
theorem bX11_keepNow_29 {d : Nat} {Q : Option MV → MS → Prop} {x1 : Int32} {σ : MS}  (H : R mj_OM d mX11_keepNow Q 11 [some (rV 45 0), some (iV (x1 + (1 : Int32)))] [] σ) : R mj_OM d mX11_keepNow Q 29 [some (rV 45 0), some (iV x1)] [] σ := by
  refine r_iinc (v := x1 + (1 : Int32)) dX11_keepNow_29 rfl rfl (by decide) rfl ?_
  refine r_goto (tgt := 11) dX11_keepNow_32 (by decide) ?_
  exact H
set_option maxRecDepth 100000 in
theorem bX11_keepNow_56 {d : Nat} {Q : Option MV → MS → Prop}  {σ : MS}  (H : Q none (uI σ 45 0 48 ((σ.1 45 0 48) + (1 : Int32)))) : R mj_OM d mX11_keepNow Q 56 [some (rV 45 0), none] [] σ := by
  refine r_aload_n dX11_keepNow_56 rfl rfl ?_
  refine r_dup_r dX11_keepNow_57 ?_
  refine r_get (k := 45) (i := 0) (j := 48) (v := iV (σ.1 45 0 48)) rfl rfl ho45 rfl hX11 (by decide) rfl fX11_320 dX11_keepNow_58 (fun _ => rfl) ?_
  refine r_iconst (v := (1 : Int32)) dX11_keepNow_61 rfl ?_
  refine r_iadd dX11_keepNow_62 ?_
  refine r_putI (k := 45) (i := 0) (j := 48) (ty0 := tyX11) rfl rfl ho45 rfl hX11 (by decide) rfl fX11_320 dX11_keepNow_63 rfl tyX11_ok nmX11 rfl rfl rfl ?_
  exact r_vret dX11_keepNow_66 rfl H
set_option maxRecDepth 100000 in
theorem bX11_draw_0 {d : Nat} {Q : Option MV → MS → Prop} {x1 : Int32} {x2 : Int32} {σ : MS}  (H : (R mj_OM d mX11_isPipe (fun r σ' => R mj_OM (d + 1) mX11_draw Q 10 [some (rV 45 0), some (iV x1), some (iV x2)] (r.toList ++ []) σ') 0 [some (rV 45 0), some (iV x1)] [] (uI σ 45 0 0 (0 : Int32)))) : R mj_OM (d + 1) mX11_draw Q 0 [some (rV 45 0), some (iV x1), some (iV x2)] [] σ := by
  refine r_aload_n dX11_draw_0 rfl rfl ?_
  refine r_iconst (v := (0 : Int32)) dX11_draw_1 rfl ?_
  refine r_putI (k := 45) (i := 0) (j := 0) (ty0 := tyX11) rfl rfl ho45 rfl hX11 (by decide) rfl fX11_151 dX11_draw_2 rfl tyX11_ok nmX11 rfl rfl rfl ?_
  refine r_aload_n dX11_draw_5 rfl rfl ?_
  refine r_iload_n dX11_draw_6 rfl rfl ?_
  refine r_callV (z := 0) (k := 45) (i := 0) (As := [iV x1]) (st := []) kX11_isPipe i_X11_isPipe e_X11_isPipe lX11_461 dX11_draw_7 rfl rfl ho45 rfl rfl rfl rfl rfl (Nat.le_of_ble_eq_true rfl) ?_
  exact H
set_option maxRecDepth 100000 in
theorem bX11_draw_10 {d : Nat} {Q : Option MV → MS → Prop} {x1 : Int32} {x2 : Int32} {s0 : Int32} {σ : MS}  (H : ((s0 = 0 → Q (some (iV (-1 : Int32))) σ) ∧ (¬ s0 = 0 → ((x2 < (1 : Int32) → Q (some (iV (-1 : Int32))) σ) ∧ (¬ x2 < (1 : Int32) → ((x2 ≤ (999 : Int32) → (R mj_OM d mX11_isJammed (fun r σ' => R mj_OM (d + 1) mX11_draw Q 33 [some (rV 45 0), some (iV x1), some (iV x2)] (r.toList ++ []) σ') 0 [some (rV 45 0), some (iV (0 : Int32)), some (iV x1)] [] σ)) ∧ (¬ x2 ≤ (999 : Int32) → Q (some (iV (-1 : Int32))) σ))))))) : R mj_OM (d + 1) mX11_draw Q 10 [some (rV 45 0), some (iV x1), some (iV x2)] [iV s0] σ := by
  refine r_if_eq (tgt := 25) dX11_draw_10 (by decide) (fun c => ?_) (fun c => ?_)
  · have H := H.1 c
    refine r_iconst (v := (-1 : Int32)) dX11_draw_25 rfl ?_
    exact r_iret dX11_draw_26 rfl H
  · have H := H.2 c
    refine r_iload_n dX11_draw_13 rfl rfl ?_
    refine r_iconst (v := (1 : Int32)) dX11_draw_14 rfl ?_
    refine r_icmp_lt (tgt := 25) dX11_draw_15 (by decide) (fun c => ?_) (fun c => ?_)
    · have H := H.1 c
      refine r_iconst (v := (-1 : Int32)) dX11_draw_25 rfl ?_
      exact r_iret dX11_draw_26 rfl H
    · have H := H.2 c
      refine r_iload_n dX11_draw_18 rfl rfl ?_
      refine r_sipush (v := (999 : Int32)) dX11_draw_19 rfl ?_
      refine r_icmp_le (tgt := 27) dX11_draw_22 (by decide) (fun c => ?_) (fun c => ?_)
      · have H := H.1 c
        refine r_aload_n dX11_draw_27 rfl rfl ?_
        refine r_iconst (v := (0 : Int32)) dX11_draw_28 rfl ?_
        refine r_iload_n dX11_draw_29 rfl rfl ?_
        refine r_callV (z := 0) (k := 45) (i := 0) (As := [iV (0 : Int32), iV x1]) (st := []) kX11_isJammed i_X11_isJammed e_X11_isJammed lX11_368 dX11_draw_30 rfl rfl ho45 rfl rfl rfl rfl rfl (Nat.le_of_ble_eq_true rfl) ?_
        exact H
      · have H := H.2 c
        refine r_iconst (v := (-1 : Int32)) dX11_draw_25 rfl ?_
        exact r_iret dX11_draw_26 rfl H
set_option maxRecDepth 100000 in
theorem bX11_draw_33 {d : Nat} {Q : Option MV → MS → Prop} {x1 : Int32} {x2 : Int32} {s0 : Int32} {σ : MS}  (H : ((s0 = 0 → (R mj_OM d mX11_keepNow (fun r σ' => R mj_OM (d + 1) mX11_draw Q 43 [some (rV 45 0), some (iV x1), some (iV x2)] (r.toList ++ []) σ') 0 [some (rV 45 0), none] [] σ)) ∧ (¬ s0 = 0 → Q (some (iV (-2 : Int32))) σ))) : R mj_OM (d + 1) mX11_draw Q 33 [some (rV 45 0), some (iV x1), some (iV x2)] [iV s0] σ := by
  refine r_if_eq (tgt := 39) dX11_draw_33 (by decide) (fun c => ?_) (fun c => ?_)
  · have H := H.1 c
    refine r_aload_n dX11_draw_39 rfl rfl ?_
    refine r_callV (z := 1) (k := 45) (i := 0) (As := []) (st := []) kX11_keepNow i_X11_keepNow e_X11_keepNow lX11_477 dX11_draw_40 rfl rfl ho45 rfl rfl rfl rfl rfl (Nat.le_of_ble_eq_true rfl) ?_
    exact H
  · have H := H.2 c
    refine r_bipush (v := (-2 : Int32)) dX11_draw_36 rfl ?_
    exact r_iret dX11_draw_38 rfl H
set_option maxRecDepth 100000 in
theorem bX11_draw_43 {d : Nat} {Q : Option MV → MS → Prop} {x1 : Int32} {x2 : Int32} {σ : MS}  (H : (R mj_OM d mX11_flows (fun r σ' => R mj_OM (d + 1) mX11_draw Q 50 [some (rV 45 0), some (iV x1), some (iV x2)] (r.toList ++ []) σ') 0 [some (rV 45 0), some (iV (0 : Int32)), some (iV x1), some (iV x2), none, none, none] [] σ)) : R mj_OM (d + 1) mX11_draw Q 43 [some (rV 45 0), some (iV x1), some (iV x2)] [] σ := by
  refine r_aload_n dX11_draw_43 rfl rfl ?_
  refine r_iconst (v := (0 : Int32)) dX11_draw_44 rfl ?_
  refine r_iload_n dX11_draw_45 rfl rfl ?_
  refine r_iload_n dX11_draw_46 rfl rfl ?_
  refine r_callV (z := 3) (k := 45) (i := 0) (As := [iV (0 : Int32), iV x1, iV x2]) (st := []) kX11_flows i_X11_flows e_X11_flows lX11_407 dX11_draw_47 rfl rfl ho45 rfl rfl rfl rfl rfl (Nat.le_of_ble_eq_true rfl) ?_
  exact H
set_option maxRecDepth 100000 in
theorem bX11_draw_50 {d : Nat} {Q : Option MV → MS → Prop} {x1 : Int32} {x2 : Int32} {s0 : Int32} {σ : MS}  (H : Q (some (iV s0)) σ) : R mj_OM d mX11_draw Q 50 [some (rV 45 0), some (iV x1), some (iV x2)] [iV s0] σ := by
  exact r_iret dX11_draw_50 rfl H
set_option maxRecDepth 100000 in
theorem bX11_fill_0 {d : Nat} {Q : Option MV → MS → Prop} {x1 : Int32} {x2 : Int32} {σ : MS}  (H : (R mj_OM d mX11_isPond (fun r σ' => R mj_OM (d + 1) mX11_fill Q 10 [some (rV 45 0), some (iV x1), some (iV x2)] (r.toList ++ []) σ') 0 [some (rV 45 0), some (iV x1)] [] (uI σ 45 0 0 (0 : Int32)))) : R mj_OM (d + 1) mX11_fill Q 0 [some (rV 45 0), some (iV x1), some (iV x2)] [] σ := by
  refine r_aload_n dX11_fill_0 rfl rfl ?_
  refine r_iconst (v := (0 : Int32)) dX11_fill_1 rfl ?_
  refine r_putI (k := 45) (i := 0) (j := 0) (ty0 := tyX11) rfl rfl ho45 rfl hX11 (by decide) rfl fX11_151 dX11_fill_2 rfl tyX11_ok nmX11 rfl rfl rfl ?_
  refine r_aload_n dX11_fill_5 rfl rfl ?_
  refine r_iload_n dX11_fill_6 rfl rfl ?_
  refine r_callV (z := 0) (k := 45) (i := 0) (As := [iV x1]) (st := []) kX11_isPond i_X11_isPond e_X11_isPond lX11_446 dX11_fill_7 rfl rfl ho45 rfl rfl rfl rfl rfl (Nat.le_of_ble_eq_true rfl) ?_
  exact H
set_option maxRecDepth 100000 in
theorem bX11_fill_10 {d : Nat} {Q : Option MV → MS → Prop} {x1 : Int32} {x2 : Int32} {s0 : Int32} {σ : MS}  (H : ((s0 = 0 → Q (some (iV (-1 : Int32))) σ) ∧ (¬ s0 = 0 → ((x2 < (1 : Int32) → Q (some (iV (-1 : Int32))) σ) ∧ (¬ x2 < (1 : Int32) → ((x2 ≤ (99 : Int32) → (R mj_OM d mX11_keepNow (fun r σ' => R mj_OM (d + 1) mX11_fill Q 30 [some (rV 45 0), some (iV x1), some (iV x2)] (r.toList ++ []) σ') 0 [some (rV 45 0), none] [] σ)) ∧ (¬ x2 ≤ (99 : Int32) → Q (some (iV (-1 : Int32))) σ))))))) : R mj_OM (d + 1) mX11_fill Q 10 [some (rV 45 0), some (iV x1), some (iV x2)] [iV s0] σ := by
  refine r_if_eq (tgt := 24) dX11_fill_10 (by decide) (fun c => ?_) (fun c => ?_)
  · have H := H.1 c
    refine r_iconst (v := (-1 : Int32)) dX11_fill_24 rfl ?_
    exact r_iret dX11_fill_25 rfl H
  · have H := H.2 c
    refine r_iload_n dX11_fill_13 rfl rfl ?_
    refine r_iconst (v := (1 : Int32)) dX11_fill_14 rfl ?_
    refine r_icmp_lt (tgt := 24) dX11_fill_15 (by decide) (fun c => ?_) (fun c => ?_)
    · have H := H.1 c
      refine r_iconst (v := (-1 : Int32)) dX11_fill_24 rfl ?_
      exact r_iret dX11_fill_25 rfl H
    · have H := H.2 c
      refine r_iload_n dX11_fill_18 rfl rfl ?_
      refine r_bipush (v := (99 : Int32)) dX11_fill_19 rfl ?_
      refine r_icmp_le (tgt := 26) dX11_fill_21 (by decide) (fun c => ?_) (fun c => ?_)
      · have H := H.1 c
        refine r_aload_n dX11_fill_26 rfl rfl ?_
        refine r_callV (z := 1) (k := 45) (i := 0) (As := []) (st := []) kX11_keepNow i_X11_keepNow e_X11_keepNow lX11_477 dX11_fill_27 rfl rfl ho45 rfl rfl rfl rfl rfl (Nat.le_of_ble_eq_true rfl) ?_
        exact H
      · have H := H.2 c
        refine r_iconst (v := (-1 : Int32)) dX11_fill_24 rfl ?_
        exact r_iret dX11_fill_25 rfl H
set_option maxRecDepth 100000 in
theorem bX11_fill_30 {d : Nat} {Q : Option MV → MS → Prop} {x1 : Int32} {x2 : Int32} {σ : MS}  (H : (vp_in x1 161 ∧ (R mj_OM d mX11_more (fun r σ' => R mj_OM (d + 1) mX11_fill Q 46 [some (rV 45 0), some (iV x1), some (iV x2)] (r.toList ++ [iV x1, rV 74 0]) σ') 0 [some (rV 45 0), some (iV (σ.1 74 0 ((x1).toNatClampNeg))), some (iV x2)] [] σ))) : R mj_OM (d + 1) mX11_fill Q 30 [some (rV 45 0), some (iV x1), some (iV x2)] [] σ := by
  refine r_aload_n dX11_fill_30 rfl rfl ?_
  refine r_get (k := 45) (i := 0) (j := 44) (v := rV 74 0) rfl rfl ho45 rfl hX11 (by decide) rfl fX11_99 dX11_fill_31 (fun _ => rfl) ?_
  refine r_iload_n dX11_fill_34 rfl rfl ?_
  refine r_aload_n dX11_fill_35 rfl rfl ?_
  refine r_aload_n dX11_fill_36 rfl rfl ?_
  refine r_get (k := 45) (i := 0) (j := 44) (v := rV 74 0) rfl rfl ho45 rfl hX11 (by decide) rfl fX11_99 dX11_fill_37 (fun _ => rfl) ?_
  refine r_iload_n dX11_fill_40 rfl rfl ?_
  obtain ⟨q1, H⟩ := H
  refine r_iald (k := 74) (i := 0) rfl ho74 q1 dX11_fill_41 ?_
  refine r_iload_n dX11_fill_42 rfl rfl ?_
  refine r_callV (z := 0) (k := 45) (i := 0) (As := [iV (σ.1 74 0 ((x1).toNatClampNeg)), iV x2]) (st := [iV x1, rV 74 0]) kX11_more i_X11_more e_X11_more lX11_426 dX11_fill_43 rfl rfl ho45 rfl rfl rfl rfl rfl (Nat.le_of_ble_eq_true rfl) ?_
  exact H
set_option maxRecDepth 100000 in
theorem bX11_fill_46 {d : Nat} {Q : Option MV → MS → Prop} {x1 : Int32} {x2 : Int32} {s0 : Int32} {s1 : Int32} {σ : MS}  (H : (vp_in s1 161 ∧ vp_in x1 161 ∧ Q (some (iV ((uI σ 74 0 ((s1).toNatClampNeg) s0).1 74 0 ((x1).toNatClampNeg)))) (uI σ 74 0 ((s1).toNatClampNeg) s0))) : R mj_OM d mX11_fill Q 46 [some (rV 45 0), some (iV x1), some (iV x2)] [iV s0, iV s1, rV 74 0] σ := by
  obtain ⟨q1, H⟩ := H
  refine r_iast (k := 74) (i := 0) rfl ho74 q1 dX11_fill_46 ?_
  refine r_aload_n dX11_fill_47 rfl rfl ?_
  refine r_get (k := 45) (i := 0) (j := 44) (v := rV 74 0) rfl rfl ho45 rfl hX11 (by decide) rfl fX11_99 dX11_fill_48 (fun _ => rfl) ?_
  refine r_iload_n dX11_fill_51 rfl rfl ?_
  obtain ⟨q2, H⟩ := H
  refine r_iald (k := 74) (i := 0) rfl ho74 q2 dX11_fill_52 ?_
  exact r_iret dX11_fill_53 rfl H
set_option maxRecDepth 100000 in
theorem bX11_spill_0 {d : Nat} {Q : Option MV → MS → Prop} {x1 : Int32} {x2 : Int32} {σ : MS}  (H : (R mj_OM d mX11_isPond (fun r σ' => R mj_OM (d + 1) mX11_spill Q 10 [some (rV 45 0), some (iV x1), some (iV x2)] (r.toList ++ []) σ') 0 [some (rV 45 0), some (iV x1)] [] (uI σ 45 0 0 (0 : Int32)))) : R mj_OM (d + 1) mX11_spill Q 0 [some (rV 45 0), some (iV x1), some (iV x2)] [] σ := by
  refine r_aload_n dX11_spill_0 rfl rfl ?_
  refine r_iconst (v := (0 : Int32)) dX11_spill_1 rfl ?_
  refine r_putI (k := 45) (i := 0) (j := 0) (ty0 := tyX11) rfl rfl ho45 rfl hX11 (by decide) rfl fX11_151 dX11_spill_2 rfl tyX11_ok nmX11 rfl rfl rfl ?_
  refine r_aload_n dX11_spill_5 rfl rfl ?_
  refine r_iload_n dX11_spill_6 rfl rfl ?_
  refine r_callV (z := 0) (k := 45) (i := 0) (As := [iV x1]) (st := []) kX11_isPond i_X11_isPond e_X11_isPond lX11_446 dX11_spill_7 rfl rfl ho45 rfl rfl rfl rfl rfl (Nat.le_of_ble_eq_true rfl) ?_
  exact H
set_option maxRecDepth 100000 in
theorem bX11_spill_10 {d : Nat} {Q : Option MV → MS → Prop} {x1 : Int32} {x2 : Int32} {s0 : Int32} {σ : MS}  (H : ((s0 = 0 → Q (some (iV (-1 : Int32))) σ) ∧ (¬ s0 = 0 → ((x2 < (1 : Int32) → Q (some (iV (-1 : Int32))) σ) ∧ (¬ x2 < (1 : Int32) → ((x2 ≤ (99 : Int32) → (vp_in x1 161 ∧ ((x2 ≤ (σ.1 74 0 ((x1).toNatClampNeg)) → (R mj_OM d mX11_keepNow (fun r σ' => R mj_OM (d + 1) mX11_spill Q 43 [some (rV 45 0), some (iV x1), some (iV x2)] (r.toList ++ []) σ') 0 [some (rV 45 0), none] [] σ)) ∧ (¬ x2 ≤ (σ.1 74 0 ((x1).toNatClampNeg)) → Q (some (iV (-2 : Int32))) σ)))) ∧ (¬ x2 ≤ (99 : Int32) → Q (some (iV (-1 : Int32))) σ))))))) : R mj_OM (d + 1) mX11_spill Q 10 [some (rV 45 0), some (iV x1), some (iV x2)] [iV s0] σ := by
  refine r_if_eq (tgt := 24) dX11_spill_10 (by decide) (fun c => ?_) (fun c => ?_)
  · have H := H.1 c
    refine r_iconst (v := (-1 : Int32)) dX11_spill_24 rfl ?_
    exact r_iret dX11_spill_25 rfl H
  · have H := H.2 c
    refine r_iload_n dX11_spill_13 rfl rfl ?_
    refine r_iconst (v := (1 : Int32)) dX11_spill_14 rfl ?_
    refine r_icmp_lt (tgt := 24) dX11_spill_15 (by decide) (fun c => ?_) (fun c => ?_)
    · have H := H.1 c
      refine r_iconst (v := (-1 : Int32)) dX11_spill_24 rfl ?_
      exact r_iret dX11_spill_25 rfl H
    · have H := H.2 c
      refine r_iload_n dX11_spill_18 rfl rfl ?_
      refine r_bipush (v := (99 : Int32)) dX11_spill_19 rfl ?_
      refine r_icmp_le (tgt := 26) dX11_spill_21 (by decide) (fun c => ?_) (fun c => ?_)
      · have H := H.1 c
        refine r_aload_n dX11_spill_26 rfl rfl ?_
        refine r_get (k := 45) (i := 0) (j := 44) (v := rV 74 0) rfl rfl ho45 rfl hX11 (by decide) rfl fX11_99 dX11_spill_27 (fun _ => rfl) ?_
        refine r_iload_n dX11_spill_30 rfl rfl ?_
        obtain ⟨q1, H⟩ := H
        refine r_iald (k := 74) (i := 0) rfl ho74 q1 dX11_spill_31 ?_
        refine r_iload_n dX11_spill_32 rfl rfl ?_
        refine r_icmp_ge (tgt := 39) dX11_spill_33 (by decide) (fun c => ?_) (fun c => ?_)
        · have H := H.1 c
          refine r_aload_n dX11_spill_39 rfl rfl ?_
          refine r_callV (z := 1) (k := 45) (i := 0) (As := []) (st := []) kX11_keepNow i_X11_keepNow e_X11_keepNow lX11_477 dX11_spill_40 rfl rfl ho45 rfl rfl rfl rfl rfl (Nat.le_of_ble_eq_true rfl) ?_
          exact H
        · have H := H.2 c
          refine r_bipush (v := (-2 : Int32)) dX11_spill_36 rfl ?_
          exact r_iret dX11_spill_38 rfl H
      · have H := H.2 c
        refine r_iconst (v := (-1 : Int32)) dX11_spill_24 rfl ?_
        exact r_iret dX11_spill_25 rfl H
set_option maxRecDepth 100000 in
theorem bX11_spill_43 {d : Nat} {Q : Option MV → MS → Prop} {x1 : Int32} {x2 : Int32} {σ : MS}  (H : (vp_in x1 161 ∧ Q (some (iV ((uI σ 74 0 ((x1).toNatClampNeg) ((σ.1 74 0 ((x1).toNatClampNeg)) - x2)).1 74 0 ((x1).toNatClampNeg)))) (uI σ 74 0 ((x1).toNatClampNeg) ((σ.1 74 0 ((x1).toNatClampNeg)) - x2)))) : R mj_OM d mX11_spill Q 43 [some (rV 45 0), some (iV x1), some (iV x2)] [] σ := by
  refine r_aload_n dX11_spill_43 rfl rfl ?_
  refine r_get (k := 45) (i := 0) (j := 44) (v := rV 74 0) rfl rfl ho45 rfl hX11 (by decide) rfl fX11_99 dX11_spill_44 (fun _ => rfl) ?_
  refine r_iload_n dX11_spill_47 rfl rfl ?_
  refine r_dup2_ri dX11_spill_48 ?_
  obtain ⟨q1, H⟩ := H
  refine r_iald (k := 74) (i := 0) rfl ho74 q1 dX11_spill_49 ?_
  refine r_iload_n dX11_spill_50 rfl rfl ?_
  refine r_isub dX11_spill_51 ?_
  refine r_iast (k := 74) (i := 0) rfl ho74 q1 dX11_spill_52 ?_
  refine r_aload_n dX11_spill_53 rfl rfl ?_
  refine r_get (k := 45) (i := 0) (j := 44) (v := rV 74 0) rfl rfl ho45 rfl hX11 (by decide) rfl fX11_99 dX11_spill_54 (fun _ => rfl) ?_
  refine r_iload_n dX11_spill_57 rfl rfl ?_
  refine r_iald (k := 74) (i := 0) rfl ho74 q1 dX11_spill_58 ?_
  exact r_iret dX11_spill_59 rfl H
set_option maxRecDepth 100000 in
theorem bX11_mend_0 {d : Nat} {Q : Option MV → MS → Prop} {x1 : Int32} {σ : MS}  (H : (R mj_OM d mX11_isPipe (fun r σ' => R mj_OM (d + 1) mX11_mend Q 10 [some (rV 45 0), some (iV x1)] (r.toList ++ []) σ') 0 [some (rV 45 0), some (iV x1)] [] (uI σ 45 0 0 (0 : Int32)))) : R mj_OM (d + 1) mX11_mend Q 0 [some (rV 45 0), some (iV x1)] [] σ := by
  refine r_aload_n dX11_mend_0 rfl rfl ?_
  refine r_iconst (v := (0 : Int32)) dX11_mend_1 rfl ?_
  refine r_putI (k := 45) (i := 0) (j := 0) (ty0 := tyX11) rfl rfl ho45 rfl hX11 (by decide) rfl fX11_151 dX11_mend_2 rfl tyX11_ok nmX11 rfl rfl rfl ?_
  refine r_aload_n dX11_mend_5 rfl rfl ?_
  refine r_iload_n dX11_mend_6 rfl rfl ?_
  refine r_callV (z := 0) (k := 45) (i := 0) (As := [iV x1]) (st := []) kX11_isPipe i_X11_isPipe e_X11_isPipe lX11_461 dX11_mend_7 rfl rfl ho45 rfl rfl rfl rfl rfl (Nat.le_of_ble_eq_true rfl) ?_
  exact H
set_option maxRecDepth 100000 in
theorem bX11_mend_10 {d : Nat} {Q : Option MV → MS → Prop} {x1 : Int32} {s0 : Int32} {σ : MS}  (H : ((s0 = 0 → Q (some (iV (0 : Int32))) σ) ∧ (¬ s0 = 0 → (R mj_OM d mX11_isJammed (fun r σ' => R mj_OM (d + 1) mX11_mend Q 19 [some (rV 45 0), some (iV x1)] (r.toList ++ []) σ') 0 [some (rV 45 0), some (iV (0 : Int32)), some (iV x1)] [] σ)))) : R mj_OM (d + 1) mX11_mend Q 10 [some (rV 45 0), some (iV x1)] [iV s0] σ := by
  refine r_if_eq (tgt := 22) dX11_mend_10 (by decide) (fun c => ?_) (fun c => ?_)
  · have H := H.1 c
    refine r_iconst (v := (0 : Int32)) dX11_mend_22 rfl ?_
    exact r_zret dX11_mend_23 rfl (by decide) H
  · have H := H.2 c
    refine r_aload_n dX11_mend_13 rfl rfl ?_
    refine r_iconst (v := (0 : Int32)) dX11_mend_14 rfl ?_
    refine r_iload_n dX11_mend_15 rfl rfl ?_
    refine r_callV (z := 0) (k := 45) (i := 0) (As := [iV (0 : Int32), iV x1]) (st := []) kX11_isJammed i_X11_isJammed e_X11_isJammed lX11_368 dX11_mend_16 rfl rfl ho45 rfl rfl rfl rfl rfl (Nat.le_of_ble_eq_true rfl) ?_
    exact H
set_option maxRecDepth 100000 in
theorem bX11_mend_19 {d : Nat} {Q : Option MV → MS → Prop} {x1 : Int32} {s0 : Int32} {σ : MS}  (H : ((¬ s0 = 0 → (R mj_OM d mX11_keepNow (fun r σ' => R mj_OM (d + 1) mX11_mend Q 28 [some (rV 45 0), some (iV x1)] (r.toList ++ []) σ') 0 [some (rV 45 0), none] [] σ)) ∧ (s0 = 0 → Q (some (iV (0 : Int32))) σ))) : R mj_OM (d + 1) mX11_mend Q 19 [some (rV 45 0), some (iV x1)] [iV s0] σ := by
  refine r_if_ne (tgt := 24) dX11_mend_19 (by decide) (fun c => ?_) (fun c => ?_)
  · have H := H.1 c
    refine r_aload_n dX11_mend_24 rfl rfl ?_
    refine r_callV (z := 1) (k := 45) (i := 0) (As := []) (st := []) kX11_keepNow i_X11_keepNow e_X11_keepNow lX11_477 dX11_mend_25 rfl rfl ho45 rfl rfl rfl rfl rfl (Nat.le_of_ble_eq_true rfl) ?_
    exact H
  · have H := H.2 c
    refine r_iconst (v := (0 : Int32)) dX11_mend_22 rfl ?_
    exact r_zret dX11_mend_23 rfl (by decide) H
set_option maxRecDepth 100000 in
theorem bX11_mend_28 {d : Nat} {Q : Option MV → MS → Prop} {x1 : Int32} {σ : MS}  (H : (vp_in (0 : Int32) 23 ∧ Q (some (iV (1 : Int32))) (uI σ 73 0 0 ((σ.1 73 0 0) &&& (((1 : Int32) <<< (x1 &&& 31)) ^^^ (-1 : Int32)))))) : R mj_OM d mX11_mend Q 28 [some (rV 45 0), some (iV x1)] [] σ := by
  refine r_aload_n dX11_mend_28 rfl rfl ?_
  refine r_get (k := 45) (i := 0) (j := 43) (v := rV 73 0) rfl rfl ho45 rfl hX11 (by decide) rfl fX11_96 dX11_mend_29 (fun _ => rfl) ?_
  refine r_iconst (v := (0 : Int32)) dX11_mend_32 rfl ?_
  refine r_dup2_ri dX11_mend_33 ?_
  obtain ⟨q1, H⟩ := H
  refine r_iald (k := 73) (i := 0) rfl ho73 q1 dX11_mend_34 ?_
  refine r_iconst (v := (1 : Int32)) dX11_mend_35 rfl ?_
  refine r_iload_n dX11_mend_36 rfl rfl ?_
  refine r_ishl dX11_mend_37 ?_
  refine r_iconst (v := (-1 : Int32)) dX11_mend_38 rfl ?_
  refine r_ixor dX11_mend_39 ?_
  refine r_iand dX11_mend_40 ?_
  refine r_iast (k := 73) (i := 0) rfl ho73 q1 dX11_mend_41 ?_
  refine r_iconst (v := (1 : Int32)) dX11_mend_42 rfl ?_
  exact r_zret dX11_mend_43 rfl (by decide) H
set_option maxRecDepth 100000 in
theorem bX11_go_0 {d : Nat} {Q : Option MV → MS → Prop} {x1 : Int32} {σ : MS}  (H : ((x1 < 0 → Q (some (iV (-1 : Int32))) (uI σ 45 0 0 (0 : Int32))) ∧ (¬ x1 < 0 → (((200 : Int32) < x1 → Q (some (iV (-1 : Int32))) (uI σ 45 0 0 (0 : Int32))) ∧ (¬ (200 : Int32) < x1 → (vp_in (0 : Int32) 23 ∧ ((((σ.1 70 0 0) + x1) ≤ (9800 : Int32) → ((x1 ≤ 0 → R mj_OM d mX11_go Q 43 [some (rV 45 0), some (iV x1), some (iV (0 : Int32))] [] (uI σ 45 0 0 (0 : Int32))) ∧ (¬ x1 ≤ 0 → R mj_OM d mX11_go Q 43 [some (rV 45 0), some (iV x1), some (iV (0 : Int32))] [] (uI (uI σ 45 0 0 (0 : Int32)) 45 0 48 (0 : Int32))))) ∧ (¬ ((σ.1 70 0 0) + x1) ≤ (9800 : Int32) → Q (some (iV (-1 : Int32))) (uI σ 45 0 0 (0 : Int32)))))))))) : R mj_OM d mX11_go Q 0 [some (rV 45 0), some (iV x1), none] [] σ := by
  refine r_aload_n dX11_go_0 rfl rfl ?_
  refine r_iconst (v := (0 : Int32)) dX11_go_1 rfl ?_
  refine r_putI (k := 45) (i := 0) (j := 0) (ty0 := tyX11) rfl rfl ho45 rfl hX11 (by decide) rfl fX11_151 dX11_go_2 rfl tyX11_ok nmX11 rfl rfl rfl ?_
  refine r_iload_n dX11_go_5 rfl rfl ?_
  refine r_if_lt (tgt := 30) dX11_go_6 (by decide) (fun c => ?_) (fun c => ?_)
  · have H := H.1 c
    refine r_iconst (v := (-1 : Int32)) dX11_go_30 rfl ?_
    exact r_iret dX11_go_31 rfl H
  · have H := H.2 c
    refine r_iload_n dX11_go_9 rfl rfl ?_
    refine r_sipush (v := (200 : Int32)) dX11_go_10 rfl ?_
    refine r_icmp_gt (tgt := 30) dX11_go_13 (by decide) (fun c => ?_) (fun c => ?_)
    · have H := H.1 c
      refine r_iconst (v := (-1 : Int32)) dX11_go_30 rfl ?_
      exact r_iret dX11_go_31 rfl H
    · have H := H.2 c
      refine r_aload_n dX11_go_16 rfl rfl ?_
      refine r_get (k := 45) (i := 0) (j := 40) (v := rV 70 0) rfl rfl ho45 rfl hX11 (by decide) rfl fX11_87 dX11_go_17 (fun _ => rfl) ?_
      refine r_iconst (v := (0 : Int32)) dX11_go_20 rfl ?_
      obtain ⟨q1, H⟩ := H
      refine r_iald (k := 70) (i := 0) rfl ho70 q1 dX11_go_21 ?_
      refine r_iload_n dX11_go_22 rfl rfl ?_
      refine r_iadd dX11_go_23 ?_
      refine r_sipush (v := (9800 : Int32)) dX11_go_24 rfl ?_
      refine r_icmp_le (tgt := 32) dX11_go_27 (by decide) (fun c => ?_) (fun c => ?_)
      · have H := H.1 c
        refine r_iload_n dX11_go_32 rfl rfl ?_
        refine r_if_le (tgt := 41) dX11_go_33 (by decide) (fun c => ?_) (fun c => ?_)
        · have H := H.1 c
          refine r_iconst (v := (0 : Int32)) dX11_go_41 rfl ?_
          refine r_istore_n dX11_go_42 rfl (by decide) rfl ?_
          exact H
        · have H := H.2 c
          refine r_aload_n dX11_go_36 rfl rfl ?_
          refine r_iconst (v := (0 : Int32)) dX11_go_37 rfl ?_
          refine r_putI (k := 45) (i := 0) (j := 48) (ty0 := tyX11) rfl rfl ho45 rfl hX11 (by decide) rfl fX11_320 dX11_go_38 rfl tyX11_ok nmX11 rfl rfl rfl ?_
          refine r_iconst (v := (0 : Int32)) dX11_go_41 rfl ?_
          refine r_istore_n dX11_go_42 rfl (by decide) rfl ?_
          exact H
      · have H := H.2 c
        refine r_iconst (v := (-1 : Int32)) dX11_go_30 rfl ?_
        exact r_iret dX11_go_31 rfl H
set_option maxRecDepth 100000 in
theorem bX11_go_43 {d : Nat} {Q : Option MV → MS → Prop} {x1 : Int32} {x2 : Int32} {σ : MS}  (H : ((x1 ≤ x2 → (vp_in (0 : Int32) 23 ∧ Q (some (iV (σ.1 70 0 0))) σ)) ∧ (¬ x1 ≤ x2 → (R mj_OM d mX11_passes (fun r σ' => R mj_OM (d + 1) mX11_go Q 54 [some (rV 45 0), some (iV x1), some (iV x2)] (r.toList ++ []) σ') 0 [some (rV 45 0), some (iV (0 : Int32)), some (iV (1 : Int32)), none] [] σ)))) : R mj_OM (d + 1) mX11_go Q 43 [some (rV 45 0), some (iV x1), some (iV x2)] [] σ := by
  refine r_iload_n dX11_go_43 rfl rfl ?_
  refine r_iload_n dX11_go_44 rfl rfl ?_
  refine r_icmp_ge (tgt := 60) dX11_go_45 (by decide) (fun c => ?_) (fun c => ?_)
  · have H := H.1 c
    refine r_aload_n dX11_go_60 rfl rfl ?_
    refine r_get (k := 45) (i := 0) (j := 40) (v := rV 70 0) rfl rfl ho45 rfl hX11 (by decide) rfl fX11_87 dX11_go_61 (fun _ => rfl) ?_
    refine r_iconst (v := (0 : Int32)) dX11_go_64 rfl ?_
    obtain ⟨q1, H⟩ := H
    refine r_iald (k := 70) (i := 0) rfl ho70 q1 dX11_go_65 ?_
    exact r_iret dX11_go_66 rfl H
  · have H := H.2 c
    refine r_aload_n dX11_go_48 rfl rfl ?_
    refine r_iconst (v := (0 : Int32)) dX11_go_49 rfl ?_
    refine r_iconst (v := (1 : Int32)) dX11_go_50 rfl ?_
    refine r_callV (z := 1) (k := 45) (i := 0) (As := [iV (0 : Int32), iV (1 : Int32)]) (st := []) kX11_passes i_X11_passes e_X11_passes lX11_439 dX11_go_51 rfl rfl ho45 rfl rfl rfl rfl rfl (Nat.le_of_ble_eq_true rfl) ?_
    exact H
set_option maxRecDepth 100000 in
theorem bX11_go_54 {d : Nat} {Q : Option MV → MS → Prop} {x1 : Int32} {x2 : Int32} {σ : MS}  (H : R mj_OM d mX11_go Q 43 [some (rV 45 0), some (iV x1), some (iV (x2 + (1 : Int32)))] [] σ) : R mj_OM d mX11_go Q 54 [some (rV 45 0), some (iV x1), some (iV x2)] [] σ := by
  refine r_iinc (v := x2 + (1 : Int32)) dX11_go_54 rfl rfl (by decide) rfl ?_
  refine r_goto (tgt := 43) dX11_go_57 (by decide) ?_
  exact H
set_option maxRecDepth 100000 in
theorem bX11_ahead_0 {d : Nat} {Q : Option MV → MS → Prop} {x1 : Int32} {x2 : Int32} {x3 : Int32} {σ : MS}  (H : ((x1 < 0 → Q (some (iV (-1 : Int32))) (uI σ 45 0 0 (0 : Int32))) ∧ (¬ x1 < 0 → (((200 : Int32) < x1 → Q (some (iV (-1 : Int32))) (uI σ 45 0 0 (0 : Int32))) ∧ (¬ (200 : Int32) < x1 → ((x2 < 0 → Q (some (iV (-1 : Int32))) (uI σ 45 0 0 (0 : Int32))) ∧ (¬ x2 < 0 → (((4 : Int32) < x2 → Q (some (iV (-1 : Int32))) (uI σ 45 0 0 (0 : Int32))) ∧ (¬ (4 : Int32) < x2 → ((¬ x2 = 0 → (R mj_OM d mX11_copies (fun r σ' => R mj_OM (d + 1) mX11_ahead Q 45 [some (rV 45 0), some (iV x1), some (iV x2), some (iV x3)] (r.toList ++ []) σ') 0 [some (rV 45 0), some (iV (1 : Int32)), some (iV (0 : Int32)), none] [] (uI σ 45 0 0 (0 : Int32)))) ∧ (x2 = 0 → (R mj_OM d mX11_isPond (fun r σ' => R mj_OM (d + 1) mX11_ahead Q 34 [some (rV 45 0), some (iV x1), some (iV x2), some (iV x3)] (r.toList ++ []) σ') 0 [some (rV 45 0), some (iV x3)] [] (uI σ 45 0 0 (0 : Int32)))))))))))))) : R mj_OM (d + 1) mX11_ahead Q 0 [some (rV 45 0), some (iV x1), some (iV x2), some (iV x3)] [] σ := by
  refine r_aload_n dX11_ahead_0 rfl rfl ?_
  refine r_iconst (v := (0 : Int32)) dX11_ahead_1 rfl ?_
  refine r_putI (k := 45) (i := 0) (j := 0) (ty0 := tyX11) rfl rfl ho45 rfl hX11 (by decide) rfl fX11_151 dX11_ahead_2 rfl tyX11_ok nmX11 rfl rfl rfl ?_
  refine r_iload_n dX11_ahead_5 rfl rfl ?_
  refine r_if_lt (tgt := 37) dX11_ahead_6 (by decide) (fun c => ?_) (fun c => ?_)
  · have H := H.1 c
    refine r_iconst (v := (-1 : Int32)) dX11_ahead_37 rfl ?_
    exact r_iret dX11_ahead_38 rfl H
  · have H := H.2 c
    refine r_iload_n dX11_ahead_9 rfl rfl ?_
    refine r_sipush (v := (200 : Int32)) dX11_ahead_10 rfl ?_
    refine r_icmp_gt (tgt := 37) dX11_ahead_13 (by decide) (fun c => ?_) (fun c => ?_)
    · have H := H.1 c
      refine r_iconst (v := (-1 : Int32)) dX11_ahead_37 rfl ?_
      exact r_iret dX11_ahead_38 rfl H
    · have H := H.2 c
      refine r_iload_n dX11_ahead_16 rfl rfl ?_
      refine r_if_lt (tgt := 37) dX11_ahead_17 (by decide) (fun c => ?_) (fun c => ?_)
      · have H := H.1 c
        refine r_iconst (v := (-1 : Int32)) dX11_ahead_37 rfl ?_
        exact r_iret dX11_ahead_38 rfl H
      · have H := H.2 c
        refine r_iload_n dX11_ahead_20 rfl rfl ?_
        refine r_iconst (v := (4 : Int32)) dX11_ahead_21 rfl ?_
        refine r_icmp_gt (tgt := 37) dX11_ahead_22 (by decide) (fun c => ?_) (fun c => ?_)
        · have H := H.1 c
          refine r_iconst (v := (-1 : Int32)) dX11_ahead_37 rfl ?_
          exact r_iret dX11_ahead_38 rfl H
        · have H := H.2 c
          refine r_iload_n dX11_ahead_25 rfl rfl ?_
          refine r_if_ne (tgt := 39) dX11_ahead_26 (by decide) (fun c => ?_) (fun c => ?_)
          · have H := H.1 c
            refine r_aload_n dX11_ahead_39 rfl rfl ?_
            refine r_iconst (v := (1 : Int32)) dX11_ahead_40 rfl ?_
            refine r_iconst (v := (0 : Int32)) dX11_ahead_41 rfl ?_
            refine r_callV (z := 1) (k := 45) (i := 0) (As := [iV (1 : Int32), iV (0 : Int32)]) (st := []) kX11_copies i_X11_copies e_X11_copies lX11_474 dX11_ahead_42 rfl rfl ho45 rfl rfl rfl rfl rfl (Nat.le_of_ble_eq_true rfl) ?_
            exact H
          · have H := H.2 c
            refine r_aload_n dX11_ahead_29 rfl rfl ?_
            refine r_iload_n dX11_ahead_30 rfl rfl ?_
            refine r_callV (z := 0) (k := 45) (i := 0) (As := [iV x3]) (st := []) kX11_isPond i_X11_isPond e_X11_isPond lX11_446 dX11_ahead_31 rfl rfl ho45 rfl rfl rfl rfl rfl (Nat.le_of_ble_eq_true rfl) ?_
            exact H
set_option maxRecDepth 100000 in
theorem bX11_ahead_34 {d : Nat} {Q : Option MV → MS → Prop} {x1 : Int32} {x2 : Int32} {x3 : Int32} {s0 : Int32} {σ : MS}  (H : ((¬ s0 = 0 → (R mj_OM d mX11_copies (fun r σ' => R mj_OM (d + 1) mX11_ahead Q 45 [some (rV 45 0), some (iV x1), some (iV x2), some (iV x3)] (r.toList ++ []) σ') 0 [some (rV 45 0), some (iV (1 : Int32)), some (iV (0 : Int32)), none] [] σ)) ∧ (s0 = 0 → Q (some (iV (-1 : Int32))) σ))) : R mj_OM (d + 1) mX11_ahead Q 34 [some (rV 45 0), some (iV x1), some (iV x2), some (iV x3)] [iV s0] σ := by
  refine r_if_ne (tgt := 39) dX11_ahead_34 (by decide) (fun c => ?_) (fun c => ?_)
  · have H := H.1 c
    refine r_aload_n dX11_ahead_39 rfl rfl ?_
    refine r_iconst (v := (1 : Int32)) dX11_ahead_40 rfl ?_
    refine r_iconst (v := (0 : Int32)) dX11_ahead_41 rfl ?_
    refine r_callV (z := 1) (k := 45) (i := 0) (As := [iV (1 : Int32), iV (0 : Int32)]) (st := []) kX11_copies i_X11_copies e_X11_copies lX11_474 dX11_ahead_42 rfl rfl ho45 rfl rfl rfl rfl rfl (Nat.le_of_ble_eq_true rfl) ?_
    exact H
  · have H := H.2 c
    refine r_iconst (v := (-1 : Int32)) dX11_ahead_37 rfl ?_
    exact r_iret dX11_ahead_38 rfl H
set_option maxRecDepth 100000 in
theorem bX11_ahead_45 {d : Nat} {Q : Option MV → MS → Prop} {x1 : Int32} {x2 : Int32} {x3 : Int32} {σ : MS}  (H : (R mj_OM d mX11_goesOn (fun r σ' => R mj_OM (d + 1) mX11_ahead Q 50 [some (rV 45 0), some (iV x1), some (iV x2), some (iV x3)] (r.toList ++ []) σ') 0 [some (rV 45 0), some (iV x1), none] [] σ)) : R mj_OM (d + 1) mX11_ahead Q 45 [some (rV 45 0), some (iV x1), some (iV x2), some (iV x3)] [] σ := by
  refine r_aload_n dX11_ahead_45 rfl rfl ?_
  refine r_iload_n dX11_ahead_46 rfl rfl ?_
  refine r_callV (z := 1) (k := 45) (i := 0) (As := [iV x1]) (st := []) kX11_goesOn i_X11_goesOn e_X11_goesOn lX11_480 dX11_ahead_47 rfl rfl ho45 rfl rfl rfl rfl rfl (Nat.le_of_ble_eq_true rfl) ?_
  exact H
set_option maxRecDepth 100000 in
theorem bX11_ahead_50 {d : Nat} {Q : Option MV → MS → Prop} {x1 : Int32} {x2 : Int32} {x3 : Int32} {σ : MS}  (H : ((x2 = 0 → (vp_in ((7 : Int32) + x3) 161 ∧ Q (some (iV (σ.1 74 0 ((((7 : Int32) + x3)).toNatClampNeg)))) σ)) ∧ (¬ x2 = 0 → ((x2 = 1 → (R mj_OM d mX11_boatsOf (fun r σ' => R mj_OM (d + 1) mX11_ahead Q 96 [some (rV 45 0), some (iV x1), some (iV x2), some (iV x3)] (r.toList ++ []) σ') 0 [some (rV 45 0), some (iV (1 : Int32)), some (iV (2 : Int32)), none, none] [] σ)) ∧ (¬ x2 = 1 → ((x2 = 2 → (R mj_OM d mX11_sumOf (fun r σ' => R mj_OM (d + 1) mX11_ahead Q 108 [some (rV 45 0), some (iV x1), some (iV x2), some (iV x3)] (r.toList ++ []) σ') 0 [some (rV 45 0), some (rV 76 0), some (iV (8 : Int32)), some (iV (1 : Int32)), none, none] [] σ)) ∧ (¬ x2 = 2 → ((x2 = 3 → (vp_in (1 : Int32) 23 ∧ (R mj_OM d mX11_bitsOf (fun r σ' => R mj_OM (d + 1) mX11_ahead Q 130 [some (rV 45 0), some (iV x1), some (iV x2), some (iV x3)] (r.toList ++ []) σ') 0 [some (iV (σ.1 73 0 1)), none, none] [] σ))) ∧ (¬ x2 = 3 → (vp_in (1 : Int32) 23 ∧ vp_in (0 : Int32) 23 ∧ Q (some (iV ((σ.1 72 0 1) - (σ.1 72 0 0)))) σ)))))))))) : R mj_OM (d + 1) mX11_ahead Q 50 [some (rV 45 0), some (iV x1), some (iV x2), some (iV x3)] [] σ := by
  refine r_iload_n dX11_ahead_50 rfl rfl ?_
  by_cases c0 : x2 = 0
  · have H := H.1 c0
    refine r_tableIn (tgt := 80) (off := 29) dX11_ahead_51 (by rw [c0]; decide) (by rw [c0]; decide) (by rw [c0]; rfl) (by decide) ?_
    refine r_aload_n dX11_ahead_80 rfl rfl ?_
    refine r_get (k := 45) (i := 0) (j := 44) (v := rV 74 0) rfl rfl ho45 rfl hX11 (by decide) rfl fX11_99 dX11_ahead_81 (fun _ => rfl) ?_
    refine r_bipush (v := (7 : Int32)) dX11_ahead_84 rfl ?_
    refine r_iload_n dX11_ahead_86 rfl rfl ?_
    refine r_iadd dX11_ahead_87 ?_
    obtain ⟨q1, H⟩ := H
    refine r_iald (k := 74) (i := 0) rfl ho74 q1 dX11_ahead_88 ?_
    exact r_iret dX11_ahead_89 rfl H
  replace H := H.2 c0
  by_cases c1 : x2 = 1
  · have H := H.1 c1
    refine r_tableIn (tgt := 90) (off := 39) dX11_ahead_51 (by rw [c1]; decide) (by rw [c1]; decide) (by rw [c1]; rfl) (by decide) ?_
    refine r_aload_n dX11_ahead_90 rfl rfl ?_
    refine r_iconst (v := (1 : Int32)) dX11_ahead_91 rfl ?_
    refine r_iconst (v := (2 : Int32)) dX11_ahead_92 rfl ?_
    refine r_callV (z := 2) (k := 45) (i := 0) (As := [iV (1 : Int32), iV (2 : Int32)]) (st := []) kX11_boatsOf i_X11_boatsOf e_X11_boatsOf lX11_381 dX11_ahead_93 rfl rfl ho45 rfl rfl rfl rfl rfl (Nat.le_of_ble_eq_true rfl) ?_
    exact H
  replace H := H.2 c1
  by_cases c2 : x2 = 2
  · have H := H.1 c2
    refine r_tableIn (tgt := 97) (off := 46) dX11_ahead_51 (by rw [c2]; decide) (by rw [c2]; decide) (by rw [c2]; rfl) (by decide) ?_
    refine r_aload_n dX11_ahead_97 rfl rfl ?_
    refine r_aload_n dX11_ahead_98 rfl rfl ?_
    refine r_get (k := 45) (i := 0) (j := 46) (v := rV 76 0) rfl rfl ho45 rfl hX11 (by decide) rfl fX11_105 dX11_ahead_99 (fun _ => rfl) ?_
    refine r_bipush (v := (8 : Int32)) dX11_ahead_102 rfl ?_
    refine r_iconst (v := (1 : Int32)) dX11_ahead_104 rfl ?_
    refine r_callV (z := 2) (k := 45) (i := 0) (As := [rV 76 0, iV (8 : Int32), iV (1 : Int32)]) (st := []) kX11_sumOf i_X11_sumOf e_X11_sumOf lX11_483 dX11_ahead_105 rfl rfl ho45 rfl rfl rfl rfl rfl (Nat.le_of_ble_eq_true rfl) ?_
    exact H
  replace H := H.2 c2
  by_cases c3 : x2 = 3
  · have H := H.1 c3
    refine r_tableIn (tgt := 121) (off := 70) dX11_ahead_51 (by rw [c3]; decide) (by rw [c3]; decide) (by rw [c3]; rfl) (by decide) ?_
    refine r_aload_n dX11_ahead_121 rfl rfl ?_
    refine r_get (k := 45) (i := 0) (j := 43) (v := rV 73 0) rfl rfl ho45 rfl hX11 (by decide) rfl fX11_96 dX11_ahead_122 (fun _ => rfl) ?_
    refine r_iconst (v := (1 : Int32)) dX11_ahead_125 rfl ?_
    obtain ⟨q2, H⟩ := H
    refine r_iald (k := 73) (i := 0) rfl ho73 q2 dX11_ahead_126 ?_
    refine r_callS (z := 2) (As := [iV (σ.1 73 0 1)]) (st := []) kX11_bitsOf s_X11_bitsOf lX11_486 dX11_ahead_127 rfl rfl rfl rfl (Nat.le_of_ble_eq_true rfl) ?_
    exact H
  replace H := H.2 c3
  refine r_tableOut (tgt := 131) dX11_ahead_51 (by have z0 := lv_neT c0 (show (0 : Int32).toInt = 0 by decide); have z1 := lv_neT c1 (show (1 : Int32).toInt = 1 by decide); have z2 := lv_neT c2 (show (2 : Int32).toInt = 2 by decide); have z3 := lv_neT c3 (show (3 : Int32).toInt = 3 by decide); omega) (by decide) ?_
  refine r_aload_n dX11_ahead_131 rfl rfl ?_
  refine r_get (k := 45) (i := 0) (j := 42) (v := rV 72 0) rfl rfl ho45 rfl hX11 (by decide) rfl fX11_93 dX11_ahead_132 (fun _ => rfl) ?_
  refine r_iconst (v := (1 : Int32)) dX11_ahead_135 rfl ?_
  obtain ⟨q3, H⟩ := H
  refine r_iald (k := 72) (i := 0) rfl ho72 q3 dX11_ahead_136 ?_
  refine r_aload_n dX11_ahead_137 rfl rfl ?_
  refine r_get (k := 45) (i := 0) (j := 42) (v := rV 72 0) rfl rfl ho45 rfl hX11 (by decide) rfl fX11_93 dX11_ahead_138 (fun _ => rfl) ?_
  refine r_iconst (v := (0 : Int32)) dX11_ahead_141 rfl ?_
  obtain ⟨q4, H⟩ := H
  refine r_iald (k := 72) (i := 0) rfl ho72 q4 dX11_ahead_142 ?_
  refine r_isub dX11_ahead_143 ?_
  exact r_iret dX11_ahead_144 rfl H
set_option maxRecDepth 100000 in
theorem bX11_ahead_96 {d : Nat} {Q : Option MV → MS → Prop} {x1 : Int32} {x2 : Int32} {x3 : Int32} {s0 : Int32} {σ : MS}  (H : Q (some (iV s0)) σ) : R mj_OM d mX11_ahead Q 96 [some (rV 45 0), some (iV x1), some (iV x2), some (iV x3)] [iV s0] σ := by
  exact r_iret dX11_ahead_96 rfl H
set_option maxRecDepth 100000 in
theorem bX11_ahead_108 {d : Nat} {Q : Option MV → MS → Prop} {x1 : Int32} {x2 : Int32} {x3 : Int32} {s0 : Int32} {σ : MS}  (H : (R mj_OM d mX11_sumOf (fun r σ' => R mj_OM (d + 1) mX11_ahead Q 119 [some (rV 45 0), some (iV x1), some (iV x2), some (iV x3)] (r.toList ++ [iV s0]) σ') 0 [some (rV 45 0), some (rV 76 0), some (iV (8 : Int32)), some (iV (0 : Int32)), none, none] [] σ)) : R mj_OM (d + 1) mX11_ahead Q 108 [some (rV 45 0), some (iV x1), some (iV x2), some (iV x3)] [iV s0] σ := by
  refine r_aload_n dX11_ahead_108 rfl rfl ?_
  refine r_aload_n dX11_ahead_109 rfl rfl ?_
  refine r_get (k := 45) (i := 0) (j := 46) (v := rV 76 0) rfl rfl ho45 rfl hX11 (by decide) rfl fX11_105 dX11_ahead_110 (fun _ => rfl) ?_
  refine r_bipush (v := (8 : Int32)) dX11_ahead_113 rfl ?_
  refine r_iconst (v := (0 : Int32)) dX11_ahead_115 rfl ?_
  refine r_callV (z := 2) (k := 45) (i := 0) (As := [rV 76 0, iV (8 : Int32), iV (0 : Int32)]) (st := [iV s0]) kX11_sumOf i_X11_sumOf e_X11_sumOf lX11_483 dX11_ahead_116 rfl rfl ho45 rfl rfl rfl rfl rfl (Nat.le_of_ble_eq_true rfl) ?_
  exact H
set_option maxRecDepth 100000 in
theorem bX11_ahead_119 {d : Nat} {Q : Option MV → MS → Prop} {x1 : Int32} {x2 : Int32} {x3 : Int32} {s0 : Int32} {s1 : Int32} {σ : MS}  (H : Q (some (iV (s1 - s0))) σ) : R mj_OM d mX11_ahead Q 119 [some (rV 45 0), some (iV x1), some (iV x2), some (iV x3)] [iV s0, iV s1] σ := by
  refine r_isub dX11_ahead_119 ?_
  exact r_iret dX11_ahead_120 rfl H
set_option maxRecDepth 100000 in
theorem bX11_ahead_130 {d : Nat} {Q : Option MV → MS → Prop} {x1 : Int32} {x2 : Int32} {x3 : Int32} {s0 : Int32} {σ : MS}  (H : Q (some (iV s0)) σ) : R mj_OM d mX11_ahead Q 130 [some (rV 45 0), some (iV x1), some (iV x2), some (iV x3)] [iV s0] σ := by
  exact r_iret dX11_ahead_130 rfl H
set_option maxRecDepth 100000 in
theorem bX11_upWhen_0 {d : Nat} {Q : Option MV → MS → Prop} {x1 : Int32} {σ : MS}  (H : (R mj_OM d mX11_isBoat (fun r σ' => R mj_OM (d + 1) mX11_upWhen Q 10 [some (rV 45 0), some (iV x1), none] (r.toList ++ []) σ') 0 [some (rV 45 0), some (iV x1)] [] (uI σ 45 0 0 (0 : Int32)))) : R mj_OM (d + 1) mX11_upWhen Q 0 [some (rV 45 0), some (iV x1), none] [] σ := by
  refine r_aload_n dX11_upWhen_0 rfl rfl ?_
  refine r_iconst (v := (0 : Int32)) dX11_upWhen_1 rfl ?_
  refine r_putI (k := 45) (i := 0) (j := 0) (ty0 := tyX11) rfl rfl ho45 rfl hX11 (by decide) rfl fX11_151 dX11_upWhen_2 rfl tyX11_ok nmX11 rfl rfl rfl ?_
  refine r_aload_n dX11_upWhen_5 rfl rfl ?_
  refine r_iload_n dX11_upWhen_6 rfl rfl ?_
  refine r_callV (z := 0) (k := 45) (i := 0) (As := [iV x1]) (st := []) kX11_isBoat i_X11_isBoat e_X11_isBoat lX11_467 dX11_upWhen_7 rfl rfl ho45 rfl rfl rfl rfl rfl (Nat.le_of_ble_eq_true rfl) ?_
  exact H
set_option maxRecDepth 100000 in
theorem bX11_upWhen_10 {d : Nat} {Q : Option MV → MS → Prop} {x1 : Int32} {s0 : Int32} {σ : MS}  (H : ((¬ s0 = 0 → (R mj_OM d mX11_copies (fun r σ' => R mj_OM (d + 1) mX11_upWhen Q 21 [some (rV 45 0), some (iV x1), none] (r.toList ++ []) σ') 0 [some (rV 45 0), some (iV (1 : Int32)), some (iV (0 : Int32)), none] [] σ)) ∧ (s0 = 0 → Q (some (iV (-1 : Int32))) σ))) : R mj_OM (d + 1) mX11_upWhen Q 10 [some (rV 45 0), some (iV x1), none] [iV s0] σ := by
  refine r_if_ne (tgt := 15) dX11_upWhen_10 (by decide) (fun c => ?_) (fun c => ?_)
  · have H := H.1 c
    refine r_aload_n dX11_upWhen_15 rfl rfl ?_
    refine r_iconst (v := (1 : Int32)) dX11_upWhen_16 rfl ?_
    refine r_iconst (v := (0 : Int32)) dX11_upWhen_17 rfl ?_
    refine r_callV (z := 1) (k := 45) (i := 0) (As := [iV (1 : Int32), iV (0 : Int32)]) (st := []) kX11_copies i_X11_copies e_X11_copies lX11_474 dX11_upWhen_18 rfl rfl ho45 rfl rfl rfl rfl rfl (Nat.le_of_ble_eq_true rfl) ?_
    exact H
  · have H := H.2 c
    refine r_iconst (v := (-1 : Int32)) dX11_upWhen_13 rfl ?_
    exact r_iret dX11_upWhen_14 rfl H
set_option maxRecDepth 100000 in
theorem bX11_upWhen_21 {d : Nat} {Q : Option MV → MS → Prop} {x1 : Int32} {σ : MS}  (H : R mj_OM d mX11_upWhen Q 23 [some (rV 45 0), some (iV x1), some (iV (0 : Int32))] [] σ) : R mj_OM d mX11_upWhen Q 21 [some (rV 45 0), some (iV x1), none] [] σ := by
  refine r_iconst (v := (0 : Int32)) dX11_upWhen_21 rfl ?_
  refine r_istore_n dX11_upWhen_22 rfl (by decide) rfl ?_
  exact H
set_option maxRecDepth 100000 in
theorem bX11_upWhen_23 {d : Nat} {Q : Option MV → MS → Prop} {x1 : Int32} {x2 : Int32} {σ : MS}  (H : (((199 : Int32) < x2 → Q (some (iV (-2 : Int32))) σ) ∧ (¬ (199 : Int32) < x2 → (vp_in ((8 : Int32) + x1) 184 ∧ ((¬ (σ.1 75 0 ((((8 : Int32) + x1)).toNatClampNeg)) = (2 : Int32) → (R mj_OM d mX11_passes (fun r σ' => R mj_OM (d + 1) mX11_upWhen Q 51 [some (rV 45 0), some (iV x1), some (iV x2)] (r.toList ++ []) σ') 0 [some (rV 45 0), some (iV (1 : Int32)), some (iV (0 : Int32)), none] [] σ)) ∧ ((σ.1 75 0 ((((8 : Int32) + x1)).toNatClampNeg)) = (2 : Int32) → Q (some (iV x2)) σ)))))) : R mj_OM (d + 1) mX11_upWhen Q 23 [some (rV 45 0), some (iV x1), some (iV x2)] [] σ := by
  refine r_iload_n dX11_upWhen_23 rfl rfl ?_
  refine r_sipush (v := (199 : Int32)) dX11_upWhen_24 rfl ?_
  refine r_icmp_gt (tgt := 57) dX11_upWhen_27 (by decide) (fun c => ?_) (fun c => ?_)
  · have H := H.1 c
    refine r_bipush (v := (-2 : Int32)) dX11_upWhen_57 rfl ?_
    exact r_iret dX11_upWhen_59 rfl H
  · have H := H.2 c
    refine r_aload_n dX11_upWhen_30 rfl rfl ?_
    refine r_get (k := 45) (i := 0) (j := 45) (v := rV 75 0) rfl rfl ho45 rfl hX11 (by decide) rfl fX11_102 dX11_upWhen_31 (fun _ => rfl) ?_
    refine r_bipush (v := (8 : Int32)) dX11_upWhen_34 rfl ?_
    refine r_iload_n dX11_upWhen_36 rfl rfl ?_
    refine r_iadd dX11_upWhen_37 ?_
    obtain ⟨q1, H⟩ := H
    refine r_iald (k := 75) (i := 0) rfl ho75 q1 dX11_upWhen_38 ?_
    refine r_iconst (v := (2 : Int32)) dX11_upWhen_39 rfl ?_
    refine r_icmp_ne (tgt := 45) dX11_upWhen_40 (by decide) (fun c => ?_) (fun c => ?_)
    · have H := H.1 c
      refine r_aload_n dX11_upWhen_45 rfl rfl ?_
      refine r_iconst (v := (1 : Int32)) dX11_upWhen_46 rfl ?_
      refine r_iconst (v := (0 : Int32)) dX11_upWhen_47 rfl ?_
      refine r_callV (z := 1) (k := 45) (i := 0) (As := [iV (1 : Int32), iV (0 : Int32)]) (st := []) kX11_passes i_X11_passes e_X11_passes lX11_439 dX11_upWhen_48 rfl rfl ho45 rfl rfl rfl rfl rfl (Nat.le_of_ble_eq_true rfl) ?_
      exact H
    · have H := H.2 c
      refine r_iload_n dX11_upWhen_43 rfl rfl ?_
      exact r_iret dX11_upWhen_44 rfl H
set_option maxRecDepth 100000 in
theorem bX11_upWhen_51 {d : Nat} {Q : Option MV → MS → Prop} {x1 : Int32} {x2 : Int32} {σ : MS}  (H : R mj_OM d mX11_upWhen Q 23 [some (rV 45 0), some (iV x1), some (iV (x2 + (1 : Int32)))] [] σ) : R mj_OM d mX11_upWhen Q 51 [some (rV 45 0), some (iV x1), some (iV x2)] [] σ := by
  refine r_iinc (v := x2 + (1 : Int32)) dX11_upWhen_51 rfl rfl (by decide) rfl ?_
  refine r_goto (tgt := 23) dX11_upWhen_54 (by decide) ?_
  exact H
set_option maxRecDepth 100000 in
theorem bX11_joinedBy_0 {d : Nat} {Q : Option MV → MS → Prop} {x1 : Int32} {x2 : Int32} {σ : MS}  (H : R mj_OM d mX11_joinedBy Q 5 [some (rV 45 0), some (iV x1), some (iV x2), some (iV (0 : Int32)), some (iV (0 : Int32)), none, none, none, none, none] [] σ) : R mj_OM d mX11_joinedBy Q 0 [some (rV 45 0), some (iV x1), some (iV x2), none, none, none, none, none, none, none] [] σ := by
  refine r_iconst (v := (0 : Int32)) dX11_joinedBy_0 rfl ?_
  refine r_istore_n dX11_joinedBy_1 rfl (by decide) rfl ?_
  refine r_iconst (v := (0 : Int32)) dX11_joinedBy_2 rfl ?_
  refine r_istore dX11_joinedBy_3 (by decide) rfl ?_
  exact H
set_option maxRecDepth 100000 in
theorem bX11_joinedBy_5 {d : Nat} {Q : Option MV → MS → Prop} {x1 : Int32} {x2 : Int32} {x3 : Int32} {x4 : Int32} {σ : MS}  (H : (vp_in (0 : Int32) 18 ∧ (((σ.1 47 0 0) ≤ x4 → R mj_OM d mX11_joinedBy Q 53 [some (rV 45 0), some (iV x1), some (iV x2), some (iV x3), some (iV (100 : Int32)), some (iV (0 : Int32)), none, none, none, none] [] σ) ∧ (¬ (σ.1 47 0 0) ≤ x4 → ((¬ ((x1 >>> (x4 &&& 31)) &&& (1 : Int32)) = (1 : Int32) → R mj_OM d mX11_joinedBy Q 5 [some (rV 45 0), some (iV x1), some (iV x2), some (iV (x3 + (0 : Int32))), some (iV (x4 + (1 : Int32))), none, none, none, none, none] [] σ) ∧ (((x1 >>> (x4 &&& 31)) &&& (1 : Int32)) = (1 : Int32) → (vp_in x4 161 ∧ R mj_OM d mX11_joinedBy Q 5 [some (rV 45 0), some (iV x1), some (iV x2), some (iV (x3 + (σ.1 74 0 ((x4).toNatClampNeg)))), some (iV (x4 + (1 : Int32))), none, none, none, none, none] [] σ))))))) : R mj_OM d mX11_joinedBy Q 5 [some (rV 45 0), some (iV x1), some (iV x2), some (iV x3), some (iV x4), none, none, none, none, none] [] σ := by
  refine r_iload dX11_joinedBy_5 rfl ?_
  refine r_aload_n dX11_joinedBy_7 rfl rfl ?_
  refine r_get (k := 45) (i := 0) (j := 3) (v := rV 47 0) rfl rfl ho45 rfl hX11 (by decide) rfl fX11_13 dX11_joinedBy_8 (fun _ => rfl) ?_
  refine r_iconst (v := (0 : Int32)) dX11_joinedBy_11 rfl ?_
  obtain ⟨q1, H⟩ := H
  refine r_iald (k := 47) (i := 0) rfl ho47 q1 dX11_joinedBy_12 ?_
  refine r_icmp_ge (tgt := 46) dX11_joinedBy_13 (by decide) (fun c => ?_) (fun c => ?_)
  · have H := H.1 c
    refine r_bipush (v := (100 : Int32)) dX11_joinedBy_46 rfl ?_
    refine r_istore dX11_joinedBy_48 (by decide) rfl ?_
    refine r_iconst (v := (0 : Int32)) dX11_joinedBy_50 rfl ?_
    refine r_istore dX11_joinedBy_51 (by decide) rfl ?_
    exact H
  · have H := H.2 c
    refine r_iload_n dX11_joinedBy_16 rfl rfl ?_
    refine r_iload_n dX11_joinedBy_17 rfl rfl ?_
    refine r_iload dX11_joinedBy_18 rfl ?_
    refine r_ishr dX11_joinedBy_20 ?_
    refine r_iconst (v := (1 : Int32)) dX11_joinedBy_21 rfl ?_
    refine r_iand dX11_joinedBy_22 ?_
    refine r_iconst (v := (1 : Int32)) dX11_joinedBy_23 rfl ?_
    refine r_icmp_ne (tgt := 37) dX11_joinedBy_24 (by decide) (fun c => ?_) (fun c => ?_)
    · have H := H.1 c
      refine r_iconst (v := (0 : Int32)) dX11_joinedBy_37 rfl ?_
      refine r_iadd dX11_joinedBy_38 ?_
      refine r_istore_n dX11_joinedBy_39 rfl (by decide) rfl ?_
      refine r_iinc (v := x4 + (1 : Int32)) dX11_joinedBy_40 rfl rfl (by decide) rfl ?_
      refine r_goto (tgt := 5) dX11_joinedBy_43 (by decide) ?_
      exact H
    · have H := H.2 c
      refine r_aload_n dX11_joinedBy_27 rfl rfl ?_
      refine r_get (k := 45) (i := 0) (j := 44) (v := rV 74 0) rfl rfl ho45 rfl hX11 (by decide) rfl fX11_99 dX11_joinedBy_28 (fun _ => rfl) ?_
      refine r_iload dX11_joinedBy_31 rfl ?_
      obtain ⟨q2, H⟩ := H
      refine r_iald (k := 74) (i := 0) rfl ho74 q2 dX11_joinedBy_33 ?_
      refine r_goto (tgt := 38) dX11_joinedBy_34 (by decide) ?_
      refine r_iadd dX11_joinedBy_38 ?_
      refine r_istore_n dX11_joinedBy_39 rfl (by decide) rfl ?_
      refine r_iinc (v := x4 + (1 : Int32)) dX11_joinedBy_40 rfl rfl (by decide) rfl ?_
      refine r_goto (tgt := 5) dX11_joinedBy_43 (by decide) ?_
      exact H
set_option maxRecDepth 100000 in
theorem bX11_joinedBy_53 {d : Nat} {Q : Option MV → MS → Prop} {x1 : Int32} {x2 : Int32} {x3 : Int32} {x4 : Int32} {x5 : Int32} {σ : MS}  (H : (vp_in (0 : Int32) 18 ∧ (((σ.1 47 0 0) ≤ x5 → R mj_OM (d + 1) mX11_joinedBy Q 94 [some (rV 45 0), some (iV x1), some (iV x2), some (iV x3), some (iV x4), some (iV x5), none, none, none, none] [] σ) ∧ (¬ (σ.1 47 0 0) ≤ x5 → ((¬ ((x1 >>> (x5 &&& 31)) &&& (1 : Int32)) = (1 : Int32) → R mj_OM (d + 1) mX11_joinedBy Q 53 [some (rV 45 0), some (iV x1), some (iV x2), some (iV x3), some (iV x4), some (iV (x5 + (1 : Int32))), none, none, none, none] [] σ) ∧ (((x1 >>> (x5 &&& 31)) &&& (1 : Int32)) = (1 : Int32) → (vp_in x5 14 ∧ R mj_OM (d + 1) mX11_joinedBy Q 53 [some (rV 45 0), some (iV x1), some (iV x2), some (iV x3), some (iV (if (σ.1 50 0 ((x5).toNatClampNeg)) < x4 then (σ.1 50 0 ((x5).toNatClampNeg)) else x4)), some (iV (x5 + (1 : Int32))), none, none, none, none] [] σ))))))) : R mj_OM (d + 1) mX11_joinedBy Q 53 [some (rV 45 0), some (iV x1), some (iV x2), some (iV x3), some (iV x4), some (iV x5), none, none, none, none] [] σ := by
  refine r_iload dX11_joinedBy_53 rfl ?_
  refine r_aload_n dX11_joinedBy_55 rfl rfl ?_
  refine r_get (k := 45) (i := 0) (j := 3) (v := rV 47 0) rfl rfl ho45 rfl hX11 (by decide) rfl fX11_13 dX11_joinedBy_56 (fun _ => rfl) ?_
  refine r_iconst (v := (0 : Int32)) dX11_joinedBy_59 rfl ?_
  obtain ⟨q1, H⟩ := H
  refine r_iald (k := 47) (i := 0) rfl ho47 q1 dX11_joinedBy_60 ?_
  refine r_icmp_ge (tgt := 94) dX11_joinedBy_61 (by decide) (fun c => ?_) (fun c => ?_)
  · have H := H.1 c
    exact H
  · have H := H.2 c
    refine r_iload_n dX11_joinedBy_64 rfl rfl ?_
    refine r_iload dX11_joinedBy_65 rfl ?_
    refine r_ishr dX11_joinedBy_67 ?_
    refine r_iconst (v := (1 : Int32)) dX11_joinedBy_68 rfl ?_
    refine r_iand dX11_joinedBy_69 ?_
    refine r_iconst (v := (1 : Int32)) dX11_joinedBy_70 rfl ?_
    refine r_icmp_ne (tgt := 88) dX11_joinedBy_71 (by decide) (fun c => ?_) (fun c => ?_)
    · have H := H.1 c
      refine r_iinc (v := x5 + (1 : Int32)) dX11_joinedBy_88 rfl rfl (by decide) rfl ?_
      refine r_goto (tgt := 53) dX11_joinedBy_91 (by decide) ?_
      exact H
    · have H := H.2 c
      refine r_iload dX11_joinedBy_74 rfl ?_
      refine r_aload_n dX11_joinedBy_76 rfl rfl ?_
      refine r_get (k := 45) (i := 0) (j := 6) (v := rV 50 0) rfl rfl ho45 rfl hX11 (by decide) rfl fX11_22 dX11_joinedBy_77 (fun _ => rfl) ?_
      refine r_iload dX11_joinedBy_80 rfl ?_
      obtain ⟨q2, H⟩ := H
      refine r_iald (k := 50) (i := 0) rfl ho50 q2 dX11_joinedBy_82 ?_
      refine r_mmin lX11_359 dX11_joinedBy_83 (Nat.le_of_ble_eq_true rfl) ?_
      refine r_istore dX11_joinedBy_86 (by decide) rfl ?_
      refine r_iinc (v := x5 + (1 : Int32)) dX11_joinedBy_88 rfl rfl (by decide) rfl ?_
      refine r_goto (tgt := 53) dX11_joinedBy_91 (by decide) ?_
      exact H
set_option maxRecDepth 100000 in
theorem bX11_joinedBy_94 {d : Nat} {Q : Option MV → MS → Prop} {x1 : Int32} {x2 : Int32} {x3 : Int32} {x4 : Int32} {x5 : Int32} {σ : MS}  (H : R mj_OM d mX11_joinedBy Q 108 [some (rV 45 0), some (iV x1), some (iV x2), some (iV x3), some (iV x4), some (iV x3), some (iV (0 : Int32)), some (iV (1000 : Int32)), some (iV (0 : Int32)), none] [] σ) : R mj_OM d mX11_joinedBy Q 94 [some (rV 45 0), some (iV x1), some (iV x2), some (iV x3), some (iV x4), some (iV x5), none, none, none, none] [] σ := by
  refine r_iload_n dX11_joinedBy_94 rfl rfl ?_
  refine r_istore dX11_joinedBy_95 (by decide) rfl ?_
  refine r_iconst (v := (0 : Int32)) dX11_joinedBy_97 rfl ?_
  refine r_istore dX11_joinedBy_98 (by decide) rfl ?_
  refine r_sipush (v := (1000 : Int32)) dX11_joinedBy_100 rfl ?_
  refine r_istore dX11_joinedBy_103 (by decide) rfl ?_
  refine r_iconst (v := (0 : Int32)) dX11_joinedBy_105 rfl ?_
  refine r_istore dX11_joinedBy_106 (by decide) rfl ?_
  exact H
set_option maxRecDepth 100000 in
theorem bX11_joinedBy_108 {d : Nat} {Q : Option MV → MS → Prop} {x1 : Int32} {x2 : Int32} {x3 : Int32} {x4 : Int32} {x5 : Int32} {x6 : Int32} {x7 : Int32} {x8 : Int32} {σ : MS}  (H : (vp_in (0 : Int32) 18 ∧ (((σ.1 47 0 0) ≤ x8 → ((x7 = (1000 : Int32) → (R mj_OM d mX11_part (fun r σ' => R mj_OM (d + 1) mX11_joinedBy Q 256 [some (rV 45 0), some (iV x1), some (iV x2), some (iV x3), some (iV x4), some (iV x5), some (iV x6), some (iV x7), some (iV x8), none] (r.toList ++ []) σ') 0 [some (iV x5), some (iV x6), some (iV x2), none] [] σ)) ∧ (¬ x7 = (1000 : Int32) → (((x7 * x6) < x5 → R mj_OM (d + 1) mX11_joinedBy Q 94 [some (rV 45 0), some (iV x1), some (iV x2), some (iV x3), some (iV x7), some (iV x5), none, none, none, none] [] σ) ∧ (¬ (x7 * x6) < x5 → (R mj_OM d mX11_part (fun r σ' => R mj_OM (d + 1) mX11_joinedBy Q 256 [some (rV 45 0), some (iV x1), some (iV x2), some (iV x3), some (iV x4), some (iV x5), some (iV x6), some (iV x7), some (iV x8), none] (r.toList ++ []) σ') 0 [some (iV x5), some (iV x6), some (iV x2), none] [] σ)))))) ∧ (¬ (σ.1 47 0 0) ≤ x8 → ((¬ ((x1 >>> (x8 &&& 31)) &&& (1 : Int32)) = 0 → (vp_in x8 14 ∧ ((x4 < (σ.1 50 0 ((x8).toNatClampNeg)) → (((0 : Int32) = 0 → (((0 : Int32) = 0 → (((0 : Int32) = 0 → R mj_OM (d + 1) mX11_joinedBy Q 108 [some (rV 45 0), some (iV x1), some (iV x2), some (iV x3), some (iV x4), some (iV (x5 + (0 : Int32))), some (iV (x6 + (0 : Int32))), some (iV (if (σ.1 50 0 ((x8).toNatClampNeg)) < x7 then (σ.1 50 0 ((x8).toNatClampNeg)) else x7)), some (iV (x8 + (1 : Int32))), none] [] σ) ∧ (¬ (0 : Int32) = 0 → R mj_OM (d + 1) mX11_joinedBy Q 108 [some (rV 45 0), some (iV x1), some (iV x2), some (iV x3), some (iV x4), some (iV (x5 + (0 : Int32))), some (iV (x6 + (0 : Int32))), some (iV x7), some (iV (x8 + (1 : Int32))), none] [] σ))) ∧ (¬ (0 : Int32) = 0 → (((0 : Int32) = 0 → R mj_OM (d + 1) mX11_joinedBy Q 108 [some (rV 45 0), some (iV x1), some (iV x2), some (iV x3), some (iV x4), some (iV (x5 + (0 : Int32))), some (iV (x6 + (σ.1 49 0 ((x8).toNatClampNeg)))), some (iV (if (σ.1 50 0 ((x8).toNatClampNeg)) < x7 then (σ.1 50 0 ((x8).toNatClampNeg)) else x7)), some (iV (x8 + (1 : Int32))), none] [] σ) ∧ (¬ (0 : Int32) = 0 → R mj_OM (d + 1) mX11_joinedBy Q 108 [some (rV 45 0), some (iV x1), some (iV x2), some (iV x3), some (iV x4), some (iV (x5 + (0 : Int32))), some (iV (x6 + (σ.1 49 0 ((x8).toNatClampNeg)))), some (iV x7), some (iV (x8 + (1 : Int32))), none] [] σ))))) ∧ (¬ (0 : Int32) = 0 → (((0 : Int32) = 0 → (((0 : Int32) = 0 → R mj_OM (d + 1) mX11_joinedBy Q 108 [some (rV 45 0), some (iV x1), some (iV x2), some (iV x3), some (iV x4), some (iV (x5 + ((σ.1 50 0 ((x8).toNatClampNeg)) * (σ.1 49 0 ((x8).toNatClampNeg))))), some (iV (x6 + (0 : Int32))), some (iV (if (σ.1 50 0 ((x8).toNatClampNeg)) < x7 then (σ.1 50 0 ((x8).toNatClampNeg)) else x7)), some (iV (x8 + (1 : Int32))), none] [] σ) ∧ (¬ (0 : Int32) = 0 → R mj_OM (d + 1) mX11_joinedBy Q 108 [some (rV 45 0), some (iV x1), some (iV x2), some (iV x3), some (iV x4), some (iV (x5 + ((σ.1 50 0 ((x8).toNatClampNeg)) * (σ.1 49 0 ((x8).toNatClampNeg))))), some (iV (x6 + (0 : Int32))), some (iV x7), some (iV (x8 + (1 : Int32))), none] [] σ))) ∧ (¬ (0 : Int32) = 0 → (((0 : Int32) = 0 → R mj_OM (d + 1) mX11_joinedBy Q 108 [some (rV 45 0), some (iV x1), some (iV x2), some (iV x3), some (iV x4), some (iV (x5 + ((σ.1 50 0 ((x8).toNatClampNeg)) * (σ.1 49 0 ((x8).toNatClampNeg))))), some (iV (x6 + (σ.1 49 0 ((x8).toNatClampNeg)))), some (iV (if (σ.1 50 0 ((x8).toNatClampNeg)) < x7 then (σ.1 50 0 ((x8).toNatClampNeg)) else x7)), some (iV (x8 + (1 : Int32))), none] [] σ) ∧ (¬ (0 : Int32) = 0 → R mj_OM (d + 1) mX11_joinedBy Q 108 [some (rV 45 0), some (iV x1), some (iV x2), some (iV x3), some (iV x4), some (iV (x5 + ((σ.1 50 0 ((x8).toNatClampNeg)) * (σ.1 49 0 ((x8).toNatClampNeg))))), some (iV (x6 + (σ.1 49 0 ((x8).toNatClampNeg)))), some (iV x7), some (iV (x8 + (1 : Int32))), none] [] σ))))))) ∧ (¬ x4 < (σ.1 50 0 ((x8).toNatClampNeg)) → (((1 : Int32) = 0 → (((1 : Int32) = 0 → (((1 : Int32) = 0 → R mj_OM (d + 1) mX11_joinedBy Q 108 [some (rV 45 0), some (iV x1), some (iV x2), some (iV x3), some (iV x4), some (iV (x5 + (0 : Int32))), some (iV (x6 + (0 : Int32))), some (iV (if (σ.1 50 0 ((x8).toNatClampNeg)) < x7 then (σ.1 50 0 ((x8).toNatClampNeg)) else x7)), some (iV (x8 + (1 : Int32))), none] [] σ) ∧ (¬ (1 : Int32) = 0 → R mj_OM (d + 1) mX11_joinedBy Q 108 [some (rV 45 0), some (iV x1), some (iV x2), some (iV x3), some (iV x4), some (iV (x5 + (0 : Int32))), some (iV (x6 + (0 : Int32))), some (iV x7), some (iV (x8 + (1 : Int32))), none] [] σ))) ∧ (¬ (1 : Int32) = 0 → (((1 : Int32) = 0 → R mj_OM (d + 1) mX11_joinedBy Q 108 [some (rV 45 0), some (iV x1), some (iV x2), some (iV x3), some (iV x4), some (iV (x5 + (0 : Int32))), some (iV (x6 + (σ.1 49 0 ((x8).toNatClampNeg)))), some (iV (if (σ.1 50 0 ((x8).toNatClampNeg)) < x7 then (σ.1 50 0 ((x8).toNatClampNeg)) else x7)), some (iV (x8 + (1 : Int32))), none] [] σ) ∧ (¬ (1 : Int32) = 0 → R mj_OM (d + 1) mX11_joinedBy Q 108 [some (rV 45 0), some (iV x1), some (iV x2), some (iV x3), some (iV x4), some (iV (x5 + (0 : Int32))), some (iV (x6 + (σ.1 49 0 ((x8).toNatClampNeg)))), some (iV x7), some (iV (x8 + (1 : Int32))), none] [] σ))))) ∧ (¬ (1 : Int32) = 0 → (((1 : Int32) = 0 → (((1 : Int32) = 0 → R mj_OM (d + 1) mX11_joinedBy Q 108 [some (rV 45 0), some (iV x1), some (iV x2), some (iV x3), some (iV x4), some (iV (x5 + ((σ.1 50 0 ((x8).toNatClampNeg)) * (σ.1 49 0 ((x8).toNatClampNeg))))), some (iV (x6 + (0 : Int32))), some (iV (if (σ.1 50 0 ((x8).toNatClampNeg)) < x7 then (σ.1 50 0 ((x8).toNatClampNeg)) else x7)), some (iV (x8 + (1 : Int32))), none] [] σ) ∧ (¬ (1 : Int32) = 0 → R mj_OM (d + 1) mX11_joinedBy Q 108 [some (rV 45 0), some (iV x1), some (iV x2), some (iV x3), some (iV x4), some (iV (x5 + ((σ.1 50 0 ((x8).toNatClampNeg)) * (σ.1 49 0 ((x8).toNatClampNeg))))), some (iV (x6 + (0 : Int32))), some (iV x7), some (iV (x8 + (1 : Int32))), none] [] σ))) ∧ (¬ (1 : Int32) = 0 → (((1 : Int32) = 0 → R mj_OM (d + 1) mX11_joinedBy Q 108 [some (rV 45 0), some (iV x1), some (iV x2), some (iV x3), some (iV x4), some (iV (x5 + ((σ.1 50 0 ((x8).toNatClampNeg)) * (σ.1 49 0 ((x8).toNatClampNeg))))), some (iV (x6 + (σ.1 49 0 ((x8).toNatClampNeg)))), some (iV (if (σ.1 50 0 ((x8).toNatClampNeg)) < x7 then (σ.1 50 0 ((x8).toNatClampNeg)) else x7)), some (iV (x8 + (1 : Int32))), none] [] σ) ∧ (¬ (1 : Int32) = 0 → R mj_OM (d + 1) mX11_joinedBy Q 108 [some (rV 45 0), some (iV x1), some (iV x2), some (iV x3), some (iV x4), some (iV (x5 + ((σ.1 50 0 ((x8).toNatClampNeg)) * (σ.1 49 0 ((x8).toNatClampNeg))))), some (iV (x6 + (σ.1 49 0 ((x8).toNatClampNeg)))), some (iV x7), some (iV (x8 + (1 : Int32))), none] [] σ)))))))))) ∧ (((x1 >>> (x8 &&& 31)) &&& (1 : Int32)) = 0 → R mj_OM (d + 1) mX11_joinedBy Q 108 [some (rV 45 0), some (iV x1), some (iV x2), some (iV x3), some (iV x4), some (iV x5), some (iV x6), some (iV x7), some (iV (x8 + (1 : Int32))), none] [] σ)))))) : R mj_OM (d + 1) mX11_joinedBy Q 108 [some (rV 45 0), some (iV x1), some (iV x2), some (iV x3), some (iV x4), some (iV x5), some (iV x6), some (iV x7), some (iV x8), none] [] σ := by
  refine r_iload dX11_joinedBy_108 rfl ?_
  refine r_aload_n dX11_joinedBy_110 rfl rfl ?_
  refine r_get (k := 45) (i := 0) (j := 3) (v := rV 47 0) rfl rfl ho45 rfl hX11 (by decide) rfl fX11_13 dX11_joinedBy_111 (fun _ => rfl) ?_
  refine r_iconst (v := (0 : Int32)) dX11_joinedBy_114 rfl ?_
  obtain ⟨q1, H⟩ := H
  refine r_iald (k := 47) (i := 0) rfl ho47 q1 dX11_joinedBy_115 ?_
  refine r_icmp_ge (tgt := 230) dX11_joinedBy_116 (by decide) (fun c => ?_) (fun c => ?_)
  · have H := H.1 c
    refine r_iload dX11_joinedBy_230 rfl ?_
    refine r_sipush (v := (1000 : Int32)) dX11_joinedBy_232 rfl ?_
    refine r_icmp_eq (tgt := 248) dX11_joinedBy_235 (by decide) (fun c => ?_) (fun c => ?_)
    · have H := H.1 c
      refine r_iload dX11_joinedBy_248 rfl ?_
      refine r_iload dX11_joinedBy_250 rfl ?_
      refine r_iload_n dX11_joinedBy_252 rfl rfl ?_
      refine r_callS (z := 1) (As := [iV x5, iV x6, iV x2]) (st := []) kX11_part s_X11_part lX11_458 dX11_joinedBy_253 rfl rfl rfl rfl (Nat.le_of_ble_eq_true rfl) ?_
      exact H
    · have H := H.2 c
      refine r_iload dX11_joinedBy_238 rfl ?_
      refine r_iload dX11_joinedBy_240 rfl ?_
      refine r_iload dX11_joinedBy_242 rfl ?_
      refine r_imul dX11_joinedBy_244 ?_
      refine r_icmp_gt (tgt := 257) dX11_joinedBy_245 (by decide) (fun c => ?_) (fun c => ?_)
      · have H := H.1 c
        refine r_iload dX11_joinedBy_257 rfl ?_
        refine r_istore dX11_joinedBy_259 (by decide) rfl ?_
        refine r_goto (tgt := 94) dX11_joinedBy_261 (by decide) ?_
        exact R.fw (ls' := [some (rV 45 0), some (iV x1), some (iV x2), some (iV x3), some (iV x7), some (iV x5), none, none, none, none]) ⟨rfl, ⟨rfl, ⟨rfl, ⟨rfl, ⟨rfl, ⟨rfl, trivial⟩⟩⟩⟩⟩⟩ H
      · have H := H.2 c
        refine r_iload dX11_joinedBy_248 rfl ?_
        refine r_iload dX11_joinedBy_250 rfl ?_
        refine r_iload_n dX11_joinedBy_252 rfl rfl ?_
        refine r_callS (z := 1) (As := [iV x5, iV x6, iV x2]) (st := []) kX11_part s_X11_part lX11_458 dX11_joinedBy_253 rfl rfl rfl rfl (Nat.le_of_ble_eq_true rfl) ?_
        exact H
  · have H := H.2 c
    refine r_iload_n dX11_joinedBy_119 rfl rfl ?_
    refine r_iload dX11_joinedBy_120 rfl ?_
    refine r_ishr dX11_joinedBy_122 ?_
    refine r_iconst (v := (1 : Int32)) dX11_joinedBy_123 rfl ?_
    refine r_iand dX11_joinedBy_124 ?_
    refine r_if_ne (tgt := 131) dX11_joinedBy_125 (by decide) (fun c => ?_) (fun c => ?_)
    · have H := H.1 c
      refine r_aload_n dX11_joinedBy_131 rfl rfl ?_
      refine r_get (k := 45) (i := 0) (j := 6) (v := rV 50 0) rfl rfl ho45 rfl hX11 (by decide) rfl fX11_22 dX11_joinedBy_132 (fun _ => rfl) ?_
      refine r_iload dX11_joinedBy_135 rfl ?_
      obtain ⟨q2, H⟩ := H
      refine r_iald (k := 50) (i := 0) rfl ho50 q2 dX11_joinedBy_137 ?_
      refine r_iload dX11_joinedBy_138 rfl ?_
      refine r_icmp_gt (tgt := 147) dX11_joinedBy_140 (by decide) (fun c => ?_) (fun c => ?_)
      · have H := H.1 c
        refine r_iconst (v := (0 : Int32)) dX11_joinedBy_147 rfl ?_
        refine r_istore dX11_joinedBy_148 (by decide) rfl ?_
        refine r_iload dX11_joinedBy_150 rfl ?_
        refine r_iload dX11_joinedBy_152 rfl ?_
        refine r_if_eq (tgt := 175) dX11_joinedBy_154 (by decide) (fun c => ?_) (fun c => ?_)
        · have H := H.1 c
          refine r_iconst (v := (0 : Int32)) dX11_joinedBy_175 rfl ?_
          refine r_iadd dX11_joinedBy_176 ?_
          refine r_istore dX11_joinedBy_177 (by decide) rfl ?_
          refine r_iload dX11_joinedBy_179 rfl ?_
          refine r_iload dX11_joinedBy_181 rfl ?_
          refine r_if_eq (tgt := 196) dX11_joinedBy_183 (by decide) (fun c => ?_) (fun c => ?_)
          · have H := H.1 c
            refine r_iconst (v := (0 : Int32)) dX11_joinedBy_196 rfl ?_
            refine r_iadd dX11_joinedBy_197 ?_
            refine r_istore dX11_joinedBy_198 (by decide) rfl ?_
            refine r_iload dX11_joinedBy_200 rfl ?_
            refine r_if_eq (tgt := 210) dX11_joinedBy_202 (by decide) (fun c => ?_) (fun c => ?_)
            · have H := H.1 c
              refine r_iload dX11_joinedBy_210 rfl ?_
              refine r_aload_n dX11_joinedBy_212 rfl rfl ?_
              refine r_get (k := 45) (i := 0) (j := 6) (v := rV 50 0) rfl rfl ho45 rfl hX11 (by decide) rfl fX11_22 dX11_joinedBy_213 (fun _ => rfl) ?_
              refine r_iload dX11_joinedBy_216 rfl ?_
              refine r_iald (k := 50) (i := 0) rfl ho50 q2 dX11_joinedBy_218 ?_
              refine r_mmin lX11_359 dX11_joinedBy_219 (Nat.le_of_ble_eq_true rfl) ?_
              refine r_istore dX11_joinedBy_222 (by decide) rfl ?_
              refine r_iinc (v := x8 + (1 : Int32)) dX11_joinedBy_224 rfl rfl (by decide) rfl ?_
              refine r_goto (tgt := 108) dX11_joinedBy_227 (by decide) ?_
              exact R.fw (ls' := [some (rV 45 0), some (iV x1), some (iV x2), some (iV x3), some (iV x4), some (iV (x5 + (0 : Int32))), some (iV (x6 + (0 : Int32))), some (iV (if (σ.1 50 0 ((x8).toNatClampNeg)) < x7 then (σ.1 50 0 ((x8).toNatClampNeg)) else x7)), some (iV (x8 + (1 : Int32))), none]) ⟨rfl, ⟨rfl, ⟨rfl, ⟨rfl, ⟨rfl, ⟨rfl, ⟨rfl, ⟨rfl, ⟨rfl, trivial⟩⟩⟩⟩⟩⟩⟩⟩⟩ H
            · have H := H.2 c
              refine r_iload dX11_joinedBy_205 rfl ?_
              refine r_goto (tgt := 222) dX11_joinedBy_207 (by decide) ?_
              refine r_istore dX11_joinedBy_222 (by decide) rfl ?_
              refine r_iinc (v := x8 + (1 : Int32)) dX11_joinedBy_224 rfl rfl (by decide) rfl ?_
              refine r_goto (tgt := 108) dX11_joinedBy_227 (by decide) ?_
              exact R.fw (ls' := [some (rV 45 0), some (iV x1), some (iV x2), some (iV x3), some (iV x4), some (iV (x5 + (0 : Int32))), some (iV (x6 + (0 : Int32))), some (iV x7), some (iV (x8 + (1 : Int32))), none]) ⟨rfl, ⟨rfl, ⟨rfl, ⟨rfl, ⟨rfl, ⟨rfl, ⟨rfl, ⟨rfl, ⟨rfl, trivial⟩⟩⟩⟩⟩⟩⟩⟩⟩ H
          · have H := H.2 c
            refine r_aload_n dX11_joinedBy_186 rfl rfl ?_
            refine r_get (k := 45) (i := 0) (j := 5) (v := rV 49 0) rfl rfl ho45 rfl hX11 (by decide) rfl fX11_19 dX11_joinedBy_187 (fun _ => rfl) ?_
            refine r_iload dX11_joinedBy_190 rfl ?_
            refine r_iald (k := 49) (i := 0) rfl ho49 q2 dX11_joinedBy_192 ?_
            refine r_goto (tgt := 197) dX11_joinedBy_193 (by decide) ?_
            refine r_iadd dX11_joinedBy_197 ?_
            refine r_istore dX11_joinedBy_198 (by decide) rfl ?_
            refine r_iload dX11_joinedBy_200 rfl ?_
            refine r_if_eq (tgt := 210) dX11_joinedBy_202 (by decide) (fun c => ?_) (fun c => ?_)
            · have H := H.1 c
              refine r_iload dX11_joinedBy_210 rfl ?_
              refine r_aload_n dX11_joinedBy_212 rfl rfl ?_
              refine r_get (k := 45) (i := 0) (j := 6) (v := rV 50 0) rfl rfl ho45 rfl hX11 (by decide) rfl fX11_22 dX11_joinedBy_213 (fun _ => rfl) ?_
              refine r_iload dX11_joinedBy_216 rfl ?_
              refine r_iald (k := 50) (i := 0) rfl ho50 q2 dX11_joinedBy_218 ?_
              refine r_mmin lX11_359 dX11_joinedBy_219 (Nat.le_of_ble_eq_true rfl) ?_
              refine r_istore dX11_joinedBy_222 (by decide) rfl ?_
              refine r_iinc (v := x8 + (1 : Int32)) dX11_joinedBy_224 rfl rfl (by decide) rfl ?_
              refine r_goto (tgt := 108) dX11_joinedBy_227 (by decide) ?_
              exact R.fw (ls' := [some (rV 45 0), some (iV x1), some (iV x2), some (iV x3), some (iV x4), some (iV (x5 + (0 : Int32))), some (iV (x6 + (σ.1 49 0 ((x8).toNatClampNeg)))), some (iV (if (σ.1 50 0 ((x8).toNatClampNeg)) < x7 then (σ.1 50 0 ((x8).toNatClampNeg)) else x7)), some (iV (x8 + (1 : Int32))), none]) ⟨rfl, ⟨rfl, ⟨rfl, ⟨rfl, ⟨rfl, ⟨rfl, ⟨rfl, ⟨rfl, ⟨rfl, trivial⟩⟩⟩⟩⟩⟩⟩⟩⟩ H
            · have H := H.2 c
              refine r_iload dX11_joinedBy_205 rfl ?_
              refine r_goto (tgt := 222) dX11_joinedBy_207 (by decide) ?_
              refine r_istore dX11_joinedBy_222 (by decide) rfl ?_
              refine r_iinc (v := x8 + (1 : Int32)) dX11_joinedBy_224 rfl rfl (by decide) rfl ?_
              refine r_goto (tgt := 108) dX11_joinedBy_227 (by decide) ?_
              exact R.fw (ls' := [some (rV 45 0), some (iV x1), some (iV x2), some (iV x3), some (iV x4), some (iV (x5 + (0 : Int32))), some (iV (x6 + (σ.1 49 0 ((x8).toNatClampNeg)))), some (iV x7), some (iV (x8 + (1 : Int32))), none]) ⟨rfl, ⟨rfl, ⟨rfl, ⟨rfl, ⟨rfl, ⟨rfl, ⟨rfl, ⟨rfl, ⟨rfl, trivial⟩⟩⟩⟩⟩⟩⟩⟩⟩ H
        · have H := H.2 c
          refine r_aload_n dX11_joinedBy_157 rfl rfl ?_
          refine r_get (k := 45) (i := 0) (j := 6) (v := rV 50 0) rfl rfl ho45 rfl hX11 (by decide) rfl fX11_22 dX11_joinedBy_158 (fun _ => rfl) ?_
          refine r_iload dX11_joinedBy_161 rfl ?_
          refine r_iald (k := 50) (i := 0) rfl ho50 q2 dX11_joinedBy_163 ?_
          refine r_aload_n dX11_joinedBy_164 rfl rfl ?_
          refine r_get (k := 45) (i := 0) (j := 5) (v := rV 49 0) rfl rfl ho45 rfl hX11 (by decide) rfl fX11_19 dX11_joinedBy_165 (fun _ => rfl) ?_
          refine r_iload dX11_joinedBy_168 rfl ?_
          refine r_iald (k := 49) (i := 0) rfl ho49 q2 dX11_joinedBy_170 ?_
          refine r_imul dX11_joinedBy_171 ?_
          refine r_goto (tgt := 176) dX11_joinedBy_172 (by decide) ?_
          refine r_iadd dX11_joinedBy_176 ?_
          refine r_istore dX11_joinedBy_177 (by decide) rfl ?_
          refine r_iload dX11_joinedBy_179 rfl ?_
          refine r_iload dX11_joinedBy_181 rfl ?_
          refine r_if_eq (tgt := 196) dX11_joinedBy_183 (by decide) (fun c => ?_) (fun c => ?_)
          · have H := H.1 c
            refine r_iconst (v := (0 : Int32)) dX11_joinedBy_196 rfl ?_
            refine r_iadd dX11_joinedBy_197 ?_
            refine r_istore dX11_joinedBy_198 (by decide) rfl ?_
            refine r_iload dX11_joinedBy_200 rfl ?_
            refine r_if_eq (tgt := 210) dX11_joinedBy_202 (by decide) (fun c => ?_) (fun c => ?_)
            · have H := H.1 c
              refine r_iload dX11_joinedBy_210 rfl ?_
              refine r_aload_n dX11_joinedBy_212 rfl rfl ?_
              refine r_get (k := 45) (i := 0) (j := 6) (v := rV 50 0) rfl rfl ho45 rfl hX11 (by decide) rfl fX11_22 dX11_joinedBy_213 (fun _ => rfl) ?_
              refine r_iload dX11_joinedBy_216 rfl ?_
              refine r_iald (k := 50) (i := 0) rfl ho50 q2 dX11_joinedBy_218 ?_
              refine r_mmin lX11_359 dX11_joinedBy_219 (Nat.le_of_ble_eq_true rfl) ?_
              refine r_istore dX11_joinedBy_222 (by decide) rfl ?_
              refine r_iinc (v := x8 + (1 : Int32)) dX11_joinedBy_224 rfl rfl (by decide) rfl ?_
              refine r_goto (tgt := 108) dX11_joinedBy_227 (by decide) ?_
              exact R.fw (ls' := [some (rV 45 0), some (iV x1), some (iV x2), some (iV x3), some (iV x4), some (iV (x5 + ((σ.1 50 0 ((x8).toNatClampNeg)) * (σ.1 49 0 ((x8).toNatClampNeg))))), some (iV (x6 + (0 : Int32))), some (iV (if (σ.1 50 0 ((x8).toNatClampNeg)) < x7 then (σ.1 50 0 ((x8).toNatClampNeg)) else x7)), some (iV (x8 + (1 : Int32))), none]) ⟨rfl, ⟨rfl, ⟨rfl, ⟨rfl, ⟨rfl, ⟨rfl, ⟨rfl, ⟨rfl, ⟨rfl, trivial⟩⟩⟩⟩⟩⟩⟩⟩⟩ H
            · have H := H.2 c
              refine r_iload dX11_joinedBy_205 rfl ?_
              refine r_goto (tgt := 222) dX11_joinedBy_207 (by decide) ?_
              refine r_istore dX11_joinedBy_222 (by decide) rfl ?_
              refine r_iinc (v := x8 + (1 : Int32)) dX11_joinedBy_224 rfl rfl (by decide) rfl ?_
              refine r_goto (tgt := 108) dX11_joinedBy_227 (by decide) ?_
              exact R.fw (ls' := [some (rV 45 0), some (iV x1), some (iV x2), some (iV x3), some (iV x4), some (iV (x5 + ((σ.1 50 0 ((x8).toNatClampNeg)) * (σ.1 49 0 ((x8).toNatClampNeg))))), some (iV (x6 + (0 : Int32))), some (iV x7), some (iV (x8 + (1 : Int32))), none]) ⟨rfl, ⟨rfl, ⟨rfl, ⟨rfl, ⟨rfl, ⟨rfl, ⟨rfl, ⟨rfl, ⟨rfl, trivial⟩⟩⟩⟩⟩⟩⟩⟩⟩ H
          · have H := H.2 c
            refine r_aload_n dX11_joinedBy_186 rfl rfl ?_
            refine r_get (k := 45) (i := 0) (j := 5) (v := rV 49 0) rfl rfl ho45 rfl hX11 (by decide) rfl fX11_19 dX11_joinedBy_187 (fun _ => rfl) ?_
            refine r_iload dX11_joinedBy_190 rfl ?_
            refine r_iald (k := 49) (i := 0) rfl ho49 q2 dX11_joinedBy_192 ?_
            refine r_goto (tgt := 197) dX11_joinedBy_193 (by decide) ?_
            refine r_iadd dX11_joinedBy_197 ?_
            refine r_istore dX11_joinedBy_198 (by decide) rfl ?_
            refine r_iload dX11_joinedBy_200 rfl ?_
            refine r_if_eq (tgt := 210) dX11_joinedBy_202 (by decide) (fun c => ?_) (fun c => ?_)
            · have H := H.1 c
              refine r_iload dX11_joinedBy_210 rfl ?_
              refine r_aload_n dX11_joinedBy_212 rfl rfl ?_
              refine r_get (k := 45) (i := 0) (j := 6) (v := rV 50 0) rfl rfl ho45 rfl hX11 (by decide) rfl fX11_22 dX11_joinedBy_213 (fun _ => rfl) ?_
              refine r_iload dX11_joinedBy_216 rfl ?_
              refine r_iald (k := 50) (i := 0) rfl ho50 q2 dX11_joinedBy_218 ?_
              refine r_mmin lX11_359 dX11_joinedBy_219 (Nat.le_of_ble_eq_true rfl) ?_
              refine r_istore dX11_joinedBy_222 (by decide) rfl ?_
              refine r_iinc (v := x8 + (1 : Int32)) dX11_joinedBy_224 rfl rfl (by decide) rfl ?_
              refine r_goto (tgt := 108) dX11_joinedBy_227 (by decide) ?_
              exact R.fw (ls' := [some (rV 45 0), some (iV x1), some (iV x2), some (iV x3), some (iV x4), some (iV (x5 + ((σ.1 50 0 ((x8).toNatClampNeg)) * (σ.1 49 0 ((x8).toNatClampNeg))))), some (iV (x6 + (σ.1 49 0 ((x8).toNatClampNeg)))), some (iV (if (σ.1 50 0 ((x8).toNatClampNeg)) < x7 then (σ.1 50 0 ((x8).toNatClampNeg)) else x7)), some (iV (x8 + (1 : Int32))), none]) ⟨rfl, ⟨rfl, ⟨rfl, ⟨rfl, ⟨rfl, ⟨rfl, ⟨rfl, ⟨rfl, ⟨rfl, trivial⟩⟩⟩⟩⟩⟩⟩⟩⟩ H
            · have H := H.2 c
              refine r_iload dX11_joinedBy_205 rfl ?_
              refine r_goto (tgt := 222) dX11_joinedBy_207 (by decide) ?_
              refine r_istore dX11_joinedBy_222 (by decide) rfl ?_
              refine r_iinc (v := x8 + (1 : Int32)) dX11_joinedBy_224 rfl rfl (by decide) rfl ?_
              refine r_goto (tgt := 108) dX11_joinedBy_227 (by decide) ?_
              exact R.fw (ls' := [some (rV 45 0), some (iV x1), some (iV x2), some (iV x3), some (iV x4), some (iV (x5 + ((σ.1 50 0 ((x8).toNatClampNeg)) * (σ.1 49 0 ((x8).toNatClampNeg))))), some (iV (x6 + (σ.1 49 0 ((x8).toNatClampNeg)))), some (iV x7), some (iV (x8 + (1 : Int32))), none]) ⟨rfl, ⟨rfl, ⟨rfl, ⟨rfl, ⟨rfl, ⟨rfl, ⟨rfl, ⟨rfl, ⟨rfl, trivial⟩⟩⟩⟩⟩⟩⟩⟩⟩ H
      · have H := H.2 c
        refine r_iconst (v := (1 : Int32)) dX11_joinedBy_143 rfl ?_
        refine r_goto (tgt := 148) dX11_joinedBy_144 (by decide) ?_
        refine r_istore dX11_joinedBy_148 (by decide) rfl ?_
        refine r_iload dX11_joinedBy_150 rfl ?_
        refine r_iload dX11_joinedBy_152 rfl ?_
        refine r_if_eq (tgt := 175) dX11_joinedBy_154 (by decide) (fun c => ?_) (fun c => ?_)
        · have H := H.1 c
          refine r_iconst (v := (0 : Int32)) dX11_joinedBy_175 rfl ?_
          refine r_iadd dX11_joinedBy_176 ?_
          refine r_istore dX11_joinedBy_177 (by decide) rfl ?_
          refine r_iload dX11_joinedBy_179 rfl ?_
          refine r_iload dX11_joinedBy_181 rfl ?_
          refine r_if_eq (tgt := 196) dX11_joinedBy_183 (by decide) (fun c => ?_) (fun c => ?_)
          · have H := H.1 c
            refine r_iconst (v := (0 : Int32)) dX11_joinedBy_196 rfl ?_
            refine r_iadd dX11_joinedBy_197 ?_
            refine r_istore dX11_joinedBy_198 (by decide) rfl ?_
            refine r_iload dX11_joinedBy_200 rfl ?_
            refine r_if_eq (tgt := 210) dX11_joinedBy_202 (by decide) (fun c => ?_) (fun c => ?_)
            · have H := H.1 c
              refine r_iload dX11_joinedBy_210 rfl ?_
              refine r_aload_n dX11_joinedBy_212 rfl rfl ?_
              refine r_get (k := 45) (i := 0) (j := 6) (v := rV 50 0) rfl rfl ho45 rfl hX11 (by decide) rfl fX11_22 dX11_joinedBy_213 (fun _ => rfl) ?_
              refine r_iload dX11_joinedBy_216 rfl ?_
              refine r_iald (k := 50) (i := 0) rfl ho50 q2 dX11_joinedBy_218 ?_
              refine r_mmin lX11_359 dX11_joinedBy_219 (Nat.le_of_ble_eq_true rfl) ?_
              refine r_istore dX11_joinedBy_222 (by decide) rfl ?_
              refine r_iinc (v := x8 + (1 : Int32)) dX11_joinedBy_224 rfl rfl (by decide) rfl ?_
              refine r_goto (tgt := 108) dX11_joinedBy_227 (by decide) ?_
              exact R.fw (ls' := [some (rV 45 0), some (iV x1), some (iV x2), some (iV x3), some (iV x4), some (iV (x5 + (0 : Int32))), some (iV (x6 + (0 : Int32))), some (iV (if (σ.1 50 0 ((x8).toNatClampNeg)) < x7 then (σ.1 50 0 ((x8).toNatClampNeg)) else x7)), some (iV (x8 + (1 : Int32))), none]) ⟨rfl, ⟨rfl, ⟨rfl, ⟨rfl, ⟨rfl, ⟨rfl, ⟨rfl, ⟨rfl, ⟨rfl, trivial⟩⟩⟩⟩⟩⟩⟩⟩⟩ H
            · have H := H.2 c
              refine r_iload dX11_joinedBy_205 rfl ?_
              refine r_goto (tgt := 222) dX11_joinedBy_207 (by decide) ?_
              refine r_istore dX11_joinedBy_222 (by decide) rfl ?_
              refine r_iinc (v := x8 + (1 : Int32)) dX11_joinedBy_224 rfl rfl (by decide) rfl ?_
              refine r_goto (tgt := 108) dX11_joinedBy_227 (by decide) ?_
              exact R.fw (ls' := [some (rV 45 0), some (iV x1), some (iV x2), some (iV x3), some (iV x4), some (iV (x5 + (0 : Int32))), some (iV (x6 + (0 : Int32))), some (iV x7), some (iV (x8 + (1 : Int32))), none]) ⟨rfl, ⟨rfl, ⟨rfl, ⟨rfl, ⟨rfl, ⟨rfl, ⟨rfl, ⟨rfl, ⟨rfl, trivial⟩⟩⟩⟩⟩⟩⟩⟩⟩ H
          · have H := H.2 c
            refine r_aload_n dX11_joinedBy_186 rfl rfl ?_
            refine r_get (k := 45) (i := 0) (j := 5) (v := rV 49 0) rfl rfl ho45 rfl hX11 (by decide) rfl fX11_19 dX11_joinedBy_187 (fun _ => rfl) ?_
            refine r_iload dX11_joinedBy_190 rfl ?_
            refine r_iald (k := 49) (i := 0) rfl ho49 q2 dX11_joinedBy_192 ?_
            refine r_goto (tgt := 197) dX11_joinedBy_193 (by decide) ?_
            refine r_iadd dX11_joinedBy_197 ?_
            refine r_istore dX11_joinedBy_198 (by decide) rfl ?_
            refine r_iload dX11_joinedBy_200 rfl ?_
            refine r_if_eq (tgt := 210) dX11_joinedBy_202 (by decide) (fun c => ?_) (fun c => ?_)
            · have H := H.1 c
              refine r_iload dX11_joinedBy_210 rfl ?_
              refine r_aload_n dX11_joinedBy_212 rfl rfl ?_
              refine r_get (k := 45) (i := 0) (j := 6) (v := rV 50 0) rfl rfl ho45 rfl hX11 (by decide) rfl fX11_22 dX11_joinedBy_213 (fun _ => rfl) ?_
              refine r_iload dX11_joinedBy_216 rfl ?_
              refine r_iald (k := 50) (i := 0) rfl ho50 q2 dX11_joinedBy_218 ?_
              refine r_mmin lX11_359 dX11_joinedBy_219 (Nat.le_of_ble_eq_true rfl) ?_
              refine r_istore dX11_joinedBy_222 (by decide) rfl ?_
              refine r_iinc (v := x8 + (1 : Int32)) dX11_joinedBy_224 rfl rfl (by decide) rfl ?_
              refine r_goto (tgt := 108) dX11_joinedBy_227 (by decide) ?_
              exact R.fw (ls' := [some (rV 45 0), some (iV x1), some (iV x2), some (iV x3), some (iV x4), some (iV (x5 + (0 : Int32))), some (iV (x6 + (σ.1 49 0 ((x8).toNatClampNeg)))), some (iV (if (σ.1 50 0 ((x8).toNatClampNeg)) < x7 then (σ.1 50 0 ((x8).toNatClampNeg)) else x7)), some (iV (x8 + (1 : Int32))), none]) ⟨rfl, ⟨rfl, ⟨rfl, ⟨rfl, ⟨rfl, ⟨rfl, ⟨rfl, ⟨rfl, ⟨rfl, trivial⟩⟩⟩⟩⟩⟩⟩⟩⟩ H
            · have H := H.2 c
              refine r_iload dX11_joinedBy_205 rfl ?_
              refine r_goto (tgt := 222) dX11_joinedBy_207 (by decide) ?_
              refine r_istore dX11_joinedBy_222 (by decide) rfl ?_
              refine r_iinc (v := x8 + (1 : Int32)) dX11_joinedBy_224 rfl rfl (by decide) rfl ?_
              refine r_goto (tgt := 108) dX11_joinedBy_227 (by decide) ?_
              exact R.fw (ls' := [some (rV 45 0), some (iV x1), some (iV x2), some (iV x3), some (iV x4), some (iV (x5 + (0 : Int32))), some (iV (x6 + (σ.1 49 0 ((x8).toNatClampNeg)))), some (iV x7), some (iV (x8 + (1 : Int32))), none]) ⟨rfl, ⟨rfl, ⟨rfl, ⟨rfl, ⟨rfl, ⟨rfl, ⟨rfl, ⟨rfl, ⟨rfl, trivial⟩⟩⟩⟩⟩⟩⟩⟩⟩ H
        · have H := H.2 c
          refine r_aload_n dX11_joinedBy_157 rfl rfl ?_
          refine r_get (k := 45) (i := 0) (j := 6) (v := rV 50 0) rfl rfl ho45 rfl hX11 (by decide) rfl fX11_22 dX11_joinedBy_158 (fun _ => rfl) ?_
          refine r_iload dX11_joinedBy_161 rfl ?_
          refine r_iald (k := 50) (i := 0) rfl ho50 q2 dX11_joinedBy_163 ?_
          refine r_aload_n dX11_joinedBy_164 rfl rfl ?_
          refine r_get (k := 45) (i := 0) (j := 5) (v := rV 49 0) rfl rfl ho45 rfl hX11 (by decide) rfl fX11_19 dX11_joinedBy_165 (fun _ => rfl) ?_
          refine r_iload dX11_joinedBy_168 rfl ?_
          refine r_iald (k := 49) (i := 0) rfl ho49 q2 dX11_joinedBy_170 ?_
          refine r_imul dX11_joinedBy_171 ?_
          refine r_goto (tgt := 176) dX11_joinedBy_172 (by decide) ?_
          refine r_iadd dX11_joinedBy_176 ?_
          refine r_istore dX11_joinedBy_177 (by decide) rfl ?_
          refine r_iload dX11_joinedBy_179 rfl ?_
          refine r_iload dX11_joinedBy_181 rfl ?_
          refine r_if_eq (tgt := 196) dX11_joinedBy_183 (by decide) (fun c => ?_) (fun c => ?_)
          · have H := H.1 c
            refine r_iconst (v := (0 : Int32)) dX11_joinedBy_196 rfl ?_
            refine r_iadd dX11_joinedBy_197 ?_
            refine r_istore dX11_joinedBy_198 (by decide) rfl ?_
            refine r_iload dX11_joinedBy_200 rfl ?_
            refine r_if_eq (tgt := 210) dX11_joinedBy_202 (by decide) (fun c => ?_) (fun c => ?_)
            · have H := H.1 c
              refine r_iload dX11_joinedBy_210 rfl ?_
              refine r_aload_n dX11_joinedBy_212 rfl rfl ?_
              refine r_get (k := 45) (i := 0) (j := 6) (v := rV 50 0) rfl rfl ho45 rfl hX11 (by decide) rfl fX11_22 dX11_joinedBy_213 (fun _ => rfl) ?_
              refine r_iload dX11_joinedBy_216 rfl ?_
              refine r_iald (k := 50) (i := 0) rfl ho50 q2 dX11_joinedBy_218 ?_
              refine r_mmin lX11_359 dX11_joinedBy_219 (Nat.le_of_ble_eq_true rfl) ?_
              refine r_istore dX11_joinedBy_222 (by decide) rfl ?_
              refine r_iinc (v := x8 + (1 : Int32)) dX11_joinedBy_224 rfl rfl (by decide) rfl ?_
              refine r_goto (tgt := 108) dX11_joinedBy_227 (by decide) ?_
              exact R.fw (ls' := [some (rV 45 0), some (iV x1), some (iV x2), some (iV x3), some (iV x4), some (iV (x5 + ((σ.1 50 0 ((x8).toNatClampNeg)) * (σ.1 49 0 ((x8).toNatClampNeg))))), some (iV (x6 + (0 : Int32))), some (iV (if (σ.1 50 0 ((x8).toNatClampNeg)) < x7 then (σ.1 50 0 ((x8).toNatClampNeg)) else x7)), some (iV (x8 + (1 : Int32))), none]) ⟨rfl, ⟨rfl, ⟨rfl, ⟨rfl, ⟨rfl, ⟨rfl, ⟨rfl, ⟨rfl, ⟨rfl, trivial⟩⟩⟩⟩⟩⟩⟩⟩⟩ H
            · have H := H.2 c
              refine r_iload dX11_joinedBy_205 rfl ?_
              refine r_goto (tgt := 222) dX11_joinedBy_207 (by decide) ?_
              refine r_istore dX11_joinedBy_222 (by decide) rfl ?_
              refine r_iinc (v := x8 + (1 : Int32)) dX11_joinedBy_224 rfl rfl (by decide) rfl ?_
              refine r_goto (tgt := 108) dX11_joinedBy_227 (by decide) ?_
              exact R.fw (ls' := [some (rV 45 0), some (iV x1), some (iV x2), some (iV x3), some (iV x4), some (iV (x5 + ((σ.1 50 0 ((x8).toNatClampNeg)) * (σ.1 49 0 ((x8).toNatClampNeg))))), some (iV (x6 + (0 : Int32))), some (iV x7), some (iV (x8 + (1 : Int32))), none]) ⟨rfl, ⟨rfl, ⟨rfl, ⟨rfl, ⟨rfl, ⟨rfl, ⟨rfl, ⟨rfl, ⟨rfl, trivial⟩⟩⟩⟩⟩⟩⟩⟩⟩ H
          · have H := H.2 c
            refine r_aload_n dX11_joinedBy_186 rfl rfl ?_
            refine r_get (k := 45) (i := 0) (j := 5) (v := rV 49 0) rfl rfl ho45 rfl hX11 (by decide) rfl fX11_19 dX11_joinedBy_187 (fun _ => rfl) ?_
            refine r_iload dX11_joinedBy_190 rfl ?_
            refine r_iald (k := 49) (i := 0) rfl ho49 q2 dX11_joinedBy_192 ?_
            refine r_goto (tgt := 197) dX11_joinedBy_193 (by decide) ?_
            refine r_iadd dX11_joinedBy_197 ?_
            refine r_istore dX11_joinedBy_198 (by decide) rfl ?_
            refine r_iload dX11_joinedBy_200 rfl ?_
            refine r_if_eq (tgt := 210) dX11_joinedBy_202 (by decide) (fun c => ?_) (fun c => ?_)
            · have H := H.1 c
              refine r_iload dX11_joinedBy_210 rfl ?_
              refine r_aload_n dX11_joinedBy_212 rfl rfl ?_
              refine r_get (k := 45) (i := 0) (j := 6) (v := rV 50 0) rfl rfl ho45 rfl hX11 (by decide) rfl fX11_22 dX11_joinedBy_213 (fun _ => rfl) ?_
              refine r_iload dX11_joinedBy_216 rfl ?_
              refine r_iald (k := 50) (i := 0) rfl ho50 q2 dX11_joinedBy_218 ?_
              refine r_mmin lX11_359 dX11_joinedBy_219 (Nat.le_of_ble_eq_true rfl) ?_
              refine r_istore dX11_joinedBy_222 (by decide) rfl ?_
              refine r_iinc (v := x8 + (1 : Int32)) dX11_joinedBy_224 rfl rfl (by decide) rfl ?_
              refine r_goto (tgt := 108) dX11_joinedBy_227 (by decide) ?_
              exact R.fw (ls' := [some (rV 45 0), some (iV x1), some (iV x2), some (iV x3), some (iV x4), some (iV (x5 + ((σ.1 50 0 ((x8).toNatClampNeg)) * (σ.1 49 0 ((x8).toNatClampNeg))))), some (iV (x6 + (σ.1 49 0 ((x8).toNatClampNeg)))), some (iV (if (σ.1 50 0 ((x8).toNatClampNeg)) < x7 then (σ.1 50 0 ((x8).toNatClampNeg)) else x7)), some (iV (x8 + (1 : Int32))), none]) ⟨rfl, ⟨rfl, ⟨rfl, ⟨rfl, ⟨rfl, ⟨rfl, ⟨rfl, ⟨rfl, ⟨rfl, trivial⟩⟩⟩⟩⟩⟩⟩⟩⟩ H
            · have H := H.2 c
              refine r_iload dX11_joinedBy_205 rfl ?_
              refine r_goto (tgt := 222) dX11_joinedBy_207 (by decide) ?_
              refine r_istore dX11_joinedBy_222 (by decide) rfl ?_
              refine r_iinc (v := x8 + (1 : Int32)) dX11_joinedBy_224 rfl rfl (by decide) rfl ?_
              refine r_goto (tgt := 108) dX11_joinedBy_227 (by decide) ?_
              exact R.fw (ls' := [some (rV 45 0), some (iV x1), some (iV x2), some (iV x3), some (iV x4), some (iV (x5 + ((σ.1 50 0 ((x8).toNatClampNeg)) * (σ.1 49 0 ((x8).toNatClampNeg))))), some (iV (x6 + (σ.1 49 0 ((x8).toNatClampNeg)))), some (iV x7), some (iV (x8 + (1 : Int32))), none]) ⟨rfl, ⟨rfl, ⟨rfl, ⟨rfl, ⟨rfl, ⟨rfl, ⟨rfl, ⟨rfl, ⟨rfl, trivial⟩⟩⟩⟩⟩⟩⟩⟩⟩ H
    · have H := H.2 c
      refine r_goto (tgt := 224) dX11_joinedBy_128 (by decide) ?_
      refine r_iinc (v := x8 + (1 : Int32)) dX11_joinedBy_224 rfl rfl (by decide) rfl ?_
      refine r_goto (tgt := 108) dX11_joinedBy_227 (by decide) ?_
      exact H
set_option maxRecDepth 100000 in
theorem bX11_joinedBy_256 {d : Nat} {Q : Option MV → MS → Prop} {x1 : Int32} {x2 : Int32} {x3 : Int32} {x4 : Int32} {x5 : Int32} {x6 : Int32} {x7 : Int32} {x8 : Int32} {s0 : Int32} {σ : MS}  (H : Q (some (iV s0)) σ) : R mj_OM d mX11_joinedBy Q 256 [some (rV 45 0), some (iV x1), some (iV x2), some (iV x3), some (iV x4), some (iV x5), some (iV x6), some (iV x7), some (iV x8), none] [iV s0] σ := by
  exact r_iret dX11_joinedBy_256 rfl H
set_option maxRecDepth 100000 in
theorem bX11_joined_0 {d : Nat} {Q : Option MV → MS → Prop} {x1 : Int32} {x2 : Int32} {σ : MS}  (H : ((x1 < (1 : Int32) → Q (some (iV (-1 : Int32))) (uI σ 45 0 0 (0 : Int32))) ∧ (¬ x1 < (1 : Int32) → (vp_in (0 : Int32) 18 ∧ ((((1 : Int32) <<< ((σ.1 47 0 0) &&& 31)) ≤ x1 → Q (some (iV (-1 : Int32))) (uI σ 45 0 0 (0 : Int32))) ∧ (¬ ((1 : Int32) <<< ((σ.1 47 0 0) &&& 31)) ≤ x1 → (R mj_OM d mX11_isPart (fun r σ' => R mj_OM (d + 1) mX11_joined Q 26 [some (rV 45 0), some (iV x1), some (iV x2)] (r.toList ++ []) σ') 0 [some (iV x2)] [] (uI σ 45 0 0 (0 : Int32))))))))) : R mj_OM (d + 1) mX11_joined Q 0 [some (rV 45 0), some (iV x1), some (iV x2)] [] σ := by
  refine r_aload_n dX11_joined_0 rfl rfl ?_
  refine r_iconst (v := (0 : Int32)) dX11_joined_1 rfl ?_
  refine r_putI (k := 45) (i := 0) (j := 0) (ty0 := tyX11) rfl rfl ho45 rfl hX11 (by decide) rfl fX11_151 dX11_joined_2 rfl tyX11_ok nmX11 rfl rfl rfl ?_
  refine r_iload_n dX11_joined_5 rfl rfl ?_
  refine r_iconst (v := (1 : Int32)) dX11_joined_6 rfl ?_
  refine r_icmp_lt (tgt := 38) dX11_joined_7 (by decide) (fun c => ?_) (fun c => ?_)
  · have H := H.1 c
    refine r_iconst (v := (-1 : Int32)) dX11_joined_38 rfl ?_
    exact r_iret dX11_joined_39 rfl H
  · have H := H.2 c
    refine r_iload_n dX11_joined_10 rfl rfl ?_
    refine r_iconst (v := (1 : Int32)) dX11_joined_11 rfl ?_
    refine r_aload_n dX11_joined_12 rfl rfl ?_
    refine r_get (k := 45) (i := 0) (j := 3) (v := rV 47 0) rfl rfl ho45 rfl hX11 (by decide) rfl fX11_13 dX11_joined_13 (fun _ => rfl) ?_
    refine r_iconst (v := (0 : Int32)) dX11_joined_16 rfl ?_
    obtain ⟨q1, H⟩ := H
    refine r_iald (k := 47) (i := 0) rfl ho47 q1 dX11_joined_17 ?_
    refine r_ishl dX11_joined_18 ?_
    refine r_icmp_ge (tgt := 38) dX11_joined_19 (by decide) (fun c => ?_) (fun c => ?_)
    · have H := H.1 c
      refine r_iconst (v := (-1 : Int32)) dX11_joined_38 rfl ?_
      exact r_iret dX11_joined_39 rfl H
    · have H := H.2 c
      refine r_iload_n dX11_joined_22 rfl rfl ?_
      refine r_callS (z := 0) (As := [iV x2]) (st := []) kX11_isPart s_X11_isPart lX11_455 dX11_joined_23 rfl rfl rfl rfl (Nat.le_of_ble_eq_true rfl) ?_
      exact H
set_option maxRecDepth 100000 in
theorem bX11_joined_26 {d : Nat} {Q : Option MV → MS → Prop} {x1 : Int32} {x2 : Int32} {s0 : Int32} {σ : MS}  (H : ((s0 = 0 → Q (some (iV (-1 : Int32))) σ) ∧ (¬ s0 = 0 → (R mj_OM d mX11_joinedBy (fun r σ' => R mj_OM (d + 1) mX11_joined Q 35 [some (rV 45 0), some (iV x1), some (iV x2)] (r.toList ++ []) σ') 0 [some (rV 45 0), some (iV x1), some (iV x2), none, none, none, none, none, none, none] [] σ)))) : R mj_OM (d + 1) mX11_joined Q 26 [some (rV 45 0), some (iV x1), some (iV x2)] [iV s0] σ := by
  refine r_if_eq (tgt := 38) dX11_joined_26 (by decide) (fun c => ?_) (fun c => ?_)
  · have H := H.1 c
    refine r_iconst (v := (-1 : Int32)) dX11_joined_38 rfl ?_
    exact r_iret dX11_joined_39 rfl H
  · have H := H.2 c
    refine r_aload_n dX11_joined_29 rfl rfl ?_
    refine r_iload_n dX11_joined_30 rfl rfl ?_
    refine r_iload_n dX11_joined_31 rfl rfl ?_
    refine r_callV (z := 7) (k := 45) (i := 0) (As := [iV x1, iV x2]) (st := []) kX11_joinedBy i_X11_joinedBy e_X11_joinedBy lX11_489 dX11_joined_32 rfl rfl ho45 rfl rfl rfl rfl rfl (Nat.le_of_ble_eq_true rfl) ?_
    exact H
set_option maxRecDepth 100000 in
theorem bX11_joined_35 {d : Nat} {Q : Option MV → MS → Prop} {x1 : Int32} {x2 : Int32} {s0 : Int32} {σ : MS}  (H : Q (some (iV s0)) σ) : R mj_OM d mX11_joined Q 35 [some (rV 45 0), some (iV x1), some (iV x2)] [iV s0] σ := by
  refine r_goto (tgt := 39) dX11_joined_35 (by decide) ?_
  exact r_iret dX11_joined_39 rfl H
set_option maxRecDepth 100000 in
theorem bX11_isHeight_0 {d : Nat} {Q : Option MV → MS → Prop} {x0 : Int32} {σ : MS}  (H : ((x0 < 0 → Q (some (iV (0 : Int32))) σ) ∧ (¬ x0 < 0 → (((999 : Int32) < x0 → Q (some (iV (0 : Int32))) σ) ∧ (¬ (999 : Int32) < x0 → Q (some (iV (1 : Int32))) σ))))) : R mj_OM d mX11_isHeight Q 0 [some (iV x0)] [] σ := by
  refine r_iload_n dX11_isHeight_0 rfl rfl ?_
  refine r_if_lt (tgt := 15) dX11_isHeight_1 (by decide) (fun c => ?_) (fun c => ?_)
  · have H := H.1 c
    refine r_iconst (v := (0 : Int32)) dX11_isHeight_15 rfl ?_
    exact r_zret dX11_isHeight_16 rfl (by decide) H
  · have H := H.2 c
    refine r_iload_n dX11_isHeight_4 rfl rfl ?_
    refine r_sipush (v := (999 : Int32)) dX11_isHeight_5 rfl ?_
    refine r_icmp_gt (tgt := 15) dX11_isHeight_8 (by decide) (fun c => ?_) (fun c => ?_)
    · have H := H.1 c
      refine r_iconst (v := (0 : Int32)) dX11_isHeight_15 rfl ?_
      exact r_zret dX11_isHeight_16 rfl (by decide) H
    · have H := H.2 c
      refine r_iconst (v := (1 : Int32)) dX11_isHeight_11 rfl ?_
      refine r_goto (tgt := 16) dX11_isHeight_12 (by decide) ?_
      exact r_zret dX11_isHeight_16 rfl (by decide) H
set_option maxRecDepth 100000 in
theorem bX11_overOf_0 {d : Nat} {Q : Option MV → MS → Prop} {x1 : Int32} {x2 : Int32} {σ : MS}  (H : (R mj_OM d mX11_fullOf (fun r σ' => R mj_OM (d + 1) mX11_overOf Q 6 [some (rV 45 0), some (iV x1), some (iV x2)] (r.toList ++ []) σ') 0 [some (rV 45 0), some (iV (0 : Int32)), some (iV x1)] [] σ)) : R mj_OM (d + 1) mX11_overOf Q 0 [some (rV 45 0), some (iV x1), some (iV x2)] [] σ := by
  refine r_aload_n dX11_overOf_0 rfl rfl ?_
  refine r_iconst (v := (0 : Int32)) dX11_overOf_1 rfl ?_
  refine r_iload_n dX11_overOf_2 rfl rfl ?_
  refine r_callV (z := 0) (k := 45) (i := 0) (As := [iV (0 : Int32), iV x1]) (st := []) kX11_fullOf i_X11_fullOf e_X11_fullOf lX11_346 dX11_overOf_3 rfl rfl ho45 rfl rfl rfl rfl rfl (Nat.le_of_ble_eq_true rfl) ?_
  exact H
set_option maxRecDepth 100000 in
theorem bX11_overOf_6 {d : Nat} {Q : Option MV → MS → Prop} {x1 : Int32} {x2 : Int32} {s0 : Int32} {σ : MS}  (H : (vp_in x1 14 ∧ Q (some (iV (s0 - (x2 * (σ.1 49 0 ((x1).toNatClampNeg)))))) σ)) : R mj_OM d mX11_overOf Q 6 [some (rV 45 0), some (iV x1), some (iV x2)] [iV s0] σ := by
  refine r_iload_n dX11_overOf_6 rfl rfl ?_
  refine r_aload_n dX11_overOf_7 rfl rfl ?_
  refine r_get (k := 45) (i := 0) (j := 5) (v := rV 49 0) rfl rfl ho45 rfl hX11 (by decide) rfl fX11_19 dX11_overOf_8 (fun _ => rfl) ?_
  refine r_iload_n dX11_overOf_11 rfl rfl ?_
  obtain ⟨q1, H⟩ := H
  refine r_iald (k := 49) (i := 0) rfl ho49 q1 dX11_overOf_12 ?_
  refine r_imul dX11_overOf_13 ?_
  refine r_isub dX11_overOf_14 ?_
  exact r_iret dX11_overOf_15 rfl H
set_option maxRecDepth 100000 in
theorem bX11_needs_0 {d : Nat} {Q : Option MV → MS → Prop} {x1 : Int32} {x2 : Int32} {σ : MS}  (H : (R mj_OM d mX11_isPond (fun r σ' => R mj_OM (d + 1) mX11_needs Q 10 [some (rV 45 0), some (iV x1), some (iV x2)] (r.toList ++ []) σ') 0 [some (rV 45 0), some (iV x1)] [] (uI σ 45 0 0 (0 : Int32)))) : R mj_OM (d + 1) mX11_needs Q 0 [some (rV 45 0), some (iV x1), some (iV x2)] [] σ := by
  refine r_aload_n dX11_needs_0 rfl rfl ?_
  refine r_iconst (v := (0 : Int32)) dX11_needs_1 rfl ?_
  refine r_putI (k := 45) (i := 0) (j := 0) (ty0 := tyX11) rfl rfl ho45 rfl hX11 (by decide) rfl fX11_151 dX11_needs_2 rfl tyX11_ok nmX11 rfl rfl rfl ?_
  refine r_aload_n dX11_needs_5 rfl rfl ?_
  refine r_iload_n dX11_needs_6 rfl rfl ?_
  refine r_callV (z := 0) (k := 45) (i := 0) (As := [iV x1]) (st := []) kX11_isPond i_X11_isPond e_X11_isPond lX11_446 dX11_needs_7 rfl rfl ho45 rfl rfl rfl rfl rfl (Nat.le_of_ble_eq_true rfl) ?_
  exact H
set_option maxRecDepth 100000 in
theorem bX11_needs_10 {d : Nat} {Q : Option MV → MS → Prop} {x1 : Int32} {x2 : Int32} {s0 : Int32} {σ : MS}  (H : ((s0 = 0 → Q (some (iV (-1 : Int32))) σ) ∧ (¬ s0 = 0 → (R mj_OM d mX11_isHeight (fun r σ' => R mj_OM (d + 1) mX11_needs Q 17 [some (rV 45 0), some (iV x1), some (iV x2)] (r.toList ++ []) σ') 0 [some (iV x2)] [] σ)))) : R mj_OM (d + 1) mX11_needs Q 10 [some (rV 45 0), some (iV x1), some (iV x2)] [iV s0] σ := by
  refine r_if_eq (tgt := 34) dX11_needs_10 (by decide) (fun c => ?_) (fun c => ?_)
  · have H := H.1 c
    refine r_iconst (v := (-1 : Int32)) dX11_needs_34 rfl ?_
    exact r_iret dX11_needs_35 rfl H
  · have H := H.2 c
    refine r_iload_n dX11_needs_13 rfl rfl ?_
    refine r_callS (z := 0) (As := [iV x2]) (st := []) kX11_isHeight s_X11_isHeight lX11_492 dX11_needs_14 rfl rfl rfl rfl (Nat.le_of_ble_eq_true rfl) ?_
    exact H
set_option maxRecDepth 100000 in
theorem bX11_needs_17 {d : Nat} {Q : Option MV → MS → Prop} {x1 : Int32} {x2 : Int32} {s0 : Int32} {σ : MS}  (H : ((s0 = 0 → Q (some (iV (-1 : Int32))) σ) ∧ (¬ s0 = 0 → (R mj_OM d mX11_overOf (fun r σ' => R mj_OM (d + 1) mX11_needs Q 27 [some (rV 45 0), some (iV x1), some (iV x2)] (r.toList ++ [iV (0 : Int32)]) σ') 0 [some (rV 45 0), some (iV x1), some (iV x2)] [] σ)))) : R mj_OM (d + 1) mX11_needs Q 17 [some (rV 45 0), some (iV x1), some (iV x2)] [iV s0] σ := by
  refine r_if_eq (tgt := 34) dX11_needs_17 (by decide) (fun c => ?_) (fun c => ?_)
  · have H := H.1 c
    refine r_iconst (v := (-1 : Int32)) dX11_needs_34 rfl ?_
    exact r_iret dX11_needs_35 rfl H
  · have H := H.2 c
    refine r_iconst (v := (0 : Int32)) dX11_needs_20 rfl ?_
    refine r_aload_n dX11_needs_21 rfl rfl ?_
    refine r_iload_n dX11_needs_22 rfl rfl ?_
    refine r_iload_n dX11_needs_23 rfl rfl ?_
    refine r_callV (z := 0) (k := 45) (i := 0) (As := [iV x1, iV x2]) (st := [iV (0 : Int32)]) kX11_overOf i_X11_overOf e_X11_overOf lX11_495 dX11_needs_24 rfl rfl ho45 rfl rfl rfl rfl rfl (Nat.le_of_ble_eq_true rfl) ?_
    exact H
set_option maxRecDepth 100000 in
theorem bX11_needs_27 {d : Nat} {Q : Option MV → MS → Prop} {x1 : Int32} {x2 : Int32} {s0 : Int32} {s1 : Int32} {σ : MS}  (H : Q (some (iV (if s1 < (-s0) then (-s0) else s1))) σ) : R mj_OM (d + 1) mX11_needs Q 27 [some (rV 45 0), some (iV x1), some (iV x2)] [iV s0, iV s1] σ := by
  refine r_ineg dX11_needs_27 ?_
  refine r_mmax lX11_414 dX11_needs_28 (Nat.le_of_ble_eq_true rfl) ?_
  refine r_goto (tgt := 35) dX11_needs_31 (by decide) ?_
  exact r_iret dX11_needs_35 rfl H
set_option maxRecDepth 100000 in
theorem bX11_spareOf_0 {d : Nat} {Q : Option MV → MS → Prop} {x1 : Int32} {x2 : Int32} {σ : MS}  (H : (vp_in x1 161 ∧ (R mj_OM d mX11_overOf (fun r σ' => R mj_OM (d + 1) mX11_spareOf Q 13 [some (rV 45 0), some (iV x1), some (iV x2)] (r.toList ++ [iV (σ.1 74 0 ((x1).toNatClampNeg)), iV (0 : Int32)]) σ') 0 [some (rV 45 0), some (iV x1), some (iV x2)] [] σ))) : R mj_OM (d + 1) mX11_spareOf Q 0 [some (rV 45 0), some (iV x1), some (iV x2)] [] σ := by
  refine r_iconst (v := (0 : Int32)) dX11_spareOf_0 rfl ?_
  refine r_aload_n dX11_spareOf_1 rfl rfl ?_
  refine r_get (k := 45) (i := 0) (j := 44) (v := rV 74 0) rfl rfl ho45 rfl hX11 (by decide) rfl fX11_99 dX11_spareOf_2 (fun _ => rfl) ?_
  refine r_iload_n dX11_spareOf_5 rfl rfl ?_
  obtain ⟨q1, H⟩ := H
  refine r_iald (k := 74) (i := 0) rfl ho74 q1 dX11_spareOf_6 ?_
  refine r_aload_n dX11_spareOf_7 rfl rfl ?_
  refine r_iload_n dX11_spareOf_8 rfl rfl ?_
  refine r_iload_n dX11_spareOf_9 rfl rfl ?_
  refine r_callV (z := 0) (k := 45) (i := 0) (As := [iV x1, iV x2]) (st := [iV (σ.1 74 0 ((x1).toNatClampNeg)), iV (0 : Int32)]) kX11_overOf i_X11_overOf e_X11_overOf lX11_495 dX11_spareOf_10 rfl rfl ho45 rfl rfl rfl rfl rfl (Nat.le_of_ble_eq_true rfl) ?_
  exact H
set_option maxRecDepth 100000 in
theorem bX11_spareOf_13 {d : Nat} {Q : Option MV → MS → Prop} {x1 : Int32} {x2 : Int32} {s0 : Int32} {s1 : Int32} {s2 : Int32} {σ : MS}  (H : Q (some (iV (if s2 < (if s0 < s1 then s0 else s1) then (if s0 < s1 then s0 else s1) else s2))) σ) : R mj_OM (d + 1) mX11_spareOf Q 13 [some (rV 45 0), some (iV x1), some (iV x2)] [iV s0, iV s1, iV s2] σ := by
  refine r_mmin lX11_359 dX11_spareOf_13 (Nat.le_of_ble_eq_true rfl) ?_
  refine r_mmax lX11_414 dX11_spareOf_16 (Nat.le_of_ble_eq_true rfl) ?_
  exact r_iret dX11_spareOf_19 rfl H
set_option maxRecDepth 100000 in
theorem bX11_spare_0 {d : Nat} {Q : Option MV → MS → Prop} {x1 : Int32} {x2 : Int32} {σ : MS}  (H : (R mj_OM d mX11_isPond (fun r σ' => R mj_OM (d + 1) mX11_spare Q 10 [some (rV 45 0), some (iV x1), some (iV x2)] (r.toList ++ []) σ') 0 [some (rV 45 0), some (iV x1)] [] (uI σ 45 0 0 (0 : Int32)))) : R mj_OM (d + 1) mX11_spare Q 0 [some (rV 45 0), some (iV x1), some (iV x2)] [] σ := by
  refine r_aload_n dX11_spare_0 rfl rfl ?_
  refine r_iconst (v := (0 : Int32)) dX11_spare_1 rfl ?_
  refine r_putI (k := 45) (i := 0) (j := 0) (ty0 := tyX11) rfl rfl ho45 rfl hX11 (by decide) rfl fX11_151 dX11_spare_2 rfl tyX11_ok nmX11 rfl rfl rfl ?_
  refine r_aload_n dX11_spare_5 rfl rfl ?_
  refine r_iload_n dX11_spare_6 rfl rfl ?_
  refine r_callV (z := 0) (k := 45) (i := 0) (As := [iV x1]) (st := []) kX11_isPond i_X11_isPond e_X11_isPond lX11_446 dX11_spare_7 rfl rfl ho45 rfl rfl rfl rfl rfl (Nat.le_of_ble_eq_true rfl) ?_
  exact H
set_option maxRecDepth 100000 in
theorem bX11_spare_10 {d : Nat} {Q : Option MV → MS → Prop} {x1 : Int32} {x2 : Int32} {s0 : Int32} {σ : MS}  (H : ((s0 = 0 → Q (some (iV (-1 : Int32))) σ) ∧ (¬ s0 = 0 → (R mj_OM d mX11_isHeight (fun r σ' => R mj_OM (d + 1) mX11_spare Q 17 [some (rV 45 0), some (iV x1), some (iV x2)] (r.toList ++ []) σ') 0 [some (iV x2)] [] σ)))) : R mj_OM (d + 1) mX11_spare Q 10 [some (rV 45 0), some (iV x1), some (iV x2)] [iV s0] σ := by
  refine r_if_eq (tgt := 29) dX11_spare_10 (by decide) (fun c => ?_) (fun c => ?_)
  · have H := H.1 c
    refine r_iconst (v := (-1 : Int32)) dX11_spare_29 rfl ?_
    exact r_iret dX11_spare_30 rfl H
  · have H := H.2 c
    refine r_iload_n dX11_spare_13 rfl rfl ?_
    refine r_callS (z := 0) (As := [iV x2]) (st := []) kX11_isHeight s_X11_isHeight lX11_492 dX11_spare_14 rfl rfl rfl rfl (Nat.le_of_ble_eq_true rfl) ?_
    exact H
set_option maxRecDepth 100000 in
theorem bX11_spare_17 {d : Nat} {Q : Option MV → MS → Prop} {x1 : Int32} {x2 : Int32} {s0 : Int32} {σ : MS}  (H : ((s0 = 0 → Q (some (iV (-1 : Int32))) σ) ∧ (¬ s0 = 0 → (R mj_OM d mX11_spareOf (fun r σ' => R mj_OM (d + 1) mX11_spare Q 26 [some (rV 45 0), some (iV x1), some (iV x2)] (r.toList ++ []) σ') 0 [some (rV 45 0), some (iV x1), some (iV x2)] [] σ)))) : R mj_OM (d + 1) mX11_spare Q 17 [some (rV 45 0), some (iV x1), some (iV x2)] [iV s0] σ := by
  refine r_if_eq (tgt := 29) dX11_spare_17 (by decide) (fun c => ?_) (fun c => ?_)
  · have H := H.1 c
    refine r_iconst (v := (-1 : Int32)) dX11_spare_29 rfl ?_
    exact r_iret dX11_spare_30 rfl H
  · have H := H.2 c
    refine r_aload_n dX11_spare_20 rfl rfl ?_
    refine r_iload_n dX11_spare_21 rfl rfl ?_
    refine r_iload_n dX11_spare_22 rfl rfl ?_
    refine r_callV (z := 0) (k := 45) (i := 0) (As := [iV x1, iV x2]) (st := []) kX11_spareOf i_X11_spareOf e_X11_spareOf lX11_498 dX11_spare_23 rfl rfl ho45 rfl rfl rfl rfl rfl (Nat.le_of_ble_eq_true rfl) ?_
    exact H
set_option maxRecDepth 100000 in
theorem bX11_spare_26 {d : Nat} {Q : Option MV → MS → Prop} {x1 : Int32} {x2 : Int32} {s0 : Int32} {σ : MS}  (H : Q (some (iV s0)) σ) : R mj_OM d mX11_spare Q 26 [some (rV 45 0), some (iV x1), some (iV x2)] [iV s0] σ := by
  refine r_goto (tgt := 30) dX11_spare_26 (by decide) ?_
  exact r_iret dX11_spare_30 rfl H
set_option maxRecDepth 100000 in
theorem bX11_liftOf_0 {d : Nat} {Q : Option MV → MS → Prop} {x1 : Int32} {σ : MS}  (H : (vp_in x1 6 ∧ vp_in (σ.1 53 0 ((x1).toNatClampNeg)) 14 ∧ Q (some (iV ((σ.1 49 0 (((σ.1 53 0 ((x1).toNatClampNeg))).toNatClampNeg)) * (if (0 : Int32) < ((σ.1 55 0 ((x1).toNatClampNeg)) - (σ.1 54 0 ((x1).toNatClampNeg))) then ((σ.1 55 0 ((x1).toNatClampNeg)) - (σ.1 54 0 ((x1).toNatClampNeg))) else (0 : Int32))))) σ)) : R mj_OM (d + 1) mX11_liftOf Q 0 [some (rV 45 0), some (iV x1)] [] σ := by
  refine r_aload_n dX11_liftOf_0 rfl rfl ?_
  refine r_get (k := 45) (i := 0) (j := 5) (v := rV 49 0) rfl rfl ho45 rfl hX11 (by decide) rfl fX11_19 dX11_liftOf_1 (fun _ => rfl) ?_
  refine r_aload_n dX11_liftOf_4 rfl rfl ?_
  refine r_get (k := 45) (i := 0) (j := 9) (v := rV 53 0) rfl rfl ho45 rfl hX11 (by decide) rfl fX11_31 dX11_liftOf_5 (fun _ => rfl) ?_
  refine r_iload_n dX11_liftOf_8 rfl rfl ?_
  obtain ⟨q1, H⟩ := H
  refine r_iald (k := 53) (i := 0) rfl ho53 q1 dX11_liftOf_9 ?_
  obtain ⟨q2, H⟩ := H
  refine r_iald (k := 49) (i := 0) rfl ho49 q2 dX11_liftOf_10 ?_
  refine r_iconst (v := (0 : Int32)) dX11_liftOf_11 rfl ?_
  refine r_aload_n dX11_liftOf_12 rfl rfl ?_
  refine r_get (k := 45) (i := 0) (j := 11) (v := rV 55 0) rfl rfl ho45 rfl hX11 (by decide) rfl fX11_37 dX11_liftOf_13 (fun _ => rfl) ?_
  refine r_iload_n dX11_liftOf_16 rfl rfl ?_
  refine r_iald (k := 55) (i := 0) rfl ho55 q1 dX11_liftOf_17 ?_
  refine r_aload_n dX11_liftOf_18 rfl rfl ?_
  refine r_get (k := 45) (i := 0) (j := 10) (v := rV 54 0) rfl rfl ho45 rfl hX11 (by decide) rfl fX11_34 dX11_liftOf_19 (fun _ => rfl) ?_
  refine r_iload_n dX11_liftOf_22 rfl rfl ?_
  refine r_iald (k := 54) (i := 0) rfl ho54 q1 dX11_liftOf_23 ?_
  refine r_isub dX11_liftOf_24 ?_
  refine r_mmax lX11_414 dX11_liftOf_25 (Nat.le_of_ble_eq_true rfl) ?_
  refine r_imul dX11_liftOf_28 ?_
  exact r_iret dX11_liftOf_29 rfl H
set_option maxRecDepth 100000 in
theorem bX11_lift_0 {d : Nat} {Q : Option MV → MS → Prop} {x1 : Int32} {σ : MS}  (H : (R mj_OM d mX11_isLock (fun r σ' => R mj_OM (d + 1) mX11_lift Q 10 [some (rV 45 0), some (iV x1)] (r.toList ++ []) σ') 0 [some (rV 45 0), some (iV x1)] [] (uI σ 45 0 0 (0 : Int32)))) : R mj_OM (d + 1) mX11_lift Q 0 [some (rV 45 0), some (iV x1)] [] σ := by
  refine r_aload_n dX11_lift_0 rfl rfl ?_
  refine r_iconst (v := (0 : Int32)) dX11_lift_1 rfl ?_
  refine r_putI (k := 45) (i := 0) (j := 0) (ty0 := tyX11) rfl rfl ho45 rfl hX11 (by decide) rfl fX11_151 dX11_lift_2 rfl tyX11_ok nmX11 rfl rfl rfl ?_
  refine r_aload_n dX11_lift_5 rfl rfl ?_
  refine r_iload_n dX11_lift_6 rfl rfl ?_
  refine r_callV (z := 0) (k := 45) (i := 0) (As := [iV x1]) (st := []) kX11_isLock i_X11_isLock e_X11_isLock lX11_464 dX11_lift_7 rfl rfl ho45 rfl rfl rfl rfl rfl (Nat.le_of_ble_eq_true rfl) ?_
  exact H
set_option maxRecDepth 100000 in
theorem bX11_lift_10 {d : Nat} {Q : Option MV → MS → Prop} {x1 : Int32} {s0 : Int32} {σ : MS}  (H : ((s0 = 0 → Q (some (iV (-1 : Int32))) σ) ∧ (¬ s0 = 0 → (R mj_OM d mX11_liftOf (fun r σ' => R mj_OM (d + 1) mX11_lift Q 18 [some (rV 45 0), some (iV x1)] (r.toList ++ []) σ') 0 [some (rV 45 0), some (iV x1)] [] σ)))) : R mj_OM (d + 1) mX11_lift Q 10 [some (rV 45 0), some (iV x1)] [iV s0] σ := by
  refine r_if_eq (tgt := 21) dX11_lift_10 (by decide) (fun c => ?_) (fun c => ?_)
  · have H := H.1 c
    refine r_iconst (v := (-1 : Int32)) dX11_lift_21 rfl ?_
    exact r_iret dX11_lift_22 rfl H
  · have H := H.2 c
    refine r_aload_n dX11_lift_13 rfl rfl ?_
    refine r_iload_n dX11_lift_14 rfl rfl ?_
    refine r_callV (z := 0) (k := 45) (i := 0) (As := [iV x1]) (st := []) kX11_liftOf i_X11_liftOf e_X11_liftOf lX11_501 dX11_lift_15 rfl rfl ho45 rfl rfl rfl rfl rfl (Nat.le_of_ble_eq_true rfl) ?_
    exact H
set_option maxRecDepth 100000 in
theorem bX11_lift_18 {d : Nat} {Q : Option MV → MS → Prop} {x1 : Int32} {s0 : Int32} {σ : MS}  (H : Q (some (iV s0)) σ) : R mj_OM d mX11_lift Q 18 [some (rV 45 0), some (iV x1)] [iV s0] σ := by
  refine r_goto (tgt := 22) dX11_lift_18 (by decide) ?_
  exact r_iret dX11_lift_22 rfl H
set_option maxRecDepth 100000 in
theorem bX11_laysWater_0 {d : Nat} {Q : Option MV → MS → Prop} {x1 : Int32} {σ : MS}  (H : R mj_OM d mX11_laysWater Q 2 [some (rV 45 0), some (iV x1), some (iV (0 : Int32))] [] σ) : R mj_OM d mX11_laysWater Q 0 [some (rV 45 0), some (iV x1), none] [] σ := by
  refine r_iconst (v := (0 : Int32)) dX11_laysWater_0 rfl ?_
  refine r_istore_n dX11_laysWater_1 rfl (by decide) rfl ?_
  exact H
set_option maxRecDepth 100000 in
theorem bX11_laysWater_2 {d : Nat} {Q : Option MV → MS → Prop} {x1 : Int32} {x2 : Int32} {σ : MS}  (H : (((7 : Int32) ≤ x2 → Q none σ) ∧ (¬ (7 : Int32) ≤ x2 → (vp_in (((7 : Int32) * x1) + x2) 35 ∧ vp_in ((7 : Int32) + x2) 161 ∧ R mj_OM d mX11_laysWater Q 2 [some (rV 45 0), some (iV x1), some (iV (x2 + (1 : Int32)))] [] (uI σ 74 0 ((((7 : Int32) + x2)).toNatClampNeg) (σ.1 77 0 (((((7 : Int32) * x1) + x2)).toNatClampNeg))))))) : R mj_OM d mX11_laysWater Q 2 [some (rV 45 0), some (iV x1), some (iV x2)] [] σ := by
  refine r_iload_n dX11_laysWater_2 rfl rfl ?_
  refine r_bipush (v := (7 : Int32)) dX11_laysWater_3 rfl ?_
  refine r_icmp_ge (tgt := 34) dX11_laysWater_5 (by decide) (fun c => ?_) (fun c => ?_)
  · have H := H.1 c
    exact r_vret dX11_laysWater_34 rfl H
  · have H := H.2 c
    refine r_aload_n dX11_laysWater_8 rfl rfl ?_
    refine r_get (k := 45) (i := 0) (j := 44) (v := rV 74 0) rfl rfl ho45 rfl hX11 (by decide) rfl fX11_99 dX11_laysWater_9 (fun _ => rfl) ?_
    refine r_bipush (v := (7 : Int32)) dX11_laysWater_12 rfl ?_
    refine r_iload_n dX11_laysWater_14 rfl rfl ?_
    refine r_iadd dX11_laysWater_15 ?_
    refine r_aload_n dX11_laysWater_16 rfl rfl ?_
    refine r_get (k := 45) (i := 0) (j := 53) (v := rV 77 0) rfl rfl ho45 rfl hX11 (by decide) rfl fX11_114 dX11_laysWater_17 (fun _ => rfl) ?_
    refine r_bipush (v := (7 : Int32)) dX11_laysWater_20 rfl ?_
    refine r_iload_n dX11_laysWater_22 rfl rfl ?_
    refine r_imul dX11_laysWater_23 ?_
    refine r_iload_n dX11_laysWater_24 rfl rfl ?_
    refine r_iadd dX11_laysWater_25 ?_
    obtain ⟨q1, H⟩ := H
    refine r_iald (k := 77) (i := 0) rfl ho77 q1 dX11_laysWater_26 ?_
    obtain ⟨q2, H⟩ := H
    refine r_iast (k := 74) (i := 0) rfl ho74 q2 dX11_laysWater_27 ?_
    refine r_iinc (v := x2 + (1 : Int32)) dX11_laysWater_28 rfl rfl (by decide) rfl ?_
    refine r_goto (tgt := 2) dX11_laysWater_31 (by decide) ?_
    exact H
set_option maxRecDepth 100000 in
theorem bX11_takes_0 {d : Nat} {Q : Option MV → MS → Prop} {x1 : Int32} {σ : MS}  (H : R mj_OM d mX11_takes Q 2 [some (rV 45 0), some (iV x1), some (iV (0 : Int32))] [] σ) : R mj_OM d mX11_takes Q 0 [some (rV 45 0), some (iV x1), none] [] σ := by
  refine r_iconst (v := (0 : Int32)) dX11_takes_0 rfl ?_
  refine r_istore_n dX11_takes_1 rfl (by decide) rfl ?_
  exact H
set_option maxRecDepth 100000 in
theorem bX11_takes_2 {d : Nat} {Q : Option MV → MS → Prop} {x1 : Int32} {x2 : Int32} {σ : MS}  (H : (((7 : Int32) ≤ x2 → Q none σ) ∧ (¬ (7 : Int32) ≤ x2 → (vp_in ((7 : Int32) + x2) 161 ∧ vp_in (((7 : Int32) * x1) + x2) 35 ∧ R mj_OM d mX11_takes Q 2 [some (rV 45 0), some (iV x1), some (iV (x2 + (1 : Int32)))] [] (uI σ 77 0 (((((7 : Int32) * x1) + x2)).toNatClampNeg) (σ.1 74 0 ((((7 : Int32) + x2)).toNatClampNeg))))))) : R mj_OM d mX11_takes Q 2 [some (rV 45 0), some (iV x1), some (iV x2)] [] σ := by
  refine r_iload_n dX11_takes_2 rfl rfl ?_
  refine r_bipush (v := (7 : Int32)) dX11_takes_3 rfl ?_
  refine r_icmp_ge (tgt := 34) dX11_takes_5 (by decide) (fun c => ?_) (fun c => ?_)
  · have H := H.1 c
    exact r_vret dX11_takes_34 rfl H
  · have H := H.2 c
    refine r_aload_n dX11_takes_8 rfl rfl ?_
    refine r_get (k := 45) (i := 0) (j := 53) (v := rV 77 0) rfl rfl ho45 rfl hX11 (by decide) rfl fX11_114 dX11_takes_9 (fun _ => rfl) ?_
    refine r_bipush (v := (7 : Int32)) dX11_takes_12 rfl ?_
    refine r_iload_n dX11_takes_14 rfl rfl ?_
    refine r_imul dX11_takes_15 ?_
    refine r_iload_n dX11_takes_16 rfl rfl ?_
    refine r_iadd dX11_takes_17 ?_
    refine r_aload_n dX11_takes_18 rfl rfl ?_
    refine r_get (k := 45) (i := 0) (j := 44) (v := rV 74 0) rfl rfl ho45 rfl hX11 (by decide) rfl fX11_99 dX11_takes_19 (fun _ => rfl) ?_
    refine r_bipush (v := (7 : Int32)) dX11_takes_22 rfl ?_
    refine r_iload_n dX11_takes_24 rfl rfl ?_
    refine r_iadd dX11_takes_25 ?_
    obtain ⟨q1, H⟩ := H
    refine r_iald (k := 74) (i := 0) rfl ho74 q1 dX11_takes_26 ?_
    obtain ⟨q2, H⟩ := H
    refine r_iast (k := 77) (i := 0) rfl ho77 q2 dX11_takes_27 ?_
    refine r_iinc (v := x2 + (1 : Int32)) dX11_takes_28 rfl rfl (by decide) rfl ?_
    refine r_goto (tgt := 2) dX11_takes_31 (by decide) ?_
    exact H
set_option maxRecDepth 100000 in
theorem bX11_opensTo_0 {d : Nat} {Q : Option MV → MS → Prop} {x1 : Int32} {x2 : Int32} {σ : MS}  (H : ((¬ x1 = x2 → R mj_OM (d + 1) mX11_opensTo Q 21 [some (rV 45 0), some (iV x1), some (iV x2), some (iV (0 : Int32))] [] σ) ∧ (x1 = x2 → (R mj_OM d mX11_isHigh (fun r σ' => R mj_OM (d + 1) mX11_opensTo Q 18 [some (rV 45 0), some (iV x1), some (iV x2), none] (r.toList ++ []) σ') 0 [some (rV 45 0), some (iV (1 : Int32)), some (iV (σ.1 45 0 55)), some (iV (σ.1 45 0 56))] [] σ)))) : R mj_OM (d + 1) mX11_opensTo Q 0 [some (rV 45 0), some (iV x1), some (iV x2), none] [] σ := by
  refine r_iload_n dX11_opensTo_0 rfl rfl ?_
  refine r_iload_n dX11_opensTo_1 rfl rfl ?_
  refine r_icmp_ne (tgt := 19) dX11_opensTo_2 (by decide) (fun c => ?_) (fun c => ?_)
  · have H := H.1 c
    refine r_iconst (v := (0 : Int32)) dX11_opensTo_19 rfl ?_
    refine r_istore_n dX11_opensTo_20 rfl (by decide) rfl ?_
    exact H
  · have H := H.2 c
    refine r_aload_n dX11_opensTo_5 rfl rfl ?_
    refine r_iconst (v := (1 : Int32)) dX11_opensTo_6 rfl ?_
    refine r_aload_n dX11_opensTo_7 rfl rfl ?_
    refine r_get (k := 45) (i := 0) (j := 55) (v := iV (σ.1 45 0 55)) rfl rfl ho45 rfl hX11 (by decide) rfl fX11_504 dX11_opensTo_8 (fun _ => rfl) ?_
    refine r_aload_n dX11_opensTo_11 rfl rfl ?_
    refine r_get (k := 45) (i := 0) (j := 56) (v := iV (σ.1 45 0 56)) rfl rfl ho45 rfl hX11 (by decide) rfl fX11_507 dX11_opensTo_12 (fun _ => rfl) ?_
    refine r_callV (z := 0) (k := 45) (i := 0) (As := [iV (1 : Int32), iV (σ.1 45 0 55), iV (σ.1 45 0 56)]) (st := []) kX11_isHigh i_X11_isHigh e_X11_isHigh lX11_422 dX11_opensTo_15 rfl rfl ho45 rfl rfl rfl rfl rfl (Nat.le_of_ble_eq_true rfl) ?_
    exact H
set_option maxRecDepth 100000 in
theorem bX11_opensTo_18 {d : Nat} {Q : Option MV → MS → Prop} {x1 : Int32} {x2 : Int32} {s0 : Int32} {σ : MS}  (H : ((narrow .boolean (.int s0) = .int s0) ∧ Q (some (iV s0)) σ)) : R mj_OM d mX11_opensTo Q 18 [some (rV 45 0), some (iV x1), some (iV x2), none] [iV s0] σ := by
  obtain ⟨q1, H⟩ := H
  exact r_zret dX11_opensTo_18 rfl q1 H
set_option maxRecDepth 100000 in
theorem bX11_opensTo_21 {d : Nat} {Q : Option MV → MS → Prop} {x1 : Int32} {x2 : Int32} {x3 : Int32} {σ : MS}  (H : (vp_in (2 : Int32) 18 ∧ (((σ.1 47 0 2) ≤ x3 → Q (some (iV (0 : Int32))) σ) ∧ (¬ (σ.1 47 0 2) ≤ x3 → (R mj_OM d mX11_isJammed (fun r σ' => R mj_OM (d + 1) mX11_opensTo Q 37 [some (rV 45 0), some (iV x1), some (iV x2), some (iV x3)] (r.toList ++ []) σ') 0 [some (rV 45 0), some (iV (0 : Int32)), some (iV x3)] [] σ))))) : R mj_OM (d + 1) mX11_opensTo Q 21 [some (rV 45 0), some (iV x1), some (iV x2), some (iV x3)] [] σ := by
  refine r_iload_n dX11_opensTo_21 rfl rfl ?_
  refine r_aload_n dX11_opensTo_22 rfl rfl ?_
  refine r_get (k := 45) (i := 0) (j := 3) (v := rV 47 0) rfl rfl ho45 rfl hX11 (by decide) rfl fX11_13 dX11_opensTo_23 (fun _ => rfl) ?_
  refine r_iconst (v := (2 : Int32)) dX11_opensTo_26 rfl ?_
  obtain ⟨q1, H⟩ := H
  refine r_iald (k := 47) (i := 0) rfl ho47 q1 dX11_opensTo_27 ?_
  refine r_icmp_ge (tgt := 92) dX11_opensTo_28 (by decide) (fun c => ?_) (fun c => ?_)
  · have H := H.1 c
    refine r_iconst (v := (0 : Int32)) dX11_opensTo_92 rfl ?_
    exact r_zret dX11_opensTo_93 rfl (by decide) H
  · have H := H.2 c
    refine r_aload_n dX11_opensTo_31 rfl rfl ?_
    refine r_iconst (v := (0 : Int32)) dX11_opensTo_32 rfl ?_
    refine r_iload_n dX11_opensTo_33 rfl rfl ?_
    refine r_callV (z := 0) (k := 45) (i := 0) (As := [iV (0 : Int32), iV x3]) (st := []) kX11_isJammed i_X11_isJammed e_X11_isJammed lX11_368 dX11_opensTo_34 rfl rfl ho45 rfl rfl rfl rfl rfl (Nat.le_of_ble_eq_true rfl) ?_
    exact H
set_option maxRecDepth 100000 in
theorem bX11_opensTo_37 {d : Nat} {Q : Option MV → MS → Prop} {x1 : Int32} {x2 : Int32} {x3 : Int32} {s0 : Int32} {σ : MS}  (H : ((s0 = 0 → (R mj_OM d mX11_laysWater (fun r σ' => R mj_OM (d + 1) mX11_opensTo Q 48 [some (rV 45 0), some (iV x1), some (iV x2), some (iV x3)] (r.toList ++ []) σ') 0 [some (rV 45 0), some (iV x1), none] [] σ)) ∧ (¬ s0 = 0 → R mj_OM (d + 1) mX11_opensTo Q 21 [some (rV 45 0), some (iV x1), some (iV x2), some (iV (x3 + (1 : Int32)))] [] σ))) : R mj_OM (d + 1) mX11_opensTo Q 37 [some (rV 45 0), some (iV x1), some (iV x2), some (iV x3)] [iV s0] σ := by
  refine r_if_eq (tgt := 43) dX11_opensTo_37 (by decide) (fun c => ?_) (fun c => ?_)
  · have H := H.1 c
    refine r_aload_n dX11_opensTo_43 rfl rfl ?_
    refine r_iload_n dX11_opensTo_44 rfl rfl ?_
    refine r_callV (z := 1) (k := 45) (i := 0) (As := [iV x1]) (st := []) kX11_laysWater i_X11_laysWater e_X11_laysWater lX11_510 dX11_opensTo_45 rfl rfl ho45 rfl rfl rfl rfl rfl (Nat.le_of_ble_eq_true rfl) ?_
    exact H
  · have H := H.2 c
    refine r_goto (tgt := 86) dX11_opensTo_40 (by decide) ?_
    refine r_iinc (v := x3 + (1 : Int32)) dX11_opensTo_86 rfl rfl (by decide) rfl ?_
    refine r_goto (tgt := 21) dX11_opensTo_89 (by decide) ?_
    exact H
set_option maxRecDepth 100000 in
theorem bX11_opensTo_48 {d : Nat} {Q : Option MV → MS → Prop} {x1 : Int32} {x2 : Int32} {x3 : Int32} {σ : MS}  (H : (R mj_OM d mX11_flows (fun r σ' => R mj_OM (d + 1) mX11_opensTo Q 57 [some (rV 45 0), some (iV x1), some (iV x2), some (iV x3)] (r.toList ++ []) σ') 0 [some (rV 45 0), some (iV (1 : Int32)), some (iV x3), some (iV (2147483647 : Int32)), none, none, none] [] σ)) : R mj_OM (d + 1) mX11_opensTo Q 48 [some (rV 45 0), some (iV x1), some (iV x2), some (iV x3)] [] σ := by
  refine r_aload_n dX11_opensTo_48 rfl rfl ?_
  refine r_iconst (v := (1 : Int32)) dX11_opensTo_49 rfl ?_
  refine r_iload_n dX11_opensTo_50 rfl rfl ?_
  refine r_ldcw (v := (2147483647 : Int32)) oX11_399 dX11_opensTo_51 ?_
  refine r_callV (z := 3) (k := 45) (i := 0) (As := [iV (1 : Int32), iV x3, iV (2147483647 : Int32)]) (st := []) kX11_flows i_X11_flows e_X11_flows lX11_407 dX11_opensTo_54 rfl rfl ho45 rfl rfl rfl rfl rfl (Nat.le_of_ble_eq_true rfl) ?_
  exact H
set_option maxRecDepth 100000 in
theorem bX11_opensTo_57 {d : Nat} {Q : Option MV → MS → Prop} {x1 : Int32} {x2 : Int32} {x3 : Int32} {s0 : Int32} {σ : MS}  (H : (R mj_OM d mX11_takes (fun r σ' => R mj_OM (d + 1) mX11_opensTo Q 65 [some (rV 45 0), some (iV x1), some (iV x2), some (iV x3)] (r.toList ++ []) σ') 0 [some (rV 45 0), some (iV (x1 + (1 : Int32))), none] [] σ)) : R mj_OM (d + 1) mX11_opensTo Q 57 [some (rV 45 0), some (iV x1), some (iV x2), some (iV x3)] [iV s0] σ := by
  refine r_pop_i dX11_opensTo_57 ?_
  refine r_aload_n dX11_opensTo_58 rfl rfl ?_
  refine r_iload_n dX11_opensTo_59 rfl rfl ?_
  refine r_iconst (v := (1 : Int32)) dX11_opensTo_60 rfl ?_
  refine r_iadd dX11_opensTo_61 ?_
  refine r_callV (z := 1) (k := 45) (i := 0) (As := [iV (x1 + (1 : Int32))]) (st := []) kX11_takes i_X11_takes e_X11_takes lX11_513 dX11_opensTo_62 rfl rfl ho45 rfl rfl rfl rfl rfl (Nat.le_of_ble_eq_true rfl) ?_
  exact H
set_option maxRecDepth 100000 in
theorem bX11_opensTo_65 {d : Nat} {Q : Option MV → MS → Prop} {x1 : Int32} {x2 : Int32} {x3 : Int32} {σ : MS}  (H : (R mj_OM d mX11_opensTo (fun r σ' => R mj_OM (d + 1) mX11_opensTo Q 73 [some (rV 45 0), some (iV x1), some (iV x2), some (iV x3)] (r.toList ++ []) σ') 0 [some (rV 45 0), some (iV (x1 + (1 : Int32))), some (iV x2), none] [] σ)) : R mj_OM (d + 1) mX11_opensTo Q 65 [some (rV 45 0), some (iV x1), some (iV x2), some (iV x3)] [] σ := by
  refine r_aload_n dX11_opensTo_65 rfl rfl ?_
  refine r_iload_n dX11_opensTo_66 rfl rfl ?_
  refine r_iconst (v := (1 : Int32)) dX11_opensTo_67 rfl ?_
  refine r_iadd dX11_opensTo_68 ?_
  refine r_iload_n dX11_opensTo_69 rfl rfl ?_
  refine r_callV (z := 1) (k := 45) (i := 0) (As := [iV (x1 + (1 : Int32)), iV x2]) (st := []) kX11_opensTo i_X11_opensTo e_X11_opensTo lX11_516 dX11_opensTo_70 rfl rfl ho45 rfl rfl rfl rfl rfl (Nat.le_of_ble_eq_true rfl) ?_
  exact H
set_option maxRecDepth 100000 in
theorem bX11_opensTo_73 {d : Nat} {Q : Option MV → MS → Prop} {x1 : Int32} {x2 : Int32} {x3 : Int32} {s0 : Int32} {σ : MS}  (H : ((¬ s0 = 0 → Q (some (iV (1 : Int32))) (uI σ 45 0 54 x3)) ∧ (s0 = 0 → R mj_OM d mX11_opensTo Q 21 [some (rV 45 0), some (iV x1), some (iV x2), some (iV (x3 + (1 : Int32)))] [] σ))) : R mj_OM d mX11_opensTo Q 73 [some (rV 45 0), some (iV x1), some (iV x2), some (iV x3)] [iV s0] σ := by
  refine r_if_ne (tgt := 79) dX11_opensTo_73 (by decide) (fun c => ?_) (fun c => ?_)
  · have H := H.1 c
    refine r_aload_n dX11_opensTo_79 rfl rfl ?_
    refine r_iload_n dX11_opensTo_80 rfl rfl ?_
    refine r_putI (k := 45) (i := 0) (j := 54) (ty0 := tyX11) rfl rfl ho45 rfl hX11 (by decide) rfl fX11_519 dX11_opensTo_81 rfl tyX11_ok nmX11 rfl rfl rfl ?_
    refine r_iconst (v := (1 : Int32)) dX11_opensTo_84 rfl ?_
    exact r_zret dX11_opensTo_85 rfl (by decide) H
  · have H := H.2 c
    refine r_goto (tgt := 86) dX11_opensTo_76 (by decide) ?_
    refine r_iinc (v := x3 + (1 : Int32)) dX11_opensTo_86 rfl rfl (by decide) rfl ?_
    refine r_goto (tgt := 21) dX11_opensTo_89 (by decide) ?_
    exact H
set_option maxRecDepth 100000 in
theorem bX11_seeks_0 {d : Nat} {Q : Option MV → MS → Prop} {x1 : Int32} {x2 : Int32} {σ : MS}  (H : (R mj_OM d mX11_copies (fun r σ' => R mj_OM (d + 1) mX11_seeks Q 6 [some (rV 45 0), some (iV x1), some (iV x2)] (r.toList ++ []) σ') 0 [some (rV 45 0), some (iV (1 : Int32)), some (iV (0 : Int32)), none] [] σ)) : R mj_OM (d + 1) mX11_seeks Q 0 [some (rV 45 0), some (iV x1), some (iV x2)] [] σ := by
  refine r_aload_n dX11_seeks_0 rfl rfl ?_
  refine r_iconst (v := (1 : Int32)) dX11_seeks_1 rfl ?_
  refine r_iconst (v := (0 : Int32)) dX11_seeks_2 rfl ?_
  refine r_callV (z := 1) (k := 45) (i := 0) (As := [iV (1 : Int32), iV (0 : Int32)]) (st := []) kX11_copies i_X11_copies e_X11_copies lX11_474 dX11_seeks_3 rfl rfl ho45 rfl rfl rfl rfl rfl (Nat.le_of_ble_eq_true rfl) ?_
  exact H
set_option maxRecDepth 100000 in
theorem bX11_seeks_6 {d : Nat} {Q : Option MV → MS → Prop} {x1 : Int32} {x2 : Int32} {σ : MS}  (H : (R mj_OM d mX11_takes (fun r σ' => R mj_OM (d + 1) mX11_seeks Q 11 [some (rV 45 0), some (iV x1), some (iV x2)] (r.toList ++ []) σ') 0 [some (rV 45 0), some (iV (0 : Int32)), none] [] σ)) : R mj_OM (d + 1) mX11_seeks Q 6 [some (rV 45 0), some (iV x1), some (iV x2)] [] σ := by
  refine r_aload_n dX11_seeks_6 rfl rfl ?_
  refine r_iconst (v := (0 : Int32)) dX11_seeks_7 rfl ?_
  refine r_callV (z := 1) (k := 45) (i := 0) (As := [iV (0 : Int32)]) (st := []) kX11_takes i_X11_takes e_X11_takes lX11_513 dX11_seeks_8 rfl rfl ho45 rfl rfl rfl rfl rfl (Nat.le_of_ble_eq_true rfl) ?_
  exact H
set_option maxRecDepth 100000 in
theorem bX11_seeks_11 {d : Nat} {Q : Option MV → MS → Prop} {x1 : Int32} {x2 : Int32} {σ : MS}  (H : Q none (uI (uI (uI σ 45 0 54 (-2 : Int32)) 45 0 55 x1) 45 0 56 x2)) : R mj_OM d mX11_seeks Q 11 [some (rV 45 0), some (iV x1), some (iV x2)] [] σ := by
  refine r_aload_n dX11_seeks_11 rfl rfl ?_
  refine r_bipush (v := (-2 : Int32)) dX11_seeks_12 rfl ?_
  refine r_putI (k := 45) (i := 0) (j := 54) (ty0 := tyX11) rfl rfl ho45 rfl hX11 (by decide) rfl fX11_519 dX11_seeks_14 rfl tyX11_ok nmX11 rfl rfl rfl ?_
  refine r_aload_n dX11_seeks_17 rfl rfl ?_
  refine r_iload_n dX11_seeks_18 rfl rfl ?_
  refine r_putI (k := 45) (i := 0) (j := 55) (ty0 := tyX11) rfl rfl ho45 rfl hX11 (by decide) rfl fX11_504 dX11_seeks_19 rfl tyX11_ok nmX11 rfl rfl rfl ?_
  refine r_aload_n dX11_seeks_22 rfl rfl ?_
  refine r_iload_n dX11_seeks_23 rfl rfl ?_
  refine r_putI (k := 45) (i := 0) (j := 56) (ty0 := tyX11) rfl rfl ho45 rfl hX11 (by decide) rfl fX11_507 dX11_seeks_24 rfl tyX11_ok nmX11 rfl rfl rfl ?_
  exact r_vret dX11_seeks_27 rfl H
set_option maxRecDepth 100000 in
theorem bX11_fewestBy_0 {d : Nat} {Q : Option MV → MS → Prop} {x1 : Int32} {x2 : Int32} {σ : MS}  (H : (R mj_OM d mX11_seeks (fun r σ' => R mj_OM (d + 1) mX11_fewestBy Q 6 [some (rV 45 0), some (iV x1), some (iV x2), none] (r.toList ++ []) σ') 0 [some (rV 45 0), some (iV x1), some (iV x2)] [] σ)) : R mj_OM (d + 1) mX11_fewestBy Q 0 [some (rV 45 0), some (iV x1), some (iV x2), none] [] σ := by
  refine r_aload_n dX11_fewestBy_0 rfl rfl ?_
  refine r_iload_n dX11_fewestBy_1 rfl rfl ?_
  refine r_iload_n dX11_fewestBy_2 rfl rfl ?_
  refine r_callV (z := 0) (k := 45) (i := 0) (As := [iV x1, iV x2]) (st := []) kX11_seeks i_X11_seeks e_X11_seeks lX11_522 dX11_fewestBy_3 rfl rfl ho45 rfl rfl rfl rfl rfl (Nat.le_of_ble_eq_true rfl) ?_
  exact H
set_option maxRecDepth 100000 in
theorem bX11_fewestBy_6 {d : Nat} {Q : Option MV → MS → Prop} {x1 : Int32} {x2 : Int32} {σ : MS}  (H : R mj_OM d mX11_fewestBy Q 8 [some (rV 45 0), some (iV x1), some (iV x2), some (iV (0 : Int32))] [] σ) : R mj_OM d mX11_fewestBy Q 6 [some (rV 45 0), some (iV x1), some (iV x2), none] [] σ := by
  refine r_iconst (v := (0 : Int32)) dX11_fewestBy_6 rfl ?_
  refine r_istore_n dX11_fewestBy_7 rfl (by decide) rfl ?_
  exact H
set_option maxRecDepth 100000 in
theorem bX11_fewestBy_8 {d : Nat} {Q : Option MV → MS → Prop} {x1 : Int32} {x2 : Int32} {x3 : Int32} {σ : MS}  (H : (((4 : Int32) < x3 → Q (some (iV (-2 : Int32))) σ) ∧ (¬ (4 : Int32) < x3 → (R mj_OM d mX11_laysWater (fun r σ' => R mj_OM (d + 1) mX11_fewestBy Q 18 [some (rV 45 0), some (iV x1), some (iV x2), some (iV x3)] (r.toList ++ []) σ') 0 [some (rV 45 0), some (iV (0 : Int32)), none] [] σ)))) : R mj_OM (d + 1) mX11_fewestBy Q 8 [some (rV 45 0), some (iV x1), some (iV x2), some (iV x3)] [] σ := by
  refine r_iload_n dX11_fewestBy_8 rfl rfl ?_
  refine r_iconst (v := (4 : Int32)) dX11_fewestBy_9 rfl ?_
  refine r_icmp_gt (tgt := 35) dX11_fewestBy_10 (by decide) (fun c => ?_) (fun c => ?_)
  · have H := H.1 c
    refine r_bipush (v := (-2 : Int32)) dX11_fewestBy_35 rfl ?_
    exact r_iret dX11_fewestBy_37 rfl H
  · have H := H.2 c
    refine r_aload_n dX11_fewestBy_13 rfl rfl ?_
    refine r_iconst (v := (0 : Int32)) dX11_fewestBy_14 rfl ?_
    refine r_callV (z := 1) (k := 45) (i := 0) (As := [iV (0 : Int32)]) (st := []) kX11_laysWater i_X11_laysWater e_X11_laysWater lX11_510 dX11_fewestBy_15 rfl rfl ho45 rfl rfl rfl rfl rfl (Nat.le_of_ble_eq_true rfl) ?_
    exact H
set_option maxRecDepth 100000 in
theorem bX11_fewestBy_18 {d : Nat} {Q : Option MV → MS → Prop} {x1 : Int32} {x2 : Int32} {x3 : Int32} {σ : MS}  (H : (R mj_OM d mX11_opensTo (fun r σ' => R mj_OM (d + 1) mX11_fewestBy Q 24 [some (rV 45 0), some (iV x1), some (iV x2), some (iV x3)] (r.toList ++ []) σ') 0 [some (rV 45 0), some (iV (0 : Int32)), some (iV x3), none] [] σ)) : R mj_OM (d + 1) mX11_fewestBy Q 18 [some (rV 45 0), some (iV x1), some (iV x2), some (iV x3)] [] σ := by
  refine r_aload_n dX11_fewestBy_18 rfl rfl ?_
  refine r_iconst (v := (0 : Int32)) dX11_fewestBy_19 rfl ?_
  refine r_iload_n dX11_fewestBy_20 rfl rfl ?_
  refine r_callV (z := 1) (k := 45) (i := 0) (As := [iV (0 : Int32), iV x3]) (st := []) kX11_opensTo i_X11_opensTo e_X11_opensTo lX11_516 dX11_fewestBy_21 rfl rfl ho45 rfl rfl rfl rfl rfl (Nat.le_of_ble_eq_true rfl) ?_
  exact H
set_option maxRecDepth 100000 in
theorem bX11_fewestBy_24 {d : Nat} {Q : Option MV → MS → Prop} {x1 : Int32} {x2 : Int32} {x3 : Int32} {s0 : Int32} {σ : MS}  (H : ((s0 = 0 → R mj_OM d mX11_fewestBy Q 8 [some (rV 45 0), some (iV x1), some (iV x2), some (iV (x3 + (1 : Int32)))] [] σ) ∧ (¬ s0 = 0 → Q (some (iV x3)) σ))) : R mj_OM d mX11_fewestBy Q 24 [some (rV 45 0), some (iV x1), some (iV x2), some (iV x3)] [iV s0] σ := by
  refine r_if_eq (tgt := 29) dX11_fewestBy_24 (by decide) (fun c => ?_) (fun c => ?_)
  · have H := H.1 c
    refine r_iinc (v := x3 + (1 : Int32)) dX11_fewestBy_29 rfl rfl (by decide) rfl ?_
    refine r_goto (tgt := 8) dX11_fewestBy_32 (by decide) ?_
    exact H
  · have H := H.2 c
    refine r_iload_n dX11_fewestBy_27 rfl rfl ?_
    exact r_iret dX11_fewestBy_28 rfl H
set_option maxRecDepth 100000 in
theorem bX11_fewest_0 {d : Nat} {Q : Option MV → MS → Prop} {x1 : Int32} {x2 : Int32} {x3 : Int32} {σ : MS}  (H : (R mj_OM d mX11_isPond (fun r σ' => R mj_OM (d + 1) mX11_fewest Q 10 [some (rV 45 0), some (iV x1), some (iV x2), some (iV x3), none] (r.toList ++ []) σ') 0 [some (rV 45 0), some (iV x1)] [] (uI σ 45 0 0 (0 : Int32)))) : R mj_OM (d + 1) mX11_fewest Q 0 [some (rV 45 0), some (iV x1), some (iV x2), some (iV x3), none] [] σ := by
  refine r_aload_n dX11_fewest_0 rfl rfl ?_
  refine r_iconst (v := (0 : Int32)) dX11_fewest_1 rfl ?_
  refine r_putI (k := 45) (i := 0) (j := 0) (ty0 := tyX11) rfl rfl ho45 rfl hX11 (by decide) rfl fX11_151 dX11_fewest_2 rfl tyX11_ok nmX11 rfl rfl rfl ?_
  refine r_aload_n dX11_fewest_5 rfl rfl ?_
  refine r_iload_n dX11_fewest_6 rfl rfl ?_
  refine r_callV (z := 0) (k := 45) (i := 0) (As := [iV x1]) (st := []) kX11_isPond i_X11_isPond e_X11_isPond lX11_446 dX11_fewest_7 rfl rfl ho45 rfl rfl rfl rfl rfl (Nat.le_of_ble_eq_true rfl) ?_
  exact H
set_option maxRecDepth 100000 in
theorem bX11_fewest_10 {d : Nat} {Q : Option MV → MS → Prop} {x1 : Int32} {x2 : Int32} {x3 : Int32} {s0 : Int32} {σ : MS}  (H : ((s0 = 0 → Q (some (iV (-1 : Int32))) σ) ∧ (¬ s0 = 0 → (R mj_OM d mX11_isHeight (fun r σ' => R mj_OM (d + 1) mX11_fewest Q 17 [some (rV 45 0), some (iV x1), some (iV x2), some (iV x3), none] (r.toList ++ []) σ') 0 [some (iV x2)] [] σ)))) : R mj_OM (d + 1) mX11_fewest Q 10 [some (rV 45 0), some (iV x1), some (iV x2), some (iV x3), none] [iV s0] σ := by
  refine r_if_eq (tgt := 27) dX11_fewest_10 (by decide) (fun c => ?_) (fun c => ?_)
  · have H := H.1 c
    refine r_iconst (v := (-1 : Int32)) dX11_fewest_27 rfl ?_
    exact r_iret dX11_fewest_28 rfl H
  · have H := H.2 c
    refine r_iload_n dX11_fewest_13 rfl rfl ?_
    refine r_callS (z := 0) (As := [iV x2]) (st := []) kX11_isHeight s_X11_isHeight lX11_492 dX11_fewest_14 rfl rfl rfl rfl (Nat.le_of_ble_eq_true rfl) ?_
    exact H
set_option maxRecDepth 100000 in
theorem bX11_fewest_17 {d : Nat} {Q : Option MV → MS → Prop} {x1 : Int32} {x2 : Int32} {x3 : Int32} {s0 : Int32} {σ : MS}  (H : ((s0 = 0 → Q (some (iV (-1 : Int32))) σ) ∧ (¬ s0 = 0 → (R mj_OM d mX11_isPart (fun r σ' => R mj_OM (d + 1) mX11_fewest Q 24 [some (rV 45 0), some (iV x1), some (iV x2), some (iV x3), none] (r.toList ++ []) σ') 0 [some (iV x3)] [] σ)))) : R mj_OM (d + 1) mX11_fewest Q 17 [some (rV 45 0), some (iV x1), some (iV x2), some (iV x3), none] [iV s0] σ := by
  refine r_if_eq (tgt := 27) dX11_fewest_17 (by decide) (fun c => ?_) (fun c => ?_)
  · have H := H.1 c
    refine r_iconst (v := (-1 : Int32)) dX11_fewest_27 rfl ?_
    exact r_iret dX11_fewest_28 rfl H
  · have H := H.2 c
    refine r_iload_n dX11_fewest_20 rfl rfl ?_
    refine r_callS (z := 0) (As := [iV x3]) (st := []) kX11_isPart s_X11_isPart lX11_455 dX11_fewest_21 rfl rfl rfl rfl (Nat.le_of_ble_eq_true rfl) ?_
    exact H
set_option maxRecDepth 100000 in
theorem bX11_fewest_24 {d : Nat} {Q : Option MV → MS → Prop} {x1 : Int32} {x2 : Int32} {x3 : Int32} {s0 : Int32} {σ : MS}  (H : ((¬ s0 = 0 → (R mj_OM d mX11_fewestBy (fun r σ' => R mj_OM (d + 1) mX11_fewest Q 35 [some (rV 45 0), some (iV x1), some (iV x2), some (iV x3), none] (r.toList ++ []) σ') 0 [some (rV 45 0), some (iV x1), some (iV x2), none] [] σ)) ∧ (s0 = 0 → Q (some (iV (-1 : Int32))) σ))) : R mj_OM (d + 1) mX11_fewest Q 24 [some (rV 45 0), some (iV x1), some (iV x2), some (iV x3), none] [iV s0] σ := by
  refine r_if_ne (tgt := 29) dX11_fewest_24 (by decide) (fun c => ?_) (fun c => ?_)
  · have H := H.1 c
    refine r_aload_n dX11_fewest_29 rfl rfl ?_
    refine r_iload_n dX11_fewest_30 rfl rfl ?_
    refine r_iload_n dX11_fewest_31 rfl rfl ?_
    refine r_callV (z := 1) (k := 45) (i := 0) (As := [iV x1, iV x2]) (st := []) kX11_fewestBy i_X11_fewestBy e_X11_fewestBy lX11_525 dX11_fewest_32 rfl rfl ho45 rfl rfl rfl rfl rfl (Nat.le_of_ble_eq_true rfl) ?_
    exact H
  · have H := H.2 c
    refine r_iconst (v := (-1 : Int32)) dX11_fewest_27 rfl ?_
    exact r_iret dX11_fewest_28 rfl H
set_option maxRecDepth 100000 in
theorem bX11_fewest_35 {d : Nat} {Q : Option MV → MS → Prop} {x1 : Int32} {x2 : Int32} {x3 : Int32} {s0 : Int32} {σ : MS}  (H : ((x3 = 0 → Q (some (iV s0)) σ) ∧ (¬ x3 = 0 → ((0 ≤ s0 → Q (some (iV (σ.1 45 0 54))) σ) ∧ (¬ 0 ≤ s0 → Q (some (iV s0)) σ))))) : R mj_OM d mX11_fewest Q 35 [some (rV 45 0), some (iV x1), some (iV x2), some (iV x3), none] [iV s0] σ := by
  refine r_istore dX11_fewest_35 (by decide) rfl ?_
  refine r_iload_n dX11_fewest_37 rfl rfl ?_
  refine r_if_eq (tgt := 46) dX11_fewest_38 (by decide) (fun c => ?_) (fun c => ?_)
  · have H := H.1 c
    refine r_iload dX11_fewest_46 rfl ?_
    refine r_goto (tgt := 55) dX11_fewest_48 (by decide) ?_
    exact r_iret dX11_fewest_55 rfl H
  · have H := H.2 c
    refine r_iload dX11_fewest_41 rfl ?_
    refine r_if_ge (tgt := 51) dX11_fewest_43 (by decide) (fun c => ?_) (fun c => ?_)
    · have H := H.1 c
      refine r_aload_n dX11_fewest_51 rfl rfl ?_
      refine r_get (k := 45) (i := 0) (j := 54) (v := iV (σ.1 45 0 54)) rfl rfl ho45 rfl hX11 (by decide) rfl fX11_519 dX11_fewest_52 (fun _ => rfl) ?_
      exact r_iret dX11_fewest_55 rfl H
    · have H := H.2 c
      refine r_iload dX11_fewest_46 rfl ?_
      refine r_goto (tgt := 55) dX11_fewest_48 (by decide) ?_
      exact r_iret dX11_fewest_55 rfl H
set_option maxRecDepth 100000 in
theorem bX11_drawsBy_0 {d : Nat} {Q : Option MV → MS → Prop} {x1 : Int32} {σ : MS}  (H : (R mj_OM d mX11_isHigh (fun r σ' => R mj_OM (d + 1) mX11_drawsBy Q 13 [some (rV 45 0), some (iV x1), none] (r.toList ++ []) σ') 0 [some (rV 45 0), some (iV (1 : Int32)), some (iV (σ.1 45 0 55)), some (iV (σ.1 45 0 56))] [] σ)) : R mj_OM (d + 1) mX11_drawsBy Q 0 [some (rV 45 0), some (iV x1), none] [] σ := by
  refine r_aload_n dX11_drawsBy_0 rfl rfl ?_
  refine r_iconst (v := (1 : Int32)) dX11_drawsBy_1 rfl ?_
  refine r_aload_n dX11_drawsBy_2 rfl rfl ?_
  refine r_get (k := 45) (i := 0) (j := 55) (v := iV (σ.1 45 0 55)) rfl rfl ho45 rfl hX11 (by decide) rfl fX11_504 dX11_drawsBy_3 (fun _ => rfl) ?_
  refine r_aload_n dX11_drawsBy_6 rfl rfl ?_
  refine r_get (k := 45) (i := 0) (j := 56) (v := iV (σ.1 45 0 56)) rfl rfl ho45 rfl hX11 (by decide) rfl fX11_507 dX11_drawsBy_7 (fun _ => rfl) ?_
  refine r_callV (z := 0) (k := 45) (i := 0) (As := [iV (1 : Int32), iV (σ.1 45 0 55), iV (σ.1 45 0 56)]) (st := []) kX11_isHigh i_X11_isHigh e_X11_isHigh lX11_422 dX11_drawsBy_10 rfl rfl ho45 rfl rfl rfl rfl rfl (Nat.le_of_ble_eq_true rfl) ?_
  exact H
set_option maxRecDepth 100000 in
theorem bX11_drawsBy_13 {d : Nat} {Q : Option MV → MS → Prop} {x1 : Int32} {s0 : Int32} {σ : MS}  (H : ((s0 = 0 → R mj_OM (d + 1) mX11_drawsBy Q 68 [some (rV 45 0), some (iV x1), some (iV (0 : Int32))] [] σ) ∧ (¬ s0 = 0 → (vp_in (σ.1 45 0 57) 161 ∧ vp_in ((7 : Int32) + (σ.1 45 0 57)) 161 ∧ ((0 ≤ (σ.1 45 0 58) → R mj_OM (d + 1) mX11_drawsBy Q 68 [some (rV 45 0), some (iV x1), some (iV (0 : Int32))] [] (uI σ 45 0 58 (if (if (0 : Int32) < ((σ.1 74 0 (((σ.1 45 0 57)).toNatClampNeg)) - (σ.1 74 0 ((((7 : Int32) + (σ.1 45 0 57))).toNatClampNeg))) then ((σ.1 74 0 (((σ.1 45 0 57)).toNatClampNeg)) - (σ.1 74 0 ((((7 : Int32) + (σ.1 45 0 57))).toNatClampNeg))) else (0 : Int32)) < (σ.1 45 0 58) then (if (0 : Int32) < ((σ.1 74 0 (((σ.1 45 0 57)).toNatClampNeg)) - (σ.1 74 0 ((((7 : Int32) + (σ.1 45 0 57))).toNatClampNeg))) then ((σ.1 74 0 (((σ.1 45 0 57)).toNatClampNeg)) - (σ.1 74 0 ((((7 : Int32) + (σ.1 45 0 57))).toNatClampNeg))) else (0 : Int32)) else (σ.1 45 0 58)))) ∧ (¬ 0 ≤ (σ.1 45 0 58) → R mj_OM (d + 1) mX11_drawsBy Q 68 [some (rV 45 0), some (iV x1), some (iV (0 : Int32))] [] (uI σ 45 0 58 (if (0 : Int32) < ((σ.1 74 0 (((σ.1 45 0 57)).toNatClampNeg)) - (σ.1 74 0 ((((7 : Int32) + (σ.1 45 0 57))).toNatClampNeg))) then ((σ.1 74 0 (((σ.1 45 0 57)).toNatClampNeg)) - (σ.1 74 0 ((((7 : Int32) + (σ.1 45 0 57))).toNatClampNeg))) else (0 : Int32))))))))) : R mj_OM (d + 1) mX11_drawsBy Q 13 [some (rV 45 0), some (iV x1), none] [iV s0] σ := by
  refine r_if_eq (tgt := 66) dX11_drawsBy_13 (by decide) (fun c => ?_) (fun c => ?_)
  · have H := H.1 c
    refine r_iconst (v := (0 : Int32)) dX11_drawsBy_66 rfl ?_
    refine r_istore_n dX11_drawsBy_67 rfl (by decide) rfl ?_
    exact H
  · have H := H.2 c
    refine r_iconst (v := (0 : Int32)) dX11_drawsBy_16 rfl ?_
    refine r_aload_n dX11_drawsBy_17 rfl rfl ?_
    refine r_get (k := 45) (i := 0) (j := 44) (v := rV 74 0) rfl rfl ho45 rfl hX11 (by decide) rfl fX11_99 dX11_drawsBy_18 (fun _ => rfl) ?_
    refine r_aload_n dX11_drawsBy_21 rfl rfl ?_
    refine r_get (k := 45) (i := 0) (j := 57) (v := iV (σ.1 45 0 57)) rfl rfl ho45 rfl hX11 (by decide) rfl fX11_528 dX11_drawsBy_22 (fun _ => rfl) ?_
    obtain ⟨q1, H⟩ := H
    refine r_iald (k := 74) (i := 0) rfl ho74 q1 dX11_drawsBy_25 ?_
    refine r_aload_n dX11_drawsBy_26 rfl rfl ?_
    refine r_get (k := 45) (i := 0) (j := 44) (v := rV 74 0) rfl rfl ho45 rfl hX11 (by decide) rfl fX11_99 dX11_drawsBy_27 (fun _ => rfl) ?_
    refine r_bipush (v := (7 : Int32)) dX11_drawsBy_30 rfl ?_
    refine r_aload_n dX11_drawsBy_32 rfl rfl ?_
    refine r_get (k := 45) (i := 0) (j := 57) (v := iV (σ.1 45 0 57)) rfl rfl ho45 rfl hX11 (by decide) rfl fX11_528 dX11_drawsBy_33 (fun _ => rfl) ?_
    refine r_iadd dX11_drawsBy_36 ?_
    obtain ⟨q2, H⟩ := H
    refine r_iald (k := 74) (i := 0) rfl ho74 q2 dX11_drawsBy_37 ?_
    refine r_isub dX11_drawsBy_38 ?_
    refine r_mmax lX11_414 dX11_drawsBy_39 (Nat.le_of_ble_eq_true rfl) ?_
    refine r_istore_n dX11_drawsBy_42 rfl (by decide) rfl ?_
    refine r_aload_n dX11_drawsBy_43 rfl rfl ?_
    refine r_aload_n dX11_drawsBy_44 rfl rfl ?_
    refine r_get (k := 45) (i := 0) (j := 58) (v := iV (σ.1 45 0 58)) rfl rfl ho45 rfl hX11 (by decide) rfl fX11_531 dX11_drawsBy_45 (fun _ => rfl) ?_
    refine r_if_ge (tgt := 55) dX11_drawsBy_48 (by decide) (fun c => ?_) (fun c => ?_)
    · have H := H.1 c
      refine r_aload_n dX11_drawsBy_55 rfl rfl ?_
      refine r_get (k := 45) (i := 0) (j := 58) (v := iV (σ.1 45 0 58)) rfl rfl ho45 rfl hX11 (by decide) rfl fX11_531 dX11_drawsBy_56 (fun _ => rfl) ?_
      refine r_iload_n dX11_drawsBy_59 rfl rfl ?_
      refine r_mmin lX11_359 dX11_drawsBy_60 (Nat.le_of_ble_eq_true rfl) ?_
      refine r_putI (k := 45) (i := 0) (j := 58) (ty0 := tyX11) rfl rfl ho45 rfl hX11 (by decide) rfl fX11_531 dX11_drawsBy_63 rfl tyX11_ok nmX11 rfl rfl rfl ?_
      refine r_iconst (v := (0 : Int32)) dX11_drawsBy_66 rfl ?_
      refine r_istore_n dX11_drawsBy_67 rfl (by decide) rfl ?_
      exact H
    · have H := H.2 c
      refine r_iload_n dX11_drawsBy_51 rfl rfl ?_
      refine r_goto (tgt := 63) dX11_drawsBy_52 (by decide) ?_
      refine r_putI (k := 45) (i := 0) (j := 58) (ty0 := tyX11) rfl rfl ho45 rfl hX11 (by decide) rfl fX11_531 dX11_drawsBy_63 rfl tyX11_ok nmX11 rfl rfl rfl ?_
      refine r_iconst (v := (0 : Int32)) dX11_drawsBy_66 rfl ?_
      refine r_istore_n dX11_drawsBy_67 rfl (by decide) rfl ?_
      exact H
set_option maxRecDepth 100000 in
theorem bX11_drawsBy_68 {d : Nat} {Q : Option MV → MS → Prop} {x1 : Int32} {x2 : Int32} {σ : MS}  (H : (vp_in (2 : Int32) 18 ∧ (((σ.1 47 0 2) ≤ x2 → Q none σ) ∧ (¬ (σ.1 47 0 2) ≤ x2 → (((4 : Int32) ≤ x1 → Q none σ) ∧ (¬ (4 : Int32) ≤ x1 → (R mj_OM d mX11_isJammed (fun r σ' => R mj_OM (d + 1) mX11_drawsBy Q 89 [some (rV 45 0), some (iV x1), some (iV x2)] (r.toList ++ []) σ') 0 [some (rV 45 0), some (iV (0 : Int32)), some (iV x2)] [] σ))))))) : R mj_OM (d + 1) mX11_drawsBy Q 68 [some (rV 45 0), some (iV x1), some (iV x2)] [] σ := by
  refine r_iload_n dX11_drawsBy_68 rfl rfl ?_
  refine r_aload_n dX11_drawsBy_69 rfl rfl ?_
  refine r_get (k := 45) (i := 0) (j := 3) (v := rV 47 0) rfl rfl ho45 rfl hX11 (by decide) rfl fX11_13 dX11_drawsBy_70 (fun _ => rfl) ?_
  refine r_iconst (v := (2 : Int32)) dX11_drawsBy_73 rfl ?_
  obtain ⟨q1, H⟩ := H
  refine r_iald (k := 47) (i := 0) rfl ho47 q1 dX11_drawsBy_74 ?_
  refine r_icmp_ge (tgt := 130) dX11_drawsBy_75 (by decide) (fun c => ?_) (fun c => ?_)
  · have H := H.1 c
    exact r_vret dX11_drawsBy_130 rfl H
  · have H := H.2 c
    refine r_iload_n dX11_drawsBy_78 rfl rfl ?_
    refine r_iconst (v := (4 : Int32)) dX11_drawsBy_79 rfl ?_
    refine r_icmp_ge (tgt := 130) dX11_drawsBy_80 (by decide) (fun c => ?_) (fun c => ?_)
    · have H := H.1 c
      exact r_vret dX11_drawsBy_130 rfl H
    · have H := H.2 c
      refine r_aload_n dX11_drawsBy_83 rfl rfl ?_
      refine r_iconst (v := (0 : Int32)) dX11_drawsBy_84 rfl ?_
      refine r_iload_n dX11_drawsBy_85 rfl rfl ?_
      refine r_callV (z := 0) (k := 45) (i := 0) (As := [iV (0 : Int32), iV x2]) (st := []) kX11_isJammed i_X11_isJammed e_X11_isJammed lX11_368 dX11_drawsBy_86 rfl rfl ho45 rfl rfl rfl rfl rfl (Nat.le_of_ble_eq_true rfl) ?_
      exact H
set_option maxRecDepth 100000 in
theorem bX11_drawsBy_89 {d : Nat} {Q : Option MV → MS → Prop} {x1 : Int32} {x2 : Int32} {s0 : Int32} {σ : MS}  (H : ((s0 = 0 → (R mj_OM d mX11_laysWater (fun r σ' => R mj_OM (d + 1) mX11_drawsBy Q 100 [some (rV 45 0), some (iV x1), some (iV x2)] (r.toList ++ []) σ') 0 [some (rV 45 0), some (iV x1), none] [] σ)) ∧ (¬ s0 = 0 → R mj_OM (d + 1) mX11_drawsBy Q 68 [some (rV 45 0), some (iV x1), some (iV (x2 + (1 : Int32)))] [] σ))) : R mj_OM (d + 1) mX11_drawsBy Q 89 [some (rV 45 0), some (iV x1), some (iV x2)] [iV s0] σ := by
  refine r_if_eq (tgt := 95) dX11_drawsBy_89 (by decide) (fun c => ?_) (fun c => ?_)
  · have H := H.1 c
    refine r_aload_n dX11_drawsBy_95 rfl rfl ?_
    refine r_iload_n dX11_drawsBy_96 rfl rfl ?_
    refine r_callV (z := 1) (k := 45) (i := 0) (As := [iV x1]) (st := []) kX11_laysWater i_X11_laysWater e_X11_laysWater lX11_510 dX11_drawsBy_97 rfl rfl ho45 rfl rfl rfl rfl rfl (Nat.le_of_ble_eq_true rfl) ?_
    exact H
  · have H := H.2 c
    refine r_goto (tgt := 124) dX11_drawsBy_92 (by decide) ?_
    refine r_iinc (v := x2 + (1 : Int32)) dX11_drawsBy_124 rfl rfl (by decide) rfl ?_
    refine r_goto (tgt := 68) dX11_drawsBy_127 (by decide) ?_
    exact H
set_option maxRecDepth 100000 in
theorem bX11_drawsBy_100 {d : Nat} {Q : Option MV → MS → Prop} {x1 : Int32} {x2 : Int32} {σ : MS}  (H : (R mj_OM d mX11_flows (fun r σ' => R mj_OM (d + 1) mX11_drawsBy Q 109 [some (rV 45 0), some (iV x1), some (iV x2)] (r.toList ++ []) σ') 0 [some (rV 45 0), some (iV (1 : Int32)), some (iV x2), some (iV (2147483647 : Int32)), none, none, none] [] σ)) : R mj_OM (d + 1) mX11_drawsBy Q 100 [some (rV 45 0), some (iV x1), some (iV x2)] [] σ := by
  refine r_aload_n dX11_drawsBy_100 rfl rfl ?_
  refine r_iconst (v := (1 : Int32)) dX11_drawsBy_101 rfl ?_
  refine r_iload_n dX11_drawsBy_102 rfl rfl ?_
  refine r_ldcw (v := (2147483647 : Int32)) oX11_399 dX11_drawsBy_103 ?_
  refine r_callV (z := 3) (k := 45) (i := 0) (As := [iV (1 : Int32), iV x2, iV (2147483647 : Int32)]) (st := []) kX11_flows i_X11_flows e_X11_flows lX11_407 dX11_drawsBy_106 rfl rfl ho45 rfl rfl rfl rfl rfl (Nat.le_of_ble_eq_true rfl) ?_
  exact H
set_option maxRecDepth 100000 in
theorem bX11_drawsBy_109 {d : Nat} {Q : Option MV → MS → Prop} {x1 : Int32} {x2 : Int32} {s0 : Int32} {σ : MS}  (H : (R mj_OM d mX11_takes (fun r σ' => R mj_OM (d + 1) mX11_drawsBy Q 117 [some (rV 45 0), some (iV x1), some (iV x2)] (r.toList ++ []) σ') 0 [some (rV 45 0), some (iV (x1 + (1 : Int32))), none] [] σ)) : R mj_OM (d + 1) mX11_drawsBy Q 109 [some (rV 45 0), some (iV x1), some (iV x2)] [iV s0] σ := by
  refine r_pop_i dX11_drawsBy_109 ?_
  refine r_aload_n dX11_drawsBy_110 rfl rfl ?_
  refine r_iload_n dX11_drawsBy_111 rfl rfl ?_
  refine r_iconst (v := (1 : Int32)) dX11_drawsBy_112 rfl ?_
  refine r_iadd dX11_drawsBy_113 ?_
  refine r_callV (z := 1) (k := 45) (i := 0) (As := [iV (x1 + (1 : Int32))]) (st := []) kX11_takes i_X11_takes e_X11_takes lX11_513 dX11_drawsBy_114 rfl rfl ho45 rfl rfl rfl rfl rfl (Nat.le_of_ble_eq_true rfl) ?_
  exact H
set_option maxRecDepth 100000 in
theorem bX11_drawsBy_117 {d : Nat} {Q : Option MV → MS → Prop} {x1 : Int32} {x2 : Int32} {σ : MS}  (H : (R mj_OM d mX11_drawsBy (fun r σ' => R mj_OM (d + 1) mX11_drawsBy Q 124 [some (rV 45 0), some (iV x1), some (iV x2)] (r.toList ++ []) σ') 0 [some (rV 45 0), some (iV (x1 + (1 : Int32))), none] [] σ)) : R mj_OM (d + 1) mX11_drawsBy Q 117 [some (rV 45 0), some (iV x1), some (iV x2)] [] σ := by
  refine r_aload_n dX11_drawsBy_117 rfl rfl ?_
  refine r_iload_n dX11_drawsBy_118 rfl rfl ?_
  refine r_iconst (v := (1 : Int32)) dX11_drawsBy_119 rfl ?_
  refine r_iadd dX11_drawsBy_120 ?_
  refine r_callV (z := 1) (k := 45) (i := 0) (As := [iV (x1 + (1 : Int32))]) (st := []) kX11_drawsBy i_X11_drawsBy e_X11_drawsBy lX11_534 dX11_drawsBy_121 rfl rfl ho45 rfl rfl rfl rfl rfl (Nat.le_of_ble_eq_true rfl) ?_
  exact H
set_option maxRecDepth 100000 in
theorem bX11_drawsBy_124 {d : Nat} {Q : Option MV → MS → Prop} {x1 : Int32} {x2 : Int32} {σ : MS}  (H : R mj_OM d mX11_drawsBy Q 68 [some (rV 45 0), some (iV x1), some (iV (x2 + (1 : Int32)))] [] σ) : R mj_OM d mX11_drawsBy Q 124 [some (rV 45 0), some (iV x1), some (iV x2)] [] σ := by
  refine r_iinc (v := x2 + (1 : Int32)) dX11_drawsBy_124 rfl rfl (by decide) rfl ?_
  refine r_goto (tgt := 68) dX11_drawsBy_127 (by decide) ?_
  exact H
set_option maxRecDepth 100000 in
theorem bX11_draws_0 {d : Nat} {Q : Option MV → MS → Prop} {x1 : Int32} {x2 : Int32} {x3 : Int32} {σ : MS}  (H : (R mj_OM d mX11_isPond (fun r σ' => R mj_OM (d + 1) mX11_draws Q 10 [some (rV 45 0), some (iV x1), some (iV x2), some (iV x3)] (r.toList ++ []) σ') 0 [some (rV 45 0), some (iV x1)] [] (uI σ 45 0 0 (0 : Int32)))) : R mj_OM (d + 1) mX11_draws Q 0 [some (rV 45 0), some (iV x1), some (iV x2), some (iV x3)] [] σ := by
  refine r_aload_n dX11_draws_0 rfl rfl ?_
  refine r_iconst (v := (0 : Int32)) dX11_draws_1 rfl ?_
  refine r_putI (k := 45) (i := 0) (j := 0) (ty0 := tyX11) rfl rfl ho45 rfl hX11 (by decide) rfl fX11_151 dX11_draws_2 rfl tyX11_ok nmX11 rfl rfl rfl ?_
  refine r_aload_n dX11_draws_5 rfl rfl ?_
  refine r_iload_n dX11_draws_6 rfl rfl ?_
  refine r_callV (z := 0) (k := 45) (i := 0) (As := [iV x1]) (st := []) kX11_isPond i_X11_isPond e_X11_isPond lX11_446 dX11_draws_7 rfl rfl ho45 rfl rfl rfl rfl rfl (Nat.le_of_ble_eq_true rfl) ?_
  exact H
set_option maxRecDepth 100000 in
theorem bX11_draws_10 {d : Nat} {Q : Option MV → MS → Prop} {x1 : Int32} {x2 : Int32} {x3 : Int32} {s0 : Int32} {σ : MS}  (H : ((s0 = 0 → Q (some (iV (-1 : Int32))) σ) ∧ (¬ s0 = 0 → (R mj_OM d mX11_isHeight (fun r σ' => R mj_OM (d + 1) mX11_draws Q 17 [some (rV 45 0), some (iV x1), some (iV x2), some (iV x3)] (r.toList ++ []) σ') 0 [some (iV x2)] [] σ)))) : R mj_OM (d + 1) mX11_draws Q 10 [some (rV 45 0), some (iV x1), some (iV x2), some (iV x3)] [iV s0] σ := by
  refine r_if_eq (tgt := 33) dX11_draws_10 (by decide) (fun c => ?_) (fun c => ?_)
  · have H := H.1 c
    refine r_iconst (v := (-1 : Int32)) dX11_draws_33 rfl ?_
    exact r_iret dX11_draws_34 rfl H
  · have H := H.2 c
    refine r_iload_n dX11_draws_13 rfl rfl ?_
    refine r_callS (z := 0) (As := [iV x2]) (st := []) kX11_isHeight s_X11_isHeight lX11_492 dX11_draws_14 rfl rfl rfl rfl (Nat.le_of_ble_eq_true rfl) ?_
    exact H
set_option maxRecDepth 100000 in
theorem bX11_draws_17 {d : Nat} {Q : Option MV → MS → Prop} {x1 : Int32} {x2 : Int32} {x3 : Int32} {s0 : Int32} {σ : MS}  (H : ((s0 = 0 → Q (some (iV (-1 : Int32))) σ) ∧ (¬ s0 = 0 → (R mj_OM d mX11_isPond (fun r σ' => R mj_OM (d + 1) mX11_draws Q 25 [some (rV 45 0), some (iV x1), some (iV x2), some (iV x3)] (r.toList ++ []) σ') 0 [some (rV 45 0), some (iV x3)] [] σ)))) : R mj_OM (d + 1) mX11_draws Q 17 [some (rV 45 0), some (iV x1), some (iV x2), some (iV x3)] [iV s0] σ := by
  refine r_if_eq (tgt := 33) dX11_draws_17 (by decide) (fun c => ?_) (fun c => ?_)
  · have H := H.1 c
    refine r_iconst (v := (-1 : Int32)) dX11_draws_33 rfl ?_
    exact r_iret dX11_draws_34 rfl H
  · have H := H.2 c
    refine r_aload_n dX11_draws_20 rfl rfl ?_
    refine r_iload_n dX11_draws_21 rfl rfl ?_
    refine r_callV (z := 0) (k := 45) (i := 0) (As := [iV x3]) (st := []) kX11_isPond i_X11_isPond e_X11_isPond lX11_446 dX11_draws_22 rfl rfl ho45 rfl rfl rfl rfl rfl (Nat.le_of_ble_eq_true rfl) ?_
    exact H
set_option maxRecDepth 100000 in
theorem bX11_draws_25 {d : Nat} {Q : Option MV → MS → Prop} {x1 : Int32} {x2 : Int32} {x3 : Int32} {s0 : Int32} {σ : MS}  (H : ((s0 = 0 → Q (some (iV (-1 : Int32))) σ) ∧ (¬ s0 = 0 → ((¬ x1 = x3 → (R mj_OM d mX11_seeks (fun r σ' => R mj_OM (d + 1) mX11_draws Q 41 [some (rV 45 0), some (iV x1), some (iV x2), some (iV x3)] (r.toList ++ []) σ') 0 [some (rV 45 0), some (iV x1), some (iV x2)] [] σ)) ∧ (x1 = x3 → Q (some (iV (-1 : Int32))) σ))))) : R mj_OM (d + 1) mX11_draws Q 25 [some (rV 45 0), some (iV x1), some (iV x2), some (iV x3)] [iV s0] σ := by
  refine r_if_eq (tgt := 33) dX11_draws_25 (by decide) (fun c => ?_) (fun c => ?_)
  · have H := H.1 c
    refine r_iconst (v := (-1 : Int32)) dX11_draws_33 rfl ?_
    exact r_iret dX11_draws_34 rfl H
  · have H := H.2 c
    refine r_iload_n dX11_draws_28 rfl rfl ?_
    refine r_iload_n dX11_draws_29 rfl rfl ?_
    refine r_icmp_ne (tgt := 35) dX11_draws_30 (by decide) (fun c => ?_) (fun c => ?_)
    · have H := H.1 c
      refine r_aload_n dX11_draws_35 rfl rfl ?_
      refine r_iload_n dX11_draws_36 rfl rfl ?_
      refine r_iload_n dX11_draws_37 rfl rfl ?_
      refine r_callV (z := 0) (k := 45) (i := 0) (As := [iV x1, iV x2]) (st := []) kX11_seeks i_X11_seeks e_X11_seeks lX11_522 dX11_draws_38 rfl rfl ho45 rfl rfl rfl rfl rfl (Nat.le_of_ble_eq_true rfl) ?_
      exact H
    · have H := H.2 c
      refine r_iconst (v := (-1 : Int32)) dX11_draws_33 rfl ?_
      exact r_iret dX11_draws_34 rfl H
set_option maxRecDepth 100000 in
theorem bX11_draws_41 {d : Nat} {Q : Option MV → MS → Prop} {x1 : Int32} {x2 : Int32} {x3 : Int32} {σ : MS}  (H : (R mj_OM d mX11_drawsBy (fun r σ' => R mj_OM (d + 1) mX11_draws Q 57 [some (rV 45 0), some (iV x1), some (iV x2), some (iV x3)] (r.toList ++ []) σ') 0 [some (rV 45 0), some (iV (0 : Int32)), none] [] (uI (uI σ 45 0 57 x3) 45 0 58 (-2 : Int32)))) : R mj_OM (d + 1) mX11_draws Q 41 [some (rV 45 0), some (iV x1), some (iV x2), some (iV x3)] [] σ := by
  refine r_aload_n dX11_draws_41 rfl rfl ?_
  refine r_iload_n dX11_draws_42 rfl rfl ?_
  refine r_putI (k := 45) (i := 0) (j := 57) (ty0 := tyX11) rfl rfl ho45 rfl hX11 (by decide) rfl fX11_528 dX11_draws_43 rfl tyX11_ok nmX11 rfl rfl rfl ?_
  refine r_aload_n dX11_draws_46 rfl rfl ?_
  refine r_bipush (v := (-2 : Int32)) dX11_draws_47 rfl ?_
  refine r_putI (k := 45) (i := 0) (j := 58) (ty0 := tyX11) rfl rfl ho45 rfl hX11 (by decide) rfl fX11_531 dX11_draws_49 rfl tyX11_ok nmX11 rfl rfl rfl ?_
  refine r_aload_n dX11_draws_52 rfl rfl ?_
  refine r_iconst (v := (0 : Int32)) dX11_draws_53 rfl ?_
  refine r_callV (z := 1) (k := 45) (i := 0) (As := [iV (0 : Int32)]) (st := []) kX11_drawsBy i_X11_drawsBy e_X11_drawsBy lX11_534 dX11_draws_54 rfl rfl ho45 rfl rfl rfl rfl rfl (Nat.le_of_ble_eq_true rfl) ?_
  exact H
set_option maxRecDepth 100000 in
theorem bX11_draws_57 {d : Nat} {Q : Option MV → MS → Prop} {x1 : Int32} {x2 : Int32} {x3 : Int32} {σ : MS}  (H : Q (some (iV (σ.1 45 0 58))) σ) : R mj_OM d mX11_draws Q 57 [some (rV 45 0), some (iV x1), some (iV x2), some (iV x3)] [] σ := by
  refine r_aload_n dX11_draws_57 rfl rfl ?_
  refine r_get (k := 45) (i := 0) (j := 58) (v := iV (σ.1 45 0 58)) rfl rfl ho45 rfl hX11 (by decide) rfl fX11_531 dX11_draws_58 (fun _ => rfl) ?_
  exact r_iret dX11_draws_61 rfl H
set_option maxRecDepth 100000 in
theorem bX11_highest_0 {d : Nat} {Q : Option MV → MS → Prop} {x1 : Int32} {σ : MS}  (H : (R mj_OM d mX11_isPart (fun r σ' => R mj_OM (d + 1) mX11_highest Q 9 [some (rV 45 0), some (iV x1), none, none, none] (r.toList ++ []) σ') 0 [some (iV x1)] [] (uI σ 45 0 0 (0 : Int32)))) : R mj_OM (d + 1) mX11_highest Q 0 [some (rV 45 0), some (iV x1), none, none, none] [] σ := by
  refine r_aload_n dX11_highest_0 rfl rfl ?_
  refine r_iconst (v := (0 : Int32)) dX11_highest_1 rfl ?_
  refine r_putI (k := 45) (i := 0) (j := 0) (ty0 := tyX11) rfl rfl ho45 rfl hX11 (by decide) rfl fX11_151 dX11_highest_2 rfl tyX11_ok nmX11 rfl rfl rfl ?_
  refine r_iload_n dX11_highest_5 rfl rfl ?_
  refine r_callS (z := 0) (As := [iV x1]) (st := []) kX11_isPart s_X11_isPart lX11_455 dX11_highest_6 rfl rfl rfl rfl (Nat.le_of_ble_eq_true rfl) ?_
  exact H
set_option maxRecDepth 100000 in
theorem bX11_highest_9 {d : Nat} {Q : Option MV → MS → Prop} {x1 : Int32} {s0 : Int32} {σ : MS}  (H : ((¬ s0 = 0 → R mj_OM d mX11_highest Q 19 [some (rV 45 0), some (iV x1), some (iV (-2 : Int32)), some (iV (0 : Int32)), none] [] σ) ∧ (s0 = 0 → Q (some (iV (-1 : Int32))) σ))) : R mj_OM d mX11_highest Q 9 [some (rV 45 0), some (iV x1), none, none, none] [iV s0] σ := by
  refine r_if_ne (tgt := 14) dX11_highest_9 (by decide) (fun c => ?_) (fun c => ?_)
  · have H := H.1 c
    refine r_bipush (v := (-2 : Int32)) dX11_highest_14 rfl ?_
    refine r_istore_n dX11_highest_16 rfl (by decide) rfl ?_
    refine r_iconst (v := (0 : Int32)) dX11_highest_17 rfl ?_
    refine r_istore_n dX11_highest_18 rfl (by decide) rfl ?_
    exact H
  · have H := H.2 c
    refine r_iconst (v := (-1 : Int32)) dX11_highest_12 rfl ?_
    exact r_iret dX11_highest_13 rfl H
set_option maxRecDepth 100000 in
theorem bX11_highest_19 {d : Nat} {Q : Option MV → MS → Prop} {x1 : Int32} {x2 : Int32} {x3 : Int32} {σ : MS}  (H : (vp_in (0 : Int32) 18 ∧ (((σ.1 47 0 0) ≤ x3 → Q (some (iV x2)) σ) ∧ (¬ (σ.1 47 0 0) ≤ x3 → ((0 ≤ x2 → (R mj_OM d mX11_higherBy (fun r σ' => R mj_OM (d + 1) mX11_highest Q 44 [some (rV 45 0), some (iV x1), some (iV x2), some (iV x3), none] (r.toList ++ []) σ') 0 [some (rV 45 0), some (iV (0 : Int32)), some (iV x3), some (iV x2)] [] σ)) ∧ (¬ 0 ≤ x2 → ((x2 < 0 → R mj_OM (d + 1) mX11_highest Q 19 [some (rV 45 0), some (iV x1), some (iV x3), some (iV (x3 + (1 : Int32))), none] [] σ) ∧ (¬ x2 < 0 → ((¬ x1 = 0 → ((0 ≤ (1 : Int32) → R mj_OM (d + 1) mX11_highest Q 19 [some (rV 45 0), some (iV x1), some (iV x2), some (iV (x3 + (1 : Int32))), none] [] σ) ∧ (¬ 0 ≤ (1 : Int32) → R mj_OM (d + 1) mX11_highest Q 19 [some (rV 45 0), some (iV x1), some (iV x3), some (iV (x3 + (1 : Int32))), none] [] σ))) ∧ (x1 = 0 → (((1 : Int32) ≤ 0 → R mj_OM (d + 1) mX11_highest Q 19 [some (rV 45 0), some (iV x1), some (iV x2), some (iV (x3 + (1 : Int32))), none] [] σ) ∧ (¬ (1 : Int32) ≤ 0 → R mj_OM (d + 1) mX11_highest Q 19 [some (rV 45 0), some (iV x1), some (iV x3), some (iV (x3 + (1 : Int32))), none] [] σ)))))))))))) : R mj_OM (d + 1) mX11_highest Q 19 [some (rV 45 0), some (iV x1), some (iV x2), some (iV x3), none] [] σ := by
  refine r_iload_n dX11_highest_19 rfl rfl ?_
  refine r_aload_n dX11_highest_20 rfl rfl ?_
  refine r_get (k := 45) (i := 0) (j := 3) (v := rV 47 0) rfl rfl ho45 rfl hX11 (by decide) rfl fX11_13 dX11_highest_21 (fun _ => rfl) ?_
  refine r_iconst (v := (0 : Int32)) dX11_highest_24 rfl ?_
  obtain ⟨q1, H⟩ := H
  refine r_iald (k := 47) (i := 0) rfl ho47 q1 dX11_highest_25 ?_
  refine r_icmp_ge (tgt := 75) dX11_highest_26 (by decide) (fun c => ?_) (fun c => ?_)
  · have H := H.1 c
    refine r_iload_n dX11_highest_75 rfl rfl ?_
    exact r_iret dX11_highest_76 rfl H
  · have H := H.2 c
    refine r_iload_n dX11_highest_29 rfl rfl ?_
    refine r_if_ge (tgt := 37) dX11_highest_30 (by decide) (fun c => ?_) (fun c => ?_)
    · have H := H.1 c
      refine r_aload_n dX11_highest_37 rfl rfl ?_
      refine r_iconst (v := (0 : Int32)) dX11_highest_38 rfl ?_
      refine r_iload_n dX11_highest_39 rfl rfl ?_
      refine r_iload_n dX11_highest_40 rfl rfl ?_
      refine r_callV (z := 0) (k := 45) (i := 0) (As := [iV (0 : Int32), iV x3, iV x2]) (st := []) kX11_higherBy i_X11_higherBy e_X11_higherBy lX11_349 dX11_highest_41 rfl rfl ho45 rfl rfl rfl rfl rfl (Nat.le_of_ble_eq_true rfl) ?_
      exact H
    · have H := H.2 c
      refine r_iconst (v := (1 : Int32)) dX11_highest_33 rfl ?_
      refine r_goto (tgt := 44) dX11_highest_34 (by decide) ?_
      refine r_istore dX11_highest_44 (by decide) rfl ?_
      refine r_iload_n dX11_highest_46 rfl rfl ?_
      refine r_if_lt (tgt := 67) dX11_highest_47 (by decide) (fun c => ?_) (fun c => ?_)
      · have H := H.1 c
        refine r_iload_n dX11_highest_67 rfl rfl ?_
        refine r_istore_n dX11_highest_68 rfl (by decide) rfl ?_
        refine r_iinc (v := x3 + (1 : Int32)) dX11_highest_69 rfl rfl (by decide) rfl ?_
        refine r_goto (tgt := 19) dX11_highest_72 (by decide) ?_
        exact R.fw (ls' := [some (rV 45 0), some (iV x1), some (iV x3), some (iV (x3 + (1 : Int32))), none]) ⟨rfl, ⟨rfl, ⟨rfl, ⟨rfl, trivial⟩⟩⟩⟩ H
      · have H := H.2 c
        refine r_iload_n dX11_highest_50 rfl rfl ?_
        refine r_if_ne (tgt := 62) dX11_highest_51 (by decide) (fun c => ?_) (fun c => ?_)
        · have H := H.1 c
          refine r_iload dX11_highest_62 rfl ?_
          refine r_if_ge (tgt := 69) dX11_highest_64 (by decide) (fun c => ?_) (fun c => ?_)
          · have H := H.1 c
            refine r_iinc (v := x3 + (1 : Int32)) dX11_highest_69 rfl rfl (by decide) rfl ?_
            refine r_goto (tgt := 19) dX11_highest_72 (by decide) ?_
            exact R.fw (ls' := [some (rV 45 0), some (iV x1), some (iV x2), some (iV (x3 + (1 : Int32))), none]) ⟨rfl, ⟨rfl, ⟨rfl, ⟨rfl, trivial⟩⟩⟩⟩ H
          · have H := H.2 c
            refine r_iload_n dX11_highest_67 rfl rfl ?_
            refine r_istore_n dX11_highest_68 rfl (by decide) rfl ?_
            refine r_iinc (v := x3 + (1 : Int32)) dX11_highest_69 rfl rfl (by decide) rfl ?_
            refine r_goto (tgt := 19) dX11_highest_72 (by decide) ?_
            exact R.fw (ls' := [some (rV 45 0), some (iV x1), some (iV x3), some (iV (x3 + (1 : Int32))), none]) ⟨rfl, ⟨rfl, ⟨rfl, ⟨rfl, trivial⟩⟩⟩⟩ H
        · have H := H.2 c
          refine r_iload dX11_highest_54 rfl ?_
          refine r_if_le (tgt := 69) dX11_highest_56 (by decide) (fun c => ?_) (fun c => ?_)
          · have H := H.1 c
            refine r_iinc (v := x3 + (1 : Int32)) dX11_highest_69 rfl rfl (by decide) rfl ?_
            refine r_goto (tgt := 19) dX11_highest_72 (by decide) ?_
            exact R.fw (ls' := [some (rV 45 0), some (iV x1), some (iV x2), some (iV (x3 + (1 : Int32))), none]) ⟨rfl, ⟨rfl, ⟨rfl, ⟨rfl, trivial⟩⟩⟩⟩ H
          · have H := H.2 c
            refine r_goto (tgt := 67) dX11_highest_59 (by decide) ?_
            refine r_iload_n dX11_highest_67 rfl rfl ?_
            refine r_istore_n dX11_highest_68 rfl (by decide) rfl ?_
            refine r_iinc (v := x3 + (1 : Int32)) dX11_highest_69 rfl rfl (by decide) rfl ?_
            refine r_goto (tgt := 19) dX11_highest_72 (by decide) ?_
            exact R.fw (ls' := [some (rV 45 0), some (iV x1), some (iV x3), some (iV (x3 + (1 : Int32))), none]) ⟨rfl, ⟨rfl, ⟨rfl, ⟨rfl, trivial⟩⟩⟩⟩ H
set_option maxRecDepth 100000 in
theorem bX11_highest_44 {d : Nat} {Q : Option MV → MS → Prop} {x1 : Int32} {x2 : Int32} {x3 : Int32} {s0 : Int32} {σ : MS}  (H : ((x2 < 0 → R mj_OM d mX11_highest Q 19 [some (rV 45 0), some (iV x1), some (iV x3), some (iV (x3 + (1 : Int32))), none] [] σ) ∧ (¬ x2 < 0 → ((¬ x1 = 0 → ((0 ≤ s0 → R mj_OM d mX11_highest Q 19 [some (rV 45 0), some (iV x1), some (iV x2), some (iV (x3 + (1 : Int32))), none] [] σ) ∧ (¬ 0 ≤ s0 → R mj_OM d mX11_highest Q 19 [some (rV 45 0), some (iV x1), some (iV x3), some (iV (x3 + (1 : Int32))), none] [] σ))) ∧ (x1 = 0 → ((s0 ≤ 0 → R mj_OM d mX11_highest Q 19 [some (rV 45 0), some (iV x1), some (iV x2), some (iV (x3 + (1 : Int32))), none] [] σ) ∧ (¬ s0 ≤ 0 → R mj_OM d mX11_highest Q 19 [some (rV 45 0), some (iV x1), some (iV x3), some (iV (x3 + (1 : Int32))), none] [] σ))))))) : R mj_OM d mX11_highest Q 44 [some (rV 45 0), some (iV x1), some (iV x2), some (iV x3), none] [iV s0] σ := by
  refine r_istore dX11_highest_44 (by decide) rfl ?_
  refine r_iload_n dX11_highest_46 rfl rfl ?_
  refine r_if_lt (tgt := 67) dX11_highest_47 (by decide) (fun c => ?_) (fun c => ?_)
  · have H := H.1 c
    refine r_iload_n dX11_highest_67 rfl rfl ?_
    refine r_istore_n dX11_highest_68 rfl (by decide) rfl ?_
    refine r_iinc (v := x3 + (1 : Int32)) dX11_highest_69 rfl rfl (by decide) rfl ?_
    refine r_goto (tgt := 19) dX11_highest_72 (by decide) ?_
    exact R.fw (ls' := [some (rV 45 0), some (iV x1), some (iV x3), some (iV (x3 + (1 : Int32))), none]) ⟨rfl, ⟨rfl, ⟨rfl, ⟨rfl, trivial⟩⟩⟩⟩ H
  · have H := H.2 c
    refine r_iload_n dX11_highest_50 rfl rfl ?_
    refine r_if_ne (tgt := 62) dX11_highest_51 (by decide) (fun c => ?_) (fun c => ?_)
    · have H := H.1 c
      refine r_iload dX11_highest_62 rfl ?_
      refine r_if_ge (tgt := 69) dX11_highest_64 (by decide) (fun c => ?_) (fun c => ?_)
      · have H := H.1 c
        refine r_iinc (v := x3 + (1 : Int32)) dX11_highest_69 rfl rfl (by decide) rfl ?_
        refine r_goto (tgt := 19) dX11_highest_72 (by decide) ?_
        exact R.fw (ls' := [some (rV 45 0), some (iV x1), some (iV x2), some (iV (x3 + (1 : Int32))), none]) ⟨rfl, ⟨rfl, ⟨rfl, ⟨rfl, trivial⟩⟩⟩⟩ H
      · have H := H.2 c
        refine r_iload_n dX11_highest_67 rfl rfl ?_
        refine r_istore_n dX11_highest_68 rfl (by decide) rfl ?_
        refine r_iinc (v := x3 + (1 : Int32)) dX11_highest_69 rfl rfl (by decide) rfl ?_
        refine r_goto (tgt := 19) dX11_highest_72 (by decide) ?_
        exact R.fw (ls' := [some (rV 45 0), some (iV x1), some (iV x3), some (iV (x3 + (1 : Int32))), none]) ⟨rfl, ⟨rfl, ⟨rfl, ⟨rfl, trivial⟩⟩⟩⟩ H
    · have H := H.2 c
      refine r_iload dX11_highest_54 rfl ?_
      refine r_if_le (tgt := 69) dX11_highest_56 (by decide) (fun c => ?_) (fun c => ?_)
      · have H := H.1 c
        refine r_iinc (v := x3 + (1 : Int32)) dX11_highest_69 rfl rfl (by decide) rfl ?_
        refine r_goto (tgt := 19) dX11_highest_72 (by decide) ?_
        exact R.fw (ls' := [some (rV 45 0), some (iV x1), some (iV x2), some (iV (x3 + (1 : Int32))), none]) ⟨rfl, ⟨rfl, ⟨rfl, ⟨rfl, trivial⟩⟩⟩⟩ H
      · have H := H.2 c
        refine r_goto (tgt := 67) dX11_highest_59 (by decide) ?_
        refine r_iload_n dX11_highest_67 rfl rfl ?_
        refine r_istore_n dX11_highest_68 rfl (by decide) rfl ?_
        refine r_iinc (v := x3 + (1 : Int32)) dX11_highest_69 rfl rfl (by decide) rfl ?_
        refine r_goto (tgt := 19) dX11_highest_72 (by decide) ?_
        exact R.fw (ls' := [some (rV 45 0), some (iV x1), some (iV x3), some (iV (x3 + (1 : Int32))), none]) ⟨rfl, ⟨rfl, ⟨rfl, ⟨rfl, trivial⟩⟩⟩⟩ H
set_option maxRecDepth 100000 in
theorem bX11_apart_0 {d : Nat} {Q : Option MV → MS → Prop} {x1 : Int32} {x2 : Int32} {x3 : Int32} {σ : MS}  (H : (R mj_OM d mX11_isPond (fun r σ' => R mj_OM (d + 1) mX11_apart Q 10 [some (rV 45 0), some (iV x1), some (iV x2), some (iV x3)] (r.toList ++ []) σ') 0 [some (rV 45 0), some (iV x1)] [] (uI σ 45 0 0 (0 : Int32)))) : R mj_OM (d + 1) mX11_apart Q 0 [some (rV 45 0), some (iV x1), some (iV x2), some (iV x3)] [] σ := by
  refine r_aload_n dX11_apart_0 rfl rfl ?_
  refine r_iconst (v := (0 : Int32)) dX11_apart_1 rfl ?_
  refine r_putI (k := 45) (i := 0) (j := 0) (ty0 := tyX11) rfl rfl ho45 rfl hX11 (by decide) rfl fX11_151 dX11_apart_2 rfl tyX11_ok nmX11 rfl rfl rfl ?_
  refine r_aload_n dX11_apart_5 rfl rfl ?_
  refine r_iload_n dX11_apart_6 rfl rfl ?_
  refine r_callV (z := 0) (k := 45) (i := 0) (As := [iV x1]) (st := []) kX11_isPond i_X11_isPond e_X11_isPond lX11_446 dX11_apart_7 rfl rfl ho45 rfl rfl rfl rfl rfl (Nat.le_of_ble_eq_true rfl) ?_
  exact H
set_option maxRecDepth 100000 in
theorem bX11_apart_10 {d : Nat} {Q : Option MV → MS → Prop} {x1 : Int32} {x2 : Int32} {x3 : Int32} {s0 : Int32} {σ : MS}  (H : ((s0 = 0 → Q (some (iV (-1 : Int32))) σ) ∧ (¬ s0 = 0 → (R mj_OM d mX11_isPond (fun r σ' => R mj_OM (d + 1) mX11_apart Q 18 [some (rV 45 0), some (iV x1), some (iV x2), some (iV x3)] (r.toList ++ []) σ') 0 [some (rV 45 0), some (iV x2)] [] σ)))) : R mj_OM (d + 1) mX11_apart Q 10 [some (rV 45 0), some (iV x1), some (iV x2), some (iV x3)] [iV s0] σ := by
  refine r_if_eq (tgt := 28) dX11_apart_10 (by decide) (fun c => ?_) (fun c => ?_)
  · have H := H.1 c
    refine r_iconst (v := (-1 : Int32)) dX11_apart_28 rfl ?_
    exact r_iret dX11_apart_29 rfl H
  · have H := H.2 c
    refine r_aload_n dX11_apart_13 rfl rfl ?_
    refine r_iload_n dX11_apart_14 rfl rfl ?_
    refine r_callV (z := 0) (k := 45) (i := 0) (As := [iV x2]) (st := []) kX11_isPond i_X11_isPond e_X11_isPond lX11_446 dX11_apart_15 rfl rfl ho45 rfl rfl rfl rfl rfl (Nat.le_of_ble_eq_true rfl) ?_
    exact H
set_option maxRecDepth 100000 in
theorem bX11_apart_18 {d : Nat} {Q : Option MV → MS → Prop} {x1 : Int32} {x2 : Int32} {x3 : Int32} {s0 : Int32} {σ : MS}  (H : ((s0 = 0 → Q (some (iV (-1 : Int32))) σ) ∧ (¬ s0 = 0 → (R mj_OM d mX11_isPart (fun r σ' => R mj_OM (d + 1) mX11_apart Q 25 [some (rV 45 0), some (iV x1), some (iV x2), some (iV x3)] (r.toList ++ []) σ') 0 [some (iV x3)] [] σ)))) : R mj_OM (d + 1) mX11_apart Q 18 [some (rV 45 0), some (iV x1), some (iV x2), some (iV x3)] [iV s0] σ := by
  refine r_if_eq (tgt := 28) dX11_apart_18 (by decide) (fun c => ?_) (fun c => ?_)
  · have H := H.1 c
    refine r_iconst (v := (-1 : Int32)) dX11_apart_28 rfl ?_
    exact r_iret dX11_apart_29 rfl H
  · have H := H.2 c
    refine r_iload_n dX11_apart_21 rfl rfl ?_
    refine r_callS (z := 0) (As := [iV x3]) (st := []) kX11_isPart s_X11_isPart lX11_455 dX11_apart_22 rfl rfl rfl rfl (Nat.le_of_ble_eq_true rfl) ?_
    exact H
set_option maxRecDepth 100000 in
theorem bX11_apart_25 {d : Nat} {Q : Option MV → MS → Prop} {x1 : Int32} {x2 : Int32} {x3 : Int32} {s0 : Int32} {σ : MS}  (H : ((¬ s0 = 0 → (R mj_OM d mX11_higherBy (fun r σ' => R mj_OM (d + 1) mX11_apart Q 37 [some (rV 45 0), some (iV x1), some (iV x2), some (iV x3)] (r.toList ++ []) σ') 0 [some (rV 45 0), some (iV (0 : Int32)), some (iV x1), some (iV x2)] [] σ)) ∧ (s0 = 0 → Q (some (iV (-1 : Int32))) σ))) : R mj_OM (d + 1) mX11_apart Q 25 [some (rV 45 0), some (iV x1), some (iV x2), some (iV x3)] [iV s0] σ := by
  refine r_if_ne (tgt := 30) dX11_apart_25 (by decide) (fun c => ?_) (fun c => ?_)
  · have H := H.1 c
    refine r_aload_n dX11_apart_30 rfl rfl ?_
    refine r_iconst (v := (0 : Int32)) dX11_apart_31 rfl ?_
    refine r_iload_n dX11_apart_32 rfl rfl ?_
    refine r_iload_n dX11_apart_33 rfl rfl ?_
    refine r_callV (z := 0) (k := 45) (i := 0) (As := [iV (0 : Int32), iV x1, iV x2]) (st := []) kX11_higherBy i_X11_higherBy e_X11_higherBy lX11_349 dX11_apart_34 rfl rfl ho45 rfl rfl rfl rfl rfl (Nat.le_of_ble_eq_true rfl) ?_
    exact H
  · have H := H.2 c
    refine r_iconst (v := (-1 : Int32)) dX11_apart_28 rfl ?_
    exact r_iret dX11_apart_29 rfl H
set_option maxRecDepth 100000 in
theorem bX11_apart_37 {d : Nat} {Q : Option MV → MS → Prop} {x1 : Int32} {x2 : Int32} {x3 : Int32} {s0 : Int32} {σ : MS}  (H : (vp_in x1 14 ∧ vp_in x2 14 ∧ (R mj_OM d mX11_part (fun r σ' => R mj_OM (d + 1) mX11_apart Q 57 [some (rV 45 0), some (iV x1), some (iV x2), some (iV x3)] (r.toList ++ []) σ') 0 [some (iV (if 0 ≤ s0 then s0 else 0 - s0)), some (iV ((σ.1 49 0 ((x1).toNatClampNeg)) * (σ.1 49 0 ((x2).toNatClampNeg)))), some (iV x3), none] [] σ))) : R mj_OM (d + 1) mX11_apart Q 37 [some (rV 45 0), some (iV x1), some (iV x2), some (iV x3)] [iV s0] σ := by
  refine r_mabs lX11_537 dX11_apart_37 (Nat.le_of_ble_eq_true rfl) ?_
  refine r_aload_n dX11_apart_40 rfl rfl ?_
  refine r_get (k := 45) (i := 0) (j := 5) (v := rV 49 0) rfl rfl ho45 rfl hX11 (by decide) rfl fX11_19 dX11_apart_41 (fun _ => rfl) ?_
  refine r_iload_n dX11_apart_44 rfl rfl ?_
  obtain ⟨q1, H⟩ := H
  refine r_iald (k := 49) (i := 0) rfl ho49 q1 dX11_apart_45 ?_
  refine r_aload_n dX11_apart_46 rfl rfl ?_
  refine r_get (k := 45) (i := 0) (j := 5) (v := rV 49 0) rfl rfl ho45 rfl hX11 (by decide) rfl fX11_19 dX11_apart_47 (fun _ => rfl) ?_
  refine r_iload_n dX11_apart_50 rfl rfl ?_
  obtain ⟨q2, H⟩ := H
  refine r_iald (k := 49) (i := 0) rfl ho49 q2 dX11_apart_51 ?_
  refine r_imul dX11_apart_52 ?_
  refine r_iload_n dX11_apart_53 rfl rfl ?_
  refine r_callS (z := 1) (As := [iV (if 0 ≤ s0 then s0 else 0 - s0), iV ((σ.1 49 0 ((x1).toNatClampNeg)) * (σ.1 49 0 ((x2).toNatClampNeg))), iV x3]) (st := []) kX11_part s_X11_part lX11_458 dX11_apart_54 rfl rfl rfl rfl (Nat.le_of_ble_eq_true rfl) ?_
  exact H
set_option maxRecDepth 100000 in
theorem bX11_apart_57 {d : Nat} {Q : Option MV → MS → Prop} {x1 : Int32} {x2 : Int32} {x3 : Int32} {s0 : Int32} {σ : MS}  (H : Q (some (iV s0)) σ) : R mj_OM d mX11_apart Q 57 [some (rV 45 0), some (iV x1), some (iV x2), some (iV x3)] [iV s0] σ := by
  exact r_iret dX11_apart_57 rfl H
set_option maxRecDepth 100000 in
theorem bX11_runsAll_0 {d : Nat} {Q : Option MV → MS → Prop}  {σ : MS}  (H : R mj_OM d mX11_runsAll Q 4 [some (rV 45 0), some (iV (0 : Int32)), some (iV (0 : Int32))] [] σ) : R mj_OM d mX11_runsAll Q 0 [some (rV 45 0), none, none] [] σ := by
  refine r_iconst (v := (0 : Int32)) dX11_runsAll_0 rfl ?_
  refine r_istore_n dX11_runsAll_1 rfl (by decide) rfl ?_
  refine r_iconst (v := (0 : Int32)) dX11_runsAll_2 rfl ?_
  refine r_istore_n dX11_runsAll_3 rfl (by decide) rfl ?_
  exact H
set_option maxRecDepth 100000 in
theorem bX11_runsAll_4 {d : Nat} {Q : Option MV → MS → Prop} {x1 : Int32} {x2 : Int32} {σ : MS}  (H : (vp_in (2 : Int32) 18 ∧ (((σ.1 47 0 2) ≤ x2 → Q (some (iV x1)) σ) ∧ (¬ (σ.1 47 0 2) ≤ x2 → (R mj_OM d mX11_isJammed (fun r σ' => R mj_OM (d + 1) mX11_runsAll Q 21 [some (rV 45 0), some (iV x1), some (iV x2)] (r.toList ++ [iV x1]) σ') 0 [some (rV 45 0), some (iV (0 : Int32)), some (iV x2)] [] σ))))) : R mj_OM (d + 1) mX11_runsAll Q 4 [some (rV 45 0), some (iV x1), some (iV x2)] [] σ := by
  refine r_iload_n dX11_runsAll_4 rfl rfl ?_
  refine r_aload_n dX11_runsAll_5 rfl rfl ?_
  refine r_get (k := 45) (i := 0) (j := 3) (v := rV 47 0) rfl rfl ho45 rfl hX11 (by decide) rfl fX11_13 dX11_runsAll_6 (fun _ => rfl) ?_
  refine r_iconst (v := (2 : Int32)) dX11_runsAll_9 rfl ?_
  obtain ⟨q1, H⟩ := H
  refine r_iald (k := 47) (i := 0) rfl ho47 q1 dX11_runsAll_10 ?_
  refine r_icmp_ge (tgt := 45) dX11_runsAll_11 (by decide) (fun c => ?_) (fun c => ?_)
  · have H := H.1 c
    refine r_iload_n dX11_runsAll_45 rfl rfl ?_
    exact r_iret dX11_runsAll_46 rfl H
  · have H := H.2 c
    refine r_iload_n dX11_runsAll_14 rfl rfl ?_
    refine r_aload_n dX11_runsAll_15 rfl rfl ?_
    refine r_iconst (v := (0 : Int32)) dX11_runsAll_16 rfl ?_
    refine r_iload_n dX11_runsAll_17 rfl rfl ?_
    refine r_callV (z := 0) (k := 45) (i := 0) (As := [iV (0 : Int32), iV x2]) (st := [iV x1]) kX11_isJammed i_X11_isJammed e_X11_isJammed lX11_368 dX11_runsAll_18 rfl rfl ho45 rfl rfl rfl rfl rfl (Nat.le_of_ble_eq_true rfl) ?_
    exact H
set_option maxRecDepth 100000 in
theorem bX11_runsAll_21 {d : Nat} {Q : Option MV → MS → Prop} {x1 : Int32} {x2 : Int32} {s0 : Int32} {s1 : Int32} {σ : MS}  (H : ((s0 = 0 → (R mj_OM d mX11_flows (fun r σ' => R mj_OM (d + 1) mX11_runsAll Q 37 [some (rV 45 0), some (iV x1), some (iV x2)] (r.toList ++ [iV s1]) σ') 0 [some (rV 45 0), some (iV (1 : Int32)), some (iV x2), some (iV (2147483647 : Int32)), none, none, none] [] σ)) ∧ (¬ s0 = 0 → R mj_OM (d + 1) mX11_runsAll Q 4 [some (rV 45 0), some (iV (s1 + (0 : Int32))), some (iV (x2 + (1 : Int32)))] [] σ))) : R mj_OM (d + 1) mX11_runsAll Q 21 [some (rV 45 0), some (iV x1), some (iV x2)] [iV s0, iV s1] σ := by
  refine r_if_eq (tgt := 28) dX11_runsAll_21 (by decide) (fun c => ?_) (fun c => ?_)
  · have H := H.1 c
    refine r_aload_n dX11_runsAll_28 rfl rfl ?_
    refine r_iconst (v := (1 : Int32)) dX11_runsAll_29 rfl ?_
    refine r_iload_n dX11_runsAll_30 rfl rfl ?_
    refine r_ldcw (v := (2147483647 : Int32)) oX11_399 dX11_runsAll_31 ?_
    refine r_callV (z := 3) (k := 45) (i := 0) (As := [iV (1 : Int32), iV x2, iV (2147483647 : Int32)]) (st := [iV s1]) kX11_flows i_X11_flows e_X11_flows lX11_407 dX11_runsAll_34 rfl rfl ho45 rfl rfl rfl rfl rfl (Nat.le_of_ble_eq_true rfl) ?_
    exact H
  · have H := H.2 c
    refine r_iconst (v := (0 : Int32)) dX11_runsAll_24 rfl ?_
    refine r_goto (tgt := 37) dX11_runsAll_25 (by decide) ?_
    refine r_iadd dX11_runsAll_37 ?_
    refine r_istore_n dX11_runsAll_38 rfl (by decide) rfl ?_
    refine r_iinc (v := x2 + (1 : Int32)) dX11_runsAll_39 rfl rfl (by decide) rfl ?_
    refine r_goto (tgt := 4) dX11_runsAll_42 (by decide) ?_
    exact H
set_option maxRecDepth 100000 in
theorem bX11_runsAll_37 {d : Nat} {Q : Option MV → MS → Prop} {x1 : Int32} {x2 : Int32} {s0 : Int32} {s1 : Int32} {σ : MS}  (H : R mj_OM d mX11_runsAll Q 4 [some (rV 45 0), some (iV (s1 + s0)), some (iV (x2 + (1 : Int32)))] [] σ) : R mj_OM d mX11_runsAll Q 37 [some (rV 45 0), some (iV x1), some (iV x2)] [iV s0, iV s1] σ := by
  refine r_iadd dX11_runsAll_37 ?_
  refine r_istore_n dX11_runsAll_38 rfl (by decide) rfl ?_
  refine r_iinc (v := x2 + (1 : Int32)) dX11_runsAll_39 rfl rfl (by decide) rfl ?_
  refine r_goto (tgt := 4) dX11_runsAll_42 (by decide) ?_
  exact H
set_option maxRecDepth 100000 in
theorem bX11_still_0 {d : Nat} {Q : Option MV → MS → Prop} {x1 : Int32} {x2 : Int32} {σ : MS}  (H : (R mj_OM d mX11_isPart (fun r σ' => R mj_OM (d + 1) mX11_still Q 9 [some (rV 45 0), some (iV x1), some (iV x2), none] (r.toList ++ []) σ') 0 [some (iV x1)] [] (uI σ 45 0 0 (0 : Int32)))) : R mj_OM (d + 1) mX11_still Q 0 [some (rV 45 0), some (iV x1), some (iV x2), none] [] σ := by
  refine r_aload_n dX11_still_0 rfl rfl ?_
  refine r_iconst (v := (0 : Int32)) dX11_still_1 rfl ?_
  refine r_putI (k := 45) (i := 0) (j := 0) (ty0 := tyX11) rfl rfl ho45 rfl hX11 (by decide) rfl fX11_151 dX11_still_2 rfl tyX11_ok nmX11 rfl rfl rfl ?_
  refine r_iload_n dX11_still_5 rfl rfl ?_
  refine r_callS (z := 0) (As := [iV x1]) (st := []) kX11_isPart s_X11_isPart lX11_455 dX11_still_6 rfl rfl rfl rfl (Nat.le_of_ble_eq_true rfl) ?_
  exact H
set_option maxRecDepth 100000 in
theorem bX11_still_9 {d : Nat} {Q : Option MV → MS → Prop} {x1 : Int32} {x2 : Int32} {s0 : Int32} {σ : MS}  (H : ((s0 = 0 → Q (some (iV (-1 : Int32))) σ) ∧ (¬ s0 = 0 → ((¬ x1 = (1 : Int32) → (R mj_OM d mX11_copies (fun r σ' => R mj_OM (d + 1) mX11_still Q 33 [some (rV 45 0), some (iV x1), some (iV x2), none] (r.toList ++ []) σ') 0 [some (rV 45 0), some (iV (1 : Int32)), some (iV (0 : Int32)), none] [] σ)) ∧ (x1 = (1 : Int32) → (R mj_OM d mX11_isPond (fun r σ' => R mj_OM (d + 1) mX11_still Q 22 [some (rV 45 0), some (iV x1), some (iV x2), none] (r.toList ++ []) σ') 0 [some (rV 45 0), some (iV x2)] [] σ)))))) : R mj_OM (d + 1) mX11_still Q 9 [some (rV 45 0), some (iV x1), some (iV x2), none] [iV s0] σ := by
  refine r_if_eq (tgt := 25) dX11_still_9 (by decide) (fun c => ?_) (fun c => ?_)
  · have H := H.1 c
    refine r_iconst (v := (-1 : Int32)) dX11_still_25 rfl ?_
    exact r_iret dX11_still_26 rfl H
  · have H := H.2 c
    refine r_iload_n dX11_still_12 rfl rfl ?_
    refine r_iconst (v := (1 : Int32)) dX11_still_13 rfl ?_
    refine r_icmp_ne (tgt := 27) dX11_still_14 (by decide) (fun c => ?_) (fun c => ?_)
    · have H := H.1 c
      refine r_aload_n dX11_still_27 rfl rfl ?_
      refine r_iconst (v := (1 : Int32)) dX11_still_28 rfl ?_
      refine r_iconst (v := (0 : Int32)) dX11_still_29 rfl ?_
      refine r_callV (z := 1) (k := 45) (i := 0) (As := [iV (1 : Int32), iV (0 : Int32)]) (st := []) kX11_copies i_X11_copies e_X11_copies lX11_474 dX11_still_30 rfl rfl ho45 rfl rfl rfl rfl rfl (Nat.le_of_ble_eq_true rfl) ?_
      exact H
    · have H := H.2 c
      refine r_aload_n dX11_still_17 rfl rfl ?_
      refine r_iload_n dX11_still_18 rfl rfl ?_
      refine r_callV (z := 0) (k := 45) (i := 0) (As := [iV x2]) (st := []) kX11_isPond i_X11_isPond e_X11_isPond lX11_446 dX11_still_19 rfl rfl ho45 rfl rfl rfl rfl rfl (Nat.le_of_ble_eq_true rfl) ?_
      exact H
set_option maxRecDepth 100000 in
theorem bX11_still_22 {d : Nat} {Q : Option MV → MS → Prop} {x1 : Int32} {x2 : Int32} {s0 : Int32} {σ : MS}  (H : ((¬ s0 = 0 → (R mj_OM d mX11_copies (fun r σ' => R mj_OM (d + 1) mX11_still Q 33 [some (rV 45 0), some (iV x1), some (iV x2), none] (r.toList ++ []) σ') 0 [some (rV 45 0), some (iV (1 : Int32)), some (iV (0 : Int32)), none] [] σ)) ∧ (s0 = 0 → Q (some (iV (-1 : Int32))) σ))) : R mj_OM (d + 1) mX11_still Q 22 [some (rV 45 0), some (iV x1), some (iV x2), none] [iV s0] σ := by
  refine r_if_ne (tgt := 27) dX11_still_22 (by decide) (fun c => ?_) (fun c => ?_)
  · have H := H.1 c
    refine r_aload_n dX11_still_27 rfl rfl ?_
    refine r_iconst (v := (1 : Int32)) dX11_still_28 rfl ?_
    refine r_iconst (v := (0 : Int32)) dX11_still_29 rfl ?_
    refine r_callV (z := 1) (k := 45) (i := 0) (As := [iV (1 : Int32), iV (0 : Int32)]) (st := []) kX11_copies i_X11_copies e_X11_copies lX11_474 dX11_still_30 rfl rfl ho45 rfl rfl rfl rfl rfl (Nat.le_of_ble_eq_true rfl) ?_
    exact H
  · have H := H.2 c
    refine r_iconst (v := (-1 : Int32)) dX11_still_25 rfl ?_
    exact r_iret dX11_still_26 rfl H
set_option maxRecDepth 100000 in
theorem bX11_still_33 {d : Nat} {Q : Option MV → MS → Prop} {x1 : Int32} {x2 : Int32} {σ : MS}  (H : R mj_OM d mX11_still Q 35 [some (rV 45 0), some (iV x1), some (iV x2), some (iV (0 : Int32))] [] σ) : R mj_OM d mX11_still Q 33 [some (rV 45 0), some (iV x1), some (iV x2), none] [] σ := by
  refine r_iconst (v := (0 : Int32)) dX11_still_33 rfl ?_
  refine r_istore_n dX11_still_34 rfl (by decide) rfl ?_
  exact H
set_option maxRecDepth 100000 in
theorem bX11_still_35 {d : Nat} {Q : Option MV → MS → Prop} {x1 : Int32} {x2 : Int32} {x3 : Int32} {σ : MS}  (H : (((99 : Int32) ≤ x3 → ((¬ x1 = 0 → (vp_in ((7 : Int32) + x2) 161 ∧ Q (some (iV (σ.1 74 0 ((((7 : Int32) + x2)).toNatClampNeg)))) σ)) ∧ (x1 = 0 → Q (some (iV x3)) σ))) ∧ (¬ (99 : Int32) ≤ x3 → (R mj_OM d mX11_runsAll (fun r σ' => R mj_OM (d + 1) mX11_still Q 45 [some (rV 45 0), some (iV x1), some (iV x2), some (iV x3)] (r.toList ++ []) σ') 0 [some (rV 45 0), none, none] [] σ)))) : R mj_OM (d + 1) mX11_still Q 35 [some (rV 45 0), some (iV x1), some (iV x2), some (iV x3)] [] σ := by
  refine r_iload_n dX11_still_35 rfl rfl ?_
  refine r_bipush (v := (99 : Int32)) dX11_still_36 rfl ?_
  refine r_icmp_ge (tgt := 54) dX11_still_38 (by decide) (fun c => ?_) (fun c => ?_)
  · have H := H.1 c
    refine r_iload_n dX11_still_54 rfl rfl ?_
    refine r_if_ne (tgt := 62) dX11_still_55 (by decide) (fun c => ?_) (fun c => ?_)
    · have H := H.1 c
      refine r_aload_n dX11_still_62 rfl rfl ?_
      refine r_get (k := 45) (i := 0) (j := 44) (v := rV 74 0) rfl rfl ho45 rfl hX11 (by decide) rfl fX11_99 dX11_still_63 (fun _ => rfl) ?_
      refine r_bipush (v := (7 : Int32)) dX11_still_66 rfl ?_
      refine r_iload_n dX11_still_68 rfl rfl ?_
      refine r_iadd dX11_still_69 ?_
      obtain ⟨q1, H⟩ := H
      refine r_iald (k := 74) (i := 0) rfl ho74 q1 dX11_still_70 ?_
      exact r_iret dX11_still_71 rfl H
    · have H := H.2 c
      refine r_iload_n dX11_still_58 rfl rfl ?_
      refine r_goto (tgt := 71) dX11_still_59 (by decide) ?_
      exact r_iret dX11_still_71 rfl H
  · have H := H.2 c
    refine r_aload_n dX11_still_41 rfl rfl ?_
    refine r_callV (z := 2) (k := 45) (i := 0) (As := []) (st := []) kX11_runsAll i_X11_runsAll e_X11_runsAll lX11_539 dX11_still_42 rfl rfl ho45 rfl rfl rfl rfl rfl (Nat.le_of_ble_eq_true rfl) ?_
    exact H
set_option maxRecDepth 100000 in
theorem bX11_still_45 {d : Nat} {Q : Option MV → MS → Prop} {x1 : Int32} {x2 : Int32} {x3 : Int32} {s0 : Int32} {σ : MS}  (H : ((s0 ≤ 0 → ((¬ x1 = 0 → (vp_in ((7 : Int32) + x2) 161 ∧ Q (some (iV (σ.1 74 0 ((((7 : Int32) + x2)).toNatClampNeg)))) σ)) ∧ (x1 = 0 → Q (some (iV x3)) σ))) ∧ (¬ s0 ≤ 0 → R mj_OM d mX11_still Q 35 [some (rV 45 0), some (iV x1), some (iV x2), some (iV (x3 + (1 : Int32)))] [] σ))) : R mj_OM d mX11_still Q 45 [some (rV 45 0), some (iV x1), some (iV x2), some (iV x3)] [iV s0] σ := by
  refine r_if_le (tgt := 54) dX11_still_45 (by decide) (fun c => ?_) (fun c => ?_)
  · have H := H.1 c
    refine r_iload_n dX11_still_54 rfl rfl ?_
    refine r_if_ne (tgt := 62) dX11_still_55 (by decide) (fun c => ?_) (fun c => ?_)
    · have H := H.1 c
      refine r_aload_n dX11_still_62 rfl rfl ?_
      refine r_get (k := 45) (i := 0) (j := 44) (v := rV 74 0) rfl rfl ho45 rfl hX11 (by decide) rfl fX11_99 dX11_still_63 (fun _ => rfl) ?_
      refine r_bipush (v := (7 : Int32)) dX11_still_66 rfl ?_
      refine r_iload_n dX11_still_68 rfl rfl ?_
      refine r_iadd dX11_still_69 ?_
      obtain ⟨q1, H⟩ := H
      refine r_iald (k := 74) (i := 0) rfl ho74 q1 dX11_still_70 ?_
      exact r_iret dX11_still_71 rfl H
    · have H := H.2 c
      refine r_iload_n dX11_still_58 rfl rfl ?_
      refine r_goto (tgt := 71) dX11_still_59 (by decide) ?_
      exact r_iret dX11_still_71 rfl H
  · have H := H.2 c
    refine r_iinc (v := x3 + (1 : Int32)) dX11_still_48 rfl rfl (by decide) rfl ?_
    refine r_goto (tgt := 35) dX11_still_51 (by decide) ?_
    exact H
set_option maxRecDepth 100000 in
theorem bX11_nextTo_0 {d : Nat} {Q : Option MV → MS → Prop} {x1 : Int32} {σ : MS}  (H : R mj_OM d mX11_nextTo Q 4 [some (rV 45 0), some (iV x1), some (iV (0 : Int32)), some (iV (0 : Int32))] [] σ) : R mj_OM d mX11_nextTo Q 0 [some (rV 45 0), some (iV x1), none, none] [] σ := by
  refine r_iconst (v := (0 : Int32)) dX11_nextTo_0 rfl ?_
  refine r_istore_n dX11_nextTo_1 rfl (by decide) rfl ?_
  refine r_iconst (v := (0 : Int32)) dX11_nextTo_2 rfl ?_
  refine r_istore_n dX11_nextTo_3 rfl (by decide) rfl ?_
  exact H
set_option maxRecDepth 100000 in
theorem bX11_nextTo_4 {d : Nat} {Q : Option MV → MS → Prop} {x1 : Int32} {x2 : Int32} {x3 : Int32} {σ : MS}  (H : (vp_in (2 : Int32) 18 ∧ (((σ.1 47 0 2) ≤ x3 → Q (some (iV x2)) σ) ∧ (¬ (σ.1 47 0 2) ≤ x3 → (R mj_OM d mX11_isJammed (fun r σ' => R mj_OM (d + 1) mX11_nextTo Q 20 [some (rV 45 0), some (iV x1), some (iV x2), some (iV x3)] (r.toList ++ []) σ') 0 [some (rV 45 0), some (iV (0 : Int32)), some (iV x3)] [] σ))))) : R mj_OM (d + 1) mX11_nextTo Q 4 [some (rV 45 0), some (iV x1), some (iV x2), some (iV x3)] [] σ := by
  refine r_iload_n dX11_nextTo_4 rfl rfl ?_
  refine r_aload_n dX11_nextTo_5 rfl rfl ?_
  refine r_get (k := 45) (i := 0) (j := 3) (v := rV 47 0) rfl rfl ho45 rfl hX11 (by decide) rfl fX11_13 dX11_nextTo_6 (fun _ => rfl) ?_
  refine r_iconst (v := (2 : Int32)) dX11_nextTo_9 rfl ?_
  obtain ⟨q1, H⟩ := H
  refine r_iald (k := 47) (i := 0) rfl ho47 q1 dX11_nextTo_10 ?_
  refine r_icmp_ge (tgt := 78) dX11_nextTo_11 (by decide) (fun c => ?_) (fun c => ?_)
  · have H := H.1 c
    refine r_iload_n dX11_nextTo_78 rfl rfl ?_
    exact r_iret dX11_nextTo_79 rfl H
  · have H := H.2 c
    refine r_aload_n dX11_nextTo_14 rfl rfl ?_
    refine r_iconst (v := (0 : Int32)) dX11_nextTo_15 rfl ?_
    refine r_iload_n dX11_nextTo_16 rfl rfl ?_
    refine r_callV (z := 0) (k := 45) (i := 0) (As := [iV (0 : Int32), iV x3]) (st := []) kX11_isJammed i_X11_isJammed e_X11_isJammed lX11_368 dX11_nextTo_17 rfl rfl ho45 rfl rfl rfl rfl rfl (Nat.le_of_ble_eq_true rfl) ?_
    exact H
set_option maxRecDepth 100000 in
theorem bX11_nextTo_20 {d : Nat} {Q : Option MV → MS → Prop} {x1 : Int32} {x2 : Int32} {x3 : Int32} {s0 : Int32} {σ : MS}  (H : ((s0 = 0 → (vp_in x3 20 ∧ ((¬ (σ.1 56 0 ((x3).toNatClampNeg)) = x1 → ((¬ (σ.1 57 0 ((x3).toNatClampNeg)) = x1 → R mj_OM d mX11_nextTo Q 4 [some (rV 45 0), some (iV x1), some (iV (x2 ||| (0 : Int32))), some (iV (x3 + (1 : Int32)))] [] σ) ∧ ((σ.1 57 0 ((x3).toNatClampNeg)) = x1 → R mj_OM d mX11_nextTo Q 4 [some (rV 45 0), some (iV x1), some (iV (x2 ||| ((1 : Int32) <<< ((σ.1 56 0 ((x3).toNatClampNeg)) &&& 31)))), some (iV (x3 + (1 : Int32)))] [] σ))) ∧ ((σ.1 56 0 ((x3).toNatClampNeg)) = x1 → R mj_OM d mX11_nextTo Q 4 [some (rV 45 0), some (iV x1), some (iV (x2 ||| ((1 : Int32) <<< ((σ.1 57 0 ((x3).toNatClampNeg)) &&& 31)))), some (iV (x3 + (1 : Int32)))] [] σ)))) ∧ (¬ s0 = 0 → R mj_OM d mX11_nextTo Q 4 [some (rV 45 0), some (iV x1), some (iV x2), some (iV (x3 + (1 : Int32)))] [] σ))) : R mj_OM d mX11_nextTo Q 20 [some (rV 45 0), some (iV x1), some (iV x2), some (iV x3)] [iV s0] σ := by
  refine r_if_eq (tgt := 26) dX11_nextTo_20 (by decide) (fun c => ?_) (fun c => ?_)
  · have H := H.1 c
    refine r_iload_n dX11_nextTo_26 rfl rfl ?_
    refine r_aload_n dX11_nextTo_27 rfl rfl ?_
    refine r_get (k := 45) (i := 0) (j := 12) (v := rV 56 0) rfl rfl ho45 rfl hX11 (by decide) rfl fX11_40 dX11_nextTo_28 (fun _ => rfl) ?_
    refine r_iload_n dX11_nextTo_31 rfl rfl ?_
    obtain ⟨q1, H⟩ := H
    refine r_iald (k := 56) (i := 0) rfl ho56 q1 dX11_nextTo_32 ?_
    refine r_iload_n dX11_nextTo_33 rfl rfl ?_
    refine r_icmp_ne (tgt := 48) dX11_nextTo_34 (by decide) (fun c => ?_) (fun c => ?_)
    · have H := H.1 c
      refine r_aload_n dX11_nextTo_48 rfl rfl ?_
      refine r_get (k := 45) (i := 0) (j := 13) (v := rV 57 0) rfl rfl ho45 rfl hX11 (by decide) rfl fX11_43 dX11_nextTo_49 (fun _ => rfl) ?_
      refine r_iload_n dX11_nextTo_52 rfl rfl ?_
      refine r_iald (k := 57) (i := 0) rfl ho57 q1 dX11_nextTo_53 ?_
      refine r_iload_n dX11_nextTo_54 rfl rfl ?_
      refine r_icmp_ne (tgt := 69) dX11_nextTo_55 (by decide) (fun c => ?_) (fun c => ?_)
      · have H := H.1 c
        refine r_iconst (v := (0 : Int32)) dX11_nextTo_69 rfl ?_
        refine r_ior dX11_nextTo_70 ?_
        refine r_istore_n dX11_nextTo_71 rfl (by decide) rfl ?_
        refine r_iinc (v := x3 + (1 : Int32)) dX11_nextTo_72 rfl rfl (by decide) rfl ?_
        refine r_goto (tgt := 4) dX11_nextTo_75 (by decide) ?_
        exact H
      · have H := H.2 c
        refine r_iconst (v := (1 : Int32)) dX11_nextTo_58 rfl ?_
        refine r_aload_n dX11_nextTo_59 rfl rfl ?_
        refine r_get (k := 45) (i := 0) (j := 12) (v := rV 56 0) rfl rfl ho45 rfl hX11 (by decide) rfl fX11_40 dX11_nextTo_60 (fun _ => rfl) ?_
        refine r_iload_n dX11_nextTo_63 rfl rfl ?_
        refine r_iald (k := 56) (i := 0) rfl ho56 q1 dX11_nextTo_64 ?_
        refine r_ishl dX11_nextTo_65 ?_
        refine r_goto (tgt := 70) dX11_nextTo_66 (by decide) ?_
        refine r_ior dX11_nextTo_70 ?_
        refine r_istore_n dX11_nextTo_71 rfl (by decide) rfl ?_
        refine r_iinc (v := x3 + (1 : Int32)) dX11_nextTo_72 rfl rfl (by decide) rfl ?_
        refine r_goto (tgt := 4) dX11_nextTo_75 (by decide) ?_
        exact H
    · have H := H.2 c
      refine r_iconst (v := (1 : Int32)) dX11_nextTo_37 rfl ?_
      refine r_aload_n dX11_nextTo_38 rfl rfl ?_
      refine r_get (k := 45) (i := 0) (j := 13) (v := rV 57 0) rfl rfl ho45 rfl hX11 (by decide) rfl fX11_43 dX11_nextTo_39 (fun _ => rfl) ?_
      refine r_iload_n dX11_nextTo_42 rfl rfl ?_
      refine r_iald (k := 57) (i := 0) rfl ho57 q1 dX11_nextTo_43 ?_
      refine r_ishl dX11_nextTo_44 ?_
      refine r_goto (tgt := 70) dX11_nextTo_45 (by decide) ?_
      refine r_ior dX11_nextTo_70 ?_
      refine r_istore_n dX11_nextTo_71 rfl (by decide) rfl ?_
      refine r_iinc (v := x3 + (1 : Int32)) dX11_nextTo_72 rfl rfl (by decide) rfl ?_
      refine r_goto (tgt := 4) dX11_nextTo_75 (by decide) ?_
      exact H
  · have H := H.2 c
    refine r_goto (tgt := 72) dX11_nextTo_23 (by decide) ?_
    refine r_iinc (v := x3 + (1 : Int32)) dX11_nextTo_72 rfl rfl (by decide) rfl ?_
    refine r_goto (tgt := 4) dX11_nextTo_75 (by decide) ?_
    exact H
set_option maxRecDepth 100000 in
theorem bX11_reach_0 {d : Nat} {Q : Option MV → MS → Prop} {x1 : Int32} {σ : MS}  (H : (R mj_OM d mX11_isPond (fun r σ' => R mj_OM (d + 1) mX11_reach Q 10 [some (rV 45 0), some (iV x1), none, none, none] (r.toList ++ []) σ') 0 [some (rV 45 0), some (iV x1)] [] (uI σ 45 0 0 (0 : Int32)))) : R mj_OM (d + 1) mX11_reach Q 0 [some (rV 45 0), some (iV x1), none, none, none] [] σ := by
  refine r_aload_n dX11_reach_0 rfl rfl ?_
  refine r_iconst (v := (0 : Int32)) dX11_reach_1 rfl ?_
  refine r_putI (k := 45) (i := 0) (j := 0) (ty0 := tyX11) rfl rfl ho45 rfl hX11 (by decide) rfl fX11_151 dX11_reach_2 rfl tyX11_ok nmX11 rfl rfl rfl ?_
  refine r_aload_n dX11_reach_5 rfl rfl ?_
  refine r_iload_n dX11_reach_6 rfl rfl ?_
  refine r_callV (z := 0) (k := 45) (i := 0) (As := [iV x1]) (st := []) kX11_isPond i_X11_isPond e_X11_isPond lX11_446 dX11_reach_7 rfl rfl ho45 rfl rfl rfl rfl rfl (Nat.le_of_ble_eq_true rfl) ?_
  exact H
set_option maxRecDepth 100000 in
theorem bX11_reach_10 {d : Nat} {Q : Option MV → MS → Prop} {x1 : Int32} {s0 : Int32} {σ : MS}  (H : ((¬ s0 = 0 → R mj_OM d mX11_reach Q 21 [some (rV 45 0), some (iV x1), some (iV ((1 : Int32) <<< (x1 &&& 31))), some (iV (0 : Int32)), none] [] σ) ∧ (s0 = 0 → Q (some (iV (-1 : Int32))) σ))) : R mj_OM d mX11_reach Q 10 [some (rV 45 0), some (iV x1), none, none, none] [iV s0] σ := by
  refine r_if_ne (tgt := 15) dX11_reach_10 (by decide) (fun c => ?_) (fun c => ?_)
  · have H := H.1 c
    refine r_iconst (v := (1 : Int32)) dX11_reach_15 rfl ?_
    refine r_iload_n dX11_reach_16 rfl rfl ?_
    refine r_ishl dX11_reach_17 ?_
    refine r_istore_n dX11_reach_18 rfl (by decide) rfl ?_
    refine r_iconst (v := (0 : Int32)) dX11_reach_19 rfl ?_
    refine r_istore_n dX11_reach_20 rfl (by decide) rfl ?_
    exact H
  · have H := H.2 c
    refine r_iconst (v := (-1 : Int32)) dX11_reach_13 rfl ?_
    exact r_iret dX11_reach_14 rfl H
set_option maxRecDepth 100000 in
theorem bX11_reach_21 {d : Nat} {Q : Option MV → MS → Prop} {x1 : Int32} {x2 : Int32} {x3 : Int32} {σ : MS}  (H : ((x2 = x3 → Q (some (iV x2)) σ) ∧ (¬ x2 = x3 → R mj_OM d mX11_reach Q 31 [some (rV 45 0), some (iV x1), some (iV x2), some (iV x2), some (iV (0 : Int32))] [] σ))) : R mj_OM d mX11_reach Q 21 [some (rV 45 0), some (iV x1), some (iV x2), some (iV x3), none] [] σ := by
  refine r_iload_n dX11_reach_21 rfl rfl ?_
  refine r_iload_n dX11_reach_22 rfl rfl ?_
  refine r_icmp_eq (tgt := 74) dX11_reach_23 (by decide) (fun c => ?_) (fun c => ?_)
  · have H := H.1 c
    refine r_iload_n dX11_reach_74 rfl rfl ?_
    exact r_iret dX11_reach_75 rfl H
  · have H := H.2 c
    refine r_iload_n dX11_reach_26 rfl rfl ?_
    refine r_istore_n dX11_reach_27 rfl (by decide) rfl ?_
    refine r_iconst (v := (0 : Int32)) dX11_reach_28 rfl ?_
    refine r_istore dX11_reach_29 (by decide) rfl ?_
    exact H
set_option maxRecDepth 100000 in
theorem bX11_reach_31 {d : Nat} {Q : Option MV → MS → Prop} {x1 : Int32} {x2 : Int32} {x3 : Int32} {x4 : Int32} {σ : MS}  (H : (vp_in (0 : Int32) 18 ∧ (((σ.1 47 0 0) ≤ x4 → R mj_OM (d + 1) mX11_reach Q 21 [some (rV 45 0), some (iV x1), some (iV x2), some (iV x3), none] [] σ) ∧ (¬ (σ.1 47 0 0) ≤ x4 → ((¬ ((x3 >>> (x4 &&& 31)) &&& (1 : Int32)) = (1 : Int32) → R mj_OM (d + 1) mX11_reach Q 31 [some (rV 45 0), some (iV x1), some (iV (x2 ||| (0 : Int32))), some (iV x3), some (iV (x4 + (1 : Int32)))] [] σ) ∧ (((x3 >>> (x4 &&& 31)) &&& (1 : Int32)) = (1 : Int32) → (R mj_OM d mX11_nextTo (fun r σ' => R mj_OM (d + 1) mX11_reach Q 59 [some (rV 45 0), some (iV x1), some (iV x2), some (iV x3), some (iV x4)] (r.toList ++ [iV x2]) σ') 0 [some (rV 45 0), some (iV x4), none, none] [] σ))))))) : R mj_OM (d + 1) mX11_reach Q 31 [some (rV 45 0), some (iV x1), some (iV x2), some (iV x3), some (iV x4)] [] σ := by
  refine r_iload dX11_reach_31 rfl ?_
  refine r_aload_n dX11_reach_33 rfl rfl ?_
  refine r_get (k := 45) (i := 0) (j := 3) (v := rV 47 0) rfl rfl ho45 rfl hX11 (by decide) rfl fX11_13 dX11_reach_34 (fun _ => rfl) ?_
  refine r_iconst (v := (0 : Int32)) dX11_reach_37 rfl ?_
  obtain ⟨q1, H⟩ := H
  refine r_iald (k := 47) (i := 0) rfl ho47 q1 dX11_reach_38 ?_
  refine r_icmp_ge (tgt := 71) dX11_reach_39 (by decide) (fun c => ?_) (fun c => ?_)
  · have H := H.1 c
    refine r_goto (tgt := 21) dX11_reach_71 (by decide) ?_
    exact R.fw (ls' := [some (rV 45 0), some (iV x1), some (iV x2), some (iV x3), none]) ⟨rfl, ⟨rfl, ⟨rfl, ⟨rfl, trivial⟩⟩⟩⟩ H
  · have H := H.2 c
    refine r_iload_n dX11_reach_42 rfl rfl ?_
    refine r_iload_n dX11_reach_43 rfl rfl ?_
    refine r_iload dX11_reach_44 rfl ?_
    refine r_ishr dX11_reach_46 ?_
    refine r_iconst (v := (1 : Int32)) dX11_reach_47 rfl ?_
    refine r_iand dX11_reach_48 ?_
    refine r_iconst (v := (1 : Int32)) dX11_reach_49 rfl ?_
    refine r_icmp_ne (tgt := 62) dX11_reach_50 (by decide) (fun c => ?_) (fun c => ?_)
    · have H := H.1 c
      refine r_iconst (v := (0 : Int32)) dX11_reach_62 rfl ?_
      refine r_ior dX11_reach_63 ?_
      refine r_istore_n dX11_reach_64 rfl (by decide) rfl ?_
      refine r_iinc (v := x4 + (1 : Int32)) dX11_reach_65 rfl rfl (by decide) rfl ?_
      refine r_goto (tgt := 31) dX11_reach_68 (by decide) ?_
      exact H
    · have H := H.2 c
      refine r_aload_n dX11_reach_53 rfl rfl ?_
      refine r_iload dX11_reach_54 rfl ?_
      refine r_callV (z := 2) (k := 45) (i := 0) (As := [iV x4]) (st := [iV x2]) kX11_nextTo i_X11_nextTo e_X11_nextTo lX11_542 dX11_reach_56 rfl rfl ho45 rfl rfl rfl rfl rfl (Nat.le_of_ble_eq_true rfl) ?_
      exact H
set_option maxRecDepth 100000 in
theorem bX11_reach_59 {d : Nat} {Q : Option MV → MS → Prop} {x1 : Int32} {x2 : Int32} {x3 : Int32} {x4 : Int32} {s0 : Int32} {s1 : Int32} {σ : MS}  (H : R mj_OM d mX11_reach Q 31 [some (rV 45 0), some (iV x1), some (iV (s1 ||| s0)), some (iV x3), some (iV (x4 + (1 : Int32)))] [] σ) : R mj_OM d mX11_reach Q 59 [some (rV 45 0), some (iV x1), some (iV x2), some (iV x3), some (iV x4)] [iV s0, iV s1] σ := by
  refine r_goto (tgt := 63) dX11_reach_59 (by decide) ?_
  refine r_ior dX11_reach_63 ?_
  refine r_istore_n dX11_reach_64 rfl (by decide) rfl ?_
  refine r_iinc (v := x4 + (1 : Int32)) dX11_reach_65 rfl rfl (by decide) rfl ?_
  refine r_goto (tgt := 31) dX11_reach_68 (by decide) ?_
  exact H
set_option maxRecDepth 100000 in
theorem bX11_roomFrom_0 {d : Nat} {Q : Option MV → MS → Prop} {x1 : Int32} {x2 : Int32} {σ : MS}  (H : (R mj_OM d mX11_isJammed (fun r σ' => R mj_OM (d + 1) mX11_roomFrom Q 6 [some (rV 45 0), some (iV x1), some (iV x2)] (r.toList ++ []) σ') 0 [some (rV 45 0), some (iV (0 : Int32)), some (iV x1)] [] σ)) : R mj_OM (d + 1) mX11_roomFrom Q 0 [some (rV 45 0), some (iV x1), some (iV x2)] [] σ := by
  refine r_aload_n dX11_roomFrom_0 rfl rfl ?_
  refine r_iconst (v := (0 : Int32)) dX11_roomFrom_1 rfl ?_
  refine r_iload_n dX11_roomFrom_2 rfl rfl ?_
  refine r_callV (z := 0) (k := 45) (i := 0) (As := [iV (0 : Int32), iV x1]) (st := []) kX11_isJammed i_X11_isJammed e_X11_isJammed lX11_368 dX11_roomFrom_3 rfl rfl ho45 rfl rfl rfl rfl rfl (Nat.le_of_ble_eq_true rfl) ?_
  exact H
set_option maxRecDepth 100000 in
theorem bX11_roomFrom_6 {d : Nat} {Q : Option MV → MS → Prop} {x1 : Int32} {x2 : Int32} {s0 : Int32} {σ : MS}  (H : ((s0 = 0 → (vp_in x1 20 ∧ ((¬ (σ.1 56 0 ((x1).toNatClampNeg)) = x2 → (vp_in x1 10 ∧ Q (some (iV ((σ.1 58 0 ((x1).toNatClampNeg)) - (-(σ.1 78 0 ((x1).toNatClampNeg)))))) σ)) ∧ ((σ.1 56 0 ((x1).toNatClampNeg)) = x2 → (vp_in x1 10 ∧ Q (some (iV ((σ.1 58 0 ((x1).toNatClampNeg)) - (σ.1 78 0 ((x1).toNatClampNeg))))) σ))))) ∧ (¬ s0 = 0 → Q (some (iV (0 : Int32))) σ))) : R mj_OM d mX11_roomFrom Q 6 [some (rV 45 0), some (iV x1), some (iV x2)] [iV s0] σ := by
  refine r_if_eq (tgt := 11) dX11_roomFrom_6 (by decide) (fun c => ?_) (fun c => ?_)
  · have H := H.1 c
    refine r_aload_n dX11_roomFrom_11 rfl rfl ?_
    refine r_get (k := 45) (i := 0) (j := 14) (v := rV 58 0) rfl rfl ho45 rfl hX11 (by decide) rfl fX11_46 dX11_roomFrom_12 (fun _ => rfl) ?_
    refine r_iload_n dX11_roomFrom_15 rfl rfl ?_
    obtain ⟨q1, H⟩ := H
    refine r_iald (k := 58) (i := 0) rfl ho58 q1 dX11_roomFrom_16 ?_
    refine r_aload_n dX11_roomFrom_17 rfl rfl ?_
    refine r_get (k := 45) (i := 0) (j := 12) (v := rV 56 0) rfl rfl ho45 rfl hX11 (by decide) rfl fX11_40 dX11_roomFrom_18 (fun _ => rfl) ?_
    refine r_iload_n dX11_roomFrom_21 rfl rfl ?_
    refine r_iald (k := 56) (i := 0) rfl ho56 q1 dX11_roomFrom_22 ?_
    refine r_iload_n dX11_roomFrom_23 rfl rfl ?_
    refine r_icmp_ne (tgt := 36) dX11_roomFrom_24 (by decide) (fun c => ?_) (fun c => ?_)
    · have H := H.1 c
      refine r_aload_n dX11_roomFrom_36 rfl rfl ?_
      refine r_get (k := 45) (i := 0) (j := 59) (v := rV 78 0) rfl rfl ho45 rfl hX11 (by decide) rfl fX11_117 dX11_roomFrom_37 (fun _ => rfl) ?_
      refine r_iload_n dX11_roomFrom_40 rfl rfl ?_
      obtain ⟨q2, H⟩ := H
      refine r_iald (k := 78) (i := 0) rfl ho78 q2 dX11_roomFrom_41 ?_
      refine r_ineg dX11_roomFrom_42 ?_
      refine r_isub dX11_roomFrom_43 ?_
      exact r_iret dX11_roomFrom_44 rfl H
    · have H := H.2 c
      refine r_aload_n dX11_roomFrom_27 rfl rfl ?_
      refine r_get (k := 45) (i := 0) (j := 59) (v := rV 78 0) rfl rfl ho45 rfl hX11 (by decide) rfl fX11_117 dX11_roomFrom_28 (fun _ => rfl) ?_
      refine r_iload_n dX11_roomFrom_31 rfl rfl ?_
      obtain ⟨q3, H⟩ := H
      refine r_iald (k := 78) (i := 0) rfl ho78 q3 dX11_roomFrom_32 ?_
      refine r_goto (tgt := 43) dX11_roomFrom_33 (by decide) ?_
      refine r_isub dX11_roomFrom_43 ?_
      exact r_iret dX11_roomFrom_44 rfl H
  · have H := H.2 c
    refine r_iconst (v := (0 : Int32)) dX11_roomFrom_9 rfl ?_
    exact r_iret dX11_roomFrom_10 rfl H
set_option maxRecDepth 100000 in
theorem bX11_otherOf_0 {d : Nat} {Q : Option MV → MS → Prop} {x1 : Int32} {x2 : Int32} {σ : MS}  (H : (vp_in x1 20 ∧ ((¬ (σ.1 56 0 ((x1).toNatClampNeg)) = x2 → Q (some (iV (σ.1 56 0 ((x1).toNatClampNeg)))) σ) ∧ ((σ.1 56 0 ((x1).toNatClampNeg)) = x2 → Q (some (iV (σ.1 57 0 ((x1).toNatClampNeg)))) σ)))) : R mj_OM d mX11_otherOf Q 0 [some (rV 45 0), some (iV x1), some (iV x2)] [] σ := by
  refine r_aload_n dX11_otherOf_0 rfl rfl ?_
  refine r_get (k := 45) (i := 0) (j := 12) (v := rV 56 0) rfl rfl ho45 rfl hX11 (by decide) rfl fX11_40 dX11_otherOf_1 (fun _ => rfl) ?_
  refine r_iload_n dX11_otherOf_4 rfl rfl ?_
  obtain ⟨q1, H⟩ := H
  refine r_iald (k := 56) (i := 0) rfl ho56 q1 dX11_otherOf_5 ?_
  refine r_iload_n dX11_otherOf_6 rfl rfl ?_
  refine r_icmp_ne (tgt := 19) dX11_otherOf_7 (by decide) (fun c => ?_) (fun c => ?_)
  · have H := H.1 c
    refine r_aload_n dX11_otherOf_19 rfl rfl ?_
    refine r_get (k := 45) (i := 0) (j := 12) (v := rV 56 0) rfl rfl ho45 rfl hX11 (by decide) rfl fX11_40 dX11_otherOf_20 (fun _ => rfl) ?_
    refine r_iload_n dX11_otherOf_23 rfl rfl ?_
    refine r_iald (k := 56) (i := 0) rfl ho56 q1 dX11_otherOf_24 ?_
    exact r_iret dX11_otherOf_25 rfl H
  · have H := H.2 c
    refine r_aload_n dX11_otherOf_10 rfl rfl ?_
    refine r_get (k := 45) (i := 0) (j := 13) (v := rV 57 0) rfl rfl ho45 rfl hX11 (by decide) rfl fX11_43 dX11_otherOf_11 (fun _ => rfl) ?_
    refine r_iload_n dX11_otherOf_14 rfl rfl ?_
    refine r_iald (k := 57) (i := 0) rfl ho57 q1 dX11_otherOf_15 ?_
    refine r_goto (tgt := 25) dX11_otherOf_16 (by decide) ?_
    exact r_iret dX11_otherOf_25 rfl H
set_option maxRecDepth 100000 in
theorem bX11_findsOne_0 {d : Nat} {Q : Option MV → MS → Prop} {x1 : Int32} {x2 : Int32} {σ : MS}  (H : R mj_OM d mX11_findsOne Q 7 [some (rV 45 0), some (iV x1), some (iV x2), some (iV ((1 : Int32) <<< (x1 &&& 31))), some (iV (1 : Int32)), none, none, none] [] σ) : R mj_OM d mX11_findsOne Q 0 [some (rV 45 0), some (iV x1), some (iV x2), none, none, none, none, none] [] σ := by
  refine r_iconst (v := (1 : Int32)) dX11_findsOne_0 rfl ?_
  refine r_iload_n dX11_findsOne_1 rfl rfl ?_
  refine r_ishl dX11_findsOne_2 ?_
  refine r_istore_n dX11_findsOne_3 rfl (by decide) rfl ?_
  refine r_iconst (v := (1 : Int32)) dX11_findsOne_4 rfl ?_
  refine r_istore dX11_findsOne_5 (by decide) rfl ?_
  exact H
set_option maxRecDepth 100000 in
theorem bX11_findsOne_7 {d : Nat} {Q : Option MV → MS → Prop} {x1 : Int32} {x2 : Int32} {x3 : Int32} {x4 : Int32} {σ : MS}  (H : ((x4 = 0 → ((¬ ((x3 >>> (x2 &&& 31)) &&& (1 : Int32)) = (1 : Int32) → Q (some (iV (0 : Int32))) σ) ∧ (((x3 >>> (x2 &&& 31)) &&& (1 : Int32)) = (1 : Int32) → Q (some (iV (1 : Int32))) σ))) ∧ (¬ x4 = 0 → ((¬ ((x3 >>> (x2 &&& 31)) &&& (1 : Int32)) = 0 → ((¬ ((x3 >>> (x2 &&& 31)) &&& (1 : Int32)) = (1 : Int32) → Q (some (iV (0 : Int32))) σ) ∧ (((x3 >>> (x2 &&& 31)) &&& (1 : Int32)) = (1 : Int32) → Q (some (iV (1 : Int32))) σ))) ∧ (((x3 >>> (x2 &&& 31)) &&& (1 : Int32)) = 0 → R mj_OM d mX11_findsOne Q 26 [some (rV 45 0), some (iV x1), some (iV x2), some (iV x3), some (iV (0 : Int32)), some (iV (0 : Int32)), none, none] [] σ))))) : R mj_OM d mX11_findsOne Q 7 [some (rV 45 0), some (iV x1), some (iV x2), some (iV x3), some (iV x4), none, none, none] [] σ := by
  refine r_iload dX11_findsOne_7 rfl ?_
  refine r_if_eq (tgt := 146) dX11_findsOne_9 (by decide) (fun c => ?_) (fun c => ?_)
  · have H := H.1 c
    refine r_iload_n dX11_findsOne_146 rfl rfl ?_
    refine r_iload_n dX11_findsOne_147 rfl rfl ?_
    refine r_ishr dX11_findsOne_148 ?_
    refine r_iconst (v := (1 : Int32)) dX11_findsOne_149 rfl ?_
    refine r_iand dX11_findsOne_150 ?_
    refine r_iconst (v := (1 : Int32)) dX11_findsOne_151 rfl ?_
    refine r_icmp_ne (tgt := 159) dX11_findsOne_152 (by decide) (fun c => ?_) (fun c => ?_)
    · have H := H.1 c
      refine r_iconst (v := (0 : Int32)) dX11_findsOne_159 rfl ?_
      exact r_zret dX11_findsOne_160 rfl (by decide) H
    · have H := H.2 c
      refine r_iconst (v := (1 : Int32)) dX11_findsOne_155 rfl ?_
      refine r_goto (tgt := 160) dX11_findsOne_156 (by decide) ?_
      exact r_zret dX11_findsOne_160 rfl (by decide) H
  · have H := H.2 c
    refine r_iload_n dX11_findsOne_12 rfl rfl ?_
    refine r_iload_n dX11_findsOne_13 rfl rfl ?_
    refine r_ishr dX11_findsOne_14 ?_
    refine r_iconst (v := (1 : Int32)) dX11_findsOne_15 rfl ?_
    refine r_iand dX11_findsOne_16 ?_
    refine r_if_ne (tgt := 146) dX11_findsOne_17 (by decide) (fun c => ?_) (fun c => ?_)
    · have H := H.1 c
      refine r_iload_n dX11_findsOne_146 rfl rfl ?_
      refine r_iload_n dX11_findsOne_147 rfl rfl ?_
      refine r_ishr dX11_findsOne_148 ?_
      refine r_iconst (v := (1 : Int32)) dX11_findsOne_149 rfl ?_
      refine r_iand dX11_findsOne_150 ?_
      refine r_iconst (v := (1 : Int32)) dX11_findsOne_151 rfl ?_
      refine r_icmp_ne (tgt := 159) dX11_findsOne_152 (by decide) (fun c => ?_) (fun c => ?_)
      · have H := H.1 c
        refine r_iconst (v := (0 : Int32)) dX11_findsOne_159 rfl ?_
        exact r_zret dX11_findsOne_160 rfl (by decide) H
      · have H := H.2 c
        refine r_iconst (v := (1 : Int32)) dX11_findsOne_155 rfl ?_
        refine r_goto (tgt := 160) dX11_findsOne_156 (by decide) ?_
        exact r_zret dX11_findsOne_160 rfl (by decide) H
    · have H := H.2 c
      refine r_iconst (v := (0 : Int32)) dX11_findsOne_20 rfl ?_
      refine r_istore dX11_findsOne_21 (by decide) rfl ?_
      refine r_iconst (v := (0 : Int32)) dX11_findsOne_23 rfl ?_
      refine r_istore dX11_findsOne_24 (by decide) rfl ?_
      exact H
set_option maxRecDepth 100000 in
theorem bX11_findsOne_26 {d : Nat} {Q : Option MV → MS → Prop} {x1 : Int32} {x2 : Int32} {x3 : Int32} {x4 : Int32} {x5 : Int32} {σ : MS}  (H : (vp_in (2 : Int32) 18 ∧ ((((2 : Int32) * (σ.1 47 0 2)) ≤ x5 → R mj_OM (d + 1) mX11_findsOne Q 7 [some (rV 45 0), some (iV x1), some (iV x2), some (iV x3), some (iV x4), none, none, none] [] σ) ∧ (¬ ((2 : Int32) * (σ.1 47 0 2)) ≤ x5 → ((¬ (x5 - x5 / (2 : Int32) * (2 : Int32)) = 0 → (vp_in (x5 / (2 : Int32)) 20 ∧ (R mj_OM d mX11_otherOf (fun r σ' => R mj_OM (d + 1) mX11_findsOne Q 79 [some (rV 45 0), some (iV x1), some (iV x2), some (iV x3), some (iV x4), some (iV x5), some (iV (σ.1 57 0 (((x5 / (2 : Int32))).toNatClampNeg))), none] (r.toList ++ []) σ') 0 [some (rV 45 0), some (iV (x5 / (2 : Int32))), some (iV (σ.1 57 0 (((x5 / (2 : Int32))).toNatClampNeg)))] [] σ))) ∧ ((x5 - x5 / (2 : Int32) * (2 : Int32)) = 0 → (vp_in (x5 / (2 : Int32)) 20 ∧ (R mj_OM d mX11_otherOf (fun r σ' => R mj_OM (d + 1) mX11_findsOne Q 79 [some (rV 45 0), some (iV x1), some (iV x2), some (iV x3), some (iV x4), some (iV x5), some (iV (σ.1 56 0 (((x5 / (2 : Int32))).toNatClampNeg))), none] (r.toList ++ []) σ') 0 [some (rV 45 0), some (iV (x5 / (2 : Int32))), some (iV (σ.1 56 0 (((x5 / (2 : Int32))).toNatClampNeg)))] [] σ)))))))) : R mj_OM (d + 1) mX11_findsOne Q 26 [some (rV 45 0), some (iV x1), some (iV x2), some (iV x3), some (iV x4), some (iV x5), none, none] [] σ := by
  refine r_iload dX11_findsOne_26 rfl ?_
  refine r_iconst (v := (2 : Int32)) dX11_findsOne_28 rfl ?_
  refine r_aload_n dX11_findsOne_29 rfl rfl ?_
  refine r_get (k := 45) (i := 0) (j := 3) (v := rV 47 0) rfl rfl ho45 rfl hX11 (by decide) rfl fX11_13 dX11_findsOne_30 (fun _ => rfl) ?_
  refine r_iconst (v := (2 : Int32)) dX11_findsOne_33 rfl ?_
  obtain ⟨q1, H⟩ := H
  refine r_iald (k := 47) (i := 0) rfl ho47 q1 dX11_findsOne_34 ?_
  refine r_imul dX11_findsOne_35 ?_
  refine r_icmp_ge (tgt := 143) dX11_findsOne_36 (by decide) (fun c => ?_) (fun c => ?_)
  · have H := H.1 c
    refine r_goto (tgt := 7) dX11_findsOne_143 (by decide) ?_
    exact R.fw (ls' := [some (rV 45 0), some (iV x1), some (iV x2), some (iV x3), some (iV x4), none, none, none]) ⟨rfl, ⟨rfl, ⟨rfl, ⟨rfl, ⟨rfl, trivial⟩⟩⟩⟩⟩ H
  · have H := H.2 c
    refine r_iload dX11_findsOne_39 rfl ?_
    refine r_iconst (v := (2 : Int32)) dX11_findsOne_41 rfl ?_
    refine r_irem dX11_findsOne_42 (by decide) ?_
    refine r_if_ne (tgt := 58) dX11_findsOne_43 (by decide) (fun c => ?_) (fun c => ?_)
    · have H := H.1 c
      refine r_aload_n dX11_findsOne_58 rfl rfl ?_
      refine r_get (k := 45) (i := 0) (j := 13) (v := rV 57 0) rfl rfl ho45 rfl hX11 (by decide) rfl fX11_43 dX11_findsOne_59 (fun _ => rfl) ?_
      refine r_iload dX11_findsOne_62 rfl ?_
      refine r_iconst (v := (2 : Int32)) dX11_findsOne_64 rfl ?_
      refine r_idiv dX11_findsOne_65 (by decide) ?_
      obtain ⟨q2, H⟩ := H
      refine r_iald (k := 57) (i := 0) rfl ho57 q2 dX11_findsOne_66 ?_
      refine r_istore dX11_findsOne_67 (by decide) rfl ?_
      refine r_aload_n dX11_findsOne_69 rfl rfl ?_
      refine r_iload dX11_findsOne_70 rfl ?_
      refine r_iconst (v := (2 : Int32)) dX11_findsOne_72 rfl ?_
      refine r_idiv dX11_findsOne_73 (by decide) ?_
      refine r_iload dX11_findsOne_74 rfl ?_
      refine r_callV (z := 0) (k := 45) (i := 0) (As := [iV (x5 / (2 : Int32)), iV (σ.1 57 0 (((x5 / (2 : Int32))).toNatClampNeg))]) (st := []) kX11_otherOf i_X11_otherOf e_X11_otherOf lX11_545 dX11_findsOne_76 rfl rfl ho45 rfl rfl rfl rfl rfl (Nat.le_of_ble_eq_true rfl) ?_
      exact H
    · have H := H.2 c
      refine r_aload_n dX11_findsOne_46 rfl rfl ?_
      refine r_get (k := 45) (i := 0) (j := 12) (v := rV 56 0) rfl rfl ho45 rfl hX11 (by decide) rfl fX11_40 dX11_findsOne_47 (fun _ => rfl) ?_
      refine r_iload dX11_findsOne_50 rfl ?_
      refine r_iconst (v := (2 : Int32)) dX11_findsOne_52 rfl ?_
      refine r_idiv dX11_findsOne_53 (by decide) ?_
      obtain ⟨q3, H⟩ := H
      refine r_iald (k := 56) (i := 0) rfl ho56 q3 dX11_findsOne_54 ?_
      refine r_goto (tgt := 67) dX11_findsOne_55 (by decide) ?_
      refine r_istore dX11_findsOne_67 (by decide) rfl ?_
      refine r_aload_n dX11_findsOne_69 rfl rfl ?_
      refine r_iload dX11_findsOne_70 rfl ?_
      refine r_iconst (v := (2 : Int32)) dX11_findsOne_72 rfl ?_
      refine r_idiv dX11_findsOne_73 (by decide) ?_
      refine r_iload dX11_findsOne_74 rfl ?_
      refine r_callV (z := 0) (k := 45) (i := 0) (As := [iV (x5 / (2 : Int32)), iV (σ.1 56 0 (((x5 / (2 : Int32))).toNatClampNeg))]) (st := []) kX11_otherOf i_X11_otherOf e_X11_otherOf lX11_545 dX11_findsOne_76 rfl rfl ho45 rfl rfl rfl rfl rfl (Nat.le_of_ble_eq_true rfl) ?_
      exact H
set_option maxRecDepth 100000 in
theorem bX11_findsOne_79 {d : Nat} {Q : Option MV → MS → Prop} {x1 : Int32} {x2 : Int32} {x3 : Int32} {x4 : Int32} {x5 : Int32} {x6 : Int32} {s0 : Int32} {σ : MS}  (H : ((((x3 >>> (x6 &&& 31)) &&& (1 : Int32)) = 0 → R mj_OM (d + 1) mX11_findsOne Q 26 [some (rV 45 0), some (iV x1), some (iV x2), some (iV x3), some (iV x4), some (iV (x5 + (1 : Int32))), none, none] [] σ) ∧ (¬ ((x3 >>> (x6 &&& 31)) &&& (1 : Int32)) = 0 → ((((x3 >>> (s0 &&& 31)) &&& (1 : Int32)) = (1 : Int32) → R mj_OM (d + 1) mX11_findsOne Q 26 [some (rV 45 0), some (iV x1), some (iV x2), some (iV x3), some (iV x4), some (iV (x5 + (1 : Int32))), none, none] [] σ) ∧ (¬ ((x3 >>> (s0 &&& 31)) &&& (1 : Int32)) = (1 : Int32) → (R mj_OM d mX11_roomFrom (fun r σ' => R mj_OM (d + 1) mX11_findsOne Q 110 [some (rV 45 0), some (iV x1), some (iV x2), some (iV x3), some (iV x4), some (iV x5), some (iV x6), some (iV s0)] (r.toList ++ []) σ') 0 [some (rV 45 0), some (iV (x5 / (2 : Int32))), some (iV x6)] [] σ)))))) : R mj_OM (d + 1) mX11_findsOne Q 79 [some (rV 45 0), some (iV x1), some (iV x2), some (iV x3), some (iV x4), some (iV x5), some (iV x6), none] [iV s0] σ := by
  refine r_istore dX11_findsOne_79 (by decide) rfl ?_
  refine r_iload_n dX11_findsOne_81 rfl rfl ?_
  refine r_iload dX11_findsOne_82 rfl ?_
  refine r_ishr dX11_findsOne_84 ?_
  refine r_iconst (v := (1 : Int32)) dX11_findsOne_85 rfl ?_
  refine r_iand dX11_findsOne_86 ?_
  refine r_if_eq (tgt := 137) dX11_findsOne_87 (by decide) (fun c => ?_) (fun c => ?_)
  · have H := H.1 c
    refine r_iinc (v := x5 + (1 : Int32)) dX11_findsOne_137 rfl rfl (by decide) rfl ?_
    refine r_goto (tgt := 26) dX11_findsOne_140 (by decide) ?_
    exact R.fw (ls' := [some (rV 45 0), some (iV x1), some (iV x2), some (iV x3), some (iV x4), some (iV (x5 + (1 : Int32))), none, none]) ⟨rfl, ⟨rfl, ⟨rfl, ⟨rfl, ⟨rfl, ⟨rfl, trivial⟩⟩⟩⟩⟩⟩ H
  · have H := H.2 c
    refine r_iload_n dX11_findsOne_90 rfl rfl ?_
    refine r_iload dX11_findsOne_91 rfl ?_
    refine r_ishr dX11_findsOne_93 ?_
    refine r_iconst (v := (1 : Int32)) dX11_findsOne_94 rfl ?_
    refine r_iand dX11_findsOne_95 ?_
    refine r_iconst (v := (1 : Int32)) dX11_findsOne_96 rfl ?_
    refine r_icmp_eq (tgt := 137) dX11_findsOne_97 (by decide) (fun c => ?_) (fun c => ?_)
    · have H := H.1 c
      refine r_iinc (v := x5 + (1 : Int32)) dX11_findsOne_137 rfl rfl (by decide) rfl ?_
      refine r_goto (tgt := 26) dX11_findsOne_140 (by decide) ?_
      exact R.fw (ls' := [some (rV 45 0), some (iV x1), some (iV x2), some (iV x3), some (iV x4), some (iV (x5 + (1 : Int32))), none, none]) ⟨rfl, ⟨rfl, ⟨rfl, ⟨rfl, ⟨rfl, ⟨rfl, trivial⟩⟩⟩⟩⟩⟩ H
    · have H := H.2 c
      refine r_aload_n dX11_findsOne_100 rfl rfl ?_
      refine r_iload dX11_findsOne_101 rfl ?_
      refine r_iconst (v := (2 : Int32)) dX11_findsOne_103 rfl ?_
      refine r_idiv dX11_findsOne_104 (by decide) ?_
      refine r_iload dX11_findsOne_105 rfl ?_
      refine r_callV (z := 0) (k := 45) (i := 0) (As := [iV (x5 / (2 : Int32)), iV x6]) (st := []) kX11_roomFrom i_X11_roomFrom e_X11_roomFrom lX11_548 dX11_findsOne_107 rfl rfl ho45 rfl rfl rfl rfl rfl (Nat.le_of_ble_eq_true rfl) ?_
      exact H
set_option maxRecDepth 100000 in
theorem bX11_findsOne_110 {d : Nat} {Q : Option MV → MS → Prop} {x1 : Int32} {x2 : Int32} {x3 : Int32} {x4 : Int32} {x5 : Int32} {x6 : Int32} {x7 : Int32} {s0 : Int32} {σ : MS}  (H : ((¬ s0 = 0 → (vp_in x7 7 ∧ R mj_OM d mX11_findsOne Q 26 [some (rV 45 0), some (iV x1), some (iV x2), some (iV (x3 ||| ((1 : Int32) <<< (x7 &&& 31)))), some (iV (1 : Int32)), some (iV (x5 + (1 : Int32))), none, none] [] (uI σ 79 0 ((x7).toNatClampNeg) (x5 / (2 : Int32))))) ∧ (s0 = 0 → R mj_OM d mX11_findsOne Q 26 [some (rV 45 0), some (iV x1), some (iV x2), some (iV x3), some (iV x4), some (iV (x5 + (1 : Int32))), none, none] [] σ))) : R mj_OM d mX11_findsOne Q 110 [some (rV 45 0), some (iV x1), some (iV x2), some (iV x3), some (iV x4), some (iV x5), some (iV x6), some (iV x7)] [iV s0] σ := by
  refine r_if_ne (tgt := 116) dX11_findsOne_110 (by decide) (fun c => ?_) (fun c => ?_)
  · have H := H.1 c
    refine r_iload_n dX11_findsOne_116 rfl rfl ?_
    refine r_iconst (v := (1 : Int32)) dX11_findsOne_117 rfl ?_
    refine r_iload dX11_findsOne_118 rfl ?_
    refine r_ishl dX11_findsOne_120 ?_
    refine r_ior dX11_findsOne_121 ?_
    refine r_istore_n dX11_findsOne_122 rfl (by decide) rfl ?_
    refine r_aload_n dX11_findsOne_123 rfl rfl ?_
    refine r_get (k := 45) (i := 0) (j := 60) (v := rV 79 0) rfl rfl ho45 rfl hX11 (by decide) rfl fX11_120 dX11_findsOne_124 (fun _ => rfl) ?_
    refine r_iload dX11_findsOne_127 rfl ?_
    refine r_iload dX11_findsOne_129 rfl ?_
    refine r_iconst (v := (2 : Int32)) dX11_findsOne_131 rfl ?_
    refine r_idiv dX11_findsOne_132 (by decide) ?_
    obtain ⟨q1, H⟩ := H
    refine r_iast (k := 79) (i := 0) rfl ho79 q1 dX11_findsOne_133 ?_
    refine r_iconst (v := (1 : Int32)) dX11_findsOne_134 rfl ?_
    refine r_istore dX11_findsOne_135 (by decide) rfl ?_
    refine r_iinc (v := x5 + (1 : Int32)) dX11_findsOne_137 rfl rfl (by decide) rfl ?_
    refine r_goto (tgt := 26) dX11_findsOne_140 (by decide) ?_
    exact R.fw (ls' := [some (rV 45 0), some (iV x1), some (iV x2), some (iV (x3 ||| ((1 : Int32) <<< (x7 &&& 31)))), some (iV (1 : Int32)), some (iV (x5 + (1 : Int32))), none, none]) ⟨rfl, ⟨rfl, ⟨rfl, ⟨rfl, ⟨rfl, ⟨rfl, trivial⟩⟩⟩⟩⟩⟩ H
  · have H := H.2 c
    refine r_goto (tgt := 137) dX11_findsOne_113 (by decide) ?_
    refine r_iinc (v := x5 + (1 : Int32)) dX11_findsOne_137 rfl rfl (by decide) rfl ?_
    refine r_goto (tgt := 26) dX11_findsOne_140 (by decide) ?_
    exact R.fw (ls' := [some (rV 45 0), some (iV x1), some (iV x2), some (iV x3), some (iV x4), some (iV (x5 + (1 : Int32))), none, none]) ⟨rfl, ⟨rfl, ⟨rfl, ⟨rfl, ⟨rfl, ⟨rfl, trivial⟩⟩⟩⟩⟩⟩ H
set_option maxRecDepth 100000 in
theorem bX11_sends_0 {d : Nat} {Q : Option MV → MS → Prop} {x1 : Int32} {x2 : Int32} {σ : MS}  (H : R mj_OM d mX11_sends Q 6 [some (rV 45 0), some (iV x1), some (iV x2), some (iV (100 : Int32)), some (iV x2)] [] σ) : R mj_OM d mX11_sends Q 0 [some (rV 45 0), some (iV x1), some (iV x2), none, none] [] σ := by
  refine r_bipush (v := (100 : Int32)) dX11_sends_0 rfl ?_
  refine r_istore_n dX11_sends_2 rfl (by decide) rfl ?_
  refine r_iload_n dX11_sends_3 rfl rfl ?_
  refine r_istore dX11_sends_4 (by decide) rfl ?_
  exact H
set_option maxRecDepth 100000 in
theorem bX11_sends_6 {d : Nat} {Q : Option MV → MS → Prop} {x1 : Int32} {x2 : Int32} {x3 : Int32} {x4 : Int32} {σ : MS}  (H : ((x4 = x1 → R mj_OM (d + 1) mX11_sends Q 62 [some (rV 45 0), some (iV x1), some (iV x2), some (iV x3), some (iV x2)] [] σ) ∧ (¬ x4 = x1 → (vp_in x4 7 ∧ (R mj_OM d mX11_otherOf (fun r σ' => R mj_OM (d + 1) mX11_sends Q 34 [some (rV 45 0), some (iV x1), some (iV x2), some (iV x3), some (iV x4)] (r.toList ++ [iV (σ.1 79 0 ((x4).toNatClampNeg)), rV 45 0, iV x3]) σ') 0 [some (rV 45 0), some (iV (σ.1 79 0 ((x4).toNatClampNeg))), some (iV x4)] [] σ))))) : R mj_OM (d + 1) mX11_sends Q 6 [some (rV 45 0), some (iV x1), some (iV x2), some (iV x3), some (iV x4)] [] σ := by
  refine r_iload dX11_sends_6 rfl ?_
  refine r_iload_n dX11_sends_8 rfl rfl ?_
  refine r_icmp_eq (tgt := 59) dX11_sends_9 (by decide) (fun c => ?_) (fun c => ?_)
  · have H := H.1 c
    refine r_iload_n dX11_sends_59 rfl rfl ?_
    refine r_istore dX11_sends_60 (by decide) rfl ?_
    exact H
  · have H := H.2 c
    refine r_iload_n dX11_sends_12 rfl rfl ?_
    refine r_aload_n dX11_sends_13 rfl rfl ?_
    refine r_aload_n dX11_sends_14 rfl rfl ?_
    refine r_get (k := 45) (i := 0) (j := 60) (v := rV 79 0) rfl rfl ho45 rfl hX11 (by decide) rfl fX11_120 dX11_sends_15 (fun _ => rfl) ?_
    refine r_iload dX11_sends_18 rfl ?_
    obtain ⟨q1, H⟩ := H
    refine r_iald (k := 79) (i := 0) rfl ho79 q1 dX11_sends_20 ?_
    refine r_aload_n dX11_sends_21 rfl rfl ?_
    refine r_aload_n dX11_sends_22 rfl rfl ?_
    refine r_get (k := 45) (i := 0) (j := 60) (v := rV 79 0) rfl rfl ho45 rfl hX11 (by decide) rfl fX11_120 dX11_sends_23 (fun _ => rfl) ?_
    refine r_iload dX11_sends_26 rfl ?_
    refine r_iald (k := 79) (i := 0) rfl ho79 q1 dX11_sends_28 ?_
    refine r_iload dX11_sends_29 rfl ?_
    refine r_callV (z := 0) (k := 45) (i := 0) (As := [iV (σ.1 79 0 ((x4).toNatClampNeg)), iV x4]) (st := [iV (σ.1 79 0 ((x4).toNatClampNeg)), rV 45 0, iV x3]) kX11_otherOf i_X11_otherOf e_X11_otherOf lX11_545 dX11_sends_31 rfl rfl ho45 rfl rfl rfl rfl rfl (Nat.le_of_ble_eq_true rfl) ?_
    exact H
set_option maxRecDepth 100000 in
theorem bX11_sends_34 {d : Nat} {Q : Option MV → MS → Prop} {x1 : Int32} {x2 : Int32} {x3 : Int32} {x4 : Int32} {s0 : Int32} {s1 : Int32} {s3 : Int32} {σ : MS}  (H : (R mj_OM d mX11_roomFrom (fun r σ' => R mj_OM (d + 1) mX11_sends Q 37 [some (rV 45 0), some (iV x1), some (iV x2), some (iV x3), some (iV x4)] (r.toList ++ [iV s3]) σ') 0 [some (rV 45 0), some (iV s1), some (iV s0)] [] σ)) : R mj_OM (d + 1) mX11_sends Q 34 [some (rV 45 0), some (iV x1), some (iV x2), some (iV x3), some (iV x4)] [iV s0, iV s1, rV 45 0, iV s3] σ := by
  refine r_callV (z := 0) (k := 45) (i := 0) (As := [iV s1, iV s0]) (st := [iV s3]) kX11_roomFrom i_X11_roomFrom e_X11_roomFrom lX11_548 dX11_sends_34 rfl rfl ho45 rfl rfl rfl rfl rfl (Nat.le_of_ble_eq_true rfl) ?_
  exact H
set_option maxRecDepth 100000 in
theorem bX11_sends_37 {d : Nat} {Q : Option MV → MS → Prop} {x1 : Int32} {x2 : Int32} {x3 : Int32} {x4 : Int32} {s0 : Int32} {s1 : Int32} {σ : MS}  (H : (vp_in x4 7 ∧ (R mj_OM d mX11_otherOf (fun r σ' => R mj_OM (d + 1) mX11_sends Q 54 [some (rV 45 0), some (iV x1), some (iV x2), some (iV (if s0 < s1 then s0 else s1)), some (iV x4)] (r.toList ++ []) σ') 0 [some (rV 45 0), some (iV (σ.1 79 0 ((x4).toNatClampNeg))), some (iV x4)] [] σ))) : R mj_OM (d + 1) mX11_sends Q 37 [some (rV 45 0), some (iV x1), some (iV x2), some (iV x3), some (iV x4)] [iV s0, iV s1] σ := by
  refine r_mmin lX11_359 dX11_sends_37 (Nat.le_of_ble_eq_true rfl) ?_
  refine r_istore_n dX11_sends_40 rfl (by decide) rfl ?_
  refine r_aload_n dX11_sends_41 rfl rfl ?_
  refine r_aload_n dX11_sends_42 rfl rfl ?_
  refine r_get (k := 45) (i := 0) (j := 60) (v := rV 79 0) rfl rfl ho45 rfl hX11 (by decide) rfl fX11_120 dX11_sends_43 (fun _ => rfl) ?_
  refine r_iload dX11_sends_46 rfl ?_
  obtain ⟨q1, H⟩ := H
  refine r_iald (k := 79) (i := 0) rfl ho79 q1 dX11_sends_48 ?_
  refine r_iload dX11_sends_49 rfl ?_
  refine r_callV (z := 0) (k := 45) (i := 0) (As := [iV (σ.1 79 0 ((x4).toNatClampNeg)), iV x4]) (st := []) kX11_otherOf i_X11_otherOf e_X11_otherOf lX11_545 dX11_sends_51 rfl rfl ho45 rfl rfl rfl rfl rfl (Nat.le_of_ble_eq_true rfl) ?_
  exact H
set_option maxRecDepth 100000 in
theorem bX11_sends_54 {d : Nat} {Q : Option MV → MS → Prop} {x1 : Int32} {x2 : Int32} {x3 : Int32} {x4 : Int32} {s0 : Int32} {σ : MS}  (H : R mj_OM d mX11_sends Q 6 [some (rV 45 0), some (iV x1), some (iV x2), some (iV x3), some (iV s0)] [] σ) : R mj_OM d mX11_sends Q 54 [some (rV 45 0), some (iV x1), some (iV x2), some (iV x3), some (iV x4)] [iV s0] σ := by
  refine r_istore dX11_sends_54 (by decide) rfl ?_
  refine r_goto (tgt := 6) dX11_sends_56 (by decide) ?_
  exact H
set_option maxRecDepth 100000 in
theorem bX11_sends_62 {d : Nat} {Q : Option MV → MS → Prop} {x1 : Int32} {x2 : Int32} {x3 : Int32} {x4 : Int32} {σ : MS}  (H : ((x4 = x1 → Q (some (iV x3)) σ) ∧ (¬ x4 = x1 → (vp_in x4 7 ∧ vp_in (σ.1 79 0 ((x4).toNatClampNeg)) 10 ∧ vp_in (σ.1 79 0 ((x4).toNatClampNeg)) 20 ∧ ((¬ (σ.1 57 0 (((σ.1 79 0 ((x4).toNatClampNeg))).toNatClampNeg)) = x4 → (R mj_OM d mX11_otherOf (fun r σ' => R mj_OM (d + 1) mX11_sends Q 119 [some (rV 45 0), some (iV x1), some (iV x2), some (iV x3), some (iV x4)] (r.toList ++ []) σ') 0 [some (rV 45 0), some (iV (σ.1 79 0 ((x4).toNatClampNeg))), some (iV x4)] [] (uI σ 78 0 (((σ.1 79 0 ((x4).toNatClampNeg))).toNatClampNeg) ((σ.1 78 0 (((σ.1 79 0 ((x4).toNatClampNeg))).toNatClampNeg)) + (-x3))))) ∧ ((σ.1 57 0 (((σ.1 79 0 ((x4).toNatClampNeg))).toNatClampNeg)) = x4 → (R mj_OM d mX11_otherOf (fun r σ' => R mj_OM (d + 1) mX11_sends Q 119 [some (rV 45 0), some (iV x1), some (iV x2), some (iV x3), some (iV x4)] (r.toList ++ []) σ') 0 [some (rV 45 0), some (iV (σ.1 79 0 ((x4).toNatClampNeg))), some (iV x4)] [] (uI σ 78 0 (((σ.1 79 0 ((x4).toNatClampNeg))).toNatClampNeg) ((σ.1 78 0 (((σ.1 79 0 ((x4).toNatClampNeg))).toNatClampNeg)) + x3))))))))) : R mj_OM (d + 1) mX11_sends Q 62 [some (rV 45 0), some (iV x1), some (iV x2), some (iV x3), some (iV x4)] [] σ := by
  refine r_iload dX11_sends_62 rfl ?_
  refine r_iload_n dX11_sends_64 rfl rfl ?_
  refine r_icmp_eq (tgt := 124) dX11_sends_65 (by decide) (fun c => ?_) (fun c => ?_)
  · have H := H.1 c
    refine r_iload_n dX11_sends_124 rfl rfl ?_
    exact r_iret dX11_sends_125 rfl H
  · have H := H.2 c
    refine r_aload_n dX11_sends_68 rfl rfl ?_
    refine r_get (k := 45) (i := 0) (j := 59) (v := rV 78 0) rfl rfl ho45 rfl hX11 (by decide) rfl fX11_117 dX11_sends_69 (fun _ => rfl) ?_
    refine r_aload_n dX11_sends_72 rfl rfl ?_
    refine r_get (k := 45) (i := 0) (j := 60) (v := rV 79 0) rfl rfl ho45 rfl hX11 (by decide) rfl fX11_120 dX11_sends_73 (fun _ => rfl) ?_
    refine r_iload dX11_sends_76 rfl ?_
    obtain ⟨q1, H⟩ := H
    refine r_iald (k := 79) (i := 0) rfl ho79 q1 dX11_sends_78 ?_
    refine r_dup2_ri dX11_sends_79 ?_
    obtain ⟨q2, H⟩ := H
    refine r_iald (k := 78) (i := 0) rfl ho78 q2 dX11_sends_80 ?_
    refine r_aload_n dX11_sends_81 rfl rfl ?_
    refine r_get (k := 45) (i := 0) (j := 13) (v := rV 57 0) rfl rfl ho45 rfl hX11 (by decide) rfl fX11_43 dX11_sends_82 (fun _ => rfl) ?_
    refine r_aload_n dX11_sends_85 rfl rfl ?_
    refine r_get (k := 45) (i := 0) (j := 60) (v := rV 79 0) rfl rfl ho45 rfl hX11 (by decide) rfl fX11_120 dX11_sends_86 (fun _ => rfl) ?_
    refine r_iload dX11_sends_89 rfl ?_
    refine r_iald (k := 79) (i := 0) rfl ho79 q1 dX11_sends_91 ?_
    obtain ⟨q3, H⟩ := H
    refine r_iald (k := 57) (i := 0) rfl ho57 q3 dX11_sends_92 ?_
    refine r_iload dX11_sends_93 rfl ?_
    refine r_icmp_ne (tgt := 102) dX11_sends_95 (by decide) (fun c => ?_) (fun c => ?_)
    · have H := H.1 c
      refine r_iload_n dX11_sends_102 rfl rfl ?_
      refine r_ineg dX11_sends_103 ?_
      refine r_iadd dX11_sends_104 ?_
      refine r_iast (k := 78) (i := 0) rfl ho78 q2 dX11_sends_105 ?_
      refine r_aload_n dX11_sends_106 rfl rfl ?_
      refine r_aload_n dX11_sends_107 rfl rfl ?_
      refine r_get (k := 45) (i := 0) (j := 60) (v := rV 79 0) rfl rfl ho45 rfl hX11 (by decide) rfl fX11_120 dX11_sends_108 (fun _ => rfl) ?_
      refine r_iload dX11_sends_111 rfl ?_
      refine r_iald (k := 79) (i := 0) rfl ho79 q1 dX11_sends_113 ?_
      refine r_iload dX11_sends_114 rfl ?_
      refine r_callV (z := 0) (k := 45) (i := 0) (As := [iV (σ.1 79 0 ((x4).toNatClampNeg)), iV x4]) (st := []) kX11_otherOf i_X11_otherOf e_X11_otherOf lX11_545 dX11_sends_116 rfl rfl ho45 rfl rfl rfl rfl rfl (Nat.le_of_ble_eq_true rfl) ?_
      exact H
    · have H := H.2 c
      refine r_iload_n dX11_sends_98 rfl rfl ?_
      refine r_goto (tgt := 104) dX11_sends_99 (by decide) ?_
      refine r_iadd dX11_sends_104 ?_
      refine r_iast (k := 78) (i := 0) rfl ho78 q2 dX11_sends_105 ?_
      refine r_aload_n dX11_sends_106 rfl rfl ?_
      refine r_aload_n dX11_sends_107 rfl rfl ?_
      refine r_get (k := 45) (i := 0) (j := 60) (v := rV 79 0) rfl rfl ho45 rfl hX11 (by decide) rfl fX11_120 dX11_sends_108 (fun _ => rfl) ?_
      refine r_iload dX11_sends_111 rfl ?_
      refine r_iald (k := 79) (i := 0) rfl ho79 q1 dX11_sends_113 ?_
      refine r_iload dX11_sends_114 rfl ?_
      refine r_callV (z := 0) (k := 45) (i := 0) (As := [iV (σ.1 79 0 ((x4).toNatClampNeg)), iV x4]) (st := []) kX11_otherOf i_X11_otherOf e_X11_otherOf lX11_545 dX11_sends_116 rfl rfl ho45 rfl rfl rfl rfl rfl (Nat.le_of_ble_eq_true rfl) ?_
      exact H
set_option maxRecDepth 100000 in
theorem bX11_sends_119 {d : Nat} {Q : Option MV → MS → Prop} {x1 : Int32} {x2 : Int32} {x3 : Int32} {x4 : Int32} {s0 : Int32} {σ : MS}  (H : R mj_OM d mX11_sends Q 62 [some (rV 45 0), some (iV x1), some (iV x2), some (iV x3), some (iV s0)] [] σ) : R mj_OM d mX11_sends Q 119 [some (rV 45 0), some (iV x1), some (iV x2), some (iV x3), some (iV x4)] [iV s0] σ := by
  refine r_istore dX11_sends_119 (by decide) rfl ?_
  refine r_goto (tgt := 62) dX11_sends_121 (by decide) ?_
  exact H
set_option maxRecDepth 100000 in
theorem bX11_pass_0 {d : Nat} {Q : Option MV → MS → Prop} {x1 : Int32} {x2 : Int32} {σ : MS}  (H : (R mj_OM d mX11_isPond (fun r σ' => R mj_OM (d + 1) mX11_pass Q 10 [some (rV 45 0), some (iV x1), some (iV x2), none] (r.toList ++ []) σ') 0 [some (rV 45 0), some (iV x1)] [] (uI σ 45 0 0 (0 : Int32)))) : R mj_OM (d + 1) mX11_pass Q 0 [some (rV 45 0), some (iV x1), some (iV x2), none] [] σ := by
  refine r_aload_n dX11_pass_0 rfl rfl ?_
  refine r_iconst (v := (0 : Int32)) dX11_pass_1 rfl ?_
  refine r_putI (k := 45) (i := 0) (j := 0) (ty0 := tyX11) rfl rfl ho45 rfl hX11 (by decide) rfl fX11_151 dX11_pass_2 rfl tyX11_ok nmX11 rfl rfl rfl ?_
  refine r_aload_n dX11_pass_5 rfl rfl ?_
  refine r_iload_n dX11_pass_6 rfl rfl ?_
  refine r_callV (z := 0) (k := 45) (i := 0) (As := [iV x1]) (st := []) kX11_isPond i_X11_isPond e_X11_isPond lX11_446 dX11_pass_7 rfl rfl ho45 rfl rfl rfl rfl rfl (Nat.le_of_ble_eq_true rfl) ?_
  exact H
set_option maxRecDepth 100000 in
theorem bX11_pass_10 {d : Nat} {Q : Option MV → MS → Prop} {x1 : Int32} {x2 : Int32} {s0 : Int32} {σ : MS}  (H : ((s0 = 0 → Q (some (iV (-1 : Int32))) σ) ∧ (¬ s0 = 0 → (R mj_OM d mX11_isPond (fun r σ' => R mj_OM (d + 1) mX11_pass Q 18 [some (rV 45 0), some (iV x1), some (iV x2), none] (r.toList ++ []) σ') 0 [some (rV 45 0), some (iV x2)] [] σ)))) : R mj_OM (d + 1) mX11_pass Q 10 [some (rV 45 0), some (iV x1), some (iV x2), none] [iV s0] σ := by
  refine r_if_eq (tgt := 26) dX11_pass_10 (by decide) (fun c => ?_) (fun c => ?_)
  · have H := H.1 c
    refine r_iconst (v := (-1 : Int32)) dX11_pass_26 rfl ?_
    exact r_iret dX11_pass_27 rfl H
  · have H := H.2 c
    refine r_aload_n dX11_pass_13 rfl rfl ?_
    refine r_iload_n dX11_pass_14 rfl rfl ?_
    refine r_callV (z := 0) (k := 45) (i := 0) (As := [iV x2]) (st := []) kX11_isPond i_X11_isPond e_X11_isPond lX11_446 dX11_pass_15 rfl rfl ho45 rfl rfl rfl rfl rfl (Nat.le_of_ble_eq_true rfl) ?_
    exact H
set_option maxRecDepth 100000 in
theorem bX11_pass_18 {d : Nat} {Q : Option MV → MS → Prop} {x1 : Int32} {x2 : Int32} {s0 : Int32} {σ : MS}  (H : ((s0 = 0 → Q (some (iV (-1 : Int32))) σ) ∧ (¬ s0 = 0 → ((¬ x1 = x2 → R mj_OM d mX11_pass Q 30 [some (rV 45 0), some (iV x1), some (iV x2), some (iV (0 : Int32))] [] σ) ∧ (x1 = x2 → Q (some (iV (-1 : Int32))) σ))))) : R mj_OM d mX11_pass Q 18 [some (rV 45 0), some (iV x1), some (iV x2), none] [iV s0] σ := by
  refine r_if_eq (tgt := 26) dX11_pass_18 (by decide) (fun c => ?_) (fun c => ?_)
  · have H := H.1 c
    refine r_iconst (v := (-1 : Int32)) dX11_pass_26 rfl ?_
    exact r_iret dX11_pass_27 rfl H
  · have H := H.2 c
    refine r_iload_n dX11_pass_21 rfl rfl ?_
    refine r_iload_n dX11_pass_22 rfl rfl ?_
    refine r_icmp_ne (tgt := 28) dX11_pass_23 (by decide) (fun c => ?_) (fun c => ?_)
    · have H := H.1 c
      refine r_iconst (v := (0 : Int32)) dX11_pass_28 rfl ?_
      refine r_istore_n dX11_pass_29 rfl (by decide) rfl ?_
      exact H
    · have H := H.2 c
      refine r_iconst (v := (-1 : Int32)) dX11_pass_26 rfl ?_
      exact r_iret dX11_pass_27 rfl H
set_option maxRecDepth 100000 in
theorem bX11_pass_30 {d : Nat} {Q : Option MV → MS → Prop} {x1 : Int32} {x2 : Int32} {x3 : Int32} {σ : MS}  (H : (((10 : Int32) ≤ x3 → R mj_OM d mX11_pass Q 51 [some (rV 45 0), some (iV x1), some (iV x2), some (iV (0 : Int32))] [] σ) ∧ (¬ (10 : Int32) ≤ x3 → (vp_in x3 10 ∧ R mj_OM d mX11_pass Q 30 [some (rV 45 0), some (iV x1), some (iV x2), some (iV (x3 + (1 : Int32)))] [] (uI σ 78 0 ((x3).toNatClampNeg) (0 : Int32)))))) : R mj_OM d mX11_pass Q 30 [some (rV 45 0), some (iV x1), some (iV x2), some (iV x3)] [] σ := by
  refine r_iload_n dX11_pass_30 rfl rfl ?_
  refine r_bipush (v := (10 : Int32)) dX11_pass_31 rfl ?_
  refine r_icmp_ge (tgt := 49) dX11_pass_33 (by decide) (fun c => ?_) (fun c => ?_)
  · have H := H.1 c
    refine r_iconst (v := (0 : Int32)) dX11_pass_49 rfl ?_
    refine r_istore_n dX11_pass_50 rfl (by decide) rfl ?_
    exact H
  · have H := H.2 c
    refine r_aload_n dX11_pass_36 rfl rfl ?_
    refine r_get (k := 45) (i := 0) (j := 59) (v := rV 78 0) rfl rfl ho45 rfl hX11 (by decide) rfl fX11_117 dX11_pass_37 (fun _ => rfl) ?_
    refine r_iload_n dX11_pass_40 rfl rfl ?_
    refine r_iconst (v := (0 : Int32)) dX11_pass_41 rfl ?_
    obtain ⟨q1, H⟩ := H
    refine r_iast (k := 78) (i := 0) rfl ho78 q1 dX11_pass_42 ?_
    refine r_iinc (v := x3 + (1 : Int32)) dX11_pass_43 rfl rfl (by decide) rfl ?_
    refine r_goto (tgt := 30) dX11_pass_46 (by decide) ?_
    exact H
set_option maxRecDepth 100000 in
theorem bX11_pass_51 {d : Nat} {Q : Option MV → MS → Prop} {x1 : Int32} {x2 : Int32} {x3 : Int32} {σ : MS}  (H : (R mj_OM d mX11_findsOne (fun r σ' => R mj_OM (d + 1) mX11_pass Q 57 [some (rV 45 0), some (iV x1), some (iV x2), some (iV x3)] (r.toList ++ []) σ') 0 [some (rV 45 0), some (iV x1), some (iV x2), none, none, none, none, none] [] σ)) : R mj_OM (d + 1) mX11_pass Q 51 [some (rV 45 0), some (iV x1), some (iV x2), some (iV x3)] [] σ := by
  refine r_aload_n dX11_pass_51 rfl rfl ?_
  refine r_iload_n dX11_pass_52 rfl rfl ?_
  refine r_iload_n dX11_pass_53 rfl rfl ?_
  refine r_callV (z := 5) (k := 45) (i := 0) (As := [iV x1, iV x2]) (st := []) kX11_findsOne i_X11_findsOne e_X11_findsOne lX11_551 dX11_pass_54 rfl rfl ho45 rfl rfl rfl rfl rfl (Nat.le_of_ble_eq_true rfl) ?_
  exact H
set_option maxRecDepth 100000 in
theorem bX11_pass_57 {d : Nat} {Q : Option MV → MS → Prop} {x1 : Int32} {x2 : Int32} {x3 : Int32} {s0 : Int32} {σ : MS}  (H : ((s0 = 0 → Q (some (iV x3)) σ) ∧ (¬ s0 = 0 → (R mj_OM d mX11_sends (fun r σ' => R mj_OM (d + 1) mX11_pass Q 67 [some (rV 45 0), some (iV x1), some (iV x2), some (iV x3)] (r.toList ++ [iV x3]) σ') 0 [some (rV 45 0), some (iV x1), some (iV x2), none, none] [] σ)))) : R mj_OM (d + 1) mX11_pass Q 57 [some (rV 45 0), some (iV x1), some (iV x2), some (iV x3)] [iV s0] σ := by
  refine r_if_eq (tgt := 72) dX11_pass_57 (by decide) (fun c => ?_) (fun c => ?_)
  · have H := H.1 c
    refine r_iload_n dX11_pass_72 rfl rfl ?_
    exact r_iret dX11_pass_73 rfl H
  · have H := H.2 c
    refine r_iload_n dX11_pass_60 rfl rfl ?_
    refine r_aload_n dX11_pass_61 rfl rfl ?_
    refine r_iload_n dX11_pass_62 rfl rfl ?_
    refine r_iload_n dX11_pass_63 rfl rfl ?_
    refine r_callV (z := 2) (k := 45) (i := 0) (As := [iV x1, iV x2]) (st := [iV x3]) kX11_sends i_X11_sends e_X11_sends lX11_554 dX11_pass_64 rfl rfl ho45 rfl rfl rfl rfl rfl (Nat.le_of_ble_eq_true rfl) ?_
    exact H
set_option maxRecDepth 100000 in
theorem bX11_pass_67 {d : Nat} {Q : Option MV → MS → Prop} {x1 : Int32} {x2 : Int32} {x3 : Int32} {s0 : Int32} {s1 : Int32} {σ : MS}  (H : R mj_OM d mX11_pass Q 51 [some (rV 45 0), some (iV x1), some (iV x2), some (iV (s1 + s0))] [] σ) : R mj_OM d mX11_pass Q 67 [some (rV 45 0), some (iV x1), some (iV x2), some (iV x3)] [iV s0, iV s1] σ := by
  refine r_iadd dX11_pass_67 ?_
  refine r_istore_n dX11_pass_68 rfl (by decide) rfl ?_
  refine r_goto (tgt := 51) dX11_pass_69 (by decide) ?_
  exact H
set_option maxRecDepth 100000 in
theorem bX11_lockfuls_0 {d : Nat} {Q : Option MV → MS → Prop} {x1 : Int32} {x2 : Int32} {σ : MS}  (H : (R mj_OM d mX11_isPond (fun r σ' => R mj_OM (d + 1) mX11_lockfuls Q 10 [some (rV 45 0), some (iV x1), some (iV x2), none] (r.toList ++ []) σ') 0 [some (rV 45 0), some (iV x1)] [] (uI σ 45 0 0 (0 : Int32)))) : R mj_OM (d + 1) mX11_lockfuls Q 0 [some (rV 45 0), some (iV x1), some (iV x2), none] [] σ := by
  refine r_aload_n dX11_lockfuls_0 rfl rfl ?_
  refine r_iconst (v := (0 : Int32)) dX11_lockfuls_1 rfl ?_
  refine r_putI (k := 45) (i := 0) (j := 0) (ty0 := tyX11) rfl rfl ho45 rfl hX11 (by decide) rfl fX11_151 dX11_lockfuls_2 rfl tyX11_ok nmX11 rfl rfl rfl ?_
  refine r_aload_n dX11_lockfuls_5 rfl rfl ?_
  refine r_iload_n dX11_lockfuls_6 rfl rfl ?_
  refine r_callV (z := 0) (k := 45) (i := 0) (As := [iV x1]) (st := []) kX11_isPond i_X11_isPond e_X11_isPond lX11_446 dX11_lockfuls_7 rfl rfl ho45 rfl rfl rfl rfl rfl (Nat.le_of_ble_eq_true rfl) ?_
  exact H
set_option maxRecDepth 100000 in
theorem bX11_lockfuls_10 {d : Nat} {Q : Option MV → MS → Prop} {x1 : Int32} {x2 : Int32} {s0 : Int32} {σ : MS}  (H : ((s0 = 0 → Q (some (iV (-1 : Int32))) σ) ∧ (¬ s0 = 0 → (R mj_OM d mX11_isLock (fun r σ' => R mj_OM (d + 1) mX11_lockfuls Q 18 [some (rV 45 0), some (iV x1), some (iV x2), none] (r.toList ++ []) σ') 0 [some (rV 45 0), some (iV x2)] [] σ)))) : R mj_OM (d + 1) mX11_lockfuls Q 10 [some (rV 45 0), some (iV x1), some (iV x2), none] [iV s0] σ := by
  refine r_if_eq (tgt := 21) dX11_lockfuls_10 (by decide) (fun c => ?_) (fun c => ?_)
  · have H := H.1 c
    refine r_iconst (v := (-1 : Int32)) dX11_lockfuls_21 rfl ?_
    exact r_iret dX11_lockfuls_22 rfl H
  · have H := H.2 c
    refine r_aload_n dX11_lockfuls_13 rfl rfl ?_
    refine r_iload_n dX11_lockfuls_14 rfl rfl ?_
    refine r_callV (z := 0) (k := 45) (i := 0) (As := [iV x2]) (st := []) kX11_isLock i_X11_isLock e_X11_isLock lX11_464 dX11_lockfuls_15 rfl rfl ho45 rfl rfl rfl rfl rfl (Nat.le_of_ble_eq_true rfl) ?_
    exact H
set_option maxRecDepth 100000 in
theorem bX11_lockfuls_18 {d : Nat} {Q : Option MV → MS → Prop} {x1 : Int32} {x2 : Int32} {s0 : Int32} {σ : MS}  (H : ((¬ s0 = 0 → (R mj_OM d mX11_liftOf (fun r σ' => R mj_OM (d + 1) mX11_lockfuls Q 28 [some (rV 45 0), some (iV x1), some (iV x2), none] (r.toList ++ []) σ') 0 [some (rV 45 0), some (iV x2)] [] σ)) ∧ (s0 = 0 → Q (some (iV (-1 : Int32))) σ))) : R mj_OM (d + 1) mX11_lockfuls Q 18 [some (rV 45 0), some (iV x1), some (iV x2), none] [iV s0] σ := by
  refine r_if_ne (tgt := 23) dX11_lockfuls_18 (by decide) (fun c => ?_) (fun c => ?_)
  · have H := H.1 c
    refine r_aload_n dX11_lockfuls_23 rfl rfl ?_
    refine r_iload_n dX11_lockfuls_24 rfl rfl ?_
    refine r_callV (z := 0) (k := 45) (i := 0) (As := [iV x2]) (st := []) kX11_liftOf i_X11_liftOf e_X11_liftOf lX11_501 dX11_lockfuls_25 rfl rfl ho45 rfl rfl rfl rfl rfl (Nat.le_of_ble_eq_true rfl) ?_
    exact H
  · have H := H.2 c
    refine r_iconst (v := (-1 : Int32)) dX11_lockfuls_21 rfl ?_
    exact r_iret dX11_lockfuls_22 rfl H
set_option maxRecDepth 100000 in
theorem bX11_lockfuls_28 {d : Nat} {Q : Option MV → MS → Prop} {x1 : Int32} {x2 : Int32} {s0 : Int32} {σ : MS}  (H : ((¬ s0 = 0 → (vp_in x1 161 ∧ (¬ s0 = 0) ∧ Q (some (iV ((σ.1 74 0 ((x1).toNatClampNeg)) / s0))) σ)) ∧ (s0 = 0 → Q (some (iV (999 : Int32))) σ))) : R mj_OM d mX11_lockfuls Q 28 [some (rV 45 0), some (iV x1), some (iV x2), none] [iV s0] σ := by
  refine r_istore_n dX11_lockfuls_28 rfl (by decide) rfl ?_
  refine r_iload_n dX11_lockfuls_29 rfl rfl ?_
  refine r_if_ne (tgt := 39) dX11_lockfuls_30 (by decide) (fun c => ?_) (fun c => ?_)
  · have H := H.1 c
    refine r_aload_n dX11_lockfuls_39 rfl rfl ?_
    refine r_get (k := 45) (i := 0) (j := 44) (v := rV 74 0) rfl rfl ho45 rfl hX11 (by decide) rfl fX11_99 dX11_lockfuls_40 (fun _ => rfl) ?_
    refine r_iload_n dX11_lockfuls_43 rfl rfl ?_
    obtain ⟨q1, H⟩ := H
    refine r_iald (k := 74) (i := 0) rfl ho74 q1 dX11_lockfuls_44 ?_
    refine r_iload_n dX11_lockfuls_45 rfl rfl ?_
    obtain ⟨q2, H⟩ := H
    refine r_idiv dX11_lockfuls_46 q2 ?_
    exact r_iret dX11_lockfuls_47 rfl H
  · have H := H.2 c
    refine r_sipush (v := (999 : Int32)) dX11_lockfuls_33 rfl ?_
    refine r_goto (tgt := 47) dX11_lockfuls_36 (by decide) ?_
    exact r_iret dX11_lockfuls_47 rfl H
set_option maxRecDepth 100000 in
theorem bX11_game_0 {d : Nat} {Q : Option MV → MS → Prop} {x1 : Int32} {x2 : Int32} {x3 : Int32} {σ : MS}  (H : (R mj_OM d mX11_isPond (fun r σ' => R mj_OM (d + 1) mX11_game Q 10 [some (rV 45 0), some (iV x1), some (iV x2), some (iV x3), none] (r.toList ++ []) σ') 0 [some (rV 45 0), some (iV x1)] [] (uI σ 45 0 0 (0 : Int32)))) : R mj_OM (d + 1) mX11_game Q 0 [some (rV 45 0), some (iV x1), some (iV x2), some (iV x3), none] [] σ := by
  refine r_aload_n dX11_game_0 rfl rfl ?_
  refine r_iconst (v := (0 : Int32)) dX11_game_1 rfl ?_
  refine r_putI (k := 45) (i := 0) (j := 0) (ty0 := tyX11) rfl rfl ho45 rfl hX11 (by decide) rfl fX11_151 dX11_game_2 rfl tyX11_ok nmX11 rfl rfl rfl ?_
  refine r_aload_n dX11_game_5 rfl rfl ?_
  refine r_iload_n dX11_game_6 rfl rfl ?_
  refine r_callV (z := 0) (k := 45) (i := 0) (As := [iV x1]) (st := []) kX11_isPond i_X11_isPond e_X11_isPond lX11_446 dX11_game_7 rfl rfl ho45 rfl rfl rfl rfl rfl (Nat.le_of_ble_eq_true rfl) ?_
  exact H
set_option maxRecDepth 100000 in
theorem bX11_game_10 {d : Nat} {Q : Option MV → MS → Prop} {x1 : Int32} {x2 : Int32} {x3 : Int32} {s0 : Int32} {σ : MS}  (H : ((s0 = 0 → Q (some (iV (-1 : Int32))) σ) ∧ (¬ s0 = 0 → (R mj_OM d mX11_isHeight (fun r σ' => R mj_OM (d + 1) mX11_game Q 17 [some (rV 45 0), some (iV x1), some (iV x2), some (iV x3), none] (r.toList ++ []) σ') 0 [some (iV x2)] [] σ)))) : R mj_OM (d + 1) mX11_game Q 10 [some (rV 45 0), some (iV x1), some (iV x2), some (iV x3), none] [iV s0] σ := by
  refine r_if_eq (tgt := 27) dX11_game_10 (by decide) (fun c => ?_) (fun c => ?_)
  · have H := H.1 c
    refine r_iconst (v := (-1 : Int32)) dX11_game_27 rfl ?_
    exact r_iret dX11_game_28 rfl H
  · have H := H.2 c
    refine r_iload_n dX11_game_13 rfl rfl ?_
    refine r_callS (z := 0) (As := [iV x2]) (st := []) kX11_isHeight s_X11_isHeight lX11_492 dX11_game_14 rfl rfl rfl rfl (Nat.le_of_ble_eq_true rfl) ?_
    exact H
set_option maxRecDepth 100000 in
theorem bX11_game_17 {d : Nat} {Q : Option MV → MS → Prop} {x1 : Int32} {x2 : Int32} {x3 : Int32} {s0 : Int32} {σ : MS}  (H : ((s0 = 0 → Q (some (iV (-1 : Int32))) σ) ∧ (¬ s0 = 0 → (R mj_OM d mX11_isPart (fun r σ' => R mj_OM (d + 1) mX11_game Q 24 [some (rV 45 0), some (iV x1), some (iV x2), some (iV x3), none] (r.toList ++ []) σ') 0 [some (iV x3)] [] σ)))) : R mj_OM (d + 1) mX11_game Q 17 [some (rV 45 0), some (iV x1), some (iV x2), some (iV x3), none] [iV s0] σ := by
  refine r_if_eq (tgt := 27) dX11_game_17 (by decide) (fun c => ?_) (fun c => ?_)
  · have H := H.1 c
    refine r_iconst (v := (-1 : Int32)) dX11_game_27 rfl ?_
    exact r_iret dX11_game_28 rfl H
  · have H := H.2 c
    refine r_iload_n dX11_game_20 rfl rfl ?_
    refine r_callS (z := 0) (As := [iV x3]) (st := []) kX11_isPart s_X11_isPart lX11_455 dX11_game_21 rfl rfl rfl rfl (Nat.le_of_ble_eq_true rfl) ?_
    exact H
set_option maxRecDepth 100000 in
theorem bX11_game_24 {d : Nat} {Q : Option MV → MS → Prop} {x1 : Int32} {x2 : Int32} {x3 : Int32} {s0 : Int32} {σ : MS}  (H : ((¬ s0 = 0 → (R mj_OM d mX11_isHigh (fun r σ' => R mj_OM (d + 1) mX11_game Q 36 [some (rV 45 0), some (iV x1), some (iV x2), some (iV x3), none] (r.toList ++ []) σ') 0 [some (rV 45 0), some (iV (0 : Int32)), some (iV x1), some (iV x2)] [] σ)) ∧ (s0 = 0 → Q (some (iV (-1 : Int32))) σ))) : R mj_OM (d + 1) mX11_game Q 24 [some (rV 45 0), some (iV x1), some (iV x2), some (iV x3), none] [iV s0] σ := by
  refine r_if_ne (tgt := 29) dX11_game_24 (by decide) (fun c => ?_) (fun c => ?_)
  · have H := H.1 c
    refine r_aload_n dX11_game_29 rfl rfl ?_
    refine r_iconst (v := (0 : Int32)) dX11_game_30 rfl ?_
    refine r_iload_n dX11_game_31 rfl rfl ?_
    refine r_iload_n dX11_game_32 rfl rfl ?_
    refine r_callV (z := 0) (k := 45) (i := 0) (As := [iV (0 : Int32), iV x1, iV x2]) (st := []) kX11_isHigh i_X11_isHigh e_X11_isHigh lX11_422 dX11_game_33 rfl rfl ho45 rfl rfl rfl rfl rfl (Nat.le_of_ble_eq_true rfl) ?_
    exact H
  · have H := H.2 c
    refine r_iconst (v := (-1 : Int32)) dX11_game_27 rfl ?_
    exact r_iret dX11_game_28 rfl H
set_option maxRecDepth 100000 in
theorem bX11_game_36 {d : Nat} {Q : Option MV → MS → Prop} {x1 : Int32} {x2 : Int32} {x3 : Int32} {s0 : Int32} {σ : MS}  (H : ((¬ s0 = 0 → (R mj_OM d mX11_spareOf (fun r σ' => R mj_OM (d + 1) mX11_game Q 56 [some (rV 45 0), some (iV x1), some (iV x2), some (iV x3), none] (r.toList ++ []) σ') 0 [some (rV 45 0), some (iV x1), some (iV x2)] [] σ)) ∧ (s0 = 0 → ((¬ x3 = 0 → Q (some (iV (-2 : Int32))) σ) ∧ (x3 = 0 → Q (some (iV (2 : Int32))) σ))))) : R mj_OM (d + 1) mX11_game Q 36 [some (rV 45 0), some (iV x1), some (iV x2), some (iV x3), none] [iV s0] σ := by
  refine r_if_ne (tgt := 50) dX11_game_36 (by decide) (fun c => ?_) (fun c => ?_)
  · have H := H.1 c
    refine r_aload_n dX11_game_50 rfl rfl ?_
    refine r_iload_n dX11_game_51 rfl rfl ?_
    refine r_iload_n dX11_game_52 rfl rfl ?_
    refine r_callV (z := 0) (k := 45) (i := 0) (As := [iV x1, iV x2]) (st := []) kX11_spareOf i_X11_spareOf e_X11_spareOf lX11_498 dX11_game_53 rfl rfl ho45 rfl rfl rfl rfl rfl (Nat.le_of_ble_eq_true rfl) ?_
    exact H
  · have H := H.2 c
    refine r_iload_n dX11_game_39 rfl rfl ?_
    refine r_if_ne (tgt := 47) dX11_game_40 (by decide) (fun c => ?_) (fun c => ?_)
    · have H := H.1 c
      refine r_bipush (v := (-2 : Int32)) dX11_game_47 rfl ?_
      exact r_iret dX11_game_49 rfl H
    · have H := H.2 c
      refine r_iconst (v := (2 : Int32)) dX11_game_43 rfl ?_
      refine r_goto (tgt := 49) dX11_game_44 (by decide) ?_
      exact r_iret dX11_game_49 rfl H
set_option maxRecDepth 100000 in
theorem bX11_game_56 {d : Nat} {Q : Option MV → MS → Prop} {x1 : Int32} {x2 : Int32} {x3 : Int32} {s0 : Int32} {σ : MS}  (H : ((¬ x3 = 0 → ((¬ (s0 - s0 / (4 : Int32) * (4 : Int32)) = 0 → Q (some (iV (s0 - s0 / (4 : Int32) * (4 : Int32)))) σ) ∧ ((s0 - s0 / (4 : Int32) * (4 : Int32)) = 0 → Q (some (iV (-2 : Int32))) σ))) ∧ (x3 = 0 → ((¬ (s0 - s0 / (4 : Int32) * (4 : Int32)) = 0 → Q (some (iV (0 : Int32))) σ) ∧ ((s0 - s0 / (4 : Int32) * (4 : Int32)) = 0 → Q (some (iV (1 : Int32))) σ))))) : R mj_OM d mX11_game Q 56 [some (rV 45 0), some (iV x1), some (iV x2), some (iV x3), none] [iV s0] σ := by
  refine r_iconst (v := (4 : Int32)) dX11_game_56 rfl ?_
  refine r_irem dX11_game_57 (by decide) ?_
  refine r_istore dX11_game_58 (by decide) rfl ?_
  refine r_iload_n dX11_game_60 rfl rfl ?_
  refine r_if_ne (tgt := 75) dX11_game_61 (by decide) (fun c => ?_) (fun c => ?_)
  · have H := H.1 c
    refine r_iload dX11_game_75 rfl ?_
    refine r_if_ne (tgt := 85) dX11_game_77 (by decide) (fun c => ?_) (fun c => ?_)
    · have H := H.1 c
      refine r_iload dX11_game_85 rfl ?_
      exact r_iret dX11_game_87 rfl H
    · have H := H.2 c
      refine r_bipush (v := (-2 : Int32)) dX11_game_80 rfl ?_
      refine r_goto (tgt := 87) dX11_game_82 (by decide) ?_
      exact r_iret dX11_game_87 rfl H
  · have H := H.2 c
    refine r_iload dX11_game_64 rfl ?_
    refine r_if_ne (tgt := 73) dX11_game_66 (by decide) (fun c => ?_) (fun c => ?_)
    · have H := H.1 c
      refine r_iconst (v := (0 : Int32)) dX11_game_73 rfl ?_
      exact r_iret dX11_game_74 rfl H
    · have H := H.2 c
      refine r_iconst (v := (1 : Int32)) dX11_game_69 rfl ?_
      refine r_goto (tgt := 74) dX11_game_70 (by decide) ?_
      exact r_iret dX11_game_74 rfl H
set_option maxRecDepth 100000 in
theorem bX11_hasOf_0 {d : Nat} {Q : Option MV → MS → Prop} {x1 : Int32} {x2 : Int32} {x3 : Int32} {x4 : Int32} {σ : MS}  (H : ((¬ x3 = 0 → ((¬ x4 = 0 → (vp_in x1 161 ∧ Q (some (iV ((σ.1 74 0 ((x1).toNatClampNeg)) / (20 : Int32)))) σ)) ∧ (x4 = 0 → (vp_in x1 161 ∧ Q (some (iV (((σ.1 74 0 ((x1).toNatClampNeg)) / (10 : Int32)) + (2 : Int32)))) σ)))) ∧ (x3 = 0 → ((¬ x4 = 0 → Q (some (iV (1 : Int32))) σ) ∧ (x4 = 0 → (vp_in x2 161 ∧ Q (some (iV ((σ.1 74 0 ((x2).toNatClampNeg)) / (10 : Int32)))) σ)))))) : R mj_OM d mX11_hasOf Q 0 [some (rV 45 0), some (iV x1), some (iV x2), some (iV x3), some (iV x4)] [] σ := by
  refine r_iload_n dX11_hasOf_0 rfl rfl ?_
  refine r_if_ne (tgt := 23) dX11_hasOf_1 (by decide) (fun c => ?_) (fun c => ?_)
  · have H := H.1 c
    refine r_iload dX11_hasOf_23 rfl ?_
    refine r_if_ne (tgt := 42) dX11_hasOf_25 (by decide) (fun c => ?_) (fun c => ?_)
    · have H := H.1 c
      refine r_aload_n dX11_hasOf_42 rfl rfl ?_
      refine r_get (k := 45) (i := 0) (j := 44) (v := rV 74 0) rfl rfl ho45 rfl hX11 (by decide) rfl fX11_99 dX11_hasOf_43 (fun _ => rfl) ?_
      refine r_iload_n dX11_hasOf_46 rfl rfl ?_
      obtain ⟨q1, H⟩ := H
      refine r_iald (k := 74) (i := 0) rfl ho74 q1 dX11_hasOf_47 ?_
      refine r_bipush (v := (20 : Int32)) dX11_hasOf_48 rfl ?_
      refine r_idiv dX11_hasOf_50 (by decide) ?_
      exact r_iret dX11_hasOf_51 rfl H
    · have H := H.2 c
      refine r_aload_n dX11_hasOf_28 rfl rfl ?_
      refine r_get (k := 45) (i := 0) (j := 44) (v := rV 74 0) rfl rfl ho45 rfl hX11 (by decide) rfl fX11_99 dX11_hasOf_29 (fun _ => rfl) ?_
      refine r_iload_n dX11_hasOf_32 rfl rfl ?_
      obtain ⟨q2, H⟩ := H
      refine r_iald (k := 74) (i := 0) rfl ho74 q2 dX11_hasOf_33 ?_
      refine r_bipush (v := (10 : Int32)) dX11_hasOf_34 rfl ?_
      refine r_idiv dX11_hasOf_36 (by decide) ?_
      refine r_iconst (v := (2 : Int32)) dX11_hasOf_37 rfl ?_
      refine r_iadd dX11_hasOf_38 ?_
      refine r_goto (tgt := 51) dX11_hasOf_39 (by decide) ?_
      exact r_iret dX11_hasOf_51 rfl H
  · have H := H.2 c
    refine r_iload dX11_hasOf_4 rfl ?_
    refine r_if_ne (tgt := 21) dX11_hasOf_6 (by decide) (fun c => ?_) (fun c => ?_)
    · have H := H.1 c
      refine r_iconst (v := (1 : Int32)) dX11_hasOf_21 rfl ?_
      exact r_iret dX11_hasOf_22 rfl H
    · have H := H.2 c
      refine r_aload_n dX11_hasOf_9 rfl rfl ?_
      refine r_get (k := 45) (i := 0) (j := 44) (v := rV 74 0) rfl rfl ho45 rfl hX11 (by decide) rfl fX11_99 dX11_hasOf_10 (fun _ => rfl) ?_
      refine r_iload_n dX11_hasOf_13 rfl rfl ?_
      obtain ⟨q3, H⟩ := H
      refine r_iald (k := 74) (i := 0) rfl ho74 q3 dX11_hasOf_14 ?_
      refine r_bipush (v := (10 : Int32)) dX11_hasOf_15 rfl ?_
      refine r_idiv dX11_hasOf_17 (by decide) ?_
      refine r_goto (tgt := 22) dX11_hasOf_18 (by decide) ?_
      exact r_iret dX11_hasOf_22 rfl H
set_option maxRecDepth 100000 in
theorem bX11_isRest_0 {d : Nat} {Q : Option MV → MS → Prop} {x1 : Int32} {x2 : Int32} {x3 : Int32} {σ : MS}  (H : (R mj_OM d mX11_hasOf (fun r σ' => R mj_OM (d + 1) mX11_isRest Q 22 [some (rV 45 0), some (iV x1), some (iV x2), some (iV x3), some (iV (x3 / (2 : Int32))), some (iV (x3 - x3 / (2 : Int32) * (2 : Int32)))] (r.toList ++ []) σ') 0 [some (rV 45 0), some (iV x1), some (iV x2), some (iV ((1 : Int32) - (x3 / (2 : Int32)))), some (iV (x3 - x3 / (2 : Int32) * (2 : Int32)))] [] σ)) : R mj_OM (d + 1) mX11_isRest Q 0 [some (rV 45 0), some (iV x1), some (iV x2), some (iV x3), none, none] [] σ := by
  refine r_iload_n dX11_isRest_0 rfl rfl ?_
  refine r_iconst (v := (2 : Int32)) dX11_isRest_1 rfl ?_
  refine r_idiv dX11_isRest_2 (by decide) ?_
  refine r_istore dX11_isRest_3 (by decide) rfl ?_
  refine r_iload_n dX11_isRest_5 rfl rfl ?_
  refine r_iconst (v := (2 : Int32)) dX11_isRest_6 rfl ?_
  refine r_irem dX11_isRest_7 (by decide) ?_
  refine r_istore dX11_isRest_8 (by decide) rfl ?_
  refine r_aload_n dX11_isRest_10 rfl rfl ?_
  refine r_iload_n dX11_isRest_11 rfl rfl ?_
  refine r_iload_n dX11_isRest_12 rfl rfl ?_
  refine r_iconst (v := (1 : Int32)) dX11_isRest_13 rfl ?_
  refine r_iload dX11_isRest_14 rfl ?_
  refine r_isub dX11_isRest_16 ?_
  refine r_iload dX11_isRest_17 rfl ?_
  refine r_callV (z := 0) (k := 45) (i := 0) (As := [iV x1, iV x2, iV ((1 : Int32) - (x3 / (2 : Int32))), iV (x3 - x3 / (2 : Int32) * (2 : Int32))]) (st := []) kX11_hasOf i_X11_hasOf e_X11_hasOf lX11_557 dX11_isRest_19 rfl rfl ho45 rfl rfl rfl rfl rfl (Nat.le_of_ble_eq_true rfl) ?_
  exact H
set_option maxRecDepth 100000 in
theorem bX11_isRest_22 {d : Nat} {Q : Option MV → MS → Prop} {x1 : Int32} {x2 : Int32} {x3 : Int32} {x4 : Int32} {x5 : Int32} {s0 : Int32} {σ : MS}  (H : (R mj_OM d mX11_hasOf (fun r σ' => R mj_OM (d + 1) mX11_isRest Q 32 [some (rV 45 0), some (iV x1), some (iV x2), some (iV x3), some (iV x4), some (iV x5)] (r.toList ++ [iV s0]) σ') 0 [some (rV 45 0), some (iV x1), some (iV x2), some (iV x4), some (iV x5)] [] σ)) : R mj_OM (d + 1) mX11_isRest Q 22 [some (rV 45 0), some (iV x1), some (iV x2), some (iV x3), some (iV x4), some (iV x5)] [iV s0] σ := by
  refine r_aload_n dX11_isRest_22 rfl rfl ?_
  refine r_iload_n dX11_isRest_23 rfl rfl ?_
  refine r_iload_n dX11_isRest_24 rfl rfl ?_
  refine r_iload dX11_isRest_25 rfl ?_
  refine r_iload dX11_isRest_27 rfl ?_
  refine r_callV (z := 0) (k := 45) (i := 0) (As := [iV x1, iV x2, iV x4, iV x5]) (st := [iV s0]) kX11_hasOf i_X11_hasOf e_X11_hasOf lX11_557 dX11_isRest_29 rfl rfl ho45 rfl rfl rfl rfl rfl (Nat.le_of_ble_eq_true rfl) ?_
  exact H
set_option maxRecDepth 100000 in
theorem bX11_isRest_32 {d : Nat} {Q : Option MV → MS → Prop} {x1 : Int32} {x2 : Int32} {x3 : Int32} {x4 : Int32} {x5 : Int32} {s0 : Int32} {s1 : Int32} {σ : MS}  (H : ((s0 < s1 → Q (some (iV (0 : Int32))) σ) ∧ (¬ s0 < s1 → (R mj_OM d mX11_hasOf (fun r σ' => R mj_OM (d + 1) mX11_isRest Q 47 [some (rV 45 0), some (iV x1), some (iV x2), some (iV x3), some (iV x4), some (iV x5)] (r.toList ++ []) σ') 0 [some (rV 45 0), some (iV x2), some (iV x1), some (iV ((1 : Int32) - x5)), some (iV x4)] [] σ)))) : R mj_OM (d + 1) mX11_isRest Q 32 [some (rV 45 0), some (iV x1), some (iV x2), some (iV x3), some (iV x4), some (iV x5)] [iV s0, iV s1] σ := by
  refine r_icmp_gt (tgt := 64) dX11_isRest_32 (by decide) (fun c => ?_) (fun c => ?_)
  · have H := H.1 c
    refine r_iconst (v := (0 : Int32)) dX11_isRest_64 rfl ?_
    exact r_zret dX11_isRest_65 rfl (by decide) H
  · have H := H.2 c
    refine r_aload_n dX11_isRest_35 rfl rfl ?_
    refine r_iload_n dX11_isRest_36 rfl rfl ?_
    refine r_iload_n dX11_isRest_37 rfl rfl ?_
    refine r_iconst (v := (1 : Int32)) dX11_isRest_38 rfl ?_
    refine r_iload dX11_isRest_39 rfl ?_
    refine r_isub dX11_isRest_41 ?_
    refine r_iload dX11_isRest_42 rfl ?_
    refine r_callV (z := 0) (k := 45) (i := 0) (As := [iV x2, iV x1, iV ((1 : Int32) - x5), iV x4]) (st := []) kX11_hasOf i_X11_hasOf e_X11_hasOf lX11_557 dX11_isRest_44 rfl rfl ho45 rfl rfl rfl rfl rfl (Nat.le_of_ble_eq_true rfl) ?_
    exact H
set_option maxRecDepth 100000 in
theorem bX11_isRest_47 {d : Nat} {Q : Option MV → MS → Prop} {x1 : Int32} {x2 : Int32} {x3 : Int32} {x4 : Int32} {x5 : Int32} {s0 : Int32} {σ : MS}  (H : (R mj_OM d mX11_hasOf (fun r σ' => R mj_OM (d + 1) mX11_isRest Q 57 [some (rV 45 0), some (iV x1), some (iV x2), some (iV x3), some (iV x4), some (iV x5)] (r.toList ++ [iV s0]) σ') 0 [some (rV 45 0), some (iV x2), some (iV x1), some (iV x5), some (iV x4)] [] σ)) : R mj_OM (d + 1) mX11_isRest Q 47 [some (rV 45 0), some (iV x1), some (iV x2), some (iV x3), some (iV x4), some (iV x5)] [iV s0] σ := by
  refine r_aload_n dX11_isRest_47 rfl rfl ?_
  refine r_iload_n dX11_isRest_48 rfl rfl ?_
  refine r_iload_n dX11_isRest_49 rfl rfl ?_
  refine r_iload dX11_isRest_50 rfl ?_
  refine r_iload dX11_isRest_52 rfl ?_
  refine r_callV (z := 0) (k := 45) (i := 0) (As := [iV x2, iV x1, iV x5, iV x4]) (st := [iV s0]) kX11_hasOf i_X11_hasOf e_X11_hasOf lX11_557 dX11_isRest_54 rfl rfl ho45 rfl rfl rfl rfl rfl (Nat.le_of_ble_eq_true rfl) ?_
  exact H
set_option maxRecDepth 100000 in
theorem bX11_isRest_57 {d : Nat} {Q : Option MV → MS → Prop} {x1 : Int32} {x2 : Int32} {x3 : Int32} {x4 : Int32} {x5 : Int32} {s0 : Int32} {s1 : Int32} {σ : MS}  (H : ((s0 < s1 → Q (some (iV (0 : Int32))) σ) ∧ (¬ s0 < s1 → Q (some (iV (1 : Int32))) σ))) : R mj_OM d mX11_isRest Q 57 [some (rV 45 0), some (iV x1), some (iV x2), some (iV x3), some (iV x4), some (iV x5)] [iV s0, iV s1] σ := by
  refine r_icmp_gt (tgt := 64) dX11_isRest_57 (by decide) (fun c => ?_) (fun c => ?_)
  · have H := H.1 c
    refine r_iconst (v := (0 : Int32)) dX11_isRest_64 rfl ?_
    exact r_zret dX11_isRest_65 rfl (by decide) H
  · have H := H.2 c
    refine r_iconst (v := (1 : Int32)) dX11_isRest_60 rfl ?_
    refine r_goto (tgt := 65) dX11_isRest_61 (by decide) ?_
    exact r_zret dX11_isRest_65 rfl (by decide) H
set_option maxRecDepth 100000 in
theorem bX11_restOf_0 {d : Nat} {Q : Option MV → MS → Prop} {x1 : Int32} {x2 : Int32} {x3 : Int32} {σ : MS}  (H : R mj_OM d mX11_restOf Q 6 [some (rV 45 0), some (iV x1), some (iV x2), some (iV x3), some (iV (0 : Int32)), some (iV (0 : Int32))] [] σ) : R mj_OM d mX11_restOf Q 0 [some (rV 45 0), some (iV x1), some (iV x2), some (iV x3), none, none] [] σ := by
  refine r_iconst (v := (0 : Int32)) dX11_restOf_0 rfl ?_
  refine r_istore dX11_restOf_1 (by decide) rfl ?_
  refine r_iconst (v := (0 : Int32)) dX11_restOf_3 rfl ?_
  refine r_istore dX11_restOf_4 (by decide) rfl ?_
  exact H
set_option maxRecDepth 100000 in
theorem bX11_restOf_6 {d : Nat} {Q : Option MV → MS → Prop} {x1 : Int32} {x2 : Int32} {x3 : Int32} {x4 : Int32} {x5 : Int32} {σ : MS}  (H : (((4 : Int32) ≤ x5 → ((¬ x3 = (-1 : Int32) → Q (some (iV (-2 : Int32))) σ) ∧ (x3 = (-1 : Int32) → Q (some (iV x4)) σ))) ∧ (¬ (4 : Int32) ≤ x5 → (R mj_OM d mX11_isRest (fun r σ' => R mj_OM (d + 1) mX11_restOf Q 20 [some (rV 45 0), some (iV x1), some (iV x2), some (iV x3), some (iV x4), some (iV x5)] (r.toList ++ []) σ') 0 [some (rV 45 0), some (iV x1), some (iV x2), some (iV x5), none, none] [] σ)))) : R mj_OM (d + 1) mX11_restOf Q 6 [some (rV 45 0), some (iV x1), some (iV x2), some (iV x3), some (iV x4), some (iV x5)] [] σ := by
  refine r_iload dX11_restOf_6 rfl ?_
  refine r_iconst (v := (4 : Int32)) dX11_restOf_8 rfl ?_
  refine r_icmp_ge (tgt := 54) dX11_restOf_9 (by decide) (fun c => ?_) (fun c => ?_)
  · have H := H.1 c
    refine r_iload_n dX11_restOf_54 rfl rfl ?_
    refine r_iconst (v := (-1 : Int32)) dX11_restOf_55 rfl ?_
    refine r_icmp_ne (tgt := 64) dX11_restOf_56 (by decide) (fun c => ?_) (fun c => ?_)
    · have H := H.1 c
      refine r_bipush (v := (-2 : Int32)) dX11_restOf_64 rfl ?_
      exact r_iret dX11_restOf_66 rfl H
    · have H := H.2 c
      refine r_iload dX11_restOf_59 rfl ?_
      refine r_goto (tgt := 66) dX11_restOf_61 (by decide) ?_
      exact r_iret dX11_restOf_66 rfl H
  · have H := H.2 c
    refine r_aload_n dX11_restOf_12 rfl rfl ?_
    refine r_iload_n dX11_restOf_13 rfl rfl ?_
    refine r_iload_n dX11_restOf_14 rfl rfl ?_
    refine r_iload dX11_restOf_15 rfl ?_
    refine r_callV (z := 2) (k := 45) (i := 0) (As := [iV x1, iV x2, iV x5]) (st := []) kX11_isRest i_X11_isRest e_X11_isRest lX11_561 dX11_restOf_17 rfl rfl ho45 rfl rfl rfl rfl rfl (Nat.le_of_ble_eq_true rfl) ?_
    exact H
set_option maxRecDepth 100000 in
theorem bX11_restOf_20 {d : Nat} {Q : Option MV → MS → Prop} {x1 : Int32} {x2 : Int32} {x3 : Int32} {x4 : Int32} {x5 : Int32} {s0 : Int32} {σ : MS}  (H : ((¬ s0 = 0 → ((¬ x4 = x3 → R mj_OM d mX11_restOf Q 6 [some (rV 45 0), some (iV x1), some (iV x2), some (iV x3), some (iV (x4 + (1 : Int32))), some (iV (x5 + (1 : Int32)))] [] σ) ∧ (x4 = x3 → Q (some (iV (((10 : Int32) * (x5 / (2 : Int32))) + (x5 - x5 / (2 : Int32) * (2 : Int32))))) σ))) ∧ (s0 = 0 → R mj_OM d mX11_restOf Q 6 [some (rV 45 0), some (iV x1), some (iV x2), some (iV x3), some (iV x4), some (iV (x5 + (1 : Int32)))] [] σ))) : R mj_OM d mX11_restOf Q 20 [some (rV 45 0), some (iV x1), some (iV x2), some (iV x3), some (iV x4), some (iV x5)] [iV s0] σ := by
  refine r_if_ne (tgt := 26) dX11_restOf_20 (by decide) (fun c => ?_) (fun c => ?_)
  · have H := H.1 c
    refine r_iload dX11_restOf_26 rfl ?_
    refine r_iload_n dX11_restOf_28 rfl rfl ?_
    refine r_icmp_ne (tgt := 45) dX11_restOf_29 (by decide) (fun c => ?_) (fun c => ?_)
    · have H := H.1 c
      refine r_iinc (v := x4 + (1 : Int32)) dX11_restOf_45 rfl rfl (by decide) rfl ?_
      refine r_iinc (v := x5 + (1 : Int32)) dX11_restOf_48 rfl rfl (by decide) rfl ?_
      refine r_goto (tgt := 6) dX11_restOf_51 (by decide) ?_
      exact H
    · have H := H.2 c
      refine r_bipush (v := (10 : Int32)) dX11_restOf_32 rfl ?_
      refine r_iload dX11_restOf_34 rfl ?_
      refine r_iconst (v := (2 : Int32)) dX11_restOf_36 rfl ?_
      refine r_idiv dX11_restOf_37 (by decide) ?_
      refine r_imul dX11_restOf_38 ?_
      refine r_iload dX11_restOf_39 rfl ?_
      refine r_iconst (v := (2 : Int32)) dX11_restOf_41 rfl ?_
      refine r_irem dX11_restOf_42 (by decide) ?_
      refine r_iadd dX11_restOf_43 ?_
      exact r_iret dX11_restOf_44 rfl H
  · have H := H.2 c
    refine r_goto (tgt := 48) dX11_restOf_23 (by decide) ?_
    refine r_iinc (v := x5 + (1 : Int32)) dX11_restOf_48 rfl rfl (by decide) rfl ?_
    refine r_goto (tgt := 6) dX11_restOf_51 (by decide) ?_
    exact H
set_option maxRecDepth 100000 in
theorem bX11_areTwo_0 {d : Nat} {Q : Option MV → MS → Prop} {x1 : Int32} {x2 : Int32} {σ : MS}  (H : (R mj_OM d mX11_isPond (fun r σ' => R mj_OM (d + 1) mX11_areTwo Q 5 [some (rV 45 0), some (iV x1), some (iV x2)] (r.toList ++ []) σ') 0 [some (rV 45 0), some (iV x1)] [] σ)) : R mj_OM (d + 1) mX11_areTwo Q 0 [some (rV 45 0), some (iV x1), some (iV x2)] [] σ := by
  refine r_aload_n dX11_areTwo_0 rfl rfl ?_
  refine r_iload_n dX11_areTwo_1 rfl rfl ?_
  refine r_callV (z := 0) (k := 45) (i := 0) (As := [iV x1]) (st := []) kX11_isPond i_X11_isPond e_X11_isPond lX11_446 dX11_areTwo_2 rfl rfl ho45 rfl rfl rfl rfl rfl (Nat.le_of_ble_eq_true rfl) ?_
  exact H
set_option maxRecDepth 100000 in
theorem bX11_areTwo_5 {d : Nat} {Q : Option MV → MS → Prop} {x1 : Int32} {x2 : Int32} {s0 : Int32} {σ : MS}  (H : ((s0 = 0 → Q (some (iV (0 : Int32))) σ) ∧ (¬ s0 = 0 → (R mj_OM d mX11_isPond (fun r σ' => R mj_OM (d + 1) mX11_areTwo Q 13 [some (rV 45 0), some (iV x1), some (iV x2)] (r.toList ++ []) σ') 0 [some (rV 45 0), some (iV x2)] [] σ)))) : R mj_OM (d + 1) mX11_areTwo Q 5 [some (rV 45 0), some (iV x1), some (iV x2)] [iV s0] σ := by
  refine r_if_eq (tgt := 25) dX11_areTwo_5 (by decide) (fun c => ?_) (fun c => ?_)
  · have H := H.1 c
    refine r_iconst (v := (0 : Int32)) dX11_areTwo_25 rfl ?_
    exact r_zret dX11_areTwo_26 rfl (by decide) H
  · have H := H.2 c
    refine r_aload_n dX11_areTwo_8 rfl rfl ?_
    refine r_iload_n dX11_areTwo_9 rfl rfl ?_
    refine r_callV (z := 0) (k := 45) (i := 0) (As := [iV x2]) (st := []) kX11_isPond i_X11_isPond e_X11_isPond lX11_446 dX11_areTwo_10 rfl rfl ho45 rfl rfl rfl rfl rfl (Nat.le_of_ble_eq_true rfl) ?_
    exact H
set_option maxRecDepth 100000 in
theorem bX11_areTwo_13 {d : Nat} {Q : Option MV → MS → Prop} {x1 : Int32} {x2 : Int32} {s0 : Int32} {σ : MS}  (H : ((s0 = 0 → Q (some (iV (0 : Int32))) σ) ∧ (¬ s0 = 0 → ((x1 = x2 → Q (some (iV (0 : Int32))) σ) ∧ (¬ x1 = x2 → Q (some (iV (1 : Int32))) σ))))) : R mj_OM d mX11_areTwo Q 13 [some (rV 45 0), some (iV x1), some (iV x2)] [iV s0] σ := by
  refine r_if_eq (tgt := 25) dX11_areTwo_13 (by decide) (fun c => ?_) (fun c => ?_)
  · have H := H.1 c
    refine r_iconst (v := (0 : Int32)) dX11_areTwo_25 rfl ?_
    exact r_zret dX11_areTwo_26 rfl (by decide) H
  · have H := H.2 c
    refine r_iload_n dX11_areTwo_16 rfl rfl ?_
    refine r_iload_n dX11_areTwo_17 rfl rfl ?_
    refine r_icmp_eq (tgt := 25) dX11_areTwo_18 (by decide) (fun c => ?_) (fun c => ?_)
    · have H := H.1 c
      refine r_iconst (v := (0 : Int32)) dX11_areTwo_25 rfl ?_
      exact r_zret dX11_areTwo_26 rfl (by decide) H
    · have H := H.2 c
      refine r_iconst (v := (1 : Int32)) dX11_areTwo_21 rfl ?_
      refine r_goto (tgt := 26) dX11_areTwo_22 (by decide) ?_
      exact r_zret dX11_areTwo_26 rfl (by decide) H
set_option maxRecDepth 100000 in
theorem bX11_rests_0 {d : Nat} {Q : Option MV → MS → Prop} {x1 : Int32} {x2 : Int32} {σ : MS}  (H : (R mj_OM d mX11_areTwo (fun r σ' => R mj_OM (d + 1) mX11_rests Q 11 [some (rV 45 0), some (iV x1), some (iV x2)] (r.toList ++ []) σ') 0 [some (rV 45 0), some (iV x1), some (iV x2)] [] (uI σ 45 0 0 (0 : Int32)))) : R mj_OM (d + 1) mX11_rests Q 0 [some (rV 45 0), some (iV x1), some (iV x2)] [] σ := by
  refine r_aload_n dX11_rests_0 rfl rfl ?_
  refine r_iconst (v := (0 : Int32)) dX11_rests_1 rfl ?_
  refine r_putI (k := 45) (i := 0) (j := 0) (ty0 := tyX11) rfl rfl ho45 rfl hX11 (by decide) rfl fX11_151 dX11_rests_2 rfl tyX11_ok nmX11 rfl rfl rfl ?_
  refine r_aload_n dX11_rests_5 rfl rfl ?_
  refine r_iload_n dX11_rests_6 rfl rfl ?_
  refine r_iload_n dX11_rests_7 rfl rfl ?_
  refine r_callV (z := 0) (k := 45) (i := 0) (As := [iV x1, iV x2]) (st := []) kX11_areTwo i_X11_areTwo e_X11_areTwo lX11_564 dX11_rests_8 rfl rfl ho45 rfl rfl rfl rfl rfl (Nat.le_of_ble_eq_true rfl) ?_
  exact H
set_option maxRecDepth 100000 in
theorem bX11_rests_11 {d : Nat} {Q : Option MV → MS → Prop} {x1 : Int32} {x2 : Int32} {s0 : Int32} {σ : MS}  (H : ((s0 = 0 → Q (some (iV (-1 : Int32))) σ) ∧ (¬ s0 = 0 → (R mj_OM d mX11_restOf (fun r σ' => R mj_OM (d + 1) mX11_rests Q 21 [some (rV 45 0), some (iV x1), some (iV x2)] (r.toList ++ []) σ') 0 [some (rV 45 0), some (iV x1), some (iV x2), some (iV (-1 : Int32)), none, none] [] σ)))) : R mj_OM (d + 1) mX11_rests Q 11 [some (rV 45 0), some (iV x1), some (iV x2)] [iV s0] σ := by
  refine r_if_eq (tgt := 24) dX11_rests_11 (by decide) (fun c => ?_) (fun c => ?_)
  · have H := H.1 c
    refine r_iconst (v := (-1 : Int32)) dX11_rests_24 rfl ?_
    exact r_iret dX11_rests_25 rfl H
  · have H := H.2 c
    refine r_aload_n dX11_rests_14 rfl rfl ?_
    refine r_iload_n dX11_rests_15 rfl rfl ?_
    refine r_iload_n dX11_rests_16 rfl rfl ?_
    refine r_iconst (v := (-1 : Int32)) dX11_rests_17 rfl ?_
    refine r_callV (z := 2) (k := 45) (i := 0) (As := [iV x1, iV x2, iV (-1 : Int32)]) (st := []) kX11_restOf i_X11_restOf e_X11_restOf lX11_567 dX11_rests_18 rfl rfl ho45 rfl rfl rfl rfl rfl (Nat.le_of_ble_eq_true rfl) ?_
    exact H
set_option maxRecDepth 100000 in
theorem bX11_rests_21 {d : Nat} {Q : Option MV → MS → Prop} {x1 : Int32} {x2 : Int32} {s0 : Int32} {σ : MS}  (H : Q (some (iV s0)) σ) : R mj_OM d mX11_rests Q 21 [some (rV 45 0), some (iV x1), some (iV x2)] [iV s0] σ := by
  refine r_goto (tgt := 25) dX11_rests_21 (by decide) ?_
  exact r_iret dX11_rests_25 rfl H
set_option maxRecDepth 100000 in
theorem bX11_rest_0 {d : Nat} {Q : Option MV → MS → Prop} {x1 : Int32} {x2 : Int32} {x3 : Int32} {σ : MS}  (H : (R mj_OM d mX11_areTwo (fun r σ' => R mj_OM (d + 1) mX11_rest Q 11 [some (rV 45 0), some (iV x1), some (iV x2), some (iV x3)] (r.toList ++ []) σ') 0 [some (rV 45 0), some (iV x1), some (iV x2)] [] (uI σ 45 0 0 (0 : Int32)))) : R mj_OM (d + 1) mX11_rest Q 0 [some (rV 45 0), some (iV x1), some (iV x2), some (iV x3)] [] σ := by
  refine r_aload_n dX11_rest_0 rfl rfl ?_
  refine r_iconst (v := (0 : Int32)) dX11_rest_1 rfl ?_
  refine r_putI (k := 45) (i := 0) (j := 0) (ty0 := tyX11) rfl rfl ho45 rfl hX11 (by decide) rfl fX11_151 dX11_rest_2 rfl tyX11_ok nmX11 rfl rfl rfl ?_
  refine r_aload_n dX11_rest_5 rfl rfl ?_
  refine r_iload_n dX11_rest_6 rfl rfl ?_
  refine r_iload_n dX11_rest_7 rfl rfl ?_
  refine r_callV (z := 0) (k := 45) (i := 0) (As := [iV x1, iV x2]) (st := []) kX11_areTwo i_X11_areTwo e_X11_areTwo lX11_564 dX11_rest_8 rfl rfl ho45 rfl rfl rfl rfl rfl (Nat.le_of_ble_eq_true rfl) ?_
  exact H
set_option maxRecDepth 100000 in
theorem bX11_rest_11 {d : Nat} {Q : Option MV → MS → Prop} {x1 : Int32} {x2 : Int32} {x3 : Int32} {s0 : Int32} {σ : MS}  (H : ((s0 = 0 → Q (some (iV (-1 : Int32))) σ) ∧ (¬ s0 = 0 → ((x3 < 0 → Q (some (iV (-1 : Int32))) σ) ∧ (¬ x3 < 0 → (R mj_OM d mX11_restOf (fun r σ' => R mj_OM (d + 1) mX11_rest Q 25 [some (rV 45 0), some (iV x1), some (iV x2), some (iV x3)] (r.toList ++ []) σ') 0 [some (rV 45 0), some (iV x1), some (iV x2), some (iV x3), none, none] [] σ)))))) : R mj_OM (d + 1) mX11_rest Q 11 [some (rV 45 0), some (iV x1), some (iV x2), some (iV x3)] [iV s0] σ := by
  refine r_if_eq (tgt := 28) dX11_rest_11 (by decide) (fun c => ?_) (fun c => ?_)
  · have H := H.1 c
    refine r_iconst (v := (-1 : Int32)) dX11_rest_28 rfl ?_
    exact r_iret dX11_rest_29 rfl H
  · have H := H.2 c
    refine r_iload_n dX11_rest_14 rfl rfl ?_
    refine r_if_lt (tgt := 28) dX11_rest_15 (by decide) (fun c => ?_) (fun c => ?_)
    · have H := H.1 c
      refine r_iconst (v := (-1 : Int32)) dX11_rest_28 rfl ?_
      exact r_iret dX11_rest_29 rfl H
    · have H := H.2 c
      refine r_aload_n dX11_rest_18 rfl rfl ?_
      refine r_iload_n dX11_rest_19 rfl rfl ?_
      refine r_iload_n dX11_rest_20 rfl rfl ?_
      refine r_iload_n dX11_rest_21 rfl rfl ?_
      refine r_callV (z := 2) (k := 45) (i := 0) (As := [iV x1, iV x2, iV x3]) (st := []) kX11_restOf i_X11_restOf e_X11_restOf lX11_567 dX11_rest_22 rfl rfl ho45 rfl rfl rfl rfl rfl (Nat.le_of_ble_eq_true rfl) ?_
      exact H
set_option maxRecDepth 100000 in
theorem bX11_rest_25 {d : Nat} {Q : Option MV → MS → Prop} {x1 : Int32} {x2 : Int32} {x3 : Int32} {s0 : Int32} {σ : MS}  (H : Q (some (iV s0)) σ) : R mj_OM d mX11_rest Q 25 [some (rV 45 0), some (iV x1), some (iV x2), some (iV x3)] [iV s0] σ := by
  refine r_goto (tgt := 29) dX11_rest_25 (by decide) ?_
  exact r_iret dX11_rest_29 rfl H
set_option maxRecDepth 100000 in
theorem bX11_holds_0 {d : Nat} {Q : Option MV → MS → Prop} {x1 : Int32} {x2 : Int32} {σ : MS}  (H : ((x1 < 0 → Q (some (lV (-1 : Int64))) (uI σ 45 0 0 (0 : Int32))) ∧ (¬ x1 < 0 → (((6 : Int32) < x1 → Q (some (lV (-1 : Int64))) (uI σ 45 0 0 (0 : Int32))) ∧ (¬ (6 : Int32) < x1 → (R mj_OM d mX11_isPart (fun r σ' => R mj_OM (d + 1) mX11_holds Q 19 [some (rV 45 0), some (iV x1), some (iV x2), none, none, none, none, none, none, none, none, none, none] (r.toList ++ []) σ') 0 [some (iV x2)] [] (uI σ 45 0 0 (0 : Int32)))))))) : R mj_OM (d + 1) mX11_holds Q 0 [some (rV 45 0), some (iV x1), some (iV x2), none, none, none, none, none, none, none, none, none, none] [] σ := by
  refine r_aload_n dX11_holds_0 rfl rfl ?_
  refine r_iconst (v := (0 : Int32)) dX11_holds_1 rfl ?_
  refine r_putI (k := 45) (i := 0) (j := 0) (ty0 := tyX11) rfl rfl ho45 rfl hX11 (by decide) rfl fX11_151 dX11_holds_2 rfl tyX11_ok nmX11 rfl rfl rfl ?_
  refine r_iload_n dX11_holds_5 rfl rfl ?_
  refine r_if_lt (tgt := 22) dX11_holds_6 (by decide) (fun c => ?_) (fun c => ?_)
  · have H := H.1 c
    refine r_ldc2 (v := (-1 : Int64)) olX11_570 dX11_holds_22 ?_
    exact r_lret dX11_holds_25 rfl H
  · have H := H.2 c
    refine r_iload_n dX11_holds_9 rfl rfl ?_
    refine r_bipush (v := (6 : Int32)) dX11_holds_10 rfl ?_
    refine r_icmp_gt (tgt := 22) dX11_holds_12 (by decide) (fun c => ?_) (fun c => ?_)
    · have H := H.1 c
      refine r_ldc2 (v := (-1 : Int64)) olX11_570 dX11_holds_22 ?_
      exact r_lret dX11_holds_25 rfl H
    · have H := H.2 c
      refine r_iload_n dX11_holds_15 rfl rfl ?_
      refine r_callS (z := 0) (As := [iV x2]) (st := []) kX11_isPart s_X11_isPart lX11_455 dX11_holds_16 rfl rfl rfl rfl (Nat.le_of_ble_eq_true rfl) ?_
      exact H
set_option maxRecDepth 100000 in
theorem bX11_holds_19 {d : Nat} {Q : Option MV → MS → Prop} {x1 : Int32} {x2 : Int32} {s0 : Int32} {σ : MS}  (H : ((¬ s0 = 0 → R mj_OM d mX11_holds Q 34 [some (rV 45 0), some (iV x1), some (iV x2), some (lV (1 : Int64)), none, some (lV (1 : Int64)), none, some (iV (0 : Int32)), none, none, none, none, none] [] σ) ∧ (s0 = 0 → Q (some (lV (-1 : Int64))) σ))) : R mj_OM d mX11_holds Q 19 [some (rV 45 0), some (iV x1), some (iV x2), none, none, none, none, none, none, none, none, none, none] [iV s0] σ := by
  refine r_if_ne (tgt := 26) dX11_holds_19 (by decide) (fun c => ?_) (fun c => ?_)
  · have H := H.1 c
    refine r_lconst (v := (1 : Int64)) dX11_holds_26 rfl ?_
    refine r_lstore_n dX11_holds_27 rfl (by decide) rfl ?_
    refine r_lconst (v := (1 : Int64)) dX11_holds_28 rfl ?_
    refine r_lstore dX11_holds_29 (by decide) rfl ?_
    refine r_iconst (v := (0 : Int32)) dX11_holds_31 rfl ?_
    refine r_istore dX11_holds_32 (by decide) rfl ?_
    exact H
  · have H := H.2 c
    refine r_ldc2 (v := (-1 : Int64)) olX11_570 dX11_holds_22 ?_
    exact r_lret dX11_holds_25 rfl H
set_option maxRecDepth 100000 in
theorem bX11_holds_34 {d : Nat} {Q : Option MV → MS → Prop} {x1 : Int32} {x2 : Int32} {x3 : Int64} {x5 : Int64} {x7 : Int32} {σ : MS}  (H : ((x1 ≤ x7 → R mj_OM d mX11_holds Q 76 [some (rV 45 0), some (iV x1), some (iV x2), some (lV x3), none, some (lV x5), none, some (lV x3), none, some (lV x5), none, none, none] [] σ) ∧ (¬ x1 ≤ x7 → (vp_in (6 : Int32) 18 ∧ R mj_OM d mX11_holds Q 34 [some (rV 45 0), some (iV x1), some (iV x2), some (lV (x3 * ((100 : Int64) - ((σ.1 47 0 6).toInt64)))), none, some (lV (x5 * (100 : Int64))), none, some (iV (x7 + (1 : Int32))), none, none, none, none, none] [] σ)))) : R mj_OM d mX11_holds Q 34 [some (rV 45 0), some (iV x1), some (iV x2), some (lV x3), none, some (lV x5), none, some (iV x7), none, none, none, none, none] [] σ := by
  refine r_iload dX11_holds_34 rfl ?_
  refine r_iload_n dX11_holds_36 rfl rfl ?_
  refine r_icmp_ge (tgt := 69) dX11_holds_37 (by decide) (fun c => ?_) (fun c => ?_)
  · have H := H.1 c
    refine r_lload_n dX11_holds_69 rfl rfl ?_
    refine r_lstore dX11_holds_70 (by decide) rfl ?_
    refine r_lload dX11_holds_72 rfl ?_
    refine r_lstore dX11_holds_74 (by decide) rfl ?_
    exact H
  · have H := H.2 c
    refine r_lload_n dX11_holds_40 rfl rfl ?_
    refine r_ldc2 (v := (100 : Int64)) olX11_572 dX11_holds_41 ?_
    refine r_aload_n dX11_holds_44 rfl rfl ?_
    refine r_get (k := 45) (i := 0) (j := 3) (v := rV 47 0) rfl rfl ho45 rfl hX11 (by decide) rfl fX11_13 dX11_holds_45 (fun _ => rfl) ?_
    refine r_bipush (v := (6 : Int32)) dX11_holds_48 rfl ?_
    obtain ⟨q1, H⟩ := H
    refine r_iald (k := 47) (i := 0) rfl ho47 q1 dX11_holds_50 ?_
    refine r_i2l (v := (σ.1 47 0 6).toInt64) dX11_holds_51 rfl ?_
    refine r_lsub dX11_holds_52 ?_
    refine r_lmul dX11_holds_53 ?_
    refine r_lstore_n dX11_holds_54 rfl (by decide) rfl ?_
    refine r_lload dX11_holds_55 rfl ?_
    refine r_ldc2 (v := (100 : Int64)) olX11_572 dX11_holds_57 ?_
    refine r_lmul dX11_holds_60 ?_
    refine r_lstore dX11_holds_61 (by decide) rfl ?_
    refine r_iinc (v := x7 + (1 : Int32)) dX11_holds_63 rfl rfl (by decide) rfl ?_
    refine r_goto (tgt := 34) dX11_holds_66 (by decide) ?_
    exact H
set_option maxRecDepth 100000 in
theorem bX11_holds_76 {d : Nat} {Q : Option MV → MS → Prop} {x1 : Int32} {x2 : Int32} {x3 : Int64} {x5 : Int64} {x7 : Int64} {x9 : Int64} {σ : MS}  (H : (((lg_cmp x9 (0 : Int64)) = 0 → ((¬ x2 = 0 → ((¬ x7 = 0) ∧ Q (some (lV (x5 / x7))) σ)) ∧ (x2 = 0 → ((¬ x7 = 0) ∧ Q (some (lV (x3 / x7))) σ)))) ∧ (¬ (lg_cmp x9 (0 : Int64)) = 0 → ((¬ x9 = 0) ∧ R mj_OM d mX11_holds Q 76 [some (rV 45 0), some (iV x1), some (iV x2), some (lV x3), none, some (lV x5), none, some (lV x9), none, some (lV (x7 - x7 / x9 * x9)), none, none, none] [] σ)))) : R mj_OM d mX11_holds Q 76 [some (rV 45 0), some (iV x1), some (iV x2), some (lV x3), none, some (lV x5), none, some (lV x7), none, some (lV x9), none, none, none] [] σ := by
  refine r_lload dX11_holds_76 rfl ?_
  refine r_lconst (v := (0 : Int64)) dX11_holds_78 rfl ?_
  refine r_lcmp dX11_holds_79 ?_
  refine r_if_eq (tgt := 101) dX11_holds_80 (by decide) (fun c => ?_) (fun c => ?_)
  · have H := H.1 c
    refine r_iload_n dX11_holds_101 rfl rfl ?_
    refine r_if_ne (tgt := 112) dX11_holds_102 (by decide) (fun c => ?_) (fun c => ?_)
    · have H := H.1 c
      refine r_lload dX11_holds_112 rfl ?_
      refine r_lload dX11_holds_114 rfl ?_
      obtain ⟨q1, H⟩ := H
      refine r_ldiv dX11_holds_116 q1 ?_
      exact r_lret dX11_holds_117 rfl H
    · have H := H.2 c
      refine r_lload_n dX11_holds_105 rfl rfl ?_
      refine r_lload dX11_holds_106 rfl ?_
      obtain ⟨q2, H⟩ := H
      refine r_ldiv dX11_holds_108 q2 ?_
      refine r_goto (tgt := 117) dX11_holds_109 (by decide) ?_
      exact r_lret dX11_holds_117 rfl H
  · have H := H.2 c
    refine r_lload dX11_holds_83 rfl ?_
    refine r_lload dX11_holds_85 rfl ?_
    obtain ⟨q3, H⟩ := H
    refine r_lrem dX11_holds_87 q3 ?_
    refine r_lstore dX11_holds_88 (by decide) rfl ?_
    refine r_lload dX11_holds_90 rfl ?_
    refine r_lstore dX11_holds_92 (by decide) rfl ?_
    refine r_lload dX11_holds_94 rfl ?_
    refine r_lstore dX11_holds_96 (by decide) rfl ?_
    refine r_goto (tgt := 76) dX11_holds_98 (by decide) ?_
    exact R.fw (ls' := [some (rV 45 0), some (iV x1), some (iV x2), some (lV x3), none, some (lV x5), none, some (lV x9), none, some (lV (x7 - x7 / x9 * x9)), none, none, none]) ⟨rfl, ⟨rfl, ⟨rfl, ⟨rfl, ⟨rfl, ⟨rfl, ⟨rfl, trivial⟩⟩⟩⟩⟩⟩⟩ H
set_option maxRecDepth 100000 in
theorem bX11_see_0 {d : Nat} {Q : Option MV → MS → Prop} {x1 : Int32} {x2 : Int32} {x3 : Int32} {x4 : Int32} {σ : MS}  (H : ((x1 < (1 : Int32) → Q (some (iV (-1 : Int32))) (uI σ 45 0 0 (0 : Int32))) ∧ (¬ x1 < (1 : Int32) → (((60 : Int32) < x1 → Q (some (iV (-1 : Int32))) (uI σ 45 0 0 (0 : Int32))) ∧ (¬ (60 : Int32) < x1 → (R mj_OM d mX11_isPond (fun r σ' => R mj_OM (d + 1) mX11_see Q 21 [some (rV 45 0), some (iV x1), some (iV x2), some (iV x3), some (iV x4)] (r.toList ++ []) σ') 0 [some (rV 45 0), some (iV x2)] [] (uI σ 45 0 0 (0 : Int32)))))))) : R mj_OM (d + 1) mX11_see Q 0 [some (rV 45 0), some (iV x1), some (iV x2), some (iV x3), some (iV x4)] [] σ := by
  refine r_aload_n dX11_see_0 rfl rfl ?_
  refine r_iconst (v := (0 : Int32)) dX11_see_1 rfl ?_
  refine r_putI (k := 45) (i := 0) (j := 0) (ty0 := tyX11) rfl rfl ho45 rfl hX11 (by decide) rfl fX11_151 dX11_see_2 rfl tyX11_ok nmX11 rfl rfl rfl ?_
  refine r_iload_n dX11_see_5 rfl rfl ?_
  refine r_iconst (v := (1 : Int32)) dX11_see_6 rfl ?_
  refine r_icmp_lt (tgt := 44) dX11_see_7 (by decide) (fun c => ?_) (fun c => ?_)
  · have H := H.1 c
    refine r_iconst (v := (-1 : Int32)) dX11_see_44 rfl ?_
    exact r_iret dX11_see_45 rfl H
  · have H := H.2 c
    refine r_iload_n dX11_see_10 rfl rfl ?_
    refine r_bipush (v := (60 : Int32)) dX11_see_11 rfl ?_
    refine r_icmp_gt (tgt := 44) dX11_see_13 (by decide) (fun c => ?_) (fun c => ?_)
    · have H := H.1 c
      refine r_iconst (v := (-1 : Int32)) dX11_see_44 rfl ?_
      exact r_iret dX11_see_45 rfl H
    · have H := H.2 c
      refine r_aload_n dX11_see_16 rfl rfl ?_
      refine r_iload_n dX11_see_17 rfl rfl ?_
      refine r_callV (z := 0) (k := 45) (i := 0) (As := [iV x2]) (st := []) kX11_isPond i_X11_isPond e_X11_isPond lX11_446 dX11_see_18 rfl rfl ho45 rfl rfl rfl rfl rfl (Nat.le_of_ble_eq_true rfl) ?_
      exact H
set_option maxRecDepth 100000 in
theorem bX11_see_21 {d : Nat} {Q : Option MV → MS → Prop} {x1 : Int32} {x2 : Int32} {x3 : Int32} {x4 : Int32} {s0 : Int32} {σ : MS}  (H : ((s0 = 0 → Q (some (iV (-1 : Int32))) σ) ∧ (¬ s0 = 0 → ((x3 < 0 → Q (some (iV (-1 : Int32))) σ) ∧ (¬ x3 < 0 → (((9999 : Int32) < x3 → Q (some (iV (-1 : Int32))) σ) ∧ (¬ (9999 : Int32) < x3 → ((¬ (σ.1 45 0 61) = (24 : Int32) → (vp_in (σ.1 45 0 61) 24 ∧ (x4 &&& 1 = x4) ∧ Q (some (iV (((σ.1 45 0 61) + (1 : Int32)) - (1 : Int32)))) (uI (uI (uI (uI (uI (uI σ 80 0 (((σ.1 45 0 61)).toNatClampNeg) x1) 81 0 (((σ.1 45 0 61)).toNatClampNeg) x2) 82 0 (((σ.1 45 0 61)).toNatClampNeg) x3) 83 0 (((σ.1 45 0 61)).toNatClampNeg) x4) 84 0 (((σ.1 45 0 61)).toNatClampNeg) (-1 : Int32)) 45 0 61 ((σ.1 45 0 61) + (1 : Int32))))) ∧ ((σ.1 45 0 61) = (24 : Int32) → Q (some (iV (-1 : Int32))) σ))))))))) : R mj_OM d mX11_see Q 21 [some (rV 45 0), some (iV x1), some (iV x2), some (iV x3), some (iV x4)] [iV s0] σ := by
  refine r_if_eq (tgt := 44) dX11_see_21 (by decide) (fun c => ?_) (fun c => ?_)
  · have H := H.1 c
    refine r_iconst (v := (-1 : Int32)) dX11_see_44 rfl ?_
    exact r_iret dX11_see_45 rfl H
  · have H := H.2 c
    refine r_iload_n dX11_see_24 rfl rfl ?_
    refine r_if_lt (tgt := 44) dX11_see_25 (by decide) (fun c => ?_) (fun c => ?_)
    · have H := H.1 c
      refine r_iconst (v := (-1 : Int32)) dX11_see_44 rfl ?_
      exact r_iret dX11_see_45 rfl H
    · have H := H.2 c
      refine r_iload_n dX11_see_28 rfl rfl ?_
      refine r_sipush (v := (9999 : Int32)) dX11_see_29 rfl ?_
      refine r_icmp_gt (tgt := 44) dX11_see_32 (by decide) (fun c => ?_) (fun c => ?_)
      · have H := H.1 c
        refine r_iconst (v := (-1 : Int32)) dX11_see_44 rfl ?_
        exact r_iret dX11_see_45 rfl H
      · have H := H.2 c
        refine r_aload_n dX11_see_35 rfl rfl ?_
        refine r_get (k := 45) (i := 0) (j := 61) (v := iV (σ.1 45 0 61)) rfl rfl ho45 rfl hX11 (by decide) rfl fX11_313 dX11_see_36 (fun _ => rfl) ?_
        refine r_bipush (v := (24 : Int32)) dX11_see_39 rfl ?_
        refine r_icmp_ne (tgt := 46) dX11_see_41 (by decide) (fun c => ?_) (fun c => ?_)
        · have H := H.1 c
          refine r_aload_n dX11_see_46 rfl rfl ?_
          refine r_get (k := 45) (i := 0) (j := 63) (v := rV 80 0) rfl rfl ho45 rfl hX11 (by decide) rfl fX11_126 dX11_see_47 (fun _ => rfl) ?_
          refine r_aload_n dX11_see_50 rfl rfl ?_
          refine r_get (k := 45) (i := 0) (j := 61) (v := iV (σ.1 45 0 61)) rfl rfl ho45 rfl hX11 (by decide) rfl fX11_313 dX11_see_51 (fun _ => rfl) ?_
          refine r_iload_n dX11_see_54 rfl rfl ?_
          obtain ⟨q1, H⟩ := H
          refine r_iast (k := 80) (i := 0) rfl ho80 q1 dX11_see_55 ?_
          refine r_aload_n dX11_see_56 rfl rfl ?_
          refine r_get (k := 45) (i := 0) (j := 64) (v := rV 81 0) rfl rfl ho45 rfl hX11 (by decide) rfl fX11_129 dX11_see_57 (fun _ => rfl) ?_
          refine r_aload_n dX11_see_60 rfl rfl ?_
          refine r_get (k := 45) (i := 0) (j := 61) (v := iV (σ.1 45 0 61)) rfl rfl ho45 rfl hX11 (by decide) rfl fX11_313 dX11_see_61 (fun _ => rfl) ?_
          refine r_iload_n dX11_see_64 rfl rfl ?_
          refine r_iast (k := 81) (i := 0) rfl ho81 q1 dX11_see_65 ?_
          refine r_aload_n dX11_see_66 rfl rfl ?_
          refine r_get (k := 45) (i := 0) (j := 65) (v := rV 82 0) rfl rfl ho45 rfl hX11 (by decide) rfl fX11_132 dX11_see_67 (fun _ => rfl) ?_
          refine r_aload_n dX11_see_70 rfl rfl ?_
          refine r_get (k := 45) (i := 0) (j := 61) (v := iV (σ.1 45 0 61)) rfl rfl ho45 rfl hX11 (by decide) rfl fX11_313 dX11_see_71 (fun _ => rfl) ?_
          refine r_iload_n dX11_see_74 rfl rfl ?_
          refine r_iast (k := 82) (i := 0) rfl ho82 q1 dX11_see_75 ?_
          refine r_aload_n dX11_see_76 rfl rfl ?_
          refine r_get (k := 45) (i := 0) (j := 66) (v := rV 83 0) rfl rfl ho45 rfl hX11 (by decide) rfl fX11_135 dX11_see_77 (fun _ => rfl) ?_
          refine r_aload_n dX11_see_80 rfl rfl ?_
          refine r_get (k := 45) (i := 0) (j := 61) (v := iV (σ.1 45 0 61)) rfl rfl ho45 rfl hX11 (by decide) rfl fX11_313 dX11_see_81 (fun _ => rfl) ?_
          refine r_iload dX11_see_84 rfl ?_
          obtain ⟨q2, H⟩ := H
          refine r_zast (k := 83) (i := 0) rfl ho83 q1 q2 dX11_see_86 ?_
          refine r_aload_n dX11_see_87 rfl rfl ?_
          refine r_get (k := 45) (i := 0) (j := 67) (v := rV 84 0) rfl rfl ho45 rfl hX11 (by decide) rfl fX11_139 dX11_see_88 (fun _ => rfl) ?_
          refine r_aload_n dX11_see_91 rfl rfl ?_
          refine r_get (k := 45) (i := 0) (j := 61) (v := iV (σ.1 45 0 61)) rfl rfl ho45 rfl hX11 (by decide) rfl fX11_313 dX11_see_92 (fun _ => rfl) ?_
          refine r_iconst (v := (-1 : Int32)) dX11_see_95 rfl ?_
          refine r_iast (k := 84) (i := 0) rfl ho84 q1 dX11_see_96 ?_
          refine r_aload_n dX11_see_97 rfl rfl ?_
          refine r_dup_r dX11_see_98 ?_
          refine r_get (k := 45) (i := 0) (j := 61) (v := iV (σ.1 45 0 61)) rfl rfl ho45 rfl hX11 (by decide) rfl fX11_313 dX11_see_99 (fun _ => rfl) ?_
          refine r_iconst (v := (1 : Int32)) dX11_see_102 rfl ?_
          refine r_iadd dX11_see_103 ?_
          refine r_putI (k := 45) (i := 0) (j := 61) (ty0 := tyX11) rfl rfl ho45 rfl hX11 (by decide) rfl fX11_313 dX11_see_104 rfl tyX11_ok nmX11 rfl rfl rfl ?_
          refine r_aload_n dX11_see_107 rfl rfl ?_
          refine r_get (k := 45) (i := 0) (j := 61) (v := iV ((σ.1 45 0 61) + (1 : Int32))) rfl rfl ho45 rfl hX11 (by decide) rfl fX11_313 dX11_see_108 (fun _ => rfl) ?_
          refine r_iconst (v := (1 : Int32)) dX11_see_111 rfl ?_
          refine r_isub dX11_see_112 ?_
          exact r_iret dX11_see_113 rfl H
        · have H := H.2 c
          refine r_iconst (v := (-1 : Int32)) dX11_see_44 rfl ?_
          exact r_iret dX11_see_45 rfl H
set_option maxRecDepth 100000 in
theorem bX11_strike_0 {d : Nat} {Q : Option MV → MS → Prop} {x1 : Int32} {σ : MS}  (H : ((x1 < 0 → Q (some (iV (-1 : Int32))) (uI σ 45 0 0 (0 : Int32))) ∧ (¬ x1 < 0 → (((σ.1 45 0 61) ≤ x1 → Q (some (iV (-1 : Int32))) (uI σ 45 0 0 (0 : Int32))) ∧ (¬ (σ.1 45 0 61) ≤ x1 → ((¬ (σ.1 45 0 61) = (24 : Int32) → (vp_in (σ.1 45 0 61) 24 ∧ Q (some (iV (((σ.1 45 0 61) + (1 : Int32)) - (1 : Int32)))) (uI (uI (uI σ 45 0 0 (0 : Int32)) 84 0 (((σ.1 45 0 61)).toNatClampNeg) x1) 45 0 61 ((σ.1 45 0 61) + (1 : Int32))))) ∧ ((σ.1 45 0 61) = (24 : Int32) → Q (some (iV (-1 : Int32))) (uI σ 45 0 0 (0 : Int32))))))))) : R mj_OM d mX11_strike Q 0 [some (rV 45 0), some (iV x1)] [] σ := by
  refine r_aload_n dX11_strike_0 rfl rfl ?_
  refine r_iconst (v := (0 : Int32)) dX11_strike_1 rfl ?_
  refine r_putI (k := 45) (i := 0) (j := 0) (ty0 := tyX11) rfl rfl ho45 rfl hX11 (by decide) rfl fX11_151 dX11_strike_2 rfl tyX11_ok nmX11 rfl rfl rfl ?_
  refine r_iload_n dX11_strike_5 rfl rfl ?_
  refine r_if_lt (tgt := 26) dX11_strike_6 (by decide) (fun c => ?_) (fun c => ?_)
  · have H := H.1 c
    refine r_iconst (v := (-1 : Int32)) dX11_strike_26 rfl ?_
    exact r_iret dX11_strike_27 rfl H
  · have H := H.2 c
    refine r_iload_n dX11_strike_9 rfl rfl ?_
    refine r_aload_n dX11_strike_10 rfl rfl ?_
    refine r_get (k := 45) (i := 0) (j := 61) (v := iV (σ.1 45 0 61)) rfl rfl ho45 rfl hX11 (by decide) rfl fX11_313 dX11_strike_11 (fun _ => rfl) ?_
    refine r_icmp_ge (tgt := 26) dX11_strike_14 (by decide) (fun c => ?_) (fun c => ?_)
    · have H := H.1 c
      refine r_iconst (v := (-1 : Int32)) dX11_strike_26 rfl ?_
      exact r_iret dX11_strike_27 rfl H
    · have H := H.2 c
      refine r_aload_n dX11_strike_17 rfl rfl ?_
      refine r_get (k := 45) (i := 0) (j := 61) (v := iV (σ.1 45 0 61)) rfl rfl ho45 rfl hX11 (by decide) rfl fX11_313 dX11_strike_18 (fun _ => rfl) ?_
      refine r_bipush (v := (24 : Int32)) dX11_strike_21 rfl ?_
      refine r_icmp_ne (tgt := 28) dX11_strike_23 (by decide) (fun c => ?_) (fun c => ?_)
      · have H := H.1 c
        refine r_aload_n dX11_strike_28 rfl rfl ?_
        refine r_get (k := 45) (i := 0) (j := 67) (v := rV 84 0) rfl rfl ho45 rfl hX11 (by decide) rfl fX11_139 dX11_strike_29 (fun _ => rfl) ?_
        refine r_aload_n dX11_strike_32 rfl rfl ?_
        refine r_get (k := 45) (i := 0) (j := 61) (v := iV (σ.1 45 0 61)) rfl rfl ho45 rfl hX11 (by decide) rfl fX11_313 dX11_strike_33 (fun _ => rfl) ?_
        refine r_iload_n dX11_strike_36 rfl rfl ?_
        obtain ⟨q1, H⟩ := H
        refine r_iast (k := 84) (i := 0) rfl ho84 q1 dX11_strike_37 ?_
        refine r_aload_n dX11_strike_38 rfl rfl ?_
        refine r_dup_r dX11_strike_39 ?_
        refine r_get (k := 45) (i := 0) (j := 61) (v := iV (σ.1 45 0 61)) rfl rfl ho45 rfl hX11 (by decide) rfl fX11_313 dX11_strike_40 (fun _ => rfl) ?_
        refine r_iconst (v := (1 : Int32)) dX11_strike_43 rfl ?_
        refine r_iadd dX11_strike_44 ?_
        refine r_putI (k := 45) (i := 0) (j := 61) (ty0 := tyX11) rfl rfl ho45 rfl hX11 (by decide) rfl fX11_313 dX11_strike_45 rfl tyX11_ok nmX11 rfl rfl rfl ?_
        refine r_aload_n dX11_strike_48 rfl rfl ?_
        refine r_get (k := 45) (i := 0) (j := 61) (v := iV ((σ.1 45 0 61) + (1 : Int32))) rfl rfl ho45 rfl hX11 (by decide) rfl fX11_313 dX11_strike_49 (fun _ => rfl) ?_
        refine r_iconst (v := (1 : Int32)) dX11_strike_52 rfl ?_
        refine r_isub dX11_strike_53 ?_
        exact r_iret dX11_strike_54 rfl H
      · have H := H.2 c
        refine r_iconst (v := (-1 : Int32)) dX11_strike_26 rfl ?_
        exact r_iret dX11_strike_27 rfl H
set_option maxRecDepth 100000 in
theorem bX11_known_0 {d : Nat} {Q : Option MV → MS → Prop} {x1 : Int32} {σ : MS}  (H : ((x1 < (-1 : Int32) → Q (some (iV (0 : Int32))) (uI σ 45 0 0 (0 : Int32))) ∧ (¬ x1 < (-1 : Int32) → ((x1 ≤ (σ.1 45 0 61) → Q (some (iV (1 : Int32))) (uI (uI σ 45 0 0 (0 : Int32)) 45 0 62 x1)) ∧ (¬ x1 ≤ (σ.1 45 0 61) → Q (some (iV (0 : Int32))) (uI σ 45 0 0 (0 : Int32))))))) : R mj_OM d mX11_known Q 0 [some (rV 45 0), some (iV x1)] [] σ := by
  refine r_aload_n dX11_known_0 rfl rfl ?_
  refine r_iconst (v := (0 : Int32)) dX11_known_1 rfl ?_
  refine r_putI (k := 45) (i := 0) (j := 0) (ty0 := tyX11) rfl rfl ho45 rfl hX11 (by decide) rfl fX11_151 dX11_known_2 rfl tyX11_ok nmX11 rfl rfl rfl ?_
  refine r_iload_n dX11_known_5 rfl rfl ?_
  refine r_iconst (v := (-1 : Int32)) dX11_known_6 rfl ?_
  refine r_icmp_lt (tgt := 18) dX11_known_7 (by decide) (fun c => ?_) (fun c => ?_)
  · have H := H.1 c
    refine r_iconst (v := (0 : Int32)) dX11_known_18 rfl ?_
    exact r_zret dX11_known_19 rfl (by decide) H
  · have H := H.2 c
    refine r_iload_n dX11_known_10 rfl rfl ?_
    refine r_aload_n dX11_known_11 rfl rfl ?_
    refine r_get (k := 45) (i := 0) (j := 61) (v := iV (σ.1 45 0 61)) rfl rfl ho45 rfl hX11 (by decide) rfl fX11_313 dX11_known_12 (fun _ => rfl) ?_
    refine r_icmp_le (tgt := 20) dX11_known_15 (by decide) (fun c => ?_) (fun c => ?_)
    · have H := H.1 c
      refine r_aload_n dX11_known_20 rfl rfl ?_
      refine r_iload_n dX11_known_21 rfl rfl ?_
      refine r_putI (k := 45) (i := 0) (j := 62) (ty0 := tyX11) rfl rfl ho45 rfl hX11 (by decide) rfl fX11_123 dX11_known_22 rfl tyX11_ok nmX11 rfl rfl rfl ?_
      refine r_iconst (v := (1 : Int32)) dX11_known_25 rfl ?_
      exact r_zret dX11_known_26 rfl (by decide) H
    · have H := H.2 c
      refine r_iconst (v := (0 : Int32)) dX11_known_18 rfl ?_
      exact r_zret dX11_known_19 rfl (by decide) H
set_option maxRecDepth 100000 in
theorem bX11_knownMany_0 {d : Nat} {Q : Option MV → MS → Prop}  {σ : MS}  (H : ((¬ (σ.1 45 0 62) = (-1 : Int32) → Q (some (iV (σ.1 45 0 62))) σ) ∧ ((σ.1 45 0 62) = (-1 : Int32) → Q (some (iV (σ.1 45 0 61))) σ))) : R mj_OM d mX11_knownMany Q 0 [some (rV 45 0)] [] σ := by
  refine r_aload_n dX11_knownMany_0 rfl rfl ?_
  refine r_get (k := 45) (i := 0) (j := 62) (v := iV (σ.1 45 0 62)) rfl rfl ho45 rfl hX11 (by decide) rfl fX11_123 dX11_knownMany_1 (fun _ => rfl) ?_
  refine r_iconst (v := (-1 : Int32)) dX11_knownMany_4 rfl ?_
  refine r_icmp_ne (tgt := 15) dX11_knownMany_5 (by decide) (fun c => ?_) (fun c => ?_)
  · have H := H.1 c
    refine r_aload_n dX11_knownMany_15 rfl rfl ?_
    refine r_get (k := 45) (i := 0) (j := 62) (v := iV (σ.1 45 0 62)) rfl rfl ho45 rfl hX11 (by decide) rfl fX11_123 dX11_knownMany_16 (fun _ => rfl) ?_
    exact r_iret dX11_knownMany_19 rfl H
  · have H := H.2 c
    refine r_aload_n dX11_knownMany_8 rfl rfl ?_
    refine r_get (k := 45) (i := 0) (j := 61) (v := iV (σ.1 45 0 61)) rfl rfl ho45 rfl hX11 (by decide) rfl fX11_313 dX11_knownMany_9 (fun _ => rfl) ?_
    refine r_goto (tgt := 19) dX11_knownMany_12 (by decide) ?_
    exact r_iret dX11_knownMany_19 rfl H
set_option maxRecDepth 100000 in
theorem bX11_isSo_0 {d : Nat} {Q : Option MV → MS → Prop} {x1 : Int32} {σ : MS}  (H : R mj_OM d mX11_isSo Q 2 [some (rV 45 0), some (iV x1), some (iV (0 : Int32))] [] σ) : R mj_OM d mX11_isSo Q 0 [some (rV 45 0), some (iV x1), none] [] σ := by
  refine r_iconst (v := (0 : Int32)) dX11_isSo_0 rfl ?_
  refine r_istore_n dX11_isSo_1 rfl (by decide) rfl ?_
  exact H
set_option maxRecDepth 100000 in
theorem bX11_isSo_2 {d : Nat} {Q : Option MV → MS → Prop} {x1 : Int32} {x2 : Int32} {σ : MS}  (H : (R mj_OM d mX11_knownMany (fun r σ' => R mj_OM (d + 1) mX11_isSo Q 7 [some (rV 45 0), some (iV x1), some (iV x2)] (r.toList ++ [iV x2]) σ') 0 [some (rV 45 0)] [] σ)) : R mj_OM (d + 1) mX11_isSo Q 2 [some (rV 45 0), some (iV x1), some (iV x2)] [] σ := by
  refine r_iload_n dX11_isSo_2 rfl rfl ?_
  refine r_aload_n dX11_isSo_3 rfl rfl ?_
  refine r_callV (z := 0) (k := 45) (i := 0) (As := []) (st := [iV x2]) kX11_knownMany i_X11_knownMany e_X11_knownMany lX11_574 dX11_isSo_4 rfl rfl ho45 rfl rfl rfl rfl rfl (Nat.le_of_ble_eq_true rfl) ?_
  exact H
set_option maxRecDepth 100000 in
theorem bX11_isSo_7 {d : Nat} {Q : Option MV → MS → Prop} {x1 : Int32} {x2 : Int32} {s0 : Int32} {s1 : Int32} {σ : MS}  (H : ((s0 ≤ s1 → Q (some (iV (1 : Int32))) σ) ∧ (¬ s0 ≤ s1 → (vp_in x2 24 ∧ ((¬ (σ.1 85 0 ((x2).toNatClampNeg)) = 0 → R mj_OM d mX11_isSo Q 2 [some (rV 45 0), some (iV x1), some (iV (x2 + (1 : Int32)))] [] σ) ∧ ((σ.1 85 0 ((x2).toNatClampNeg)) = 0 → ((¬ (σ.1 84 0 ((x2).toNatClampNeg)) = (-1 : Int32) → R mj_OM d mX11_isSo Q 2 [some (rV 45 0), some (iV x1), some (iV (x2 + (1 : Int32)))] [] σ) ∧ ((σ.1 84 0 ((x2).toNatClampNeg)) = (-1 : Int32) → (((σ.1 80 0 ((x2).toNatClampNeg)) = x1 → (vp_in ((7 : Int32) + (σ.1 81 0 ((x2).toNatClampNeg))) 161 ∧ (((σ.1 74 0 ((((7 : Int32) + (σ.1 81 0 ((x2).toNatClampNeg)))).toNatClampNeg)) < (σ.1 82 0 ((x2).toNatClampNeg)) → (((0 : Int32) = (σ.1 83 0 ((x2).toNatClampNeg)) → R mj_OM d mX11_isSo Q 2 [some (rV 45 0), some (iV x1), some (iV (x2 + (1 : Int32)))] [] σ) ∧ (¬ (0 : Int32) = (σ.1 83 0 ((x2).toNatClampNeg)) → Q (some (iV (0 : Int32))) σ))) ∧ (¬ (σ.1 74 0 ((((7 : Int32) + (σ.1 81 0 ((x2).toNatClampNeg)))).toNatClampNeg)) < (σ.1 82 0 ((x2).toNatClampNeg)) → (((1 : Int32) = (σ.1 83 0 ((x2).toNatClampNeg)) → R mj_OM d mX11_isSo Q 2 [some (rV 45 0), some (iV x1), some (iV (x2 + (1 : Int32)))] [] σ) ∧ (¬ (1 : Int32) = (σ.1 83 0 ((x2).toNatClampNeg)) → Q (some (iV (0 : Int32))) σ)))))) ∧ (¬ (σ.1 80 0 ((x2).toNatClampNeg)) = x1 → R mj_OM d mX11_isSo Q 2 [some (rV 45 0), some (iV x1), some (iV (x2 + (1 : Int32)))] [] σ)))))))))) : R mj_OM d mX11_isSo Q 7 [some (rV 45 0), some (iV x1), some (iV x2)] [iV s0, iV s1] σ := by
  refine r_icmp_ge (tgt := 87) dX11_isSo_7 (by decide) (fun c => ?_) (fun c => ?_)
  · have H := H.1 c
    refine r_iconst (v := (1 : Int32)) dX11_isSo_87 rfl ?_
    exact r_zret dX11_isSo_88 rfl (by decide) H
  · have H := H.2 c
    refine r_aload_n dX11_isSo_10 rfl rfl ?_
    refine r_get (k := 45) (i := 0) (j := 68) (v := rV 85 0) rfl rfl ho45 rfl hX11 (by decide) rfl fX11_142 dX11_isSo_11 (fun _ => rfl) ?_
    refine r_iload_n dX11_isSo_14 rfl rfl ?_
    obtain ⟨q1, H⟩ := H
    refine r_zald (k := 85) (i := 0) rfl ho85 q1 dX11_isSo_15 ?_
    refine r_if_ne (tgt := 81) dX11_isSo_16 (by decide) (fun c => ?_) (fun c => ?_)
    · have H := H.1 c
      refine r_iinc (v := x2 + (1 : Int32)) dX11_isSo_81 rfl rfl (by decide) rfl ?_
      refine r_goto (tgt := 2) dX11_isSo_84 (by decide) ?_
      exact H
    · have H := H.2 c
      refine r_aload_n dX11_isSo_19 rfl rfl ?_
      refine r_get (k := 45) (i := 0) (j := 67) (v := rV 84 0) rfl rfl ho45 rfl hX11 (by decide) rfl fX11_139 dX11_isSo_20 (fun _ => rfl) ?_
      refine r_iload_n dX11_isSo_23 rfl rfl ?_
      refine r_iald (k := 84) (i := 0) rfl ho84 q1 dX11_isSo_24 ?_
      refine r_iconst (v := (-1 : Int32)) dX11_isSo_25 rfl ?_
      refine r_icmp_ne (tgt := 81) dX11_isSo_26 (by decide) (fun c => ?_) (fun c => ?_)
      · have H := H.1 c
        refine r_iinc (v := x2 + (1 : Int32)) dX11_isSo_81 rfl rfl (by decide) rfl ?_
        refine r_goto (tgt := 2) dX11_isSo_84 (by decide) ?_
        exact H
      · have H := H.2 c
        refine r_aload_n dX11_isSo_29 rfl rfl ?_
        refine r_get (k := 45) (i := 0) (j := 63) (v := rV 80 0) rfl rfl ho45 rfl hX11 (by decide) rfl fX11_126 dX11_isSo_30 (fun _ => rfl) ?_
        refine r_iload_n dX11_isSo_33 rfl rfl ?_
        refine r_iald (k := 80) (i := 0) rfl ho80 q1 dX11_isSo_34 ?_
        refine r_iload_n dX11_isSo_35 rfl rfl ?_
        refine r_icmp_eq (tgt := 42) dX11_isSo_36 (by decide) (fun c => ?_) (fun c => ?_)
        · have H := H.1 c
          refine r_aload_n dX11_isSo_42 rfl rfl ?_
          refine r_get (k := 45) (i := 0) (j := 44) (v := rV 74 0) rfl rfl ho45 rfl hX11 (by decide) rfl fX11_99 dX11_isSo_43 (fun _ => rfl) ?_
          refine r_bipush (v := (7 : Int32)) dX11_isSo_46 rfl ?_
          refine r_aload_n dX11_isSo_48 rfl rfl ?_
          refine r_get (k := 45) (i := 0) (j := 64) (v := rV 81 0) rfl rfl ho45 rfl hX11 (by decide) rfl fX11_129 dX11_isSo_49 (fun _ => rfl) ?_
          refine r_iload_n dX11_isSo_52 rfl rfl ?_
          refine r_iald (k := 81) (i := 0) rfl ho81 q1 dX11_isSo_53 ?_
          refine r_iadd dX11_isSo_54 ?_
          obtain ⟨q2, H⟩ := H
          refine r_iald (k := 74) (i := 0) rfl ho74 q2 dX11_isSo_55 ?_
          refine r_aload_n dX11_isSo_56 rfl rfl ?_
          refine r_get (k := 45) (i := 0) (j := 65) (v := rV 82 0) rfl rfl ho45 rfl hX11 (by decide) rfl fX11_132 dX11_isSo_57 (fun _ => rfl) ?_
          refine r_iload_n dX11_isSo_60 rfl rfl ?_
          refine r_iald (k := 82) (i := 0) rfl ho82 q1 dX11_isSo_61 ?_
          refine r_icmp_lt (tgt := 69) dX11_isSo_62 (by decide) (fun c => ?_) (fun c => ?_)
          · have H := H.1 c
            refine r_iconst (v := (0 : Int32)) dX11_isSo_69 rfl ?_
            refine r_aload_n dX11_isSo_70 rfl rfl ?_
            refine r_get (k := 45) (i := 0) (j := 66) (v := rV 83 0) rfl rfl ho45 rfl hX11 (by decide) rfl fX11_135 dX11_isSo_71 (fun _ => rfl) ?_
            refine r_iload_n dX11_isSo_74 rfl rfl ?_
            refine r_zald (k := 83) (i := 0) rfl ho83 q1 dX11_isSo_75 ?_
            refine r_icmp_eq (tgt := 81) dX11_isSo_76 (by decide) (fun c => ?_) (fun c => ?_)
            · have H := H.1 c
              refine r_iinc (v := x2 + (1 : Int32)) dX11_isSo_81 rfl rfl (by decide) rfl ?_
              refine r_goto (tgt := 2) dX11_isSo_84 (by decide) ?_
              exact H
            · have H := H.2 c
              refine r_iconst (v := (0 : Int32)) dX11_isSo_79 rfl ?_
              exact r_zret dX11_isSo_80 rfl (by decide) H
          · have H := H.2 c
            refine r_iconst (v := (1 : Int32)) dX11_isSo_65 rfl ?_
            refine r_goto (tgt := 70) dX11_isSo_66 (by decide) ?_
            refine r_aload_n dX11_isSo_70 rfl rfl ?_
            refine r_get (k := 45) (i := 0) (j := 66) (v := rV 83 0) rfl rfl ho45 rfl hX11 (by decide) rfl fX11_135 dX11_isSo_71 (fun _ => rfl) ?_
            refine r_iload_n dX11_isSo_74 rfl rfl ?_
            refine r_zald (k := 83) (i := 0) rfl ho83 q1 dX11_isSo_75 ?_
            refine r_icmp_eq (tgt := 81) dX11_isSo_76 (by decide) (fun c => ?_) (fun c => ?_)
            · have H := H.1 c
              refine r_iinc (v := x2 + (1 : Int32)) dX11_isSo_81 rfl rfl (by decide) rfl ?_
              refine r_goto (tgt := 2) dX11_isSo_84 (by decide) ?_
              exact H
            · have H := H.2 c
              refine r_iconst (v := (0 : Int32)) dX11_isSo_79 rfl ?_
              exact r_zret dX11_isSo_80 rfl (by decide) H
        · have H := H.2 c
          refine r_goto (tgt := 81) dX11_isSo_39 (by decide) ?_
          refine r_iinc (v := x2 + (1 : Int32)) dX11_isSo_81 rfl rfl (by decide) rfl ?_
          refine r_goto (tgt := 2) dX11_isSo_84 (by decide) ?_
          exact H
set_option maxRecDepth 100000 in
theorem bX11_fitsLeak_0 {d : Nat} {Q : Option MV → MS → Prop} {x1 : Int32} {σ : MS}  (H : (R mj_OM d mX11_starts (fun r σ' => R mj_OM (d + 1) mX11_fitsLeak Q 5 [some (rV 45 0), some (iV x1), none] (r.toList ++ []) σ') 0 [some (rV 45 0), some (iV (1 : Int32)), none] [] σ)) : R mj_OM (d + 1) mX11_fitsLeak Q 0 [some (rV 45 0), some (iV x1), none] [] σ := by
  refine r_aload_n dX11_fitsLeak_0 rfl rfl ?_
  refine r_iconst (v := (1 : Int32)) dX11_fitsLeak_1 rfl ?_
  refine r_callV (z := 1) (k := 45) (i := 0) (As := [iV (1 : Int32)]) (st := []) kX11_starts i_X11_starts e_X11_starts lX11_343 dX11_fitsLeak_2 rfl rfl ho45 rfl rfl rfl rfl rfl (Nat.le_of_ble_eq_true rfl) ?_
  exact H
set_option maxRecDepth 100000 in
theorem bX11_fitsLeak_5 {d : Nat} {Q : Option MV → MS → Prop} {x1 : Int32} {σ : MS}  (H : R mj_OM d mX11_fitsLeak Q 7 [some (rV 45 0), some (iV x1), some (iV (1 : Int32))] [] σ) : R mj_OM d mX11_fitsLeak Q 5 [some (rV 45 0), some (iV x1), none] [] σ := by
  refine r_iconst (v := (1 : Int32)) dX11_fitsLeak_5 rfl ?_
  refine r_istore_n dX11_fitsLeak_6 rfl (by decide) rfl ?_
  exact H
set_option maxRecDepth 100000 in
theorem bX11_fitsLeak_7 {d : Nat} {Q : Option MV → MS → Prop} {x1 : Int32} {x2 : Int32} {σ : MS}  (H : ((x1 < x2 → Q (some (iV (1 : Int32))) σ) ∧ (¬ x1 < x2 → (R mj_OM d mX11_passes (fun r σ' => R mj_OM (d + 1) mX11_fitsLeak Q 18 [some (rV 45 0), some (iV x1), some (iV x2)] (r.toList ++ []) σ') 0 [some (rV 45 0), some (iV (1 : Int32)), some (iV (0 : Int32)), none] [] σ)))) : R mj_OM (d + 1) mX11_fitsLeak Q 7 [some (rV 45 0), some (iV x1), some (iV x2)] [] σ := by
  refine r_iload_n dX11_fitsLeak_7 rfl rfl ?_
  refine r_iload_n dX11_fitsLeak_8 rfl rfl ?_
  refine r_icmp_gt (tgt := 34) dX11_fitsLeak_9 (by decide) (fun c => ?_) (fun c => ?_)
  · have H := H.1 c
    refine r_iconst (v := (1 : Int32)) dX11_fitsLeak_34 rfl ?_
    exact r_zret dX11_fitsLeak_35 rfl (by decide) H
  · have H := H.2 c
    refine r_aload_n dX11_fitsLeak_12 rfl rfl ?_
    refine r_iconst (v := (1 : Int32)) dX11_fitsLeak_13 rfl ?_
    refine r_iconst (v := (0 : Int32)) dX11_fitsLeak_14 rfl ?_
    refine r_callV (z := 1) (k := 45) (i := 0) (As := [iV (1 : Int32), iV (0 : Int32)]) (st := []) kX11_passes i_X11_passes e_X11_passes lX11_439 dX11_fitsLeak_15 rfl rfl ho45 rfl rfl rfl rfl rfl (Nat.le_of_ble_eq_true rfl) ?_
    exact H
set_option maxRecDepth 100000 in
theorem bX11_fitsLeak_18 {d : Nat} {Q : Option MV → MS → Prop} {x1 : Int32} {x2 : Int32} {σ : MS}  (H : (R mj_OM d mX11_isSo (fun r σ' => R mj_OM (d + 1) mX11_fitsLeak Q 23 [some (rV 45 0), some (iV x1), some (iV x2)] (r.toList ++ []) σ') 0 [some (rV 45 0), some (iV x2), none] [] σ)) : R mj_OM (d + 1) mX11_fitsLeak Q 18 [some (rV 45 0), some (iV x1), some (iV x2)] [] σ := by
  refine r_aload_n dX11_fitsLeak_18 rfl rfl ?_
  refine r_iload_n dX11_fitsLeak_19 rfl rfl ?_
  refine r_callV (z := 1) (k := 45) (i := 0) (As := [iV x2]) (st := []) kX11_isSo i_X11_isSo e_X11_isSo lX11_577 dX11_fitsLeak_20 rfl rfl ho45 rfl rfl rfl rfl rfl (Nat.le_of_ble_eq_true rfl) ?_
  exact H
set_option maxRecDepth 100000 in
theorem bX11_fitsLeak_23 {d : Nat} {Q : Option MV → MS → Prop} {x1 : Int32} {x2 : Int32} {s0 : Int32} {σ : MS}  (H : ((¬ s0 = 0 → R mj_OM d mX11_fitsLeak Q 7 [some (rV 45 0), some (iV x1), some (iV (x2 + (1 : Int32)))] [] σ) ∧ (s0 = 0 → Q (some (iV (0 : Int32))) σ))) : R mj_OM d mX11_fitsLeak Q 23 [some (rV 45 0), some (iV x1), some (iV x2)] [iV s0] σ := by
  refine r_if_ne (tgt := 28) dX11_fitsLeak_23 (by decide) (fun c => ?_) (fun c => ?_)
  · have H := H.1 c
    refine r_iinc (v := x2 + (1 : Int32)) dX11_fitsLeak_28 rfl rfl (by decide) rfl ?_
    refine r_goto (tgt := 7) dX11_fitsLeak_31 (by decide) ?_
    exact H
  · have H := H.2 c
    refine r_iconst (v := (0 : Int32)) dX11_fitsLeak_26 rfl ?_
    exact r_zret dX11_fitsLeak_27 rfl (by decide) H
set_option maxRecDepth 100000 in
theorem bX11_leaksOf_0 {d : Nat} {Q : Option MV → MS → Prop} {x1 : Int32} {σ : MS}  (H : R mj_OM d mX11_leaksOf Q 4 [some (rV 45 0), some (iV x1), some (iV (0 : Int32)), some (iV (0 : Int32)), none] [] σ) : R mj_OM d mX11_leaksOf Q 0 [some (rV 45 0), some (iV x1), none, none, none] [] σ := by
  refine r_iconst (v := (0 : Int32)) dX11_leaksOf_0 rfl ?_
  refine r_istore_n dX11_leaksOf_1 rfl (by decide) rfl ?_
  refine r_iconst (v := (0 : Int32)) dX11_leaksOf_2 rfl ?_
  refine r_istore_n dX11_leaksOf_3 rfl (by decide) rfl ?_
  exact H
set_option maxRecDepth 100000 in
theorem bX11_leaksOf_4 {d : Nat} {Q : Option MV → MS → Prop} {x1 : Int32} {x2 : Int32} {x3 : Int32} {σ : MS}  (H : (R mj_OM d mX11_knownMany (fun r σ' => R mj_OM (d + 1) mX11_leaksOf Q 9 [some (rV 45 0), some (iV x1), some (iV x2), some (iV x3), none] (r.toList ++ [iV x3]) σ') 0 [some (rV 45 0)] [] σ)) : R mj_OM (d + 1) mX11_leaksOf Q 4 [some (rV 45 0), some (iV x1), some (iV x2), some (iV x3), none] [] σ := by
  refine r_iload_n dX11_leaksOf_4 rfl rfl ?_
  refine r_aload_n dX11_leaksOf_5 rfl rfl ?_
  refine r_callV (z := 0) (k := 45) (i := 0) (As := []) (st := [iV x3]) kX11_knownMany i_X11_knownMany e_X11_knownMany lX11_574 dX11_leaksOf_6 rfl rfl ho45 rfl rfl rfl rfl rfl (Nat.le_of_ble_eq_true rfl) ?_
  exact H
set_option maxRecDepth 100000 in
theorem bX11_leaksOf_9 {d : Nat} {Q : Option MV → MS → Prop} {x1 : Int32} {x2 : Int32} {x3 : Int32} {s0 : Int32} {s1 : Int32} {σ : MS}  (H : ((s0 ≤ s1 → (R mj_OM d mX11_knownMany (fun r σ' => R mj_OM (d + 1) mX11_leaksOf Q 29 [some (rV 45 0), some (iV x1), some (iV x2), some (iV x3), none] (r.toList ++ []) σ') 0 [some (rV 45 0)] [] σ)) ∧ (¬ s0 ≤ s1 → (vp_in x3 24 ∧ R mj_OM (d + 1) mX11_leaksOf Q 4 [some (rV 45 0), some (iV x1), some (iV x2), some (iV (x3 + (1 : Int32))), none] [] (uI σ 85 0 ((x3).toNatClampNeg) (0 : Int32)))))) : R mj_OM (d + 1) mX11_leaksOf Q 9 [some (rV 45 0), some (iV x1), some (iV x2), some (iV x3), none] [iV s0, iV s1] σ := by
  refine r_icmp_ge (tgt := 25) dX11_leaksOf_9 (by decide) (fun c => ?_) (fun c => ?_)
  · have H := H.1 c
    refine r_aload_n dX11_leaksOf_25 rfl rfl ?_
    refine r_callV (z := 0) (k := 45) (i := 0) (As := []) (st := []) kX11_knownMany i_X11_knownMany e_X11_knownMany lX11_574 dX11_leaksOf_26 rfl rfl ho45 rfl rfl rfl rfl rfl (Nat.le_of_ble_eq_true rfl) ?_
    exact H
  · have H := H.2 c
    refine r_aload_n dX11_leaksOf_12 rfl rfl ?_
    refine r_get (k := 45) (i := 0) (j := 68) (v := rV 85 0) rfl rfl ho45 rfl hX11 (by decide) rfl fX11_142 dX11_leaksOf_13 (fun _ => rfl) ?_
    refine r_iload_n dX11_leaksOf_16 rfl rfl ?_
    refine r_iconst (v := (0 : Int32)) dX11_leaksOf_17 rfl ?_
    obtain ⟨q1, H⟩ := H
    refine r_zast (k := 85) (i := 0) rfl ho85 q1 (by decide) dX11_leaksOf_18 ?_
    refine r_iinc (v := x3 + (1 : Int32)) dX11_leaksOf_19 rfl rfl (by decide) rfl ?_
    refine r_goto (tgt := 4) dX11_leaksOf_22 (by decide) ?_
    exact H
set_option maxRecDepth 100000 in
theorem bX11_leaksOf_29 {d : Nat} {Q : Option MV → MS → Prop} {x1 : Int32} {x2 : Int32} {x3 : Int32} {s0 : Int32} {σ : MS}  (H : R mj_OM d mX11_leaksOf Q 32 [some (rV 45 0), some (iV x1), some (iV x2), some (iV (s0 - (1 : Int32))), none] [] σ) : R mj_OM d mX11_leaksOf Q 29 [some (rV 45 0), some (iV x1), some (iV x2), some (iV x3), none] [iV s0] σ := by
  refine r_iconst (v := (1 : Int32)) dX11_leaksOf_29 rfl ?_
  refine r_isub dX11_leaksOf_30 ?_
  refine r_istore_n dX11_leaksOf_31 rfl (by decide) rfl ?_
  exact H
set_option maxRecDepth 100000 in
theorem bX11_leaksOf_32 {d : Nat} {Q : Option MV → MS → Prop} {x1 : Int32} {x2 : Int32} {x3 : Int32} {σ : MS}  (H : ((x3 < 0 → R mj_OM d mX11_leaksOf Q 75 [some (rV 45 0), some (iV x1), some (iV x2), some (iV (0 : Int32)), none] [] σ) ∧ (¬ x3 < 0 → (vp_in x3 24 ∧ ((¬ (σ.1 85 0 ((x3).toNatClampNeg)) = 0 → R mj_OM d mX11_leaksOf Q 32 [some (rV 45 0), some (iV x1), some (iV x2), some (iV (x3 + (-1 : Int32))), none] [] σ) ∧ ((σ.1 85 0 ((x3).toNatClampNeg)) = 0 → (((σ.1 84 0 ((x3).toNatClampNeg)) = (-1 : Int32) → R mj_OM d mX11_leaksOf Q 32 [some (rV 45 0), some (iV x1), some (iV x2), some (iV (x3 + (-1 : Int32))), none] [] σ) ∧ (¬ (σ.1 84 0 ((x3).toNatClampNeg)) = (-1 : Int32) → (vp_in (σ.1 84 0 ((x3).toNatClampNeg)) 24 ∧ R mj_OM d mX11_leaksOf Q 32 [some (rV 45 0), some (iV x1), some (iV x2), some (iV (x3 + (-1 : Int32))), none] [] (uI σ 85 0 (((σ.1 84 0 ((x3).toNatClampNeg))).toNatClampNeg) (1 : Int32))))))))))) : R mj_OM d mX11_leaksOf Q 32 [some (rV 45 0), some (iV x1), some (iV x2), some (iV x3), none] [] σ := by
  refine r_iload_n dX11_leaksOf_32 rfl rfl ?_
  refine r_if_lt (tgt := 73) dX11_leaksOf_33 (by decide) (fun c => ?_) (fun c => ?_)
  · have H := H.1 c
    refine r_iconst (v := (0 : Int32)) dX11_leaksOf_73 rfl ?_
    refine r_istore_n dX11_leaksOf_74 rfl (by decide) rfl ?_
    exact H
  · have H := H.2 c
    refine r_aload_n dX11_leaksOf_36 rfl rfl ?_
    refine r_get (k := 45) (i := 0) (j := 68) (v := rV 85 0) rfl rfl ho45 rfl hX11 (by decide) rfl fX11_142 dX11_leaksOf_37 (fun _ => rfl) ?_
    refine r_iload_n dX11_leaksOf_40 rfl rfl ?_
    obtain ⟨q1, H⟩ := H
    refine r_zald (k := 85) (i := 0) rfl ho85 q1 dX11_leaksOf_41 ?_
    refine r_if_ne (tgt := 67) dX11_leaksOf_42 (by decide) (fun c => ?_) (fun c => ?_)
    · have H := H.1 c
      refine r_iinc (v := x3 + (-1 : Int32)) dX11_leaksOf_67 rfl rfl (by decide) rfl ?_
      refine r_goto (tgt := 32) dX11_leaksOf_70 (by decide) ?_
      exact H
    · have H := H.2 c
      refine r_aload_n dX11_leaksOf_45 rfl rfl ?_
      refine r_get (k := 45) (i := 0) (j := 67) (v := rV 84 0) rfl rfl ho45 rfl hX11 (by decide) rfl fX11_139 dX11_leaksOf_46 (fun _ => rfl) ?_
      refine r_iload_n dX11_leaksOf_49 rfl rfl ?_
      refine r_iald (k := 84) (i := 0) rfl ho84 q1 dX11_leaksOf_50 ?_
      refine r_iconst (v := (-1 : Int32)) dX11_leaksOf_51 rfl ?_
      refine r_icmp_eq (tgt := 67) dX11_leaksOf_52 (by decide) (fun c => ?_) (fun c => ?_)
      · have H := H.1 c
        refine r_iinc (v := x3 + (-1 : Int32)) dX11_leaksOf_67 rfl rfl (by decide) rfl ?_
        refine r_goto (tgt := 32) dX11_leaksOf_70 (by decide) ?_
        exact H
      · have H := H.2 c
        refine r_aload_n dX11_leaksOf_55 rfl rfl ?_
        refine r_get (k := 45) (i := 0) (j := 68) (v := rV 85 0) rfl rfl ho45 rfl hX11 (by decide) rfl fX11_142 dX11_leaksOf_56 (fun _ => rfl) ?_
        refine r_aload_n dX11_leaksOf_59 rfl rfl ?_
        refine r_get (k := 45) (i := 0) (j := 67) (v := rV 84 0) rfl rfl ho45 rfl hX11 (by decide) rfl fX11_139 dX11_leaksOf_60 (fun _ => rfl) ?_
        refine r_iload_n dX11_leaksOf_63 rfl rfl ?_
        refine r_iald (k := 84) (i := 0) rfl ho84 q1 dX11_leaksOf_64 ?_
        refine r_iconst (v := (1 : Int32)) dX11_leaksOf_65 rfl ?_
        obtain ⟨q2, H⟩ := H
        refine r_zast (k := 85) (i := 0) rfl ho85 q2 (by decide) dX11_leaksOf_66 ?_
        refine r_iinc (v := x3 + (-1 : Int32)) dX11_leaksOf_67 rfl rfl (by decide) rfl ?_
        refine r_goto (tgt := 32) dX11_leaksOf_70 (by decide) ?_
        exact H
set_option maxRecDepth 100000 in
theorem bX11_leaksOf_75 {d : Nat} {Q : Option MV → MS → Prop} {x1 : Int32} {x2 : Int32} {x3 : Int32} {σ : MS}  (H : (R mj_OM d mX11_knownMany (fun r σ' => R mj_OM (d + 1) mX11_leaksOf Q 80 [some (rV 45 0), some (iV x1), some (iV x2), some (iV x3), none] (r.toList ++ [iV x3]) σ') 0 [some (rV 45 0)] [] σ)) : R mj_OM (d + 1) mX11_leaksOf Q 75 [some (rV 45 0), some (iV x1), some (iV x2), some (iV x3), none] [] σ := by
  refine r_iload_n dX11_leaksOf_75 rfl rfl ?_
  refine r_aload_n dX11_leaksOf_76 rfl rfl ?_
  refine r_callV (z := 0) (k := 45) (i := 0) (As := []) (st := [iV x3]) kX11_knownMany i_X11_knownMany e_X11_knownMany lX11_574 dX11_leaksOf_77 rfl rfl ho45 rfl rfl rfl rfl rfl (Nat.le_of_ble_eq_true rfl) ?_
  exact H
set_option maxRecDepth 100000 in
theorem bX11_leaksOf_80 {d : Nat} {Q : Option MV → MS → Prop} {x1 : Int32} {x2 : Int32} {x3 : Int32} {s0 : Int32} {s1 : Int32} {σ : MS}  (H : ((s0 ≤ s1 → R mj_OM (d + 1) mX11_leaksOf Q 129 [some (rV 45 0), some (iV x1), some (iV x2), some (iV (0 : Int32)), some (iV (0 : Int32))] [] (uI σ 45 0 51 x1)) ∧ (¬ s0 ≤ s1 → (vp_in x3 24 ∧ ((¬ (σ.1 85 0 ((x3).toNatClampNeg)) = 0 → R mj_OM (d + 1) mX11_leaksOf Q 75 [some (rV 45 0), some (iV x1), some (iV x2), some (iV (x3 + (1 : Int32))), none] [] σ) ∧ ((σ.1 85 0 ((x3).toNatClampNeg)) = 0 → ((¬ (σ.1 84 0 ((x3).toNatClampNeg)) = (-1 : Int32) → R mj_OM (d + 1) mX11_leaksOf Q 75 [some (rV 45 0), some (iV x1), some (iV x2), some (iV (x3 + (1 : Int32))), none] [] σ) ∧ ((σ.1 84 0 ((x3).toNatClampNeg)) = (-1 : Int32) → R mj_OM (d + 1) mX11_leaksOf Q 75 [some (rV 45 0), some (iV x1), some (iV (if x2 < (σ.1 80 0 ((x3).toNatClampNeg)) then (σ.1 80 0 ((x3).toNatClampNeg)) else x2)), some (iV (x3 + (1 : Int32))), none] [] σ)))))))) : R mj_OM (d + 1) mX11_leaksOf Q 80 [some (rV 45 0), some (iV x1), some (iV x2), some (iV x3), none] [iV s0, iV s1] σ := by
  refine r_icmp_ge (tgt := 119) dX11_leaksOf_80 (by decide) (fun c => ?_) (fun c => ?_)
  · have H := H.1 c
    refine r_iconst (v := (0 : Int32)) dX11_leaksOf_119 rfl ?_
    refine r_istore_n dX11_leaksOf_120 rfl (by decide) rfl ?_
    refine r_aload_n dX11_leaksOf_121 rfl rfl ?_
    refine r_iload_n dX11_leaksOf_122 rfl rfl ?_
    refine r_putI (k := 45) (i := 0) (j := 51) (ty0 := tyX11) rfl rfl ho45 rfl hX11 (by decide) rfl fX11_111 dX11_leaksOf_123 rfl tyX11_ok nmX11 rfl rfl rfl ?_
    refine r_iconst (v := (0 : Int32)) dX11_leaksOf_126 rfl ?_
    refine r_istore dX11_leaksOf_127 (by decide) rfl ?_
    exact H
  · have H := H.2 c
    refine r_aload_n dX11_leaksOf_83 rfl rfl ?_
    refine r_get (k := 45) (i := 0) (j := 68) (v := rV 85 0) rfl rfl ho45 rfl hX11 (by decide) rfl fX11_142 dX11_leaksOf_84 (fun _ => rfl) ?_
    refine r_iload_n dX11_leaksOf_87 rfl rfl ?_
    obtain ⟨q1, H⟩ := H
    refine r_zald (k := 85) (i := 0) rfl ho85 q1 dX11_leaksOf_88 ?_
    refine r_if_ne (tgt := 113) dX11_leaksOf_89 (by decide) (fun c => ?_) (fun c => ?_)
    · have H := H.1 c
      refine r_iinc (v := x3 + (1 : Int32)) dX11_leaksOf_113 rfl rfl (by decide) rfl ?_
      refine r_goto (tgt := 75) dX11_leaksOf_116 (by decide) ?_
      exact H
    · have H := H.2 c
      refine r_aload_n dX11_leaksOf_92 rfl rfl ?_
      refine r_get (k := 45) (i := 0) (j := 67) (v := rV 84 0) rfl rfl ho45 rfl hX11 (by decide) rfl fX11_139 dX11_leaksOf_93 (fun _ => rfl) ?_
      refine r_iload_n dX11_leaksOf_96 rfl rfl ?_
      refine r_iald (k := 84) (i := 0) rfl ho84 q1 dX11_leaksOf_97 ?_
      refine r_iconst (v := (-1 : Int32)) dX11_leaksOf_98 rfl ?_
      refine r_icmp_ne (tgt := 113) dX11_leaksOf_99 (by decide) (fun c => ?_) (fun c => ?_)
      · have H := H.1 c
        refine r_iinc (v := x3 + (1 : Int32)) dX11_leaksOf_113 rfl rfl (by decide) rfl ?_
        refine r_goto (tgt := 75) dX11_leaksOf_116 (by decide) ?_
        exact H
      · have H := H.2 c
        refine r_iload_n dX11_leaksOf_102 rfl rfl ?_
        refine r_aload_n dX11_leaksOf_103 rfl rfl ?_
        refine r_get (k := 45) (i := 0) (j := 63) (v := rV 80 0) rfl rfl ho45 rfl hX11 (by decide) rfl fX11_126 dX11_leaksOf_104 (fun _ => rfl) ?_
        refine r_iload_n dX11_leaksOf_107 rfl rfl ?_
        refine r_iald (k := 80) (i := 0) rfl ho80 q1 dX11_leaksOf_108 ?_
        refine r_mmax lX11_414 dX11_leaksOf_109 (Nat.le_of_ble_eq_true rfl) ?_
        refine r_istore_n dX11_leaksOf_112 rfl (by decide) rfl ?_
        refine r_iinc (v := x3 + (1 : Int32)) dX11_leaksOf_113 rfl rfl (by decide) rfl ?_
        refine r_goto (tgt := 75) dX11_leaksOf_116 (by decide) ?_
        exact H
set_option maxRecDepth 100000 in
theorem bX11_leaksOf_129 {d : Nat} {Q : Option MV → MS → Prop} {x1 : Int32} {x2 : Int32} {x3 : Int32} {x4 : Int32} {σ : MS}  (H : (((10 : Int32) ≤ x4 → Q (some (iV x3)) (uI σ 45 0 51 (-1 : Int32))) ∧ (¬ (10 : Int32) ≤ x4 → (R mj_OM d mX11_fitsLeak (fun r σ' => R mj_OM (d + 1) mX11_leaksOf Q 148 [some (rV 45 0), some (iV x1), some (iV x2), some (iV x3), some (iV x4)] (r.toList ++ [iV x3]) σ') 0 [some (rV 45 0), some (iV x2), none] [] (uI σ 45 0 52 x4))))) : R mj_OM (d + 1) mX11_leaksOf Q 129 [some (rV 45 0), some (iV x1), some (iV x2), some (iV x3), some (iV x4)] [] σ := by
  refine r_iload dX11_leaksOf_129 rfl ?_
  refine r_bipush (v := (10 : Int32)) dX11_leaksOf_131 rfl ?_
  refine r_icmp_ge (tgt := 167) dX11_leaksOf_133 (by decide) (fun c => ?_) (fun c => ?_)
  · have H := H.1 c
    refine r_aload_n dX11_leaksOf_167 rfl rfl ?_
    refine r_iconst (v := (-1 : Int32)) dX11_leaksOf_168 rfl ?_
    refine r_putI (k := 45) (i := 0) (j := 51) (ty0 := tyX11) rfl rfl ho45 rfl hX11 (by decide) rfl fX11_111 dX11_leaksOf_169 rfl tyX11_ok nmX11 rfl rfl rfl ?_
    refine r_iload_n dX11_leaksOf_172 rfl rfl ?_
    exact r_iret dX11_leaksOf_173 rfl H
  · have H := H.2 c
    refine r_aload_n dX11_leaksOf_136 rfl rfl ?_
    refine r_iload dX11_leaksOf_137 rfl ?_
    refine r_putI (k := 45) (i := 0) (j := 52) (ty0 := tyX11) rfl rfl ho45 rfl hX11 (by decide) rfl fX11_416 dX11_leaksOf_139 rfl tyX11_ok nmX11 rfl rfl rfl ?_
    refine r_iload_n dX11_leaksOf_142 rfl rfl ?_
    refine r_aload_n dX11_leaksOf_143 rfl rfl ?_
    refine r_iload_n dX11_leaksOf_144 rfl rfl ?_
    refine r_callV (z := 1) (k := 45) (i := 0) (As := [iV x2]) (st := [iV x3]) kX11_fitsLeak i_X11_fitsLeak e_X11_fitsLeak lX11_580 dX11_leaksOf_145 rfl rfl ho45 rfl rfl rfl rfl rfl (Nat.le_of_ble_eq_true rfl) ?_
    exact H
set_option maxRecDepth 100000 in
theorem bX11_leaksOf_148 {d : Nat} {Q : Option MV → MS → Prop} {x1 : Int32} {x2 : Int32} {x3 : Int32} {x4 : Int32} {s0 : Int32} {s1 : Int32} {σ : MS}  (H : ((s0 = 0 → R mj_OM d mX11_leaksOf Q 129 [some (rV 45 0), some (iV x1), some (iV x2), some (iV (s1 ||| (0 : Int32))), some (iV (x4 + (1 : Int32)))] [] σ) ∧ (¬ s0 = 0 → R mj_OM d mX11_leaksOf Q 129 [some (rV 45 0), some (iV x1), some (iV x2), some (iV (s1 ||| ((1 : Int32) <<< (x4 &&& 31)))), some (iV (x4 + (1 : Int32)))] [] σ))) : R mj_OM d mX11_leaksOf Q 148 [some (rV 45 0), some (iV x1), some (iV x2), some (iV x3), some (iV x4)] [iV s0, iV s1] σ := by
  refine r_if_eq (tgt := 158) dX11_leaksOf_148 (by decide) (fun c => ?_) (fun c => ?_)
  · have H := H.1 c
    refine r_iconst (v := (0 : Int32)) dX11_leaksOf_158 rfl ?_
    refine r_ior dX11_leaksOf_159 ?_
    refine r_istore_n dX11_leaksOf_160 rfl (by decide) rfl ?_
    refine r_iinc (v := x4 + (1 : Int32)) dX11_leaksOf_161 rfl rfl (by decide) rfl ?_
    refine r_goto (tgt := 129) dX11_leaksOf_164 (by decide) ?_
    exact H
  · have H := H.2 c
    refine r_iconst (v := (1 : Int32)) dX11_leaksOf_151 rfl ?_
    refine r_iload dX11_leaksOf_152 rfl ?_
    refine r_ishl dX11_leaksOf_154 ?_
    refine r_goto (tgt := 159) dX11_leaksOf_155 (by decide) ?_
    refine r_ior dX11_leaksOf_159 ?_
    refine r_istore_n dX11_leaksOf_160 rfl (by decide) rfl ?_
    refine r_iinc (v := x4 + (1 : Int32)) dX11_leaksOf_161 rfl rfl (by decide) rfl ?_
    refine r_goto (tgt := 129) dX11_leaksOf_164 (by decide) ?_
    exact H
set_option maxRecDepth 100000 in
theorem bX11_leaks_0 {d : Nat} {Q : Option MV → MS → Prop} {x1 : Int32} {σ : MS}  (H : (R mj_OM d mX11_isPond (fun r σ' => R mj_OM (d + 1) mX11_leaks Q 10 [some (rV 45 0), some (iV x1)] (r.toList ++ []) σ') 0 [some (rV 45 0), some (iV x1)] [] (uI σ 45 0 0 (0 : Int32)))) : R mj_OM (d + 1) mX11_leaks Q 0 [some (rV 45 0), some (iV x1)] [] σ := by
  refine r_aload_n dX11_leaks_0 rfl rfl ?_
  refine r_iconst (v := (0 : Int32)) dX11_leaks_1 rfl ?_
  refine r_putI (k := 45) (i := 0) (j := 0) (ty0 := tyX11) rfl rfl ho45 rfl hX11 (by decide) rfl fX11_151 dX11_leaks_2 rfl tyX11_ok nmX11 rfl rfl rfl ?_
  refine r_aload_n dX11_leaks_5 rfl rfl ?_
  refine r_iload_n dX11_leaks_6 rfl rfl ?_
  refine r_callV (z := 0) (k := 45) (i := 0) (As := [iV x1]) (st := []) kX11_isPond i_X11_isPond e_X11_isPond lX11_446 dX11_leaks_7 rfl rfl ho45 rfl rfl rfl rfl rfl (Nat.le_of_ble_eq_true rfl) ?_
  exact H
set_option maxRecDepth 100000 in
theorem bX11_leaks_10 {d : Nat} {Q : Option MV → MS → Prop} {x1 : Int32} {s0 : Int32} {σ : MS}  (H : ((s0 = 0 → Q (some (iV (-1 : Int32))) σ) ∧ (¬ s0 = 0 → (R mj_OM d mX11_leaksOf (fun r σ' => R mj_OM (d + 1) mX11_leaks Q 18 [some (rV 45 0), some (iV x1)] (r.toList ++ []) σ') 0 [some (rV 45 0), some (iV x1), none, none, none] [] σ)))) : R mj_OM (d + 1) mX11_leaks Q 10 [some (rV 45 0), some (iV x1)] [iV s0] σ := by
  refine r_if_eq (tgt := 21) dX11_leaks_10 (by decide) (fun c => ?_) (fun c => ?_)
  · have H := H.1 c
    refine r_iconst (v := (-1 : Int32)) dX11_leaks_21 rfl ?_
    exact r_iret dX11_leaks_22 rfl H
  · have H := H.2 c
    refine r_aload_n dX11_leaks_13 rfl rfl ?_
    refine r_iload_n dX11_leaks_14 rfl rfl ?_
    refine r_callV (z := 3) (k := 45) (i := 0) (As := [iV x1]) (st := []) kX11_leaksOf i_X11_leaksOf e_X11_leaksOf lX11_583 dX11_leaks_15 rfl rfl ho45 rfl rfl rfl rfl rfl (Nat.le_of_ble_eq_true rfl) ?_
    exact H
set_option maxRecDepth 100000 in
theorem bX11_leaks_18 {d : Nat} {Q : Option MV → MS → Prop} {x1 : Int32} {s0 : Int32} {σ : MS}  (H : Q (some (iV s0)) σ) : R mj_OM d mX11_leaks Q 18 [some (rV 45 0), some (iV x1)] [iV s0] σ := by
  refine r_goto (tgt := 22) dX11_leaks_18 (by decide) ?_
  exact r_iret dX11_leaks_22 rfl H
set_option maxRecDepth 100000 in
theorem bX11_worstAt_0 {d : Nat} {Q : Option MV → MS → Prop} {x1 : Int32} {x2 : Int32} {σ : MS}  (H : R mj_OM d mX11_worstAt Q 5 [some (rV 45 0), some (iV x1), some (iV x2), some (iV (0 : Int32)), some (iV (0 : Int32)), none, none] [] σ) : R mj_OM d mX11_worstAt Q 0 [some (rV 45 0), some (iV x1), some (iV x2), none, none, none, none] [] σ := by
  refine r_iconst (v := (0 : Int32)) dX11_worstAt_0 rfl ?_
  refine r_istore_n dX11_worstAt_1 rfl (by decide) rfl ?_
  refine r_iconst (v := (0 : Int32)) dX11_worstAt_2 rfl ?_
  refine r_istore dX11_worstAt_3 (by decide) rfl ?_
  exact H
set_option maxRecDepth 100000 in
theorem bX11_worstAt_5 {d : Nat} {Q : Option MV → MS → Prop} {x1 : Int32} {x2 : Int32} {x3 : Int32} {x4 : Int32} {σ : MS}  (H : (((10 : Int32) ≤ x4 → Q (some (iV x3)) σ) ∧ (¬ (10 : Int32) ≤ x4 → R mj_OM d mX11_worstAt Q 18 [some (rV 45 0), some (iV x1), some (iV x2), some (iV x3), some (iV x4), some (iV (0 : Int32)), some (iV (0 : Int32))] [] σ))) : R mj_OM d mX11_worstAt Q 5 [some (rV 45 0), some (iV x1), some (iV x2), some (iV x3), some (iV x4), none, none] [] σ := by
  refine r_iload dX11_worstAt_5 rfl ?_
  refine r_bipush (v := (10 : Int32)) dX11_worstAt_7 rfl ?_
  refine r_icmp_ge (tgt := 101) dX11_worstAt_9 (by decide) (fun c => ?_) (fun c => ?_)
  · have H := H.1 c
    refine r_iload_n dX11_worstAt_101 rfl rfl ?_
    exact r_iret dX11_worstAt_102 rfl H
  · have H := H.2 c
    refine r_iconst (v := (0 : Int32)) dX11_worstAt_12 rfl ?_
    refine r_istore dX11_worstAt_13 (by decide) rfl ?_
    refine r_iconst (v := (0 : Int32)) dX11_worstAt_15 rfl ?_
    refine r_istore dX11_worstAt_16 (by decide) rfl ?_
    exact H
set_option maxRecDepth 100000 in
theorem bX11_worstAt_18 {d : Nat} {Q : Option MV → MS → Prop} {x1 : Int32} {x2 : Int32} {x3 : Int32} {x4 : Int32} {x5 : Int32} {x6 : Int32} {σ : MS}  (H : (((10 : Int32) ≤ x6 → ((¬ ((x1 >>> (x4 &&& 31)) &&& (1 : Int32)) = (1 : Int32) → R mj_OM (d + 1) mX11_worstAt Q 5 [some (rV 45 0), some (iV x1), some (iV x2), some (iV x3), some (iV (x4 + (1 : Int32))), none, none] [] σ) ∧ (((x1 >>> (x4 &&& 31)) &&& (1 : Int32)) = (1 : Int32) → R mj_OM (d + 1) mX11_worstAt Q 5 [some (rV 45 0), some (iV x1), some (iV x2), some (iV (if x3 < x5 then x5 else x3)), some (iV (x4 + (1 : Int32))), none, none] [] σ))) ∧ (¬ (10 : Int32) ≤ x6 → ((¬ ((x1 >>> (x6 &&& 31)) &&& (1 : Int32)) = (1 : Int32) → R mj_OM (d + 1) mX11_worstAt Q 18 [some (rV 45 0), some (iV x1), some (iV x2), some (iV x3), some (iV x4), some (iV (x5 + (0 : Int32))), some (iV (x6 + (1 : Int32)))] [] σ) ∧ (((x1 >>> (x6 &&& 31)) &&& (1 : Int32)) = (1 : Int32) → (vp_in (((61 : Int32) * x6) + x2) 610 ∧ vp_in (((61 : Int32) * x4) + x2) 610 ∧ ((¬ (σ.1 86 0 (((((61 : Int32) * x6) + x2)).toNatClampNeg)) = (σ.1 86 0 (((((61 : Int32) * x4) + x2)).toNatClampNeg)) → R mj_OM (d + 1) mX11_worstAt Q 18 [some (rV 45 0), some (iV x1), some (iV x2), some (iV x3), some (iV x4), some (iV (x5 + (0 : Int32))), some (iV (x6 + (1 : Int32)))] [] σ) ∧ ((σ.1 86 0 (((((61 : Int32) * x6) + x2)).toNatClampNeg)) = (σ.1 86 0 (((((61 : Int32) * x4) + x2)).toNatClampNeg)) → R mj_OM (d + 1) mX11_worstAt Q 18 [some (rV 45 0), some (iV x1), some (iV x2), some (iV x3), some (iV x4), some (iV (x5 + (1 : Int32))), some (iV (x6 + (1 : Int32)))] [] σ)))))))) : R mj_OM (d + 1) mX11_worstAt Q 18 [some (rV 45 0), some (iV x1), some (iV x2), some (iV x3), some (iV x4), some (iV x5), some (iV x6)] [] σ := by
  refine r_iload dX11_worstAt_18 rfl ?_
  refine r_bipush (v := (10 : Int32)) dX11_worstAt_20 rfl ?_
  refine r_icmp_ge (tgt := 78) dX11_worstAt_22 (by decide) (fun c => ?_) (fun c => ?_)
  · have H := H.1 c
    refine r_iload_n dX11_worstAt_78 rfl rfl ?_
    refine r_iload dX11_worstAt_79 rfl ?_
    refine r_ishr dX11_worstAt_81 ?_
    refine r_iconst (v := (1 : Int32)) dX11_worstAt_82 rfl ?_
    refine r_iand dX11_worstAt_83 ?_
    refine r_iconst (v := (1 : Int32)) dX11_worstAt_84 rfl ?_
    refine r_icmp_ne (tgt := 95) dX11_worstAt_85 (by decide) (fun c => ?_) (fun c => ?_)
    · have H := H.1 c
      refine r_iinc (v := x4 + (1 : Int32)) dX11_worstAt_95 rfl rfl (by decide) rfl ?_
      refine r_goto (tgt := 5) dX11_worstAt_98 (by decide) ?_
      exact R.fw (ls' := [some (rV 45 0), some (iV x1), some (iV x2), some (iV x3), some (iV (x4 + (1 : Int32))), none, none]) ⟨rfl, ⟨rfl, ⟨rfl, ⟨rfl, ⟨rfl, trivial⟩⟩⟩⟩⟩ H
    · have H := H.2 c
      refine r_iload_n dX11_worstAt_88 rfl rfl ?_
      refine r_iload dX11_worstAt_89 rfl ?_
      refine r_mmax lX11_414 dX11_worstAt_91 (Nat.le_of_ble_eq_true rfl) ?_
      refine r_istore_n dX11_worstAt_94 rfl (by decide) rfl ?_
      refine r_iinc (v := x4 + (1 : Int32)) dX11_worstAt_95 rfl rfl (by decide) rfl ?_
      refine r_goto (tgt := 5) dX11_worstAt_98 (by decide) ?_
      exact R.fw (ls' := [some (rV 45 0), some (iV x1), some (iV x2), some (iV (if x3 < x5 then x5 else x3)), some (iV (x4 + (1 : Int32))), none, none]) ⟨rfl, ⟨rfl, ⟨rfl, ⟨rfl, ⟨rfl, trivial⟩⟩⟩⟩⟩ H
  · have H := H.2 c
    refine r_iload dX11_worstAt_25 rfl ?_
    refine r_iload_n dX11_worstAt_27 rfl rfl ?_
    refine r_iload dX11_worstAt_28 rfl ?_
    refine r_ishr dX11_worstAt_30 ?_
    refine r_iconst (v := (1 : Int32)) dX11_worstAt_31 rfl ?_
    refine r_iand dX11_worstAt_32 ?_
    refine r_iconst (v := (1 : Int32)) dX11_worstAt_33 rfl ?_
    refine r_icmp_ne (tgt := 68) dX11_worstAt_34 (by decide) (fun c => ?_) (fun c => ?_)
    · have H := H.1 c
      refine r_iconst (v := (0 : Int32)) dX11_worstAt_68 rfl ?_
      refine r_iadd dX11_worstAt_69 ?_
      refine r_istore dX11_worstAt_70 (by decide) rfl ?_
      refine r_iinc (v := x6 + (1 : Int32)) dX11_worstAt_72 rfl rfl (by decide) rfl ?_
      refine r_goto (tgt := 18) dX11_worstAt_75 (by decide) ?_
      exact H
    · have H := H.2 c
      refine r_aload_n dX11_worstAt_37 rfl rfl ?_
      refine r_get (k := 45) (i := 0) (j := 69) (v := rV 86 0) rfl rfl ho45 rfl hX11 (by decide) rfl fX11_145 dX11_worstAt_38 (fun _ => rfl) ?_
      refine r_bipush (v := (61 : Int32)) dX11_worstAt_41 rfl ?_
      refine r_iload dX11_worstAt_43 rfl ?_
      refine r_imul dX11_worstAt_45 ?_
      refine r_iload_n dX11_worstAt_46 rfl rfl ?_
      refine r_iadd dX11_worstAt_47 ?_
      obtain ⟨q1, H⟩ := H
      refine r_iald (k := 86) (i := 0) rfl ho86 q1 dX11_worstAt_48 ?_
      refine r_aload_n dX11_worstAt_49 rfl rfl ?_
      refine r_get (k := 45) (i := 0) (j := 69) (v := rV 86 0) rfl rfl ho45 rfl hX11 (by decide) rfl fX11_145 dX11_worstAt_50 (fun _ => rfl) ?_
      refine r_bipush (v := (61 : Int32)) dX11_worstAt_53 rfl ?_
      refine r_iload dX11_worstAt_55 rfl ?_
      refine r_imul dX11_worstAt_57 ?_
      refine r_iload_n dX11_worstAt_58 rfl rfl ?_
      refine r_iadd dX11_worstAt_59 ?_
      obtain ⟨q2, H⟩ := H
      refine r_iald (k := 86) (i := 0) rfl ho86 q2 dX11_worstAt_60 ?_
      refine r_icmp_ne (tgt := 68) dX11_worstAt_61 (by decide) (fun c => ?_) (fun c => ?_)
      · have H := H.1 c
        refine r_iconst (v := (0 : Int32)) dX11_worstAt_68 rfl ?_
        refine r_iadd dX11_worstAt_69 ?_
        refine r_istore dX11_worstAt_70 (by decide) rfl ?_
        refine r_iinc (v := x6 + (1 : Int32)) dX11_worstAt_72 rfl rfl (by decide) rfl ?_
        refine r_goto (tgt := 18) dX11_worstAt_75 (by decide) ?_
        exact H
      · have H := H.2 c
        refine r_iconst (v := (1 : Int32)) dX11_worstAt_64 rfl ?_
        refine r_goto (tgt := 69) dX11_worstAt_65 (by decide) ?_
        refine r_iadd dX11_worstAt_69 ?_
        refine r_istore dX11_worstAt_70 (by decide) rfl ?_
        refine r_iinc (v := x6 + (1 : Int32)) dX11_worstAt_72 rfl rfl (by decide) rfl ?_
        refine r_goto (tgt := 18) dX11_worstAt_75 (by decide) ?_
        exact H
set_option maxRecDepth 100000 in
theorem bX11_ask_0 {d : Nat} {Q : Option MV → MS → Prop} {x1 : Int32} {x2 : Int32} {σ : MS}  (H : (R mj_OM d mX11_isPond (fun r σ' => R mj_OM (d + 1) mX11_ask Q 10 [some (rV 45 0), some (iV x1), some (iV x2), none, none, none] (r.toList ++ []) σ') 0 [some (rV 45 0), some (iV x1)] [] (uI σ 45 0 0 (0 : Int32)))) : R mj_OM (d + 1) mX11_ask Q 0 [some (rV 45 0), some (iV x1), some (iV x2), none, none, none] [] σ := by
  refine r_aload_n dX11_ask_0 rfl rfl ?_
  refine r_iconst (v := (0 : Int32)) dX11_ask_1 rfl ?_
  refine r_putI (k := 45) (i := 0) (j := 0) (ty0 := tyX11) rfl rfl ho45 rfl hX11 (by decide) rfl fX11_151 dX11_ask_2 rfl tyX11_ok nmX11 rfl rfl rfl ?_
  refine r_aload_n dX11_ask_5 rfl rfl ?_
  refine r_iload_n dX11_ask_6 rfl rfl ?_
  refine r_callV (z := 0) (k := 45) (i := 0) (As := [iV x1]) (st := []) kX11_isPond i_X11_isPond e_X11_isPond lX11_446 dX11_ask_7 rfl rfl ho45 rfl rfl rfl rfl rfl (Nat.le_of_ble_eq_true rfl) ?_
  exact H
set_option maxRecDepth 100000 in
theorem bX11_ask_10 {d : Nat} {Q : Option MV → MS → Prop} {x1 : Int32} {x2 : Int32} {s0 : Int32} {σ : MS}  (H : ((s0 = 0 → Q (some (iV (-1 : Int32))) σ) ∧ (¬ s0 = 0 → (R mj_OM d mX11_isPart (fun r σ' => R mj_OM (d + 1) mX11_ask Q 17 [some (rV 45 0), some (iV x1), some (iV x2), none, none, none] (r.toList ++ []) σ') 0 [some (iV x2)] [] σ)))) : R mj_OM (d + 1) mX11_ask Q 10 [some (rV 45 0), some (iV x1), some (iV x2), none, none, none] [iV s0] σ := by
  refine r_if_eq (tgt := 20) dX11_ask_10 (by decide) (fun c => ?_) (fun c => ?_)
  · have H := H.1 c
    refine r_iconst (v := (-1 : Int32)) dX11_ask_20 rfl ?_
    exact r_iret dX11_ask_21 rfl H
  · have H := H.2 c
    refine r_iload_n dX11_ask_13 rfl rfl ?_
    refine r_callS (z := 0) (As := [iV x2]) (st := []) kX11_isPart s_X11_isPart lX11_455 dX11_ask_14 rfl rfl rfl rfl (Nat.le_of_ble_eq_true rfl) ?_
    exact H
set_option maxRecDepth 100000 in
theorem bX11_ask_17 {d : Nat} {Q : Option MV → MS → Prop} {x1 : Int32} {x2 : Int32} {s0 : Int32} {σ : MS}  (H : ((¬ s0 = 0 → (R mj_OM d mX11_leaksOf (fun r σ' => R mj_OM (d + 1) mX11_ask Q 27 [some (rV 45 0), some (iV x1), some (iV x2), none, none, none] (r.toList ++ []) σ') 0 [some (rV 45 0), some (iV x1), none, none, none] [] σ)) ∧ (s0 = 0 → Q (some (iV (-1 : Int32))) σ))) : R mj_OM (d + 1) mX11_ask Q 17 [some (rV 45 0), some (iV x1), some (iV x2), none, none, none] [iV s0] σ := by
  refine r_if_ne (tgt := 22) dX11_ask_17 (by decide) (fun c => ?_) (fun c => ?_)
  · have H := H.1 c
    refine r_aload_n dX11_ask_22 rfl rfl ?_
    refine r_iload_n dX11_ask_23 rfl rfl ?_
    refine r_callV (z := 3) (k := 45) (i := 0) (As := [iV x1]) (st := []) kX11_leaksOf i_X11_leaksOf e_X11_leaksOf lX11_583 dX11_ask_24 rfl rfl ho45 rfl rfl rfl rfl rfl (Nat.le_of_ble_eq_true rfl) ?_
    exact H
  · have H := H.2 c
    refine r_iconst (v := (-1 : Int32)) dX11_ask_20 rfl ?_
    exact r_iret dX11_ask_21 rfl H
set_option maxRecDepth 100000 in
theorem bX11_ask_27 {d : Nat} {Q : Option MV → MS → Prop} {x1 : Int32} {x2 : Int32} {s0 : Int32} {σ : MS}  (H : R mj_OM d mX11_ask Q 36 [some (rV 45 0), some (iV x1), some (iV x2), some (iV s0), some (iV (0 : Int32)), none] [] (uI σ 45 0 51 x1)) : R mj_OM d mX11_ask Q 27 [some (rV 45 0), some (iV x1), some (iV x2), none, none, none] [iV s0] σ := by
  refine r_istore_n dX11_ask_27 rfl (by decide) rfl ?_
  refine r_aload_n dX11_ask_28 rfl rfl ?_
  refine r_iload_n dX11_ask_29 rfl rfl ?_
  refine r_putI (k := 45) (i := 0) (j := 51) (ty0 := tyX11) rfl rfl ho45 rfl hX11 (by decide) rfl fX11_111 dX11_ask_30 rfl tyX11_ok nmX11 rfl rfl rfl ?_
  refine r_iconst (v := (0 : Int32)) dX11_ask_33 rfl ?_
  refine r_istore dX11_ask_34 (by decide) rfl ?_
  exact H
set_option maxRecDepth 100000 in
theorem bX11_ask_36 {d : Nat} {Q : Option MV → MS → Prop} {x1 : Int32} {x2 : Int32} {x3 : Int32} {x4 : Int32} {σ : MS}  (H : (((10 : Int32) ≤ x4 → R mj_OM (d + 1) mX11_ask Q 115 [some (rV 45 0), some (iV x1), some (iV x2), some (iV x3), some (iV (1 : Int32)), some (iV (2 : Int32))] [] (uI σ 45 0 51 (-1 : Int32))) ∧ (¬ (10 : Int32) ≤ x4 → (R mj_OM d mX11_starts (fun r σ' => R mj_OM (d + 1) mX11_ask Q 54 [some (rV 45 0), some (iV x1), some (iV x2), some (iV x3), some (iV x4), none] (r.toList ++ []) σ') 0 [some (rV 45 0), some (iV (1 : Int32)), none] [] (uI σ 45 0 52 x4))))) : R mj_OM (d + 1) mX11_ask Q 36 [some (rV 45 0), some (iV x1), some (iV x2), some (iV x3), some (iV x4), none] [] σ := by
  refine r_iload dX11_ask_36 rfl ?_
  refine r_bipush (v := (10 : Int32)) dX11_ask_38 rfl ?_
  refine r_icmp_ge (tgt := 104) dX11_ask_40 (by decide) (fun c => ?_) (fun c => ?_)
  · have H := H.1 c
    refine r_aload_n dX11_ask_104 rfl rfl ?_
    refine r_iconst (v := (-1 : Int32)) dX11_ask_105 rfl ?_
    refine r_putI (k := 45) (i := 0) (j := 51) (ty0 := tyX11) rfl rfl ho45 rfl hX11 (by decide) rfl fX11_111 dX11_ask_106 rfl tyX11_ok nmX11 rfl rfl rfl ?_
    refine r_iconst (v := (1 : Int32)) dX11_ask_109 rfl ?_
    refine r_istore dX11_ask_110 (by decide) rfl ?_
    refine r_iconst (v := (2 : Int32)) dX11_ask_112 rfl ?_
    refine r_istore dX11_ask_113 (by decide) rfl ?_
    exact H
  · have H := H.2 c
    refine r_aload_n dX11_ask_43 rfl rfl ?_
    refine r_iload dX11_ask_44 rfl ?_
    refine r_putI (k := 45) (i := 0) (j := 52) (ty0 := tyX11) rfl rfl ho45 rfl hX11 (by decide) rfl fX11_416 dX11_ask_46 rfl tyX11_ok nmX11 rfl rfl rfl ?_
    refine r_aload_n dX11_ask_49 rfl rfl ?_
    refine r_iconst (v := (1 : Int32)) dX11_ask_50 rfl ?_
    refine r_callV (z := 1) (k := 45) (i := 0) (As := [iV (1 : Int32)]) (st := []) kX11_starts i_X11_starts e_X11_starts lX11_343 dX11_ask_51 rfl rfl ho45 rfl rfl rfl rfl rfl (Nat.le_of_ble_eq_true rfl) ?_
    exact H
set_option maxRecDepth 100000 in
theorem bX11_ask_54 {d : Nat} {Q : Option MV → MS → Prop} {x1 : Int32} {x2 : Int32} {x3 : Int32} {x4 : Int32} {σ : MS}  (H : R mj_OM d mX11_ask Q 57 [some (rV 45 0), some (iV x1), some (iV x2), some (iV x3), some (iV x4), some (iV (1 : Int32))] [] σ) : R mj_OM d mX11_ask Q 54 [some (rV 45 0), some (iV x1), some (iV x2), some (iV x3), some (iV x4), none] [] σ := by
  refine r_iconst (v := (1 : Int32)) dX11_ask_54 rfl ?_
  refine r_istore dX11_ask_55 (by decide) rfl ?_
  exact H
set_option maxRecDepth 100000 in
theorem bX11_ask_57 {d : Nat} {Q : Option MV → MS → Prop} {x1 : Int32} {x2 : Int32} {x3 : Int32} {x4 : Int32} {x5 : Int32} {σ : MS}  (H : (((60 : Int32) < x5 → R mj_OM (d + 1) mX11_ask Q 36 [some (rV 45 0), some (iV x1), some (iV x2), some (iV x3), some (iV (x4 + (1 : Int32))), none] [] σ) ∧ (¬ (60 : Int32) < x5 → (R mj_OM d mX11_passes (fun r σ' => R mj_OM (d + 1) mX11_ask Q 70 [some (rV 45 0), some (iV x1), some (iV x2), some (iV x3), some (iV x4), some (iV x5)] (r.toList ++ []) σ') 0 [some (rV 45 0), some (iV (1 : Int32)), some (iV (0 : Int32)), none] [] σ)))) : R mj_OM (d + 1) mX11_ask Q 57 [some (rV 45 0), some (iV x1), some (iV x2), some (iV x3), some (iV x4), some (iV x5)] [] σ := by
  refine r_iload dX11_ask_57 rfl ?_
  refine r_bipush (v := (60 : Int32)) dX11_ask_59 rfl ?_
  refine r_icmp_gt (tgt := 98) dX11_ask_61 (by decide) (fun c => ?_) (fun c => ?_)
  · have H := H.1 c
    refine r_iinc (v := x4 + (1 : Int32)) dX11_ask_98 rfl rfl (by decide) rfl ?_
    refine r_goto (tgt := 36) dX11_ask_101 (by decide) ?_
    exact R.fw (ls' := [some (rV 45 0), some (iV x1), some (iV x2), some (iV x3), some (iV (x4 + (1 : Int32))), none]) ⟨rfl, ⟨rfl, ⟨rfl, ⟨rfl, ⟨rfl, trivial⟩⟩⟩⟩⟩ H
  · have H := H.2 c
    refine r_aload_n dX11_ask_64 rfl rfl ?_
    refine r_iconst (v := (1 : Int32)) dX11_ask_65 rfl ?_
    refine r_iconst (v := (0 : Int32)) dX11_ask_66 rfl ?_
    refine r_callV (z := 1) (k := 45) (i := 0) (As := [iV (1 : Int32), iV (0 : Int32)]) (st := []) kX11_passes i_X11_passes e_X11_passes lX11_439 dX11_ask_67 rfl rfl ho45 rfl rfl rfl rfl rfl (Nat.le_of_ble_eq_true rfl) ?_
    exact H
set_option maxRecDepth 100000 in
theorem bX11_ask_70 {d : Nat} {Q : Option MV → MS → Prop} {x1 : Int32} {x2 : Int32} {x3 : Int32} {x4 : Int32} {x5 : Int32} {σ : MS}  (H : (vp_in ((7 : Int32) + x1) 161 ∧ vp_in (((61 : Int32) * x4) + x5) 610 ∧ R mj_OM d mX11_ask Q 57 [some (rV 45 0), some (iV x1), some (iV x2), some (iV x3), some (iV x4), some (iV (x5 + (1 : Int32)))] [] (uI σ 86 0 (((((61 : Int32) * x4) + x5)).toNatClampNeg) (σ.1 74 0 ((((7 : Int32) + x1)).toNatClampNeg))))) : R mj_OM d mX11_ask Q 70 [some (rV 45 0), some (iV x1), some (iV x2), some (iV x3), some (iV x4), some (iV x5)] [] σ := by
  refine r_aload_n dX11_ask_70 rfl rfl ?_
  refine r_get (k := 45) (i := 0) (j := 69) (v := rV 86 0) rfl rfl ho45 rfl hX11 (by decide) rfl fX11_145 dX11_ask_71 (fun _ => rfl) ?_
  refine r_bipush (v := (61 : Int32)) dX11_ask_74 rfl ?_
  refine r_iload dX11_ask_76 rfl ?_
  refine r_imul dX11_ask_78 ?_
  refine r_iload dX11_ask_79 rfl ?_
  refine r_iadd dX11_ask_81 ?_
  refine r_aload_n dX11_ask_82 rfl rfl ?_
  refine r_get (k := 45) (i := 0) (j := 44) (v := rV 74 0) rfl rfl ho45 rfl hX11 (by decide) rfl fX11_99 dX11_ask_83 (fun _ => rfl) ?_
  refine r_bipush (v := (7 : Int32)) dX11_ask_86 rfl ?_
  refine r_iload_n dX11_ask_88 rfl rfl ?_
  refine r_iadd dX11_ask_89 ?_
  obtain ⟨q1, H⟩ := H
  refine r_iald (k := 74) (i := 0) rfl ho74 q1 dX11_ask_90 ?_
  obtain ⟨q2, H⟩ := H
  refine r_iast (k := 86) (i := 0) rfl ho86 q2 dX11_ask_91 ?_
  refine r_iinc (v := x5 + (1 : Int32)) dX11_ask_92 rfl rfl (by decide) rfl ?_
  refine r_goto (tgt := 57) dX11_ask_95 (by decide) ?_
  exact H
set_option maxRecDepth 100000 in
theorem bX11_ask_115 {d : Nat} {Q : Option MV → MS → Prop} {x1 : Int32} {x2 : Int32} {x3 : Int32} {x4 : Int32} {x5 : Int32} {σ : MS}  (H : (((60 : Int32) < x5 → ((¬ x2 = 0 → (R mj_OM d mX11_worstAt (fun r σ' => R mj_OM (d + 1) mX11_ask Q 165 [some (rV 45 0), some (iV x1), some (iV x2), some (iV x3), some (iV x4), some (iV x5)] (r.toList ++ []) σ') 0 [some (rV 45 0), some (iV x3), some (iV x4), none, none, none, none] [] σ)) ∧ (x2 = 0 → Q (some (iV x4)) σ))) ∧ (¬ (60 : Int32) < x5 → (R mj_OM d mX11_worstAt (fun r σ' => R mj_OM (d + 1) mX11_ask Q 129 [some (rV 45 0), some (iV x1), some (iV x2), some (iV x3), some (iV x4), some (iV x5)] (r.toList ++ []) σ') 0 [some (rV 45 0), some (iV x3), some (iV x5), none, none, none, none] [] σ)))) : R mj_OM (d + 1) mX11_ask Q 115 [some (rV 45 0), some (iV x1), some (iV x2), some (iV x3), some (iV x4), some (iV x5)] [] σ := by
  refine r_iload dX11_ask_115 rfl ?_
  refine r_bipush (v := (60 : Int32)) dX11_ask_117 rfl ?_
  refine r_icmp_gt (tgt := 149) dX11_ask_119 (by decide) (fun c => ?_) (fun c => ?_)
  · have H := H.1 c
    refine r_iload_n dX11_ask_149 rfl rfl ?_
    refine r_if_ne (tgt := 158) dX11_ask_150 (by decide) (fun c => ?_) (fun c => ?_)
    · have H := H.1 c
      refine r_aload_n dX11_ask_158 rfl rfl ?_
      refine r_iload_n dX11_ask_159 rfl rfl ?_
      refine r_iload dX11_ask_160 rfl ?_
      refine r_callV (z := 4) (k := 45) (i := 0) (As := [iV x3, iV x4]) (st := []) kX11_worstAt i_X11_worstAt e_X11_worstAt lX11_586 dX11_ask_162 rfl rfl ho45 rfl rfl rfl rfl rfl (Nat.le_of_ble_eq_true rfl) ?_
      exact H
    · have H := H.2 c
      refine r_iload dX11_ask_153 rfl ?_
      refine r_goto (tgt := 165) dX11_ask_155 (by decide) ?_
      exact r_iret dX11_ask_165 rfl H
  · have H := H.2 c
    refine r_aload_n dX11_ask_122 rfl rfl ?_
    refine r_iload_n dX11_ask_123 rfl rfl ?_
    refine r_iload dX11_ask_124 rfl ?_
    refine r_callV (z := 4) (k := 45) (i := 0) (As := [iV x3, iV x5]) (st := []) kX11_worstAt i_X11_worstAt e_X11_worstAt lX11_586 dX11_ask_126 rfl rfl ho45 rfl rfl rfl rfl rfl (Nat.le_of_ble_eq_true rfl) ?_
    exact H
set_option maxRecDepth 100000 in
theorem bX11_ask_129 {d : Nat} {Q : Option MV → MS → Prop} {x1 : Int32} {x2 : Int32} {x3 : Int32} {x4 : Int32} {x5 : Int32} {s0 : Int32} {σ : MS}  (H : (R mj_OM d mX11_worstAt (fun r σ' => R mj_OM (d + 1) mX11_ask Q 136 [some (rV 45 0), some (iV x1), some (iV x2), some (iV x3), some (iV x4), some (iV x5)] (r.toList ++ [iV s0]) σ') 0 [some (rV 45 0), some (iV x3), some (iV x4), none, none, none, none] [] σ)) : R mj_OM (d + 1) mX11_ask Q 129 [some (rV 45 0), some (iV x1), some (iV x2), some (iV x3), some (iV x4), some (iV x5)] [iV s0] σ := by
  refine r_aload_n dX11_ask_129 rfl rfl ?_
  refine r_iload_n dX11_ask_130 rfl rfl ?_
  refine r_iload dX11_ask_131 rfl ?_
  refine r_callV (z := 4) (k := 45) (i := 0) (As := [iV x3, iV x4]) (st := [iV s0]) kX11_worstAt i_X11_worstAt e_X11_worstAt lX11_586 dX11_ask_133 rfl rfl ho45 rfl rfl rfl rfl rfl (Nat.le_of_ble_eq_true rfl) ?_
  exact H
set_option maxRecDepth 100000 in
theorem bX11_ask_136 {d : Nat} {Q : Option MV → MS → Prop} {x1 : Int32} {x2 : Int32} {x3 : Int32} {x4 : Int32} {x5 : Int32} {s0 : Int32} {s1 : Int32} {σ : MS}  (H : ((s0 ≤ s1 → R mj_OM d mX11_ask Q 115 [some (rV 45 0), some (iV x1), some (iV x2), some (iV x3), some (iV x4), some (iV (x5 + (1 : Int32)))] [] σ) ∧ (¬ s0 ≤ s1 → R mj_OM d mX11_ask Q 115 [some (rV 45 0), some (iV x1), some (iV x2), some (iV x3), some (iV x5), some (iV (x5 + (1 : Int32)))] [] σ))) : R mj_OM d mX11_ask Q 136 [some (rV 45 0), some (iV x1), some (iV x2), some (iV x3), some (iV x4), some (iV x5)] [iV s0, iV s1] σ := by
  refine r_icmp_ge (tgt := 143) dX11_ask_136 (by decide) (fun c => ?_) (fun c => ?_)
  · have H := H.1 c
    refine r_iinc (v := x5 + (1 : Int32)) dX11_ask_143 rfl rfl (by decide) rfl ?_
    refine r_goto (tgt := 115) dX11_ask_146 (by decide) ?_
    exact H
  · have H := H.2 c
    refine r_iload dX11_ask_139 rfl ?_
    refine r_istore dX11_ask_141 (by decide) rfl ?_
    refine r_iinc (v := x5 + (1 : Int32)) dX11_ask_143 rfl rfl (by decide) rfl ?_
    refine r_goto (tgt := 115) dX11_ask_146 (by decide) ?_
    exact H
set_option maxRecDepth 100000 in
theorem bX11_ask_165 {d : Nat} {Q : Option MV → MS → Prop} {x1 : Int32} {x2 : Int32} {x3 : Int32} {x4 : Int32} {x5 : Int32} {s0 : Int32} {σ : MS}  (H : Q (some (iV s0)) σ) : R mj_OM d mX11_ask Q 165 [some (rV 45 0), some (iV x1), some (iV x2), some (iV x3), some (iV x4), some (iV x5)] [iV s0] σ := by
  exact r_iret dX11_ask_165 rfl H
set_option maxRecDepth 100000 in
theorem bX11_chance_0 {d : Nat} {Q : Option MV → MS → Prop} {x1 : Int32} {x2 : Int32} {x3 : Int32} {σ : MS}  (H : ((x1 < 0 → Q (some (iV (-1 : Int32))) (uI σ 45 0 0 (0 : Int32))) ∧ (¬ x1 < 0 → ((x2 < (1 : Int32) → Q (some (iV (-1 : Int32))) (uI σ 45 0 0 (0 : Int32))) ∧ (¬ x2 < (1 : Int32) → (((99 : Int32) < x2 → Q (some (iV (-1 : Int32))) (uI σ 45 0 0 (0 : Int32))) ∧ (¬ (99 : Int32) < x2 → (R mj_OM d mX11_isPipe (fun r σ' => R mj_OM (d + 1) mX11_chance Q 25 [some (rV 45 0), some (iV x1), some (iV x2), some (iV x3), none, none, none, none] (r.toList ++ []) σ') 0 [some (rV 45 0), some (iV x3)] [] (uI σ 45 0 0 (0 : Int32)))))))))) : R mj_OM (d + 1) mX11_chance Q 0 [some (rV 45 0), some (iV x1), some (iV x2), some (iV x3), none, none, none, none] [] σ := by
  refine r_aload_n dX11_chance_0 rfl rfl ?_
  refine r_iconst (v := (0 : Int32)) dX11_chance_1 rfl ?_
  refine r_putI (k := 45) (i := 0) (j := 0) (ty0 := tyX11) rfl rfl ho45 rfl hX11 (by decide) rfl fX11_151 dX11_chance_2 rfl tyX11_ok nmX11 rfl rfl rfl ?_
  refine r_iload_n dX11_chance_5 rfl rfl ?_
  refine r_if_lt (tgt := 28) dX11_chance_6 (by decide) (fun c => ?_) (fun c => ?_)
  · have H := H.1 c
    refine r_iconst (v := (-1 : Int32)) dX11_chance_28 rfl ?_
    exact r_iret dX11_chance_29 rfl H
  · have H := H.2 c
    refine r_iload_n dX11_chance_9 rfl rfl ?_
    refine r_iconst (v := (1 : Int32)) dX11_chance_10 rfl ?_
    refine r_icmp_lt (tgt := 28) dX11_chance_11 (by decide) (fun c => ?_) (fun c => ?_)
    · have H := H.1 c
      refine r_iconst (v := (-1 : Int32)) dX11_chance_28 rfl ?_
      exact r_iret dX11_chance_29 rfl H
    · have H := H.2 c
      refine r_iload_n dX11_chance_14 rfl rfl ?_
      refine r_bipush (v := (99 : Int32)) dX11_chance_15 rfl ?_
      refine r_icmp_gt (tgt := 28) dX11_chance_17 (by decide) (fun c => ?_) (fun c => ?_)
      · have H := H.1 c
        refine r_iconst (v := (-1 : Int32)) dX11_chance_28 rfl ?_
        exact r_iret dX11_chance_29 rfl H
      · have H := H.2 c
        refine r_aload_n dX11_chance_20 rfl rfl ?_
        refine r_iload_n dX11_chance_21 rfl rfl ?_
        refine r_callV (z := 0) (k := 45) (i := 0) (As := [iV x3]) (st := []) kX11_isPipe i_X11_isPipe e_X11_isPipe lX11_461 dX11_chance_22 rfl rfl ho45 rfl rfl rfl rfl rfl (Nat.le_of_ble_eq_true rfl) ?_
        exact H
set_option maxRecDepth 100000 in
theorem bX11_chance_25 {d : Nat} {Q : Option MV → MS → Prop} {x1 : Int32} {x2 : Int32} {x3 : Int32} {s0 : Int32} {σ : MS}  (H : ((¬ s0 = 0 → R mj_OM d mX11_chance Q 39 [some (rV 45 0), some (iV x1), some (iV x2), some (iV x3), some (iV x1), some (iV (0 : Int32)), some (iV (0 : Int32)), none] [] σ) ∧ (s0 = 0 → Q (some (iV (-1 : Int32))) σ))) : R mj_OM d mX11_chance Q 25 [some (rV 45 0), some (iV x1), some (iV x2), some (iV x3), none, none, none, none] [iV s0] σ := by
  refine r_if_ne (tgt := 30) dX11_chance_25 (by decide) (fun c => ?_) (fun c => ?_)
  · have H := H.1 c
    refine r_iload_n dX11_chance_30 rfl rfl ?_
    refine r_istore dX11_chance_31 (by decide) rfl ?_
    refine r_iconst (v := (0 : Int32)) dX11_chance_33 rfl ?_
    refine r_istore dX11_chance_34 (by decide) rfl ?_
    refine r_iconst (v := (0 : Int32)) dX11_chance_36 rfl ?_
    refine r_istore dX11_chance_37 (by decide) rfl ?_
    exact H
  · have H := H.2 c
    refine r_iconst (v := (-1 : Int32)) dX11_chance_28 rfl ?_
    exact r_iret dX11_chance_29 rfl H
set_option maxRecDepth 100000 in
theorem bX11_chance_39 {d : Nat} {Q : Option MV → MS → Prop} {x1 : Int32} {x2 : Int32} {x3 : Int32} {x4 : Int32} {x5 : Int32} {x6 : Int32} {σ : MS}  (H : (((10 : Int32) ≤ x6 → Q (some (iV x5)) σ) ∧ (¬ (10 : Int32) ≤ x6 → (R mj_OM d mX11_copies (fun r σ' => R mj_OM (d + 1) mX11_chance Q 52 [some (rV 45 0), some (iV x1), some (iV x2), some (iV x3), some (iV x4), some (iV x5), some (iV x6), none] (r.toList ++ []) σ') 0 [some (rV 45 0), some (iV (1 : Int32)), some (iV (0 : Int32)), none] [] σ)))) : R mj_OM (d + 1) mX11_chance Q 39 [some (rV 45 0), some (iV x1), some (iV x2), some (iV x3), some (iV x4), some (iV x5), some (iV x6), none] [] σ := by
  refine r_iload dX11_chance_39 rfl ?_
  refine r_bipush (v := (10 : Int32)) dX11_chance_41 rfl ?_
  refine r_icmp_ge (tgt := 114) dX11_chance_43 (by decide) (fun c => ?_) (fun c => ?_)
  · have H := H.1 c
    refine r_iload dX11_chance_114 rfl ?_
    exact r_iret dX11_chance_116 rfl H
  · have H := H.2 c
    refine r_aload_n dX11_chance_46 rfl rfl ?_
    refine r_iconst (v := (1 : Int32)) dX11_chance_47 rfl ?_
    refine r_iconst (v := (0 : Int32)) dX11_chance_48 rfl ?_
    refine r_callV (z := 1) (k := 45) (i := 0) (As := [iV (1 : Int32), iV (0 : Int32)]) (st := []) kX11_copies i_X11_copies e_X11_copies lX11_474 dX11_chance_49 rfl rfl ho45 rfl rfl rfl rfl rfl (Nat.le_of_ble_eq_true rfl) ?_
    exact H
set_option maxRecDepth 100000 in
theorem bX11_chance_52 {d : Nat} {Q : Option MV → MS → Prop} {x1 : Int32} {x2 : Int32} {x3 : Int32} {x4 : Int32} {x5 : Int32} {x6 : Int32} {σ : MS}  (H : (vp_in (1 : Int32) 23 ∧ R mj_OM d mX11_chance Q 63 [some (rV 45 0), some (iV x1), some (iV x2), some (iV x3), some (iV x4), some (iV x5), some (iV x6), some (iV (0 : Int32))] [] (uI σ 71 0 1 x4))) : R mj_OM d mX11_chance Q 52 [some (rV 45 0), some (iV x1), some (iV x2), some (iV x3), some (iV x4), some (iV x5), some (iV x6), none] [] σ := by
  refine r_aload_n dX11_chance_52 rfl rfl ?_
  refine r_get (k := 45) (i := 0) (j := 41) (v := rV 71 0) rfl rfl ho45 rfl hX11 (by decide) rfl fX11_90 dX11_chance_53 (fun _ => rfl) ?_
  refine r_iconst (v := (1 : Int32)) dX11_chance_56 rfl ?_
  refine r_iload dX11_chance_57 rfl ?_
  obtain ⟨q1, H⟩ := H
  refine r_iast (k := 71) (i := 0) rfl ho71 q1 dX11_chance_59 ?_
  refine r_iconst (v := (0 : Int32)) dX11_chance_60 rfl ?_
  refine r_istore dX11_chance_61 (by decide) rfl ?_
  exact H
set_option maxRecDepth 100000 in
theorem bX11_chance_63 {d : Nat} {Q : Option MV → MS → Prop} {x1 : Int32} {x2 : Int32} {x3 : Int32} {x4 : Int32} {x5 : Int32} {x6 : Int32} {x7 : Int32} {σ : MS}  (H : ((x2 ≤ x7 → (vp_in (1 : Int32) 23 ∧ (R mj_OM d mX11_isJammed (fun r σ' => R mj_OM (d + 1) mX11_chance Q 97 [some (rV 45 0), some (iV x1), some (iV x2), some (iV x3), some (iV (σ.1 71 0 1)), some (iV x5), some (iV x6), some (iV x7)] (r.toList ++ [iV x5]) σ') 0 [some (rV 45 0), some (iV (1 : Int32)), some (iV x3)] [] σ))) ∧ (¬ x2 ≤ x7 → (R mj_OM d mX11_passes (fun r σ' => R mj_OM (d + 1) mX11_chance Q 75 [some (rV 45 0), some (iV x1), some (iV x2), some (iV x3), some (iV x4), some (iV x5), some (iV x6), some (iV x7)] (r.toList ++ []) σ') 0 [some (rV 45 0), some (iV (1 : Int32)), some (iV (1 : Int32)), none] [] σ)))) : R mj_OM (d + 1) mX11_chance Q 63 [some (rV 45 0), some (iV x1), some (iV x2), some (iV x3), some (iV x4), some (iV x5), some (iV x6), some (iV x7)] [] σ := by
  refine r_iload dX11_chance_63 rfl ?_
  refine r_iload_n dX11_chance_65 rfl rfl ?_
  refine r_icmp_ge (tgt := 81) dX11_chance_66 (by decide) (fun c => ?_) (fun c => ?_)
  · have H := H.1 c
    refine r_aload_n dX11_chance_81 rfl rfl ?_
    refine r_get (k := 45) (i := 0) (j := 41) (v := rV 71 0) rfl rfl ho45 rfl hX11 (by decide) rfl fX11_90 dX11_chance_82 (fun _ => rfl) ?_
    refine r_iconst (v := (1 : Int32)) dX11_chance_85 rfl ?_
    obtain ⟨q1, H⟩ := H
    refine r_iald (k := 71) (i := 0) rfl ho71 q1 dX11_chance_86 ?_
    refine r_istore dX11_chance_87 (by decide) rfl ?_
    refine r_iload dX11_chance_89 rfl ?_
    refine r_aload_n dX11_chance_91 rfl rfl ?_
    refine r_iconst (v := (1 : Int32)) dX11_chance_92 rfl ?_
    refine r_iload_n dX11_chance_93 rfl rfl ?_
    refine r_callV (z := 0) (k := 45) (i := 0) (As := [iV (1 : Int32), iV x3]) (st := [iV x5]) kX11_isJammed i_X11_isJammed e_X11_isJammed lX11_368 dX11_chance_94 rfl rfl ho45 rfl rfl rfl rfl rfl (Nat.le_of_ble_eq_true rfl) ?_
    exact H
  · have H := H.2 c
    refine r_aload_n dX11_chance_69 rfl rfl ?_
    refine r_iconst (v := (1 : Int32)) dX11_chance_70 rfl ?_
    refine r_iconst (v := (1 : Int32)) dX11_chance_71 rfl ?_
    refine r_callV (z := 1) (k := 45) (i := 0) (As := [iV (1 : Int32), iV (1 : Int32)]) (st := []) kX11_passes i_X11_passes e_X11_passes lX11_439 dX11_chance_72 rfl rfl ho45 rfl rfl rfl rfl rfl (Nat.le_of_ble_eq_true rfl) ?_
    exact H
set_option maxRecDepth 100000 in
theorem bX11_chance_75 {d : Nat} {Q : Option MV → MS → Prop} {x1 : Int32} {x2 : Int32} {x3 : Int32} {x4 : Int32} {x5 : Int32} {x6 : Int32} {x7 : Int32} {σ : MS}  (H : R mj_OM d mX11_chance Q 63 [some (rV 45 0), some (iV x1), some (iV x2), some (iV x3), some (iV x4), some (iV x5), some (iV x6), some (iV (x7 + (1 : Int32)))] [] σ) : R mj_OM d mX11_chance Q 75 [some (rV 45 0), some (iV x1), some (iV x2), some (iV x3), some (iV x4), some (iV x5), some (iV x6), some (iV x7)] [] σ := by
  refine r_iinc (v := x7 + (1 : Int32)) dX11_chance_75 rfl rfl (by decide) rfl ?_
  refine r_goto (tgt := 63) dX11_chance_78 (by decide) ?_
  exact H
set_option maxRecDepth 100000 in
theorem bX11_chance_97 {d : Nat} {Q : Option MV → MS → Prop} {x1 : Int32} {x2 : Int32} {x3 : Int32} {x4 : Int32} {x5 : Int32} {x6 : Int32} {x7 : Int32} {s0 : Int32} {s1 : Int32} {σ : MS}  (H : ((s0 = 0 → R mj_OM d mX11_chance Q 39 [some (rV 45 0), some (iV x1), some (iV x2), some (iV x3), some (iV x4), some (iV (s1 + (0 : Int32))), some (iV (x6 + (1 : Int32))), none] [] σ) ∧ (¬ s0 = 0 → R mj_OM d mX11_chance Q 39 [some (rV 45 0), some (iV x1), some (iV x2), some (iV x3), some (iV x4), some (iV (s1 + (1 : Int32))), some (iV (x6 + (1 : Int32))), none] [] σ))) : R mj_OM d mX11_chance Q 97 [some (rV 45 0), some (iV x1), some (iV x2), some (iV x3), some (iV x4), some (iV x5), some (iV x6), some (iV x7)] [iV s0, iV s1] σ := by
  refine r_if_eq (tgt := 104) dX11_chance_97 (by decide) (fun c => ?_) (fun c => ?_)
  · have H := H.1 c
    refine r_iconst (v := (0 : Int32)) dX11_chance_104 rfl ?_
    refine r_iadd dX11_chance_105 ?_
    refine r_istore dX11_chance_106 (by decide) rfl ?_
    refine r_iinc (v := x6 + (1 : Int32)) dX11_chance_108 rfl rfl (by decide) rfl ?_
    refine r_goto (tgt := 39) dX11_chance_111 (by decide) ?_
    exact R.fw (ls' := [some (rV 45 0), some (iV x1), some (iV x2), some (iV x3), some (iV x4), some (iV (s1 + (0 : Int32))), some (iV (x6 + (1 : Int32))), none]) ⟨rfl, ⟨rfl, ⟨rfl, ⟨rfl, ⟨rfl, ⟨rfl, ⟨rfl, trivial⟩⟩⟩⟩⟩⟩⟩ H
  · have H := H.2 c
    refine r_iconst (v := (1 : Int32)) dX11_chance_100 rfl ?_
    refine r_goto (tgt := 105) dX11_chance_101 (by decide) ?_
    refine r_iadd dX11_chance_105 ?_
    refine r_istore dX11_chance_106 (by decide) rfl ?_
    refine r_iinc (v := x6 + (1 : Int32)) dX11_chance_108 rfl rfl (by decide) rfl ?_
    refine r_goto (tgt := 39) dX11_chance_111 (by decide) ?_
    exact R.fw (ls' := [some (rV 45 0), some (iV x1), some (iV x2), some (iV x3), some (iV x4), some (iV (s1 + (1 : Int32))), some (iV (x6 + (1 : Int32))), none]) ⟨rfl, ⟨rfl, ⟨rfl, ⟨rfl, ⟨rfl, ⟨rfl, ⟨rfl, trivial⟩⟩⟩⟩⟩⟩⟩ H
set_option maxRecDepth 100000 in
theorem bX11_tried_0 {d : Nat} {Q : Option MV → MS → Prop} {x1 : Int32} {x2 : Int32} {x3 : Int32} {σ : MS}  (H : ((¬ x1 = (2 : Int32) → ((x1 < 0 → (((0 : Int32) = 0 → Q (some (iV (-1 : Int32))) (uI σ 45 0 0 (0 : Int32))) ∧ (¬ (0 : Int32) = 0 → ((x3 < 0 → Q (some (iV (-1 : Int32))) (uI σ 45 0 0 (0 : Int32))) ∧ (¬ x3 < 0 → ((x3 ≤ (200 : Int32) → (R mj_OM d mX11_copies (fun r σ' => R mj_OM (d + 1) mX11_tried Q 62 [some (rV 45 0), some (iV x1), some (iV x2), some (iV x3), some (iV (0 : Int32))] (r.toList ++ []) σ') 0 [some (rV 45 0), some (iV (1 : Int32)), some (iV (0 : Int32)), none] [] (uI σ 45 0 0 (0 : Int32)))) ∧ (¬ x3 ≤ (200 : Int32) → Q (some (iV (-1 : Int32))) (uI σ 45 0 0 (0 : Int32))))))))) ∧ (¬ x1 < 0 → (((4 : Int32) < x1 → (((0 : Int32) = 0 → Q (some (iV (-1 : Int32))) (uI σ 45 0 0 (0 : Int32))) ∧ (¬ (0 : Int32) = 0 → ((x3 < 0 → Q (some (iV (-1 : Int32))) (uI σ 45 0 0 (0 : Int32))) ∧ (¬ x3 < 0 → ((x3 ≤ (200 : Int32) → (R mj_OM d mX11_copies (fun r σ' => R mj_OM (d + 1) mX11_tried Q 62 [some (rV 45 0), some (iV x1), some (iV x2), some (iV x3), some (iV (0 : Int32))] (r.toList ++ []) σ') 0 [some (rV 45 0), some (iV (1 : Int32)), some (iV (0 : Int32)), none] [] (uI σ 45 0 0 (0 : Int32)))) ∧ (¬ x3 ≤ (200 : Int32) → Q (some (iV (-1 : Int32))) (uI σ 45 0 0 (0 : Int32))))))))) ∧ (¬ (4 : Int32) < x1 → ((¬ x2 = 0 → (((0 : Int32) = 0 → Q (some (iV (-1 : Int32))) (uI σ 45 0 0 (0 : Int32))) ∧ (¬ (0 : Int32) = 0 → ((x3 < 0 → Q (some (iV (-1 : Int32))) (uI σ 45 0 0 (0 : Int32))) ∧ (¬ x3 < 0 → ((x3 ≤ (200 : Int32) → (R mj_OM d mX11_copies (fun r σ' => R mj_OM (d + 1) mX11_tried Q 62 [some (rV 45 0), some (iV x1), some (iV x2), some (iV x3), some (iV (0 : Int32))] (r.toList ++ []) σ') 0 [some (rV 45 0), some (iV (1 : Int32)), some (iV (0 : Int32)), none] [] (uI σ 45 0 0 (0 : Int32)))) ∧ (¬ x3 ≤ (200 : Int32) → Q (some (iV (-1 : Int32))) (uI σ 45 0 0 (0 : Int32))))))))) ∧ (x2 = 0 → (((1 : Int32) = 0 → Q (some (iV (-1 : Int32))) (uI σ 45 0 0 (0 : Int32))) ∧ (¬ (1 : Int32) = 0 → ((x3 < 0 → Q (some (iV (-1 : Int32))) (uI σ 45 0 0 (0 : Int32))) ∧ (¬ x3 < 0 → ((x3 ≤ (200 : Int32) → (R mj_OM d mX11_copies (fun r σ' => R mj_OM (d + 1) mX11_tried Q 62 [some (rV 45 0), some (iV x1), some (iV x2), some (iV x3), some (iV (1 : Int32))] (r.toList ++ []) σ') 0 [some (rV 45 0), some (iV (1 : Int32)), some (iV (0 : Int32)), none] [] (uI σ 45 0 0 (0 : Int32)))) ∧ (¬ x3 ≤ (200 : Int32) → Q (some (iV (-1 : Int32))) (uI σ 45 0 0 (0 : Int32))))))))))))))) ∧ (x1 = (2 : Int32) → (R mj_OM d mX11_isPipe (fun r σ' => R mj_OM (d + 1) mX11_tried Q 15 [some (rV 45 0), some (iV x1), some (iV x2), some (iV x3), none] (r.toList ++ []) σ') 0 [some (rV 45 0), some (iV x2)] [] (uI σ 45 0 0 (0 : Int32)))))) : R mj_OM (d + 1) mX11_tried Q 0 [some (rV 45 0), some (iV x1), some (iV x2), some (iV x3), none] [] σ := by
  refine r_aload_n dX11_tried_0 rfl rfl ?_
  refine r_iconst (v := (0 : Int32)) dX11_tried_1 rfl ?_
  refine r_putI (k := 45) (i := 0) (j := 0) (ty0 := tyX11) rfl rfl ho45 rfl hX11 (by decide) rfl fX11_151 dX11_tried_2 rfl tyX11_ok nmX11 rfl rfl rfl ?_
  refine r_iload_n dX11_tried_5 rfl rfl ?_
  refine r_iconst (v := (2 : Int32)) dX11_tried_6 rfl ?_
  refine r_icmp_ne (tgt := 18) dX11_tried_7 (by decide) (fun c => ?_) (fun c => ?_)
  · have H := H.1 c
    refine r_iload_n dX11_tried_18 rfl rfl ?_
    refine r_if_lt (tgt := 35) dX11_tried_19 (by decide) (fun c => ?_) (fun c => ?_)
    · have H := H.1 c
      refine r_iconst (v := (0 : Int32)) dX11_tried_35 rfl ?_
      refine r_istore dX11_tried_36 (by decide) rfl ?_
      refine r_iload dX11_tried_38 rfl ?_
      refine r_if_eq (tgt := 54) dX11_tried_40 (by decide) (fun c => ?_) (fun c => ?_)
      · have H := H.1 c
        refine r_iconst (v := (-1 : Int32)) dX11_tried_54 rfl ?_
        exact r_iret dX11_tried_55 rfl H
      · have H := H.2 c
        refine r_iload_n dX11_tried_43 rfl rfl ?_
        refine r_if_lt (tgt := 54) dX11_tried_44 (by decide) (fun c => ?_) (fun c => ?_)
        · have H := H.1 c
          refine r_iconst (v := (-1 : Int32)) dX11_tried_54 rfl ?_
          exact r_iret dX11_tried_55 rfl H
        · have H := H.2 c
          refine r_iload_n dX11_tried_47 rfl rfl ?_
          refine r_sipush (v := (200 : Int32)) dX11_tried_48 rfl ?_
          refine r_icmp_le (tgt := 56) dX11_tried_51 (by decide) (fun c => ?_) (fun c => ?_)
          · have H := H.1 c
            refine r_aload_n dX11_tried_56 rfl rfl ?_
            refine r_iconst (v := (1 : Int32)) dX11_tried_57 rfl ?_
            refine r_iconst (v := (0 : Int32)) dX11_tried_58 rfl ?_
            refine r_callV (z := 1) (k := 45) (i := 0) (As := [iV (1 : Int32), iV (0 : Int32)]) (st := []) kX11_copies i_X11_copies e_X11_copies lX11_474 dX11_tried_59 rfl rfl ho45 rfl rfl rfl rfl rfl (Nat.le_of_ble_eq_true rfl) ?_
            exact H
          · have H := H.2 c
            refine r_iconst (v := (-1 : Int32)) dX11_tried_54 rfl ?_
            exact r_iret dX11_tried_55 rfl H
    · have H := H.2 c
      refine r_iload_n dX11_tried_22 rfl rfl ?_
      refine r_iconst (v := (4 : Int32)) dX11_tried_23 rfl ?_
      refine r_icmp_gt (tgt := 35) dX11_tried_24 (by decide) (fun c => ?_) (fun c => ?_)
      · have H := H.1 c
        refine r_iconst (v := (0 : Int32)) dX11_tried_35 rfl ?_
        refine r_istore dX11_tried_36 (by decide) rfl ?_
        refine r_iload dX11_tried_38 rfl ?_
        refine r_if_eq (tgt := 54) dX11_tried_40 (by decide) (fun c => ?_) (fun c => ?_)
        · have H := H.1 c
          refine r_iconst (v := (-1 : Int32)) dX11_tried_54 rfl ?_
          exact r_iret dX11_tried_55 rfl H
        · have H := H.2 c
          refine r_iload_n dX11_tried_43 rfl rfl ?_
          refine r_if_lt (tgt := 54) dX11_tried_44 (by decide) (fun c => ?_) (fun c => ?_)
          · have H := H.1 c
            refine r_iconst (v := (-1 : Int32)) dX11_tried_54 rfl ?_
            exact r_iret dX11_tried_55 rfl H
          · have H := H.2 c
            refine r_iload_n dX11_tried_47 rfl rfl ?_
            refine r_sipush (v := (200 : Int32)) dX11_tried_48 rfl ?_
            refine r_icmp_le (tgt := 56) dX11_tried_51 (by decide) (fun c => ?_) (fun c => ?_)
            · have H := H.1 c
              refine r_aload_n dX11_tried_56 rfl rfl ?_
              refine r_iconst (v := (1 : Int32)) dX11_tried_57 rfl ?_
              refine r_iconst (v := (0 : Int32)) dX11_tried_58 rfl ?_
              refine r_callV (z := 1) (k := 45) (i := 0) (As := [iV (1 : Int32), iV (0 : Int32)]) (st := []) kX11_copies i_X11_copies e_X11_copies lX11_474 dX11_tried_59 rfl rfl ho45 rfl rfl rfl rfl rfl (Nat.le_of_ble_eq_true rfl) ?_
              exact H
            · have H := H.2 c
              refine r_iconst (v := (-1 : Int32)) dX11_tried_54 rfl ?_
              exact r_iret dX11_tried_55 rfl H
      · have H := H.2 c
        refine r_iload_n dX11_tried_27 rfl rfl ?_
        refine r_if_ne (tgt := 35) dX11_tried_28 (by decide) (fun c => ?_) (fun c => ?_)
        · have H := H.1 c
          refine r_iconst (v := (0 : Int32)) dX11_tried_35 rfl ?_
          refine r_istore dX11_tried_36 (by decide) rfl ?_
          refine r_iload dX11_tried_38 rfl ?_
          refine r_if_eq (tgt := 54) dX11_tried_40 (by decide) (fun c => ?_) (fun c => ?_)
          · have H := H.1 c
            refine r_iconst (v := (-1 : Int32)) dX11_tried_54 rfl ?_
            exact r_iret dX11_tried_55 rfl H
          · have H := H.2 c
            refine r_iload_n dX11_tried_43 rfl rfl ?_
            refine r_if_lt (tgt := 54) dX11_tried_44 (by decide) (fun c => ?_) (fun c => ?_)
            · have H := H.1 c
              refine r_iconst (v := (-1 : Int32)) dX11_tried_54 rfl ?_
              exact r_iret dX11_tried_55 rfl H
            · have H := H.2 c
              refine r_iload_n dX11_tried_47 rfl rfl ?_
              refine r_sipush (v := (200 : Int32)) dX11_tried_48 rfl ?_
              refine r_icmp_le (tgt := 56) dX11_tried_51 (by decide) (fun c => ?_) (fun c => ?_)
              · have H := H.1 c
                refine r_aload_n dX11_tried_56 rfl rfl ?_
                refine r_iconst (v := (1 : Int32)) dX11_tried_57 rfl ?_
                refine r_iconst (v := (0 : Int32)) dX11_tried_58 rfl ?_
                refine r_callV (z := 1) (k := 45) (i := 0) (As := [iV (1 : Int32), iV (0 : Int32)]) (st := []) kX11_copies i_X11_copies e_X11_copies lX11_474 dX11_tried_59 rfl rfl ho45 rfl rfl rfl rfl rfl (Nat.le_of_ble_eq_true rfl) ?_
                exact H
              · have H := H.2 c
                refine r_iconst (v := (-1 : Int32)) dX11_tried_54 rfl ?_
                exact r_iret dX11_tried_55 rfl H
        · have H := H.2 c
          refine r_iconst (v := (1 : Int32)) dX11_tried_31 rfl ?_
          refine r_goto (tgt := 36) dX11_tried_32 (by decide) ?_
          refine r_istore dX11_tried_36 (by decide) rfl ?_
          refine r_iload dX11_tried_38 rfl ?_
          refine r_if_eq (tgt := 54) dX11_tried_40 (by decide) (fun c => ?_) (fun c => ?_)
          · have H := H.1 c
            refine r_iconst (v := (-1 : Int32)) dX11_tried_54 rfl ?_
            exact r_iret dX11_tried_55 rfl H
          · have H := H.2 c
            refine r_iload_n dX11_tried_43 rfl rfl ?_
            refine r_if_lt (tgt := 54) dX11_tried_44 (by decide) (fun c => ?_) (fun c => ?_)
            · have H := H.1 c
              refine r_iconst (v := (-1 : Int32)) dX11_tried_54 rfl ?_
              exact r_iret dX11_tried_55 rfl H
            · have H := H.2 c
              refine r_iload_n dX11_tried_47 rfl rfl ?_
              refine r_sipush (v := (200 : Int32)) dX11_tried_48 rfl ?_
              refine r_icmp_le (tgt := 56) dX11_tried_51 (by decide) (fun c => ?_) (fun c => ?_)
              · have H := H.1 c
                refine r_aload_n dX11_tried_56 rfl rfl ?_
                refine r_iconst (v := (1 : Int32)) dX11_tried_57 rfl ?_
                refine r_iconst (v := (0 : Int32)) dX11_tried_58 rfl ?_
                refine r_callV (z := 1) (k := 45) (i := 0) (As := [iV (1 : Int32), iV (0 : Int32)]) (st := []) kX11_copies i_X11_copies e_X11_copies lX11_474 dX11_tried_59 rfl rfl ho45 rfl rfl rfl rfl rfl (Nat.le_of_ble_eq_true rfl) ?_
                exact H
              · have H := H.2 c
                refine r_iconst (v := (-1 : Int32)) dX11_tried_54 rfl ?_
                exact r_iret dX11_tried_55 rfl H
  · have H := H.2 c
    refine r_aload_n dX11_tried_10 rfl rfl ?_
    refine r_iload_n dX11_tried_11 rfl rfl ?_
    refine r_callV (z := 0) (k := 45) (i := 0) (As := [iV x2]) (st := []) kX11_isPipe i_X11_isPipe e_X11_isPipe lX11_461 dX11_tried_12 rfl rfl ho45 rfl rfl rfl rfl rfl (Nat.le_of_ble_eq_true rfl) ?_
    exact H
set_option maxRecDepth 100000 in
theorem bX11_tried_15 {d : Nat} {Q : Option MV → MS → Prop} {x1 : Int32} {x2 : Int32} {x3 : Int32} {s0 : Int32} {σ : MS}  (H : ((s0 = 0 → Q (some (iV (-1 : Int32))) σ) ∧ (¬ s0 = 0 → ((x3 < 0 → Q (some (iV (-1 : Int32))) σ) ∧ (¬ x3 < 0 → ((x3 ≤ (200 : Int32) → (R mj_OM d mX11_copies (fun r σ' => R mj_OM (d + 1) mX11_tried Q 62 [some (rV 45 0), some (iV x1), some (iV x2), some (iV x3), some (iV s0)] (r.toList ++ []) σ') 0 [some (rV 45 0), some (iV (1 : Int32)), some (iV (0 : Int32)), none] [] σ)) ∧ (¬ x3 ≤ (200 : Int32) → Q (some (iV (-1 : Int32))) σ))))))) : R mj_OM (d + 1) mX11_tried Q 15 [some (rV 45 0), some (iV x1), some (iV x2), some (iV x3), none] [iV s0] σ := by
  refine r_goto (tgt := 36) dX11_tried_15 (by decide) ?_
  refine r_istore dX11_tried_36 (by decide) rfl ?_
  refine r_iload dX11_tried_38 rfl ?_
  refine r_if_eq (tgt := 54) dX11_tried_40 (by decide) (fun c => ?_) (fun c => ?_)
  · have H := H.1 c
    refine r_iconst (v := (-1 : Int32)) dX11_tried_54 rfl ?_
    exact r_iret dX11_tried_55 rfl H
  · have H := H.2 c
    refine r_iload_n dX11_tried_43 rfl rfl ?_
    refine r_if_lt (tgt := 54) dX11_tried_44 (by decide) (fun c => ?_) (fun c => ?_)
    · have H := H.1 c
      refine r_iconst (v := (-1 : Int32)) dX11_tried_54 rfl ?_
      exact r_iret dX11_tried_55 rfl H
    · have H := H.2 c
      refine r_iload_n dX11_tried_47 rfl rfl ?_
      refine r_sipush (v := (200 : Int32)) dX11_tried_48 rfl ?_
      refine r_icmp_le (tgt := 56) dX11_tried_51 (by decide) (fun c => ?_) (fun c => ?_)
      · have H := H.1 c
        refine r_aload_n dX11_tried_56 rfl rfl ?_
        refine r_iconst (v := (1 : Int32)) dX11_tried_57 rfl ?_
        refine r_iconst (v := (0 : Int32)) dX11_tried_58 rfl ?_
        refine r_callV (z := 1) (k := 45) (i := 0) (As := [iV (1 : Int32), iV (0 : Int32)]) (st := []) kX11_copies i_X11_copies e_X11_copies lX11_474 dX11_tried_59 rfl rfl ho45 rfl rfl rfl rfl rfl (Nat.le_of_ble_eq_true rfl) ?_
        exact H
      · have H := H.2 c
        refine r_iconst (v := (-1 : Int32)) dX11_tried_54 rfl ?_
        exact r_iret dX11_tried_55 rfl H
set_option maxRecDepth 100000 in
theorem bX11_tried_62 {d : Nat} {Q : Option MV → MS → Prop} {x1 : Int32} {x2 : Int32} {x3 : Int32} {x4 : Int32} {σ : MS}  (H : ((¬ x1 = 0 → (R mj_OM d mX11_goesOn (fun r σ' => R mj_OM (d + 1) mX11_tried Q 85 [some (rV 45 0), some (iV x1), some (iV x2), some (iV x3), some (iV x4)] (r.toList ++ []) σ') 0 [some (rV 45 0), some (iV x3), none] [] (uI (uI σ 45 0 49 x1) 45 0 50 x2))) ∧ (x1 = 0 → (R mj_OM d mX11_goesOn (fun r σ' => R mj_OM (d + 1) mX11_tried Q 85 [some (rV 45 0), some (iV x1), some (iV x2), some (iV x3), some (iV x4)] (r.toList ++ []) σ') 0 [some (rV 45 0), some (iV x3), none] [] (uI (uI σ 45 0 49 (5 : Int32)) 45 0 50 x2))))) : R mj_OM (d + 1) mX11_tried Q 62 [some (rV 45 0), some (iV x1), some (iV x2), some (iV x3), some (iV x4)] [] σ := by
  refine r_aload_n dX11_tried_62 rfl rfl ?_
  refine r_iload_n dX11_tried_63 rfl rfl ?_
  refine r_if_ne (tgt := 71) dX11_tried_64 (by decide) (fun c => ?_) (fun c => ?_)
  · have H := H.1 c
    refine r_iload_n dX11_tried_71 rfl rfl ?_
    refine r_putI (k := 45) (i := 0) (j := 49) (ty0 := tyX11) rfl rfl ho45 rfl hX11 (by decide) rfl fX11_365 dX11_tried_72 rfl tyX11_ok nmX11 rfl rfl rfl ?_
    refine r_aload_n dX11_tried_75 rfl rfl ?_
    refine r_iload_n dX11_tried_76 rfl rfl ?_
    refine r_putI (k := 45) (i := 0) (j := 50) (ty0 := tyX11) rfl rfl ho45 rfl hX11 (by decide) rfl fX11_108 dX11_tried_77 rfl tyX11_ok nmX11 rfl rfl rfl ?_
    refine r_aload_n dX11_tried_80 rfl rfl ?_
    refine r_iload_n dX11_tried_81 rfl rfl ?_
    refine r_callV (z := 1) (k := 45) (i := 0) (As := [iV x3]) (st := []) kX11_goesOn i_X11_goesOn e_X11_goesOn lX11_480 dX11_tried_82 rfl rfl ho45 rfl rfl rfl rfl rfl (Nat.le_of_ble_eq_true rfl) ?_
    exact H
  · have H := H.2 c
    refine r_iconst (v := (5 : Int32)) dX11_tried_67 rfl ?_
    refine r_goto (tgt := 72) dX11_tried_68 (by decide) ?_
    refine r_putI (k := 45) (i := 0) (j := 49) (ty0 := tyX11) rfl rfl ho45 rfl hX11 (by decide) rfl fX11_365 dX11_tried_72 rfl tyX11_ok nmX11 rfl rfl rfl ?_
    refine r_aload_n dX11_tried_75 rfl rfl ?_
    refine r_iload_n dX11_tried_76 rfl rfl ?_
    refine r_putI (k := 45) (i := 0) (j := 50) (ty0 := tyX11) rfl rfl ho45 rfl hX11 (by decide) rfl fX11_108 dX11_tried_77 rfl tyX11_ok nmX11 rfl rfl rfl ?_
    refine r_aload_n dX11_tried_80 rfl rfl ?_
    refine r_iload_n dX11_tried_81 rfl rfl ?_
    refine r_callV (z := 1) (k := 45) (i := 0) (As := [iV x3]) (st := []) kX11_goesOn i_X11_goesOn e_X11_goesOn lX11_480 dX11_tried_82 rfl rfl ho45 rfl rfl rfl rfl rfl (Nat.le_of_ble_eq_true rfl) ?_
    exact H
set_option maxRecDepth 100000 in
theorem bX11_tried_85 {d : Nat} {Q : Option MV → MS → Prop} {x1 : Int32} {x2 : Int32} {x3 : Int32} {x4 : Int32} {σ : MS}  (H : (R mj_OM d mX11_boatsOf (fun r σ' => R mj_OM (d + 1) mX11_tried Q 101 [some (rV 45 0), some (iV x1), some (iV x2), some (iV x3), some (iV x4)] (r.toList ++ []) σ') 0 [some (rV 45 0), some (iV (1 : Int32)), some (iV (2 : Int32)), none, none] [] (uI (uI σ 45 0 49 (0 : Int32)) 45 0 50 (-1 : Int32)))) : R mj_OM (d + 1) mX11_tried Q 85 [some (rV 45 0), some (iV x1), some (iV x2), some (iV x3), some (iV x4)] [] σ := by
  refine r_aload_n dX11_tried_85 rfl rfl ?_
  refine r_iconst (v := (0 : Int32)) dX11_tried_86 rfl ?_
  refine r_putI (k := 45) (i := 0) (j := 49) (ty0 := tyX11) rfl rfl ho45 rfl hX11 (by decide) rfl fX11_365 dX11_tried_87 rfl tyX11_ok nmX11 rfl rfl rfl ?_
  refine r_aload_n dX11_tried_90 rfl rfl ?_
  refine r_iconst (v := (-1 : Int32)) dX11_tried_91 rfl ?_
  refine r_putI (k := 45) (i := 0) (j := 50) (ty0 := tyX11) rfl rfl ho45 rfl hX11 (by decide) rfl fX11_108 dX11_tried_92 rfl tyX11_ok nmX11 rfl rfl rfl ?_
  refine r_aload_n dX11_tried_95 rfl rfl ?_
  refine r_iconst (v := (1 : Int32)) dX11_tried_96 rfl ?_
  refine r_iconst (v := (2 : Int32)) dX11_tried_97 rfl ?_
  refine r_callV (z := 2) (k := 45) (i := 0) (As := [iV (1 : Int32), iV (2 : Int32)]) (st := []) kX11_boatsOf i_X11_boatsOf e_X11_boatsOf lX11_381 dX11_tried_98 rfl rfl ho45 rfl rfl rfl rfl rfl (Nat.le_of_ble_eq_true rfl) ?_
  exact H
set_option maxRecDepth 100000 in
theorem bX11_tried_101 {d : Nat} {Q : Option MV → MS → Prop} {x1 : Int32} {x2 : Int32} {x3 : Int32} {x4 : Int32} {s0 : Int32} {σ : MS}  (H : Q (some (iV s0)) σ) : R mj_OM d mX11_tried Q 101 [some (rV 45 0), some (iV x1), some (iV x2), some (iV x3), some (iV x4)] [iV s0] σ := by
  exact r_iret dX11_tried_101 rfl H
set_option maxRecDepth 100000 in
theorem bX11_undo_0 {d : Nat} {Q : Option MV → MS → Prop}  {σ : MS}  (H : ((¬ (σ.1 45 0 48) = 0 → (R mj_OM d mX11_copies (fun r σ' => R mj_OM (d + 1) mX11_undo Q 35 [some (rV 45 0)] (r.toList ++ []) σ') 0 [some (rV 45 0), some (iV (0 : Int32)), some (iV ((3 : Int32) + ((σ.1 45 0 48) - (1 : Int32)))), none] [] (uI (uI σ 45 0 0 (0 : Int32)) 45 0 48 ((σ.1 45 0 48) - (1 : Int32))))) ∧ ((σ.1 45 0 48) = 0 → Q (some (iV (-1 : Int32))) (uI σ 45 0 0 (0 : Int32))))) : R mj_OM (d + 1) mX11_undo Q 0 [some (rV 45 0)] [] σ := by
  refine r_aload_n dX11_undo_0 rfl rfl ?_
  refine r_iconst (v := (0 : Int32)) dX11_undo_1 rfl ?_
  refine r_putI (k := 45) (i := 0) (j := 0) (ty0 := tyX11) rfl rfl ho45 rfl hX11 (by decide) rfl fX11_151 dX11_undo_2 rfl tyX11_ok nmX11 rfl rfl rfl ?_
  refine r_aload_n dX11_undo_5 rfl rfl ?_
  refine r_get (k := 45) (i := 0) (j := 48) (v := iV (σ.1 45 0 48)) rfl rfl ho45 rfl hX11 (by decide) rfl fX11_320 dX11_undo_6 (fun _ => rfl) ?_
  refine r_if_ne (tgt := 14) dX11_undo_9 (by decide) (fun c => ?_) (fun c => ?_)
  · have H := H.1 c
    refine r_aload_n dX11_undo_14 rfl rfl ?_
    refine r_dup_r dX11_undo_15 ?_
    refine r_get (k := 45) (i := 0) (j := 48) (v := iV (σ.1 45 0 48)) rfl rfl ho45 rfl hX11 (by decide) rfl fX11_320 dX11_undo_16 (fun _ => rfl) ?_
    refine r_iconst (v := (1 : Int32)) dX11_undo_19 rfl ?_
    refine r_isub dX11_undo_20 ?_
    refine r_putI (k := 45) (i := 0) (j := 48) (ty0 := tyX11) rfl rfl ho45 rfl hX11 (by decide) rfl fX11_320 dX11_undo_21 rfl tyX11_ok nmX11 rfl rfl rfl ?_
    refine r_aload_n dX11_undo_24 rfl rfl ?_
    refine r_iconst (v := (0 : Int32)) dX11_undo_25 rfl ?_
    refine r_iconst (v := (3 : Int32)) dX11_undo_26 rfl ?_
    refine r_aload_n dX11_undo_27 rfl rfl ?_
    refine r_get (k := 45) (i := 0) (j := 48) (v := iV ((σ.1 45 0 48) - (1 : Int32))) rfl rfl ho45 rfl hX11 (by decide) rfl fX11_320 dX11_undo_28 (fun _ => rfl) ?_
    refine r_iadd dX11_undo_31 ?_
    refine r_callV (z := 1) (k := 45) (i := 0) (As := [iV (0 : Int32), iV ((3 : Int32) + ((σ.1 45 0 48) - (1 : Int32)))]) (st := []) kX11_copies i_X11_copies e_X11_copies lX11_474 dX11_undo_32 rfl rfl ho45 rfl rfl rfl rfl rfl (Nat.le_of_ble_eq_true rfl) ?_
    exact H
  · have H := H.2 c
    refine r_iconst (v := (-1 : Int32)) dX11_undo_12 rfl ?_
    exact r_iret dX11_undo_13 rfl H
set_option maxRecDepth 100000 in
theorem bX11_undo_35 {d : Nat} {Q : Option MV → MS → Prop}  {σ : MS}  (H : Q (some (iV (σ.1 45 0 48))) σ) : R mj_OM d mX11_undo Q 35 [some (rV 45 0)] [] σ := by
  refine r_aload_n dX11_undo_35 rfl rfl ?_
  refine r_get (k := 45) (i := 0) (j := 48) (v := iV (σ.1 45 0 48)) rfl rfl ho45 rfl hX11 (by decide) rfl fX11_320 dX11_undo_36 (fun _ => rfl) ?_
  exact r_iret dX11_undo_39 rfl H
set_option maxRecDepth 100000 in
theorem bX11_keep_0 {d : Nat} {Q : Option MV → MS → Prop}  {σ : MS}  (H : (R mj_OM d mX11_copies (fun r σ' => R mj_OM (d + 1) mX11_keep Q 11 [some (rV 45 0)] (r.toList ++ []) σ') 0 [some (rV 45 0), some (iV (2 : Int32)), some (iV (0 : Int32)), none] [] (uI σ 45 0 0 (0 : Int32)))) : R mj_OM (d + 1) mX11_keep Q 0 [some (rV 45 0)] [] σ := by
  refine r_aload_n dX11_keep_0 rfl rfl ?_
  refine r_iconst (v := (0 : Int32)) dX11_keep_1 rfl ?_
  refine r_putI (k := 45) (i := 0) (j := 0) (ty0 := tyX11) rfl rfl ho45 rfl hX11 (by decide) rfl fX11_151 dX11_keep_2 rfl tyX11_ok nmX11 rfl rfl rfl ?_
  refine r_aload_n dX11_keep_5 rfl rfl ?_
  refine r_iconst (v := (2 : Int32)) dX11_keep_6 rfl ?_
  refine r_iconst (v := (0 : Int32)) dX11_keep_7 rfl ?_
  refine r_callV (z := 1) (k := 45) (i := 0) (As := [iV (2 : Int32), iV (0 : Int32)]) (st := []) kX11_copies i_X11_copies e_X11_copies lX11_474 dX11_keep_8 rfl rfl ho45 rfl rfl rfl rfl rfl (Nat.le_of_ble_eq_true rfl) ?_
  exact H
set_option maxRecDepth 100000 in
theorem bX11_keep_11 {d : Nat} {Q : Option MV → MS → Prop}  {σ : MS}  (H : (vp_in (0 : Int32) 23 ∧ Q (some (iV (σ.1 70 0 0))) (uI σ 45 0 47 (1 : Int32)))) : R mj_OM d mX11_keep Q 11 [some (rV 45 0)] [] σ := by
  refine r_aload_n dX11_keep_11 rfl rfl ?_
  refine r_iconst (v := (1 : Int32)) dX11_keep_12 rfl ?_
  refine r_putI (k := 45) (i := 0) (j := 47) (ty0 := tyX11) rfl rfl ho45 rfl hX11 (by decide) rfl fX11_316 dX11_keep_13 rfl tyX11_ok nmX11 rfl (by decide) (by decide) ?_
  refine r_aload_n dX11_keep_16 rfl rfl ?_
  refine r_get (k := 45) (i := 0) (j := 40) (v := rV 70 0) rfl rfl ho45 rfl hX11 (by decide) rfl fX11_87 dX11_keep_17 (fun _ => rfl) ?_
  refine r_iconst (v := (0 : Int32)) dX11_keep_20 rfl ?_
  obtain ⟨q1, H⟩ := H
  refine r_iald (k := 70) (i := 0) rfl ho70 q1 dX11_keep_21 ?_
  exact r_iret dX11_keep_22 rfl H
set_option maxRecDepth 100000 in
theorem bX11_back_0 {d : Nat} {Q : Option MV → MS → Prop}  {σ : MS}  (H : ((¬ (σ.1 45 0 47) = 0 → (R mj_OM d mX11_copies (fun r σ' => R mj_OM (d + 1) mX11_back Q 20 [some (rV 45 0)] (r.toList ++ []) σ') 0 [some (rV 45 0), some (iV (0 : Int32)), some (iV (2 : Int32)), none] [] (uI σ 45 0 0 (0 : Int32)))) ∧ ((σ.1 45 0 47) = 0 → Q (some (iV (-1 : Int32))) (uI σ 45 0 0 (0 : Int32))))) : R mj_OM (d + 1) mX11_back Q 0 [some (rV 45 0)] [] σ := by
  refine r_aload_n dX11_back_0 rfl rfl ?_
  refine r_iconst (v := (0 : Int32)) dX11_back_1 rfl ?_
  refine r_putI (k := 45) (i := 0) (j := 0) (ty0 := tyX11) rfl rfl ho45 rfl hX11 (by decide) rfl fX11_151 dX11_back_2 rfl tyX11_ok nmX11 rfl rfl rfl ?_
  refine r_aload_n dX11_back_5 rfl rfl ?_
  refine r_get (k := 45) (i := 0) (j := 47) (v := iV (σ.1 45 0 47)) rfl rfl ho45 rfl hX11 (by decide) rfl fX11_316 dX11_back_6 (fun _ => rfl) ?_
  refine r_if_ne (tgt := 14) dX11_back_9 (by decide) (fun c => ?_) (fun c => ?_)
  · have H := H.1 c
    refine r_aload_n dX11_back_14 rfl rfl ?_
    refine r_iconst (v := (0 : Int32)) dX11_back_15 rfl ?_
    refine r_iconst (v := (2 : Int32)) dX11_back_16 rfl ?_
    refine r_callV (z := 1) (k := 45) (i := 0) (As := [iV (0 : Int32), iV (2 : Int32)]) (st := []) kX11_copies i_X11_copies e_X11_copies lX11_474 dX11_back_17 rfl rfl ho45 rfl rfl rfl rfl rfl (Nat.le_of_ble_eq_true rfl) ?_
    exact H
  · have H := H.2 c
    refine r_iconst (v := (-1 : Int32)) dX11_back_12 rfl ?_
    exact r_iret dX11_back_13 rfl H
set_option maxRecDepth 100000 in
theorem bX11_back_20 {d : Nat} {Q : Option MV → MS → Prop}  {σ : MS}  (H : (vp_in (0 : Int32) 23 ∧ Q (some (iV (σ.1 70 0 0))) (uI σ 45 0 48 (0 : Int32)))) : R mj_OM d mX11_back Q 20 [some (rV 45 0)] [] σ := by
  refine r_aload_n dX11_back_20 rfl rfl ?_
  refine r_iconst (v := (0 : Int32)) dX11_back_21 rfl ?_
  refine r_putI (k := 45) (i := 0) (j := 48) (ty0 := tyX11) rfl rfl ho45 rfl hX11 (by decide) rfl fX11_320 dX11_back_22 rfl tyX11_ok nmX11 rfl rfl rfl ?_
  refine r_aload_n dX11_back_25 rfl rfl ?_
  refine r_get (k := 45) (i := 0) (j := 40) (v := rV 70 0) rfl rfl ho45 rfl hX11 (by decide) rfl fX11_87 dX11_back_26 (fun _ => rfl) ?_
  refine r_iconst (v := (0 : Int32)) dX11_back_29 rfl ?_
  obtain ⟨q1, H⟩ := H
  refine r_iald (k := 70) (i := 0) rfl ho70 q1 dX11_back_30 ?_
  exact r_iret dX11_back_31 rfl H
set_option maxRecDepth 100000 in
theorem bX11_count_0 {d : Nat} {Q : Option MV → MS → Prop} {x1 : Int32} {σ : MS}  (H : ((x1 = 0 → (vp_in (0 : Int32) 18 ∧ Q (some (iV (σ.1 47 0 0))) (uI σ 45 0 0 (0 : Int32)))) ∧ (¬ x1 = 0 → ((x1 = 1 → (vp_in (1 : Int32) 18 ∧ Q (some (iV (σ.1 47 0 1))) (uI σ 45 0 0 (0 : Int32)))) ∧ (¬ x1 = 1 → ((x1 = 2 → (vp_in (2 : Int32) 18 ∧ Q (some (iV (σ.1 47 0 2))) (uI σ 45 0 0 (0 : Int32)))) ∧ (¬ x1 = 2 → ((x1 = 3 → (vp_in (3 : Int32) 18 ∧ Q (some (iV (σ.1 47 0 3))) (uI σ 45 0 0 (0 : Int32)))) ∧ (¬ x1 = 3 → ((x1 = 4 → (vp_in (4 : Int32) 18 ∧ Q (some (iV (σ.1 47 0 4))) (uI σ 45 0 0 (0 : Int32)))) ∧ (¬ x1 = 4 → ((x1 = 5 → (vp_in (8 : Int32) 18 ∧ Q (some (iV (σ.1 47 0 8))) (uI σ 45 0 0 (0 : Int32)))) ∧ (¬ x1 = 5 → ((x1 = 6 → (vp_in (0 : Int32) 23 ∧ Q (some (iV (σ.1 70 0 0))) (uI σ 45 0 0 (0 : Int32)))) ∧ (¬ x1 = 6 → ((x1 = 7 → (R mj_OM d mX11_sumOf (fun r σ' => R mj_OM (d + 1) mX11_count Q 145 [some (rV 45 0), some (iV x1)] (r.toList ++ []) σ') 0 [some (rV 45 0), some (rV 74 0), some (iV (7 : Int32)), some (iV (0 : Int32)), none, none] [] (uI σ 45 0 0 (0 : Int32)))) ∧ (¬ x1 = 7 → ((x1 = 8 → (R mj_OM d mX11_boatsOf (fun r σ' => R mj_OM (d + 1) mX11_count Q 152 [some (rV 45 0), some (iV x1)] (r.toList ++ []) σ') 0 [some (rV 45 0), some (iV (0 : Int32)), some (iV (1 : Int32)), none, none] [] (uI σ 45 0 0 (0 : Int32)))) ∧ (¬ x1 = 8 → ((x1 = 9 → (R mj_OM d mX11_boatsOf (fun r σ' => R mj_OM (d + 1) mX11_count Q 159 [some (rV 45 0), some (iV x1)] (r.toList ++ []) σ') 0 [some (rV 45 0), some (iV (0 : Int32)), some (iV (2 : Int32)), none, none] [] (uI σ 45 0 0 (0 : Int32)))) ∧ (¬ x1 = 9 → ((x1 = 10 → (R mj_OM d mX11_sumOf (fun r σ' => R mj_OM (d + 1) mX11_count Q 171 [some (rV 45 0), some (iV x1)] (r.toList ++ []) σ') 0 [some (rV 45 0), some (rV 76 0), some (iV (8 : Int32)), some (iV (0 : Int32)), none, none] [] (uI σ 45 0 0 (0 : Int32)))) ∧ (¬ x1 = 10 → ((x1 = 11 → (vp_in (0 : Int32) 23 ∧ Q (some (iV (σ.1 72 0 0))) (uI σ 45 0 0 (0 : Int32)))) ∧ (¬ x1 = 11 → ((x1 = 12 → (vp_in (0 : Int32) 23 ∧ (R mj_OM d mX11_bitsOf (fun r σ' => R mj_OM (d + 1) mX11_count Q 188 [some (rV 45 0), some (iV x1)] (r.toList ++ []) σ') 0 [some (iV (σ.1 73 0 0)), none, none] [] (uI σ 45 0 0 (0 : Int32))))) ∧ (¬ x1 = 12 → ((x1 = 13 → Q (some (iV (σ.1 45 0 61))) (uI σ 45 0 0 (0 : Int32))) ∧ (¬ x1 = 13 → ((x1 = 14 → (R mj_OM d mX11_knownMany (fun r σ' => R mj_OM (d + 1) mX11_count Q 198 [some (rV 45 0), some (iV x1)] (r.toList ++ []) σ') 0 [some (rV 45 0)] [] (uI σ 45 0 0 (0 : Int32)))) ∧ (¬ x1 = 14 → ((x1 = 15 → Q (some (iV (σ.1 45 0 48))) (uI σ 45 0 0 (0 : Int32))) ∧ (¬ x1 = 15 → Q (some (iV (-1 : Int32))) (uI σ 45 0 0 (0 : Int32))))))))))))))))))))))))))))))))))) : R mj_OM (d + 1) mX11_count Q 0 [some (rV 45 0), some (iV x1)] [] σ := by
  refine r_aload_n dX11_count_0 rfl rfl ?_
  refine r_iconst (v := (0 : Int32)) dX11_count_1 rfl ?_
  refine r_putI (k := 45) (i := 0) (j := 0) (ty0 := tyX11) rfl rfl ho45 rfl hX11 (by decide) rfl fX11_151 dX11_count_2 rfl tyX11_ok nmX11 rfl rfl rfl ?_
  refine r_iload_n dX11_count_5 rfl rfl ?_
  by_cases c0 : x1 = 0
  · have H := H.1 c0
    refine r_tableIn (tgt := 84) (off := 78) dX11_count_6 (by rw [c0]; decide) (by rw [c0]; decide) (by rw [c0]; rfl) (by decide) ?_
    refine r_aload_n dX11_count_84 rfl rfl ?_
    refine r_get (k := 45) (i := 0) (j := 3) (v := rV 47 0) rfl rfl ho45 rfl hX11 (by decide) rfl fX11_13 dX11_count_85 (fun _ => rfl) ?_
    refine r_iconst (v := (0 : Int32)) dX11_count_88 rfl ?_
    obtain ⟨q1, H⟩ := H
    refine r_iald (k := 47) (i := 0) rfl ho47 q1 dX11_count_89 ?_
    exact r_iret dX11_count_90 rfl H
  replace H := H.2 c0
  by_cases c1 : x1 = 1
  · have H := H.1 c1
    refine r_tableIn (tgt := 91) (off := 85) dX11_count_6 (by rw [c1]; decide) (by rw [c1]; decide) (by rw [c1]; rfl) (by decide) ?_
    refine r_aload_n dX11_count_91 rfl rfl ?_
    refine r_get (k := 45) (i := 0) (j := 3) (v := rV 47 0) rfl rfl ho45 rfl hX11 (by decide) rfl fX11_13 dX11_count_92 (fun _ => rfl) ?_
    refine r_iconst (v := (1 : Int32)) dX11_count_95 rfl ?_
    obtain ⟨q2, H⟩ := H
    refine r_iald (k := 47) (i := 0) rfl ho47 q2 dX11_count_96 ?_
    exact r_iret dX11_count_97 rfl H
  replace H := H.2 c1
  by_cases c2 : x1 = 2
  · have H := H.1 c2
    refine r_tableIn (tgt := 98) (off := 92) dX11_count_6 (by rw [c2]; decide) (by rw [c2]; decide) (by rw [c2]; rfl) (by decide) ?_
    refine r_aload_n dX11_count_98 rfl rfl ?_
    refine r_get (k := 45) (i := 0) (j := 3) (v := rV 47 0) rfl rfl ho45 rfl hX11 (by decide) rfl fX11_13 dX11_count_99 (fun _ => rfl) ?_
    refine r_iconst (v := (2 : Int32)) dX11_count_102 rfl ?_
    obtain ⟨q3, H⟩ := H
    refine r_iald (k := 47) (i := 0) rfl ho47 q3 dX11_count_103 ?_
    exact r_iret dX11_count_104 rfl H
  replace H := H.2 c2
  by_cases c3 : x1 = 3
  · have H := H.1 c3
    refine r_tableIn (tgt := 105) (off := 99) dX11_count_6 (by rw [c3]; decide) (by rw [c3]; decide) (by rw [c3]; rfl) (by decide) ?_
    refine r_aload_n dX11_count_105 rfl rfl ?_
    refine r_get (k := 45) (i := 0) (j := 3) (v := rV 47 0) rfl rfl ho45 rfl hX11 (by decide) rfl fX11_13 dX11_count_106 (fun _ => rfl) ?_
    refine r_iconst (v := (3 : Int32)) dX11_count_109 rfl ?_
    obtain ⟨q4, H⟩ := H
    refine r_iald (k := 47) (i := 0) rfl ho47 q4 dX11_count_110 ?_
    exact r_iret dX11_count_111 rfl H
  replace H := H.2 c3
  by_cases c4 : x1 = 4
  · have H := H.1 c4
    refine r_tableIn (tgt := 112) (off := 106) dX11_count_6 (by rw [c4]; decide) (by rw [c4]; decide) (by rw [c4]; rfl) (by decide) ?_
    refine r_aload_n dX11_count_112 rfl rfl ?_
    refine r_get (k := 45) (i := 0) (j := 3) (v := rV 47 0) rfl rfl ho45 rfl hX11 (by decide) rfl fX11_13 dX11_count_113 (fun _ => rfl) ?_
    refine r_iconst (v := (4 : Int32)) dX11_count_116 rfl ?_
    obtain ⟨q5, H⟩ := H
    refine r_iald (k := 47) (i := 0) rfl ho47 q5 dX11_count_117 ?_
    exact r_iret dX11_count_118 rfl H
  replace H := H.2 c4
  by_cases c5 : x1 = 5
  · have H := H.1 c5
    refine r_tableIn (tgt := 119) (off := 113) dX11_count_6 (by rw [c5]; decide) (by rw [c5]; decide) (by rw [c5]; rfl) (by decide) ?_
    refine r_aload_n dX11_count_119 rfl rfl ?_
    refine r_get (k := 45) (i := 0) (j := 3) (v := rV 47 0) rfl rfl ho45 rfl hX11 (by decide) rfl fX11_13 dX11_count_120 (fun _ => rfl) ?_
    refine r_bipush (v := (8 : Int32)) dX11_count_123 rfl ?_
    obtain ⟨q6, H⟩ := H
    refine r_iald (k := 47) (i := 0) rfl ho47 q6 dX11_count_125 ?_
    exact r_iret dX11_count_126 rfl H
  replace H := H.2 c5
  by_cases c6 : x1 = 6
  · have H := H.1 c6
    refine r_tableIn (tgt := 127) (off := 121) dX11_count_6 (by rw [c6]; decide) (by rw [c6]; decide) (by rw [c6]; rfl) (by decide) ?_
    refine r_aload_n dX11_count_127 rfl rfl ?_
    refine r_get (k := 45) (i := 0) (j := 40) (v := rV 70 0) rfl rfl ho45 rfl hX11 (by decide) rfl fX11_87 dX11_count_128 (fun _ => rfl) ?_
    refine r_iconst (v := (0 : Int32)) dX11_count_131 rfl ?_
    obtain ⟨q7, H⟩ := H
    refine r_iald (k := 70) (i := 0) rfl ho70 q7 dX11_count_132 ?_
    exact r_iret dX11_count_133 rfl H
  replace H := H.2 c6
  by_cases c7 : x1 = 7
  · have H := H.1 c7
    refine r_tableIn (tgt := 134) (off := 128) dX11_count_6 (by rw [c7]; decide) (by rw [c7]; decide) (by rw [c7]; rfl) (by decide) ?_
    refine r_aload_n dX11_count_134 rfl rfl ?_
    refine r_aload_n dX11_count_135 rfl rfl ?_
    refine r_get (k := 45) (i := 0) (j := 44) (v := rV 74 0) rfl rfl ho45 rfl hX11 (by decide) rfl fX11_99 dX11_count_136 (fun _ => rfl) ?_
    refine r_bipush (v := (7 : Int32)) dX11_count_139 rfl ?_
    refine r_iconst (v := (0 : Int32)) dX11_count_141 rfl ?_
    refine r_callV (z := 2) (k := 45) (i := 0) (As := [rV 74 0, iV (7 : Int32), iV (0 : Int32)]) (st := []) kX11_sumOf i_X11_sumOf e_X11_sumOf lX11_483 dX11_count_142 rfl rfl ho45 rfl rfl rfl rfl rfl (Nat.le_of_ble_eq_true rfl) ?_
    exact H
  replace H := H.2 c7
  by_cases c8 : x1 = 8
  · have H := H.1 c8
    refine r_tableIn (tgt := 146) (off := 140) dX11_count_6 (by rw [c8]; decide) (by rw [c8]; decide) (by rw [c8]; rfl) (by decide) ?_
    refine r_aload_n dX11_count_146 rfl rfl ?_
    refine r_iconst (v := (0 : Int32)) dX11_count_147 rfl ?_
    refine r_iconst (v := (1 : Int32)) dX11_count_148 rfl ?_
    refine r_callV (z := 2) (k := 45) (i := 0) (As := [iV (0 : Int32), iV (1 : Int32)]) (st := []) kX11_boatsOf i_X11_boatsOf e_X11_boatsOf lX11_381 dX11_count_149 rfl rfl ho45 rfl rfl rfl rfl rfl (Nat.le_of_ble_eq_true rfl) ?_
    exact H
  replace H := H.2 c8
  by_cases c9 : x1 = 9
  · have H := H.1 c9
    refine r_tableIn (tgt := 153) (off := 147) dX11_count_6 (by rw [c9]; decide) (by rw [c9]; decide) (by rw [c9]; rfl) (by decide) ?_
    refine r_aload_n dX11_count_153 rfl rfl ?_
    refine r_iconst (v := (0 : Int32)) dX11_count_154 rfl ?_
    refine r_iconst (v := (2 : Int32)) dX11_count_155 rfl ?_
    refine r_callV (z := 2) (k := 45) (i := 0) (As := [iV (0 : Int32), iV (2 : Int32)]) (st := []) kX11_boatsOf i_X11_boatsOf e_X11_boatsOf lX11_381 dX11_count_156 rfl rfl ho45 rfl rfl rfl rfl rfl (Nat.le_of_ble_eq_true rfl) ?_
    exact H
  replace H := H.2 c9
  by_cases c10 : x1 = 10
  · have H := H.1 c10
    refine r_tableIn (tgt := 160) (off := 154) dX11_count_6 (by rw [c10]; decide) (by rw [c10]; decide) (by rw [c10]; rfl) (by decide) ?_
    refine r_aload_n dX11_count_160 rfl rfl ?_
    refine r_aload_n dX11_count_161 rfl rfl ?_
    refine r_get (k := 45) (i := 0) (j := 46) (v := rV 76 0) rfl rfl ho45 rfl hX11 (by decide) rfl fX11_105 dX11_count_162 (fun _ => rfl) ?_
    refine r_bipush (v := (8 : Int32)) dX11_count_165 rfl ?_
    refine r_iconst (v := (0 : Int32)) dX11_count_167 rfl ?_
    refine r_callV (z := 2) (k := 45) (i := 0) (As := [rV 76 0, iV (8 : Int32), iV (0 : Int32)]) (st := []) kX11_sumOf i_X11_sumOf e_X11_sumOf lX11_483 dX11_count_168 rfl rfl ho45 rfl rfl rfl rfl rfl (Nat.le_of_ble_eq_true rfl) ?_
    exact H
  replace H := H.2 c10
  by_cases c11 : x1 = 11
  · have H := H.1 c11
    refine r_tableIn (tgt := 172) (off := 166) dX11_count_6 (by rw [c11]; decide) (by rw [c11]; decide) (by rw [c11]; rfl) (by decide) ?_
    refine r_aload_n dX11_count_172 rfl rfl ?_
    refine r_get (k := 45) (i := 0) (j := 42) (v := rV 72 0) rfl rfl ho45 rfl hX11 (by decide) rfl fX11_93 dX11_count_173 (fun _ => rfl) ?_
    refine r_iconst (v := (0 : Int32)) dX11_count_176 rfl ?_
    obtain ⟨q8, H⟩ := H
    refine r_iald (k := 72) (i := 0) rfl ho72 q8 dX11_count_177 ?_
    exact r_iret dX11_count_178 rfl H
  replace H := H.2 c11
  by_cases c12 : x1 = 12
  · have H := H.1 c12
    refine r_tableIn (tgt := 179) (off := 173) dX11_count_6 (by rw [c12]; decide) (by rw [c12]; decide) (by rw [c12]; rfl) (by decide) ?_
    refine r_aload_n dX11_count_179 rfl rfl ?_
    refine r_get (k := 45) (i := 0) (j := 43) (v := rV 73 0) rfl rfl ho45 rfl hX11 (by decide) rfl fX11_96 dX11_count_180 (fun _ => rfl) ?_
    refine r_iconst (v := (0 : Int32)) dX11_count_183 rfl ?_
    obtain ⟨q9, H⟩ := H
    refine r_iald (k := 73) (i := 0) rfl ho73 q9 dX11_count_184 ?_
    refine r_callS (z := 2) (As := [iV (σ.1 73 0 0)]) (st := []) kX11_bitsOf s_X11_bitsOf lX11_486 dX11_count_185 rfl rfl rfl rfl (Nat.le_of_ble_eq_true rfl) ?_
    exact H
  replace H := H.2 c12
  by_cases c13 : x1 = 13
  · have H := H.1 c13
    refine r_tableIn (tgt := 189) (off := 183) dX11_count_6 (by rw [c13]; decide) (by rw [c13]; decide) (by rw [c13]; rfl) (by decide) ?_
    refine r_aload_n dX11_count_189 rfl rfl ?_
    refine r_get (k := 45) (i := 0) (j := 61) (v := iV (σ.1 45 0 61)) rfl rfl ho45 rfl hX11 (by decide) rfl fX11_313 dX11_count_190 (fun _ => rfl) ?_
    exact r_iret dX11_count_193 rfl H
  replace H := H.2 c13
  by_cases c14 : x1 = 14
  · have H := H.1 c14
    refine r_tableIn (tgt := 194) (off := 188) dX11_count_6 (by rw [c14]; decide) (by rw [c14]; decide) (by rw [c14]; rfl) (by decide) ?_
    refine r_aload_n dX11_count_194 rfl rfl ?_
    refine r_callV (z := 0) (k := 45) (i := 0) (As := []) (st := []) kX11_knownMany i_X11_knownMany e_X11_knownMany lX11_574 dX11_count_195 rfl rfl ho45 rfl rfl rfl rfl rfl (Nat.le_of_ble_eq_true rfl) ?_
    exact H
  replace H := H.2 c14
  by_cases c15 : x1 = 15
  · have H := H.1 c15
    refine r_tableIn (tgt := 199) (off := 193) dX11_count_6 (by rw [c15]; decide) (by rw [c15]; decide) (by rw [c15]; rfl) (by decide) ?_
    refine r_aload_n dX11_count_199 rfl rfl ?_
    refine r_get (k := 45) (i := 0) (j := 48) (v := iV (σ.1 45 0 48)) rfl rfl ho45 rfl hX11 (by decide) rfl fX11_320 dX11_count_200 (fun _ => rfl) ?_
    exact r_iret dX11_count_203 rfl H
  replace H := H.2 c15
  refine r_tableOut (tgt := 204) dX11_count_6 (by have z0 := lv_neT c0 (show (0 : Int32).toInt = 0 by decide); have z1 := lv_neT c1 (show (1 : Int32).toInt = 1 by decide); have z2 := lv_neT c2 (show (2 : Int32).toInt = 2 by decide); have z3 := lv_neT c3 (show (3 : Int32).toInt = 3 by decide); have z4 := lv_neT c4 (show (4 : Int32).toInt = 4 by decide); have z5 := lv_neT c5 (show (5 : Int32).toInt = 5 by decide); have z6 := lv_neT c6 (show (6 : Int32).toInt = 6 by decide); have z7 := lv_neT c7 (show (7 : Int32).toInt = 7 by decide); have z8 := lv_neT c8 (show (8 : Int32).toInt = 8 by decide); have z9 := lv_neT c9 (show (9 : Int32).toInt = 9 by decide); have z10 := lv_neT c10 (show (10 : Int32).toInt = 10 by decide); have z11 := lv_neT c11 (show (11 : Int32).toInt = 11 by decide); have z12 := lv_neT c12 (show (12 : Int32).toInt = 12 by decide); have z13 := lv_neT c13 (show (13 : Int32).toInt = 13 by decide); have z14 := lv_neT c14 (show (14 : Int32).toInt = 14 by decide); have z15 := lv_neT c15 (show (15 : Int32).toInt = 15 by decide); omega) (by decide) ?_
  refine r_iconst (v := (-1 : Int32)) dX11_count_204 rfl ?_
  exact r_iret dX11_count_205 rfl H
set_option maxRecDepth 100000 in
theorem bX11_count_145 {d : Nat} {Q : Option MV → MS → Prop} {x1 : Int32} {s0 : Int32} {σ : MS}  (H : Q (some (iV s0)) σ) : R mj_OM d mX11_count Q 145 [some (rV 45 0), some (iV x1)] [iV s0] σ := by
  exact r_iret dX11_count_145 rfl H
set_option maxRecDepth 100000 in
theorem bX11_count_152 {d : Nat} {Q : Option MV → MS → Prop} {x1 : Int32} {s0 : Int32} {σ : MS}  (H : Q (some (iV s0)) σ) : R mj_OM d mX11_count Q 152 [some (rV 45 0), some (iV x1)] [iV s0] σ := by
  exact r_iret dX11_count_152 rfl H
set_option maxRecDepth 100000 in
theorem bX11_count_159 {d : Nat} {Q : Option MV → MS → Prop} {x1 : Int32} {s0 : Int32} {σ : MS}  (H : Q (some (iV s0)) σ) : R mj_OM d mX11_count Q 159 [some (rV 45 0), some (iV x1)] [iV s0] σ := by
  exact r_iret dX11_count_159 rfl H
set_option maxRecDepth 100000 in
theorem bX11_count_171 {d : Nat} {Q : Option MV → MS → Prop} {x1 : Int32} {s0 : Int32} {σ : MS}  (H : Q (some (iV s0)) σ) : R mj_OM d mX11_count Q 171 [some (rV 45 0), some (iV x1)] [iV s0] σ := by
  exact r_iret dX11_count_171 rfl H
set_option maxRecDepth 100000 in
theorem bX11_count_188 {d : Nat} {Q : Option MV → MS → Prop} {x1 : Int32} {s0 : Int32} {σ : MS}  (H : Q (some (iV s0)) σ) : R mj_OM d mX11_count Q 188 [some (rV 45 0), some (iV x1)] [iV s0] σ := by
  exact r_iret dX11_count_188 rfl H
set_option maxRecDepth 100000 in
theorem bX11_count_198 {d : Nat} {Q : Option MV → MS → Prop} {x1 : Int32} {s0 : Int32} {σ : MS}  (H : Q (some (iV s0)) σ) : R mj_OM d mX11_count Q 198 [some (rV 45 0), some (iV x1)] [iV s0] σ := by
  exact r_iret dX11_count_198 rfl H
