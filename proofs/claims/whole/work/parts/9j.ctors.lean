theorem a_int : Cond.arrayClass .int ∈ mj_W := mj_t1 (List.mem_of_getElem? (i := 68) rfl) rfl
theorem a_long : Cond.arrayClass .long ∈ mj_W := mj_t1 (List.mem_of_getElem? (i := 150) rfl) rfl
theorem a_boolean : Cond.arrayClass .boolean ∈ mj_W := mj_t2 (List.mem_of_getElem? (i := 189) rfl) rfl
theorem qL_8 : Cond.classLink RL 8 RX10 ∈ mj_W := mj_t1 (List.mem_of_getElem? (i := 25) rfl) rfl
theorem tX10 : Cond.instantiable RX10 13 ∈ mj_W := mj_t1 (List.mem_of_getElem? (i := 26) rfl) rfl
theorem qX10_9 : Cond.classLink RX10 9 RX7 ∈ mj_W := mj_t1 (List.mem_of_getElem? (i := 33) rfl) rfl
theorem tX7 : Cond.instantiable RX7 10 ∈ mj_W := mj_t1 (List.mem_of_getElem? (i := 34) rfl) rfl
theorem qX7_9 : Cond.classLink RX7 9 RX9 ∈ mj_W := mj_t1 (List.mem_of_getElem? (i := 39) rfl) rfl
theorem tX9 : Cond.instantiable RX9 7 ∈ mj_W := mj_t1 (List.mem_of_getElem? (i := 40) rfl) rfl
theorem qX7_18 : Cond.classLink RX7 18 RX0 ∈ mj_W := mj_t1 (List.mem_of_getElem? (i := 69) rfl) rfl
theorem tX0 : Cond.instantiable RX0 16 ∈ mj_W := mj_t1 (List.mem_of_getElem? (i := 70) rfl) rfl
theorem qX0_39 : Cond.classLink RX0 39 RX4 ∈ mj_W := mj_t1 (List.mem_of_getElem? (i := 75) rfl) rfl
theorem tX4 : Cond.instantiable RX4 7 ∈ mj_W := mj_t1 (List.mem_of_getElem? (i := 76) rfl) rfl
theorem qX0_46 : Cond.classLink RX0 46 RX3 ∈ mj_W := mj_t1 (List.mem_of_getElem? (i := 124) rfl) rfl
theorem tX3 : Cond.instantiable RX3 6 ∈ mj_W := mj_t1 (List.mem_of_getElem? (i := 125) rfl) rfl
theorem qX10_18 : Cond.classLink RX10 18 RX0 ∈ mj_W := mj_t2 (List.mem_of_getElem? (i := 35) rfl) rfl
theorem qX10_25 : Cond.classLink RX10 25 RX8 ∈ mj_W := mj_t2 (List.mem_of_getElem? (i := 37) rfl) rfl
theorem tX8 : Cond.instantiable RX8 8 ∈ mj_W := mj_t2 (List.mem_of_getElem? (i := 38) rfl) rfl
theorem qX10_40 : Cond.classLink RX10 40 RX5 ∈ mj_W := mj_t2 (List.mem_of_getElem? (i := 86) rfl) rfl
theorem tX5 : Cond.instantiable RX5 9 ∈ mj_W := mj_t2 (List.mem_of_getElem? (i := 87) rfl) rfl
theorem qX10_47 : Cond.classLink RX10 47 RX6 ∈ mj_W := mj_t2 (List.mem_of_getElem? (i := 128) rfl) rfl
theorem tX6 : Cond.instantiable RX6 7 ∈ mj_W := mj_t2 (List.mem_of_getElem? (i := 129) rfl) rfl
theorem qX10_54 : Cond.classLink RX10 54 RX1 ∈ mj_W := mj_t2 (List.mem_of_getElem? (i := 159) rfl) rfl
theorem tX1 : Cond.instantiable RX1 7 ∈ mj_W := mj_t2 (List.mem_of_getElem? (i := 160) rfl) rfl
theorem qX10_61 : Cond.classLink RX10 61 RX2 ∈ mj_W := mj_t2 (List.mem_of_getElem? (i := 190) rfl) rfl
theorem tX2 : Cond.instantiable RX2 3 ∈ mj_W := mj_t2 (List.mem_of_getElem? (i := 191) rfl) rfl
theorem qL_18 : Cond.classLink RL 18 RX11 ∈ mj_W := mj_t6 (List.mem_of_getElem? (i := 219) rfl) rfl
theorem tX11 : Cond.instantiable RX11 70 ∈ mj_W := mj_t6 (List.mem_of_getElem? (i := 220) rfl) rfl
theorem i_objInit : Cond.instanceMethod objectInit ∈ mj_W := mj_t1 (List.mem_of_getElem? (i := 31) rfl) rfl
theorem c_objInit : Cond.code objectInit ⟨#[0xb1]⟩ 1 none ∈ mj_W := mj_t1 (List.mem_of_getElem? (i := 32) rfl) rfl
abbrev mX4_init : MI := (yX4_init, cX4_init, 1, none)
theorem kX4_init : mj_CV mX4_init 0 := ⟨n_RX4, c_X4_init, by decide +kernel, by decide, by decide +kernel, by decide +kernel, by decide +kernel⟩
theorem defX4 : ∀ j, j < 7 → defaultValue (tyX4 j) = vp_V [.int 0, .null, .null, .null, .int 0, .null, .null] j := fun j hj => by
  match j, hj with
  | 0, _ => rfl
  | 1, _ => rfl
  | 2, _ => rfl
  | 3, _ => rfl
  | 4, _ => rfl
  | 5, _ => rfl
  | 6, _ => rfl
  | j + 7, hj => exact absurd hj (by omega)
def VX4 (G : ClassId × ClassId × ClassId) (b : Nat) : List va_E := [.inr (4, [.int 0, .ref (b + 1), .ref (b + 2), .ref (b + 3), .int 0, .ref (b + 4), .ref (b + 5)]), .inl (G.1, 3, .inl fun _ => 0), .inl (G.1, 3, .inl fun _ => 0), .inl (G.1, 3, .inl fun _ => 0), .inl (G.1, 8, .inl fun _ => 0), .inl (G.1, 8, .inl fun _ => 0)]
abbrev rmX4 : Room := { frames := 1, cells := 5, slots := 25, locals := 40 }
set_option maxRecDepth 20000 in
set_option maxHeartbeats 4000000 in
theorem qX4 {ρ : Nat → Nat → Nat} {D : va_G} {G : ClassId × ClassId × ClassId} {b : Nat} : RC ρ D G rmX4 mX4_init b (HC D b (VX4 G b)) 0 0 0 [.ref b] [] [.inr (4, [.int 0, .null, .null, .null, .int 0, .null, .null])] := by
  refine rc_aload (i := 0) (j := 0) dX4_init_0 rfl rfl ?_
  refine rc_obj lX4_3 i_objInit c_objInit dX4_init_1 ⟨Nat.le_of_ble_eq_true rfl, Nat.le_of_ble_eq_true rfl⟩ ?_
  refine rc_aload (i := 0) (j := 0) dX4_init_4 rfl rfl ?_
  refine rc_iconst (v := 3) dX4_init_5 (by decide) ?_
  refine rc_newI (N := 3) (x := b + 1) rfl a_int dX4_init_6 (by decide) (by decide) (by decide) (by decide) ?_
  refine rc_put (i := 0) (k := 1) (fs' := [.int 0, .ref (b + 1), .null, .null, .int 0, .null, .null]) (V' := [.inr (4, [.int 0, .ref (b + 1), .null, .null, .int 0, .null, .null]), .inl (G.1, 3, .inl fun _ => 0)]) rfl hX4 tyX4_ok nmX4 rfl rfl (by decide) rfl rfl fX4_9 rfl rfl rfl (Nat.le_of_ble_eq_true rfl) rfl rfl dX4_init_8 ?_
  refine rc_aload (i := 0) (j := 0) dX4_init_11 rfl rfl ?_
  refine rc_iconst (v := 3) dX4_init_12 (by decide) ?_
  refine rc_newI (N := 3) (x := b + 2) rfl a_int dX4_init_13 (by decide) (by decide) (by decide) (by decide) ?_
  refine rc_put (i := 0) (k := 2) (fs' := [.int 0, .ref (b + 1), .ref (b + 2), .null, .int 0, .null, .null]) (V' := [.inr (4, [.int 0, .ref (b + 1), .ref (b + 2), .null, .int 0, .null, .null]), .inl (G.1, 3, .inl fun _ => 0), .inl (G.1, 3, .inl fun _ => 0)]) rfl hX4 tyX4_ok nmX4 rfl rfl (by decide) rfl rfl fX4_15 rfl rfl rfl (Nat.le_of_ble_eq_true rfl) rfl rfl dX4_init_15 ?_
  refine rc_aload (i := 0) (j := 0) dX4_init_18 rfl rfl ?_
  refine rc_iconst (v := 3) dX4_init_19 (by decide) ?_
  refine rc_newI (N := 3) (x := b + 3) rfl a_int dX4_init_20 (by decide) (by decide) (by decide) (by decide) ?_
  refine rc_put (i := 0) (k := 3) (fs' := [.int 0, .ref (b + 1), .ref (b + 2), .ref (b + 3), .int 0, .null, .null]) (V' := [.inr (4, [.int 0, .ref (b + 1), .ref (b + 2), .ref (b + 3), .int 0, .null, .null]), .inl (G.1, 3, .inl fun _ => 0), .inl (G.1, 3, .inl fun _ => 0), .inl (G.1, 3, .inl fun _ => 0)]) rfl hX4 tyX4_ok nmX4 rfl rfl (by decide) rfl rfl fX4_18 rfl rfl rfl (Nat.le_of_ble_eq_true rfl) rfl rfl dX4_init_22 ?_
  refine rc_aload (i := 0) (j := 0) dX4_init_25 rfl rfl ?_
  refine rc_bipush (v := 8) dX4_init_26 (by decide) ?_
  refine rc_newI (N := 8) (x := b + 4) rfl a_int dX4_init_28 (by decide) (by decide) (by decide) (by decide) ?_
  refine rc_put (i := 0) (k := 5) (fs' := [.int 0, .ref (b + 1), .ref (b + 2), .ref (b + 3), .int 0, .ref (b + 4), .null]) (V' := [.inr (4, [.int 0, .ref (b + 1), .ref (b + 2), .ref (b + 3), .int 0, .ref (b + 4), .null]), .inl (G.1, 3, .inl fun _ => 0), .inl (G.1, 3, .inl fun _ => 0), .inl (G.1, 3, .inl fun _ => 0), .inl (G.1, 8, .inl fun _ => 0)]) rfl hX4 tyX4_ok nmX4 rfl rfl (by decide) rfl rfl fX4_21 rfl rfl rfl (Nat.le_of_ble_eq_true rfl) rfl rfl dX4_init_30 ?_
  refine rc_aload (i := 0) (j := 0) dX4_init_33 rfl rfl ?_
  refine rc_bipush (v := 8) dX4_init_34 (by decide) ?_
  refine rc_newI (N := 8) (x := b + 5) rfl a_int dX4_init_36 (by decide) (by decide) (by decide) (by decide) ?_
  refine rc_put (i := 0) (k := 6) (fs' := [.int 0, .ref (b + 1), .ref (b + 2), .ref (b + 3), .int 0, .ref (b + 4), .ref (b + 5)]) (V' := [.inr (4, [.int 0, .ref (b + 1), .ref (b + 2), .ref (b + 3), .int 0, .ref (b + 4), .ref (b + 5)]), .inl (G.1, 3, .inl fun _ => 0), .inl (G.1, 3, .inl fun _ => 0), .inl (G.1, 3, .inl fun _ => 0), .inl (G.1, 8, .inl fun _ => 0), .inl (G.1, 8, .inl fun _ => 0)]) rfl hX4 tyX4_ok nmX4 rfl rfl (by decide) rfl rfl fX4_24 rfl rfl rfl (Nat.le_of_ble_eq_true rfl) rfl rfl dX4_init_38 ?_
  exact rc_ret dX4_init_41 (by decide) (fun H h => h)
abbrev mX3_init : MI := (yX3_init, cX3_init, 1, none)
theorem kX3_init : mj_CV mX3_init 0 := ⟨n_RX3, c_X3_init, by decide +kernel, by decide, by decide +kernel, by decide +kernel, by decide +kernel⟩
theorem defX3 : ∀ j, j < 6 → defaultValue (tyX3 j) = vp_V [.int 0, .null, .null, .null, .null, .null] j := fun j hj => by
  match j, hj with
  | 0, _ => rfl
  | 1, _ => rfl
  | 2, _ => rfl
  | 3, _ => rfl
  | 4, _ => rfl
  | 5, _ => rfl
  | j + 6, hj => exact absurd hj (by omega)
def VX3 (G : ClassId × ClassId × ClassId) (b : Nat) : List va_E := [.inr (3, [.int 0, .ref (b + 1), .ref (b + 2), .ref (b + 3), .ref (b + 4), .ref (b + 5)]), .inl (G.1, 64, .inl fun _ => 0), .inl (G.1, 64, .inl fun _ => 0), .inl (G.1, 3, .inl fun _ => 0), .inl (G.1, 3, .inl fun _ => 0), .inl (G.2.2, 64, .inr (.inl fun _ => 0))]
abbrev rmX3 : Room := { frames := 1, cells := 5, slots := 198, locals := 40 }
set_option maxRecDepth 20000 in
set_option maxHeartbeats 4000000 in
theorem qX3 {ρ : Nat → Nat → Nat} {D : va_G} {G : ClassId × ClassId × ClassId} {b : Nat} : RC ρ D G rmX3 mX3_init b (HC D b (VX3 G b)) 0 0 0 [.ref b] [] [.inr (3, [.int 0, .null, .null, .null, .null, .null])] := by
  refine rc_aload (i := 0) (j := 0) dX3_init_0 rfl rfl ?_
  refine rc_obj lX3_3 i_objInit c_objInit dX3_init_1 ⟨Nat.le_of_ble_eq_true rfl, Nat.le_of_ble_eq_true rfl⟩ ?_
  refine rc_aload (i := 0) (j := 0) dX3_init_4 rfl rfl ?_
  refine rc_bipush (v := 64) dX3_init_5 (by decide) ?_
  refine rc_newI (N := 64) (x := b + 1) rfl a_int dX3_init_7 (by decide) (by decide) (by decide) (by decide) ?_
  refine rc_put (i := 0) (k := 1) (fs' := [.int 0, .ref (b + 1), .null, .null, .null, .null]) (V' := [.inr (3, [.int 0, .ref (b + 1), .null, .null, .null, .null]), .inl (G.1, 64, .inl fun _ => 0)]) rfl hX3 tyX3_ok nmX3 rfl rfl (by decide) rfl rfl fX3_9 rfl rfl rfl (Nat.le_of_ble_eq_true rfl) rfl rfl dX3_init_9 ?_
  refine rc_aload (i := 0) (j := 0) dX3_init_12 rfl rfl ?_
  refine rc_bipush (v := 64) dX3_init_13 (by decide) ?_
  refine rc_newI (N := 64) (x := b + 2) rfl a_int dX3_init_15 (by decide) (by decide) (by decide) (by decide) ?_
  refine rc_put (i := 0) (k := 2) (fs' := [.int 0, .ref (b + 1), .ref (b + 2), .null, .null, .null]) (V' := [.inr (3, [.int 0, .ref (b + 1), .ref (b + 2), .null, .null, .null]), .inl (G.1, 64, .inl fun _ => 0), .inl (G.1, 64, .inl fun _ => 0)]) rfl hX3 tyX3_ok nmX3 rfl rfl (by decide) rfl rfl fX3_15 rfl rfl rfl (Nat.le_of_ble_eq_true rfl) rfl rfl dX3_init_17 ?_
  refine rc_aload (i := 0) (j := 0) dX3_init_20 rfl rfl ?_
  refine rc_iconst (v := 3) dX3_init_21 (by decide) ?_
  refine rc_newI (N := 3) (x := b + 3) rfl a_int dX3_init_22 (by decide) (by decide) (by decide) (by decide) ?_
  refine rc_put (i := 0) (k := 3) (fs' := [.int 0, .ref (b + 1), .ref (b + 2), .ref (b + 3), .null, .null]) (V' := [.inr (3, [.int 0, .ref (b + 1), .ref (b + 2), .ref (b + 3), .null, .null]), .inl (G.1, 64, .inl fun _ => 0), .inl (G.1, 64, .inl fun _ => 0), .inl (G.1, 3, .inl fun _ => 0)]) rfl hX3 tyX3_ok nmX3 rfl rfl (by decide) rfl rfl fX3_18 rfl rfl rfl (Nat.le_of_ble_eq_true rfl) rfl rfl dX3_init_24 ?_
  refine rc_aload (i := 0) (j := 0) dX3_init_27 rfl rfl ?_
  refine rc_iconst (v := 3) dX3_init_28 (by decide) ?_
  refine rc_newI (N := 3) (x := b + 4) rfl a_int dX3_init_29 (by decide) (by decide) (by decide) (by decide) ?_
  refine rc_put (i := 0) (k := 4) (fs' := [.int 0, .ref (b + 1), .ref (b + 2), .ref (b + 3), .ref (b + 4), .null]) (V' := [.inr (3, [.int 0, .ref (b + 1), .ref (b + 2), .ref (b + 3), .ref (b + 4), .null]), .inl (G.1, 64, .inl fun _ => 0), .inl (G.1, 64, .inl fun _ => 0), .inl (G.1, 3, .inl fun _ => 0), .inl (G.1, 3, .inl fun _ => 0)]) rfl hX3 tyX3_ok nmX3 rfl rfl (by decide) rfl rfl fX3_21 rfl rfl rfl (Nat.le_of_ble_eq_true rfl) rfl rfl dX3_init_31 ?_
  refine rc_aload (i := 0) (j := 0) dX3_init_34 rfl rfl ?_
  refine rc_bipush (v := 64) dX3_init_35 (by decide) ?_
  refine rc_newL (N := 64) (x := b + 5) rfl a_long dX3_init_37 (by decide) (by decide) (by decide) (by decide) ?_
  refine rc_put (i := 0) (k := 5) (fs' := [.int 0, .ref (b + 1), .ref (b + 2), .ref (b + 3), .ref (b + 4), .ref (b + 5)]) (V' := [.inr (3, [.int 0, .ref (b + 1), .ref (b + 2), .ref (b + 3), .ref (b + 4), .ref (b + 5)]), .inl (G.1, 64, .inl fun _ => 0), .inl (G.1, 64, .inl fun _ => 0), .inl (G.1, 3, .inl fun _ => 0), .inl (G.1, 3, .inl fun _ => 0), .inl (G.2.2, 64, .inr (.inl fun _ => 0))]) rfl hX3 tyX3_ok nmX3 rfl rfl (by decide) rfl rfl fX3_24 rfl rfl rfl (Nat.le_of_ble_eq_true rfl) rfl rfl dX3_init_39 ?_
  exact rc_ret dX3_init_42 (by decide) (fun H h => h)
abbrev mX0_init : MI := (yX0_init, cX0_init, 1, none)
theorem kX0_init : mj_CV mX0_init 0 := ⟨n_RX0, c_X0_init, by decide +kernel, by decide, by decide +kernel, by decide +kernel, by decide +kernel⟩
theorem defX0 : ∀ j, j < 16 → defaultValue (tyX0 j) = vp_V [.int 0, .null, .null, .null, .null, .null, .int 0, .null, .null, .null, .int 0, .null, .int 0, .int 0, .null, .null] j := fun j hj => by
  match j, hj with
  | 0, _ => rfl
  | 1, _ => rfl
  | 2, _ => rfl
  | 3, _ => rfl
  | 4, _ => rfl
  | 5, _ => rfl
  | 6, _ => rfl
  | 7, _ => rfl
  | 8, _ => rfl
  | 9, _ => rfl
  | 10, _ => rfl
  | 11, _ => rfl
  | 12, _ => rfl
  | 13, _ => rfl
  | 14, _ => rfl
  | 15, _ => rfl
  | j + 16, hj => exact absurd hj (by omega)
def VX0 (G : ClassId × ClassId × ClassId) (b : Nat) : List va_E := [.inr (0, [.int 0, .ref (b + 1), .ref (b + 2), .ref (b + 3), .ref (b + 4), .ref (b + 5), .int 0, .ref (b + 6), .ref (b + 7), .ref (b + 8), .int 0, .ref (b + 9), .int 0, .int 0, .ref (b + 10), .ref (b + 16)]), .inl (G.1, 7, .inl fun _ => 0), .inl (G.1, 7, .inl fun _ => 0), .inl (G.1, 7, .inl fun _ => 0), .inl (G.1, 7, .inl fun _ => 0), .inl (G.1, 7, .inl fun _ => 0), .inl (G.1, 10, .inl fun _ => 0), .inl (G.1, 10, .inl fun _ => 0), .inl (G.1, 10, .inl fun _ => 0), .inl (G.1, 119, .inl fun _ => 0), .inr (4, [.int 0, .ref (b + 11), .ref (b + 12), .ref (b + 13), .int 0, .ref (b + 14), .ref (b + 15)]), .inl (G.1, 3, .inl fun _ => 0), .inl (G.1, 3, .inl fun _ => 0), .inl (G.1, 3, .inl fun _ => 0), .inl (G.1, 8, .inl fun _ => 0), .inl (G.1, 8, .inl fun _ => 0), .inr (3, [.int 0, .ref (b + 17), .ref (b + 18), .ref (b + 19), .ref (b + 20), .ref (b + 21)]), .inl (G.1, 64, .inl fun _ => 0), .inl (G.1, 64, .inl fun _ => 0), .inl (G.1, 3, .inl fun _ => 0), .inl (G.1, 3, .inl fun _ => 0), .inl (G.2.2, 64, .inr (.inl fun _ => 0))]
abbrev rmX0 : Room := { frames := 2, cells := 21, slots := 420, locals := 80 }
set_option maxRecDepth 20000 in
set_option maxHeartbeats 4000000 in
theorem qX0 {ρ : Nat → Nat → Nat} {D : va_G} {G : ClassId × ClassId × ClassId} {b : Nat} : RC ρ D G rmX0 mX0_init b (HC D b (VX0 G b)) 0 0 0 [.ref b] [] [.inr (0, [.int 0, .null, .null, .null, .null, .null, .int 0, .null, .null, .null, .int 0, .null, .int 0, .int 0, .null, .null])] := by
  refine rc_aload (i := 0) (j := 0) dX0_init_0 rfl rfl ?_
  refine rc_obj lX0_3 i_objInit c_objInit dX0_init_1 ⟨Nat.le_of_ble_eq_true rfl, Nat.le_of_ble_eq_true rfl⟩ ?_
  refine rc_aload (i := 0) (j := 0) dX0_init_4 rfl rfl ?_
  refine rc_bipush (v := 7) dX0_init_5 (by decide) ?_
  refine rc_newI (N := 7) (x := b + 1) rfl a_int dX0_init_7 (by decide) (by decide) (by decide) (by decide) ?_
  refine rc_put (i := 0) (k := 1) (fs' := [.int 0, .ref (b + 1), .null, .null, .null, .null, .int 0, .null, .null, .null, .int 0, .null, .int 0, .int 0, .null, .null]) (V' := [.inr (0, [.int 0, .ref (b + 1), .null, .null, .null, .null, .int 0, .null, .null, .null, .int 0, .null, .int 0, .int 0, .null, .null]), .inl (G.1, 7, .inl fun _ => 0)]) rfl hX0 tyX0_ok nmX0 rfl rfl (by decide) rfl rfl fX0_9 rfl rfl rfl (Nat.le_of_ble_eq_true rfl) rfl rfl dX0_init_9 ?_
  refine rc_aload (i := 0) (j := 0) dX0_init_12 rfl rfl ?_
  refine rc_bipush (v := 7) dX0_init_13 (by decide) ?_
  refine rc_newI (N := 7) (x := b + 2) rfl a_int dX0_init_15 (by decide) (by decide) (by decide) (by decide) ?_
  refine rc_put (i := 0) (k := 2) (fs' := [.int 0, .ref (b + 1), .ref (b + 2), .null, .null, .null, .int 0, .null, .null, .null, .int 0, .null, .int 0, .int 0, .null, .null]) (V' := [.inr (0, [.int 0, .ref (b + 1), .ref (b + 2), .null, .null, .null, .int 0, .null, .null, .null, .int 0, .null, .int 0, .int 0, .null, .null]), .inl (G.1, 7, .inl fun _ => 0), .inl (G.1, 7, .inl fun _ => 0)]) rfl hX0 tyX0_ok nmX0 rfl rfl (by decide) rfl rfl fX0_15 rfl rfl rfl (Nat.le_of_ble_eq_true rfl) rfl rfl dX0_init_17 ?_
  refine rc_aload (i := 0) (j := 0) dX0_init_20 rfl rfl ?_
  refine rc_bipush (v := 7) dX0_init_21 (by decide) ?_
  refine rc_newI (N := 7) (x := b + 3) rfl a_int dX0_init_23 (by decide) (by decide) (by decide) (by decide) ?_
  refine rc_put (i := 0) (k := 3) (fs' := [.int 0, .ref (b + 1), .ref (b + 2), .ref (b + 3), .null, .null, .int 0, .null, .null, .null, .int 0, .null, .int 0, .int 0, .null, .null]) (V' := [.inr (0, [.int 0, .ref (b + 1), .ref (b + 2), .ref (b + 3), .null, .null, .int 0, .null, .null, .null, .int 0, .null, .int 0, .int 0, .null, .null]), .inl (G.1, 7, .inl fun _ => 0), .inl (G.1, 7, .inl fun _ => 0), .inl (G.1, 7, .inl fun _ => 0)]) rfl hX0 tyX0_ok nmX0 rfl rfl (by decide) rfl rfl fX0_18 rfl rfl rfl (Nat.le_of_ble_eq_true rfl) rfl rfl dX0_init_25 ?_
  refine rc_aload (i := 0) (j := 0) dX0_init_28 rfl rfl ?_
  refine rc_bipush (v := 7) dX0_init_29 (by decide) ?_
  refine rc_newI (N := 7) (x := b + 4) rfl a_int dX0_init_31 (by decide) (by decide) (by decide) (by decide) ?_
  refine rc_put (i := 0) (k := 4) (fs' := [.int 0, .ref (b + 1), .ref (b + 2), .ref (b + 3), .ref (b + 4), .null, .int 0, .null, .null, .null, .int 0, .null, .int 0, .int 0, .null, .null]) (V' := [.inr (0, [.int 0, .ref (b + 1), .ref (b + 2), .ref (b + 3), .ref (b + 4), .null, .int 0, .null, .null, .null, .int 0, .null, .int 0, .int 0, .null, .null]), .inl (G.1, 7, .inl fun _ => 0), .inl (G.1, 7, .inl fun _ => 0), .inl (G.1, 7, .inl fun _ => 0), .inl (G.1, 7, .inl fun _ => 0)]) rfl hX0 tyX0_ok nmX0 rfl rfl (by decide) rfl rfl fX0_21 rfl rfl rfl (Nat.le_of_ble_eq_true rfl) rfl rfl dX0_init_33 ?_
  refine rc_aload (i := 0) (j := 0) dX0_init_36 rfl rfl ?_
  refine rc_bipush (v := 7) dX0_init_37 (by decide) ?_
  refine rc_newI (N := 7) (x := b + 5) rfl a_int dX0_init_39 (by decide) (by decide) (by decide) (by decide) ?_
  refine rc_put (i := 0) (k := 5) (fs' := [.int 0, .ref (b + 1), .ref (b + 2), .ref (b + 3), .ref (b + 4), .ref (b + 5), .int 0, .null, .null, .null, .int 0, .null, .int 0, .int 0, .null, .null]) (V' := [.inr (0, [.int 0, .ref (b + 1), .ref (b + 2), .ref (b + 3), .ref (b + 4), .ref (b + 5), .int 0, .null, .null, .null, .int 0, .null, .int 0, .int 0, .null, .null]), .inl (G.1, 7, .inl fun _ => 0), .inl (G.1, 7, .inl fun _ => 0), .inl (G.1, 7, .inl fun _ => 0), .inl (G.1, 7, .inl fun _ => 0), .inl (G.1, 7, .inl fun _ => 0)]) rfl hX0 tyX0_ok nmX0 rfl rfl (by decide) rfl rfl fX0_24 rfl rfl rfl (Nat.le_of_ble_eq_true rfl) rfl rfl dX0_init_41 ?_
  refine rc_aload (i := 0) (j := 0) dX0_init_44 rfl rfl ?_
  refine rc_bipush (v := 10) dX0_init_45 (by decide) ?_
  refine rc_newI (N := 10) (x := b + 6) rfl a_int dX0_init_47 (by decide) (by decide) (by decide) (by decide) ?_
  refine rc_put (i := 0) (k := 7) (fs' := [.int 0, .ref (b + 1), .ref (b + 2), .ref (b + 3), .ref (b + 4), .ref (b + 5), .int 0, .ref (b + 6), .null, .null, .int 0, .null, .int 0, .int 0, .null, .null]) (V' := [.inr (0, [.int 0, .ref (b + 1), .ref (b + 2), .ref (b + 3), .ref (b + 4), .ref (b + 5), .int 0, .ref (b + 6), .null, .null, .int 0, .null, .int 0, .int 0, .null, .null]), .inl (G.1, 7, .inl fun _ => 0), .inl (G.1, 7, .inl fun _ => 0), .inl (G.1, 7, .inl fun _ => 0), .inl (G.1, 7, .inl fun _ => 0), .inl (G.1, 7, .inl fun _ => 0), .inl (G.1, 10, .inl fun _ => 0)]) rfl hX0 tyX0_ok nmX0 rfl rfl (by decide) rfl rfl fX0_27 rfl rfl rfl (Nat.le_of_ble_eq_true rfl) rfl rfl dX0_init_49 ?_
  refine rc_aload (i := 0) (j := 0) dX0_init_52 rfl rfl ?_
  refine rc_bipush (v := 10) dX0_init_53 (by decide) ?_
  refine rc_newI (N := 10) (x := b + 7) rfl a_int dX0_init_55 (by decide) (by decide) (by decide) (by decide) ?_
  refine rc_put (i := 0) (k := 8) (fs' := [.int 0, .ref (b + 1), .ref (b + 2), .ref (b + 3), .ref (b + 4), .ref (b + 5), .int 0, .ref (b + 6), .ref (b + 7), .null, .int 0, .null, .int 0, .int 0, .null, .null]) (V' := [.inr (0, [.int 0, .ref (b + 1), .ref (b + 2), .ref (b + 3), .ref (b + 4), .ref (b + 5), .int 0, .ref (b + 6), .ref (b + 7), .null, .int 0, .null, .int 0, .int 0, .null, .null]), .inl (G.1, 7, .inl fun _ => 0), .inl (G.1, 7, .inl fun _ => 0), .inl (G.1, 7, .inl fun _ => 0), .inl (G.1, 7, .inl fun _ => 0), .inl (G.1, 7, .inl fun _ => 0), .inl (G.1, 10, .inl fun _ => 0), .inl (G.1, 10, .inl fun _ => 0)]) rfl hX0 tyX0_ok nmX0 rfl rfl (by decide) rfl rfl fX0_30 rfl rfl rfl (Nat.le_of_ble_eq_true rfl) rfl rfl dX0_init_57 ?_
  refine rc_aload (i := 0) (j := 0) dX0_init_60 rfl rfl ?_
  refine rc_bipush (v := 10) dX0_init_61 (by decide) ?_
  refine rc_newI (N := 10) (x := b + 8) rfl a_int dX0_init_63 (by decide) (by decide) (by decide) (by decide) ?_
  refine rc_put (i := 0) (k := 9) (fs' := [.int 0, .ref (b + 1), .ref (b + 2), .ref (b + 3), .ref (b + 4), .ref (b + 5), .int 0, .ref (b + 6), .ref (b + 7), .ref (b + 8), .int 0, .null, .int 0, .int 0, .null, .null]) (V' := [.inr (0, [.int 0, .ref (b + 1), .ref (b + 2), .ref (b + 3), .ref (b + 4), .ref (b + 5), .int 0, .ref (b + 6), .ref (b + 7), .ref (b + 8), .int 0, .null, .int 0, .int 0, .null, .null]), .inl (G.1, 7, .inl fun _ => 0), .inl (G.1, 7, .inl fun _ => 0), .inl (G.1, 7, .inl fun _ => 0), .inl (G.1, 7, .inl fun _ => 0), .inl (G.1, 7, .inl fun _ => 0), .inl (G.1, 10, .inl fun _ => 0), .inl (G.1, 10, .inl fun _ => 0), .inl (G.1, 10, .inl fun _ => 0)]) rfl hX0 tyX0_ok nmX0 rfl rfl (by decide) rfl rfl fX0_33 rfl rfl rfl (Nat.le_of_ble_eq_true rfl) rfl rfl dX0_init_65 ?_
  refine rc_aload (i := 0) (j := 0) dX0_init_68 rfl rfl ?_
  refine rc_bipush (v := 119) dX0_init_69 (by decide) ?_
  refine rc_newI (N := 119) (x := b + 9) rfl a_int dX0_init_71 (by decide) (by decide) (by decide) (by decide) ?_
  refine rc_put (i := 0) (k := 11) (fs' := [.int 0, .ref (b + 1), .ref (b + 2), .ref (b + 3), .ref (b + 4), .ref (b + 5), .int 0, .ref (b + 6), .ref (b + 7), .ref (b + 8), .int 0, .ref (b + 9), .int 0, .int 0, .null, .null]) (V' := [.inr (0, [.int 0, .ref (b + 1), .ref (b + 2), .ref (b + 3), .ref (b + 4), .ref (b + 5), .int 0, .ref (b + 6), .ref (b + 7), .ref (b + 8), .int 0, .ref (b + 9), .int 0, .int 0, .null, .null]), .inl (G.1, 7, .inl fun _ => 0), .inl (G.1, 7, .inl fun _ => 0), .inl (G.1, 7, .inl fun _ => 0), .inl (G.1, 7, .inl fun _ => 0), .inl (G.1, 7, .inl fun _ => 0), .inl (G.1, 10, .inl fun _ => 0), .inl (G.1, 10, .inl fun _ => 0), .inl (G.1, 10, .inl fun _ => 0), .inl (G.1, 119, .inl fun _ => 0)]) rfl hX0 tyX0_ok nmX0 rfl rfl (by decide) rfl rfl fX0_36 rfl rfl rfl (Nat.le_of_ble_eq_true rfl) rfl rfl dX0_init_73 ?_
  refine rc_aload (i := 0) (j := 0) dX0_init_76 rfl rfl ?_
  refine rc_new (ci := 4) (x := b + 10) (fs := [.int 0, .null, .null, .null, .int 0, .null, .null]) rfl tyX4 rfl hX4 tyX4_ok qX0_39 tX4 n_RX4 defX4 dX0_init_77 (by decide) ?_
  refine rc_dup dX0_init_80 ?_
  refine rc_callN (host := "SidePonds") (M' := mX4_init) (rm' := rmX4) (x := b + 10) (As := []) rfl rfl kX4_init i_X4_init (List.mem_of_getElem? (i := 3) rfl) dX0_init_81 rfl (Nat.le_of_ble_eq_true rfl) rfl rfl rfl (Nat.le_of_ble_eq_true rfl) ⟨Nat.le_of_ble_eq_true rfl, Nat.le_of_ble_eq_true rfl⟩ ⟨Nat.le_of_ble_eq_true rfl, Nat.le_of_ble_eq_true rfl⟩ (qX4) ?_
  refine rc_put (i := 0) (k := 14) (fs' := [.int 0, .ref (b + 1), .ref (b + 2), .ref (b + 3), .ref (b + 4), .ref (b + 5), .int 0, .ref (b + 6), .ref (b + 7), .ref (b + 8), .int 0, .ref (b + 9), .int 0, .int 0, .ref (b + 10), .null]) (V' := [.inr (0, [.int 0, .ref (b + 1), .ref (b + 2), .ref (b + 3), .ref (b + 4), .ref (b + 5), .int 0, .ref (b + 6), .ref (b + 7), .ref (b + 8), .int 0, .ref (b + 9), .int 0, .int 0, .ref (b + 10), .null]), .inl (G.1, 7, .inl fun _ => 0), .inl (G.1, 7, .inl fun _ => 0), .inl (G.1, 7, .inl fun _ => 0), .inl (G.1, 7, .inl fun _ => 0), .inl (G.1, 7, .inl fun _ => 0), .inl (G.1, 10, .inl fun _ => 0), .inl (G.1, 10, .inl fun _ => 0), .inl (G.1, 10, .inl fun _ => 0), .inl (G.1, 119, .inl fun _ => 0), .inr (4, [.int 0, .ref (b + 11), .ref (b + 12), .ref (b + 13), .int 0, .ref (b + 14), .ref (b + 15)]), .inl (G.1, 3, .inl fun _ => 0), .inl (G.1, 3, .inl fun _ => 0), .inl (G.1, 3, .inl fun _ => 0), .inl (G.1, 8, .inl fun _ => 0), .inl (G.1, 8, .inl fun _ => 0)]) rfl hX0 tyX0_ok nmX0 rfl rfl (by decide) rfl rfl fX0_42 rfl rfl rfl (Nat.le_of_ble_eq_true rfl) rfl rfl dX0_init_84 ?_
  refine rc_aload (i := 0) (j := 0) dX0_init_87 rfl rfl ?_
  refine rc_new (ci := 3) (x := b + 16) (fs := [.int 0, .null, .null, .null, .null, .null]) rfl tyX3 rfl hX3 tyX3_ok qX0_46 tX3 n_RX3 defX3 dX0_init_88 (by decide) ?_
  refine rc_dup dX0_init_91 ?_
  refine rc_callN (host := "SidePonds") (M' := mX3_init) (rm' := rmX3) (x := b + 16) (As := []) rfl rfl kX3_init i_X3_init (List.mem_of_getElem? (i := 4) rfl) dX0_init_92 rfl (Nat.le_of_ble_eq_true rfl) rfl rfl rfl (Nat.le_of_ble_eq_true rfl) ⟨Nat.le_of_ble_eq_true rfl, Nat.le_of_ble_eq_true rfl⟩ ⟨Nat.le_of_ble_eq_true rfl, Nat.le_of_ble_eq_true rfl⟩ (qX3) ?_
  refine rc_put (i := 0) (k := 15) (fs' := [.int 0, .ref (b + 1), .ref (b + 2), .ref (b + 3), .ref (b + 4), .ref (b + 5), .int 0, .ref (b + 6), .ref (b + 7), .ref (b + 8), .int 0, .ref (b + 9), .int 0, .int 0, .ref (b + 10), .ref (b + 16)]) (V' := [.inr (0, [.int 0, .ref (b + 1), .ref (b + 2), .ref (b + 3), .ref (b + 4), .ref (b + 5), .int 0, .ref (b + 6), .ref (b + 7), .ref (b + 8), .int 0, .ref (b + 9), .int 0, .int 0, .ref (b + 10), .ref (b + 16)]), .inl (G.1, 7, .inl fun _ => 0), .inl (G.1, 7, .inl fun _ => 0), .inl (G.1, 7, .inl fun _ => 0), .inl (G.1, 7, .inl fun _ => 0), .inl (G.1, 7, .inl fun _ => 0), .inl (G.1, 10, .inl fun _ => 0), .inl (G.1, 10, .inl fun _ => 0), .inl (G.1, 10, .inl fun _ => 0), .inl (G.1, 119, .inl fun _ => 0), .inr (4, [.int 0, .ref (b + 11), .ref (b + 12), .ref (b + 13), .int 0, .ref (b + 14), .ref (b + 15)]), .inl (G.1, 3, .inl fun _ => 0), .inl (G.1, 3, .inl fun _ => 0), .inl (G.1, 3, .inl fun _ => 0), .inl (G.1, 8, .inl fun _ => 0), .inl (G.1, 8, .inl fun _ => 0), .inr (3, [.int 0, .ref (b + 17), .ref (b + 18), .ref (b + 19), .ref (b + 20), .ref (b + 21)]), .inl (G.1, 64, .inl fun _ => 0), .inl (G.1, 64, .inl fun _ => 0), .inl (G.1, 3, .inl fun _ => 0), .inl (G.1, 3, .inl fun _ => 0), .inl (G.2.2, 64, .inr (.inl fun _ => 0))]) rfl hX0 tyX0_ok nmX0 rfl rfl (by decide) rfl rfl fX0_49 rfl rfl rfl (Nat.le_of_ble_eq_true rfl) rfl rfl dX0_init_95 ?_
  exact rc_ret dX0_init_98 (by decide) (fun H h => h)
abbrev mX8_init : MI := (yX8_init, cX8_init, 2, none)
theorem kX8_init : mj_CV mX8_init 1 := ⟨n_RX8, c_X8_init, by decide +kernel, by decide, by decide +kernel, by decide +kernel, by decide +kernel⟩
theorem defX8 : ∀ j, j < 8 → defaultValue (tyX8 j) = vp_V [.null, .null, .int 0, .null, .null, .int 0, .int 0, .int 0] j := fun j hj => by
  match j, hj with
  | 0, _ => rfl
  | 1, _ => rfl
  | 2, _ => rfl
  | 3, _ => rfl
  | 4, _ => rfl
  | 5, _ => rfl
  | 6, _ => rfl
  | 7, _ => rfl
  | j + 8, hj => exact absurd hj (by omega)
def VX8 (G : ClassId × ClassId × ClassId) (b : Nat) (x1 : Nat) : List va_E := [.inr (8, [.ref x1, .ref (b + 1), .int 0, .ref (b + 2), .ref (b + 3), .int 0, .int 0, .int 0]), .inl (G.1, 7, .inl fun _ => 0), .inl (G.1, 8, .inl fun _ => 0), .inl (G.1, 8, .inl fun _ => 0)]
abbrev rmX8 : Room := { frames := 1, cells := 3, slots := 23, locals := 40 }
set_option maxRecDepth 20000 in
set_option maxHeartbeats 4000000 in
theorem qX8 {ρ : Nat → Nat → Nat} {D : va_G} {G : ClassId × ClassId × ClassId} {b x1 : Nat} : RC ρ D G rmX8 mX8_init b (HC D b (VX8 G b x1)) 0 0 0 [.ref b, .ref x1] [] [.inr (8, [.null, .null, .int 0, .null, .null, .int 0, .int 0, .int 0])] := by
  refine rc_aload (i := 0) (j := 0) dX8_init_0 rfl rfl ?_
  refine rc_obj lX8_3 i_objInit c_objInit dX8_init_1 ⟨Nat.le_of_ble_eq_true rfl, Nat.le_of_ble_eq_true rfl⟩ ?_
  refine rc_aload (i := 0) (j := 0) dX8_init_4 rfl rfl ?_
  refine rc_bipush (v := 7) dX8_init_5 (by decide) ?_
  refine rc_newI (N := 7) (x := b + 1) rfl a_int dX8_init_7 (by decide) (by decide) (by decide) (by decide) ?_
  refine rc_put (i := 0) (k := 1) (fs' := [.null, .ref (b + 1), .int 0, .null, .null, .int 0, .int 0, .int 0]) (V' := [.inr (8, [.null, .ref (b + 1), .int 0, .null, .null, .int 0, .int 0, .int 0]), .inl (G.1, 7, .inl fun _ => 0)]) rfl hX8 tyX8_ok nmX8 rfl rfl (by decide) rfl rfl fX8_9 rfl rfl rfl (Nat.le_of_ble_eq_true rfl) rfl rfl dX8_init_9 ?_
  refine rc_aload (i := 0) (j := 0) dX8_init_12 rfl rfl ?_
  refine rc_bipush (v := 8) dX8_init_13 (by decide) ?_
  refine rc_newI (N := 8) (x := b + 2) rfl a_int dX8_init_15 (by decide) (by decide) (by decide) (by decide) ?_
  refine rc_put (i := 0) (k := 3) (fs' := [.null, .ref (b + 1), .int 0, .ref (b + 2), .null, .int 0, .int 0, .int 0]) (V' := [.inr (8, [.null, .ref (b + 1), .int 0, .ref (b + 2), .null, .int 0, .int 0, .int 0]), .inl (G.1, 7, .inl fun _ => 0), .inl (G.1, 8, .inl fun _ => 0)]) rfl hX8 tyX8_ok nmX8 rfl rfl (by decide) rfl rfl fX8_15 rfl rfl rfl (Nat.le_of_ble_eq_true rfl) rfl rfl dX8_init_17 ?_
  refine rc_aload (i := 0) (j := 0) dX8_init_20 rfl rfl ?_
  refine rc_bipush (v := 8) dX8_init_21 (by decide) ?_
  refine rc_newI (N := 8) (x := b + 3) rfl a_int dX8_init_23 (by decide) (by decide) (by decide) (by decide) ?_
  refine rc_put (i := 0) (k := 4) (fs' := [.null, .ref (b + 1), .int 0, .ref (b + 2), .ref (b + 3), .int 0, .int 0, .int 0]) (V' := [.inr (8, [.null, .ref (b + 1), .int 0, .ref (b + 2), .ref (b + 3), .int 0, .int 0, .int 0]), .inl (G.1, 7, .inl fun _ => 0), .inl (G.1, 8, .inl fun _ => 0), .inl (G.1, 8, .inl fun _ => 0)]) rfl hX8 tyX8_ok nmX8 rfl rfl (by decide) rfl rfl fX8_18 rfl rfl rfl (Nat.le_of_ble_eq_true rfl) rfl rfl dX8_init_25 ?_
  refine rc_aload (i := 0) (j := 0) dX8_init_28 rfl rfl ?_
  refine rc_aload (i := 1) (j := 1) dX8_init_29 rfl rfl ?_
  refine rc_put (i := 0) (k := 0) (fs' := [.ref x1, .ref (b + 1), .int 0, .ref (b + 2), .ref (b + 3), .int 0, .int 0, .int 0]) (V' := [.inr (8, [.ref x1, .ref (b + 1), .int 0, .ref (b + 2), .ref (b + 3), .int 0, .int 0, .int 0]), .inl (G.1, 7, .inl fun _ => 0), .inl (G.1, 8, .inl fun _ => 0), .inl (G.1, 8, .inl fun _ => 0)]) rfl hX8 tyX8_ok nmX8 rfl rfl (by decide) rfl rfl fX8_21 rfl rfl rfl (Nat.le_of_ble_eq_true rfl) rfl rfl dX8_init_30 ?_
  exact rc_ret dX8_init_33 (by decide) (fun H h => h)
abbrev mX5_init : MI := (yX5_init, cX5_init, 1, none)
theorem kX5_init : mj_CV mX5_init 0 := ⟨n_RX5, c_X5_init, by decide +kernel, by decide, by decide +kernel, by decide +kernel, by decide +kernel⟩
theorem defX5 : ∀ j, j < 9 → defaultValue (tyX5 j) = vp_V [.int 0, .int 0, .int 0, .int 0, .int 0, .int 0, .int 0, .int 0, .null] j := fun j hj => by
  match j, hj with
  | 0, _ => rfl
  | 1, _ => rfl
  | 2, _ => rfl
  | 3, _ => rfl
  | 4, _ => rfl
  | 5, _ => rfl
  | 6, _ => rfl
  | 7, _ => rfl
  | 8, _ => rfl
  | j + 9, hj => exact absurd hj (by omega)
def VX5 (G : ClassId × ClassId × ClassId) (b : Nat) : List va_E := [.inr (5, [.int 0, .int 0, .int 0, .int 0, .int 0, .int 0, .int 0, .int 0, .ref (b + 1)]), .inl (G.2.2, 7, .inr (.inl fun _ => 0))]
abbrev rmX5 : Room := { frames := 1, cells := 1, slots := 7, locals := 40 }
set_option maxRecDepth 20000 in
set_option maxHeartbeats 4000000 in
theorem qX5 {ρ : Nat → Nat → Nat} {D : va_G} {G : ClassId × ClassId × ClassId} {b : Nat} : RC ρ D G rmX5 mX5_init b (HC D b (VX5 G b)) 0 0 0 [.ref b] [] [.inr (5, [.int 0, .int 0, .int 0, .int 0, .int 0, .int 0, .int 0, .int 0, .null])] := by
  refine rc_aload (i := 0) (j := 0) dX5_init_0 rfl rfl ?_
  refine rc_obj lX5_3 i_objInit c_objInit dX5_init_1 ⟨Nat.le_of_ble_eq_true rfl, Nat.le_of_ble_eq_true rfl⟩ ?_
  refine rc_aload (i := 0) (j := 0) dX5_init_4 rfl rfl ?_
  refine rc_bipush (v := 7) dX5_init_5 (by decide) ?_
  refine rc_newL (N := 7) (x := b + 1) rfl a_long dX5_init_7 (by decide) (by decide) (by decide) (by decide) ?_
  refine rc_put (i := 0) (k := 8) (fs' := [.int 0, .int 0, .int 0, .int 0, .int 0, .int 0, .int 0, .int 0, .ref (b + 1)]) (V' := [.inr (5, [.int 0, .int 0, .int 0, .int 0, .int 0, .int 0, .int 0, .int 0, .ref (b + 1)]), .inl (G.2.2, 7, .inr (.inl fun _ => 0))]) rfl hX5 tyX5_ok nmX5 rfl rfl (by decide) rfl rfl fX5_9 rfl rfl rfl (Nat.le_of_ble_eq_true rfl) rfl rfl dX5_init_9 ?_
  exact rc_ret dX5_init_12 (by decide) (fun H h => h)
abbrev mX6_init : MI := (yX6_init, cX6_init, 1, none)
theorem kX6_init : mj_CV mX6_init 0 := ⟨n_RX6, c_X6_init, by decide +kernel, by decide, by decide +kernel, by decide +kernel, by decide +kernel⟩
theorem defX6 : ∀ j, j < 7 → defaultValue (tyX6 j) = vp_V [.int 0, .int 0, .int 0, .int 0, .int 0, .int 0, .int 0] j := fun j hj => by
  match j, hj with
  | 0, _ => rfl
  | 1, _ => rfl
  | 2, _ => rfl
  | 3, _ => rfl
  | 4, _ => rfl
  | 5, _ => rfl
  | 6, _ => rfl
  | j + 7, hj => exact absurd hj (by omega)
def VX6 (G : ClassId × ClassId × ClassId) (b : Nat) : List va_E := [.inr (6, [.int 0, .int 0, .int 0, .int 0, .int 0, .int 0, .int 0])]
abbrev rmX6 : Room := { frames := 1, cells := 0, slots := 0, locals := 40 }
set_option maxRecDepth 20000 in
set_option maxHeartbeats 4000000 in
theorem qX6 {ρ : Nat → Nat → Nat} {D : va_G} {G : ClassId × ClassId × ClassId} {b : Nat} : RC ρ D G rmX6 mX6_init b (HC D b (VX6 G b)) 0 0 0 [.ref b] [] [.inr (6, [.int 0, .int 0, .int 0, .int 0, .int 0, .int 0, .int 0])] := by
  refine rc_aload (i := 0) (j := 0) dX6_init_0 rfl rfl ?_
  refine rc_obj lX6_3 i_objInit c_objInit dX6_init_1 ⟨Nat.le_of_ble_eq_true rfl, Nat.le_of_ble_eq_true rfl⟩ ?_
  exact rc_ret dX6_init_4 (by decide) (fun H h => h)
abbrev mX1_init : MI := (yX1_init, cX1_init, 1, none)
theorem kX1_init : mj_CV mX1_init 0 := ⟨n_RX1, c_X1_init, by decide +kernel, by decide, by decide +kernel, by decide +kernel, by decide +kernel⟩
theorem defX1 : ∀ j, j < 7 → defaultValue (tyX1 j) = vp_V [.int 0, .int 0, .null, .null, .null, .null, .null] j := fun j hj => by
  match j, hj with
  | 0, _ => rfl
  | 1, _ => rfl
  | 2, _ => rfl
  | 3, _ => rfl
  | 4, _ => rfl
  | 5, _ => rfl
  | 6, _ => rfl
  | j + 7, hj => exact absurd hj (by omega)
def VX1 (G : ClassId × ClassId × ClassId) (b : Nat) : List va_E := [.inr (1, [.int 0, .int (-1), .ref (b + 1), .ref (b + 2), .ref (b + 3), .ref (b + 4), .ref (b + 5)]), .inl (G.1, 24, .inl fun _ => 0), .inl (G.1, 24, .inl fun _ => 0), .inl (G.1, 24, .inl fun _ => 0), .inl (G.1, 24, .inl fun _ => 0), .inl (G.2.1, 24, .inl fun _ => 0)]
abbrev rmX1 : Room := { frames := 1, cells := 5, slots := 120, locals := 40 }
set_option maxRecDepth 20000 in
set_option maxHeartbeats 4000000 in
theorem qX1 {ρ : Nat → Nat → Nat} {D : va_G} {G : ClassId × ClassId × ClassId} {b : Nat} : RC ρ D G rmX1 mX1_init b (HC D b (VX1 G b)) 0 0 0 [.ref b] [] [.inr (1, [.int 0, .int 0, .null, .null, .null, .null, .null])] := by
  refine rc_aload (i := 0) (j := 0) dX1_init_0 rfl rfl ?_
  refine rc_obj lX1_3 i_objInit c_objInit dX1_init_1 ⟨Nat.le_of_ble_eq_true rfl, Nat.le_of_ble_eq_true rfl⟩ ?_
  refine rc_aload (i := 0) (j := 0) dX1_init_4 rfl rfl ?_
  refine rc_iconst (v := -1) dX1_init_5 (by decide) ?_
  refine rc_put (i := 0) (k := 1) (fs' := [.int 0, .int (-1), .null, .null, .null, .null, .null]) (V' := [.inr (1, [.int 0, .int (-1), .null, .null, .null, .null, .null])]) rfl hX1 tyX1_ok nmX1 rfl rfl (by decide) rfl rfl fX1_11 rfl rfl rfl (Nat.le_of_ble_eq_true rfl) rfl rfl dX1_init_6 ?_
  refine rc_aload (i := 0) (j := 0) dX1_init_9 rfl rfl ?_
  refine rc_bipush (v := 24) dX1_init_10 (by decide) ?_
  refine rc_newI (N := 24) (x := b + 1) rfl a_int dX1_init_12 (by decide) (by decide) (by decide) (by decide) ?_
  refine rc_put (i := 0) (k := 2) (fs' := [.int 0, .int (-1), .ref (b + 1), .null, .null, .null, .null]) (V' := [.inr (1, [.int 0, .int (-1), .ref (b + 1), .null, .null, .null, .null]), .inl (G.1, 24, .inl fun _ => 0)]) rfl hX1 tyX1_ok nmX1 rfl rfl (by decide) rfl rfl fX1_15 rfl rfl rfl (Nat.le_of_ble_eq_true rfl) rfl rfl dX1_init_14 ?_
  refine rc_aload (i := 0) (j := 0) dX1_init_17 rfl rfl ?_
  refine rc_bipush (v := 24) dX1_init_18 (by decide) ?_
  refine rc_newI (N := 24) (x := b + 2) rfl a_int dX1_init_20 (by decide) (by decide) (by decide) (by decide) ?_
  refine rc_put (i := 0) (k := 3) (fs' := [.int 0, .int (-1), .ref (b + 1), .ref (b + 2), .null, .null, .null]) (V' := [.inr (1, [.int 0, .int (-1), .ref (b + 1), .ref (b + 2), .null, .null, .null]), .inl (G.1, 24, .inl fun _ => 0), .inl (G.1, 24, .inl fun _ => 0)]) rfl hX1 tyX1_ok nmX1 rfl rfl (by decide) rfl rfl fX1_19 rfl rfl rfl (Nat.le_of_ble_eq_true rfl) rfl rfl dX1_init_22 ?_
  refine rc_aload (i := 0) (j := 0) dX1_init_25 rfl rfl ?_
  refine rc_bipush (v := 24) dX1_init_26 (by decide) ?_
  refine rc_newI (N := 24) (x := b + 3) rfl a_int dX1_init_28 (by decide) (by decide) (by decide) (by decide) ?_
  refine rc_put (i := 0) (k := 4) (fs' := [.int 0, .int (-1), .ref (b + 1), .ref (b + 2), .ref (b + 3), .null, .null]) (V' := [.inr (1, [.int 0, .int (-1), .ref (b + 1), .ref (b + 2), .ref (b + 3), .null, .null]), .inl (G.1, 24, .inl fun _ => 0), .inl (G.1, 24, .inl fun _ => 0), .inl (G.1, 24, .inl fun _ => 0)]) rfl hX1 tyX1_ok nmX1 rfl rfl (by decide) rfl rfl fX1_22 rfl rfl rfl (Nat.le_of_ble_eq_true rfl) rfl rfl dX1_init_30 ?_
  refine rc_aload (i := 0) (j := 0) dX1_init_33 rfl rfl ?_
  refine rc_bipush (v := 24) dX1_init_34 (by decide) ?_
  refine rc_newI (N := 24) (x := b + 4) rfl a_int dX1_init_36 (by decide) (by decide) (by decide) (by decide) ?_
  refine rc_put (i := 0) (k := 5) (fs' := [.int 0, .int (-1), .ref (b + 1), .ref (b + 2), .ref (b + 3), .ref (b + 4), .null]) (V' := [.inr (1, [.int 0, .int (-1), .ref (b + 1), .ref (b + 2), .ref (b + 3), .ref (b + 4), .null]), .inl (G.1, 24, .inl fun _ => 0), .inl (G.1, 24, .inl fun _ => 0), .inl (G.1, 24, .inl fun _ => 0), .inl (G.1, 24, .inl fun _ => 0)]) rfl hX1 tyX1_ok nmX1 rfl rfl (by decide) rfl rfl fX1_25 rfl rfl rfl (Nat.le_of_ble_eq_true rfl) rfl rfl dX1_init_38 ?_
  refine rc_aload (i := 0) (j := 0) dX1_init_41 rfl rfl ?_
  refine rc_bipush (v := 24) dX1_init_42 (by decide) ?_
  refine rc_newZ (N := 24) (x := b + 5) rfl a_boolean dX1_init_44 (by decide) (by decide) (by decide) (by decide) ?_
  refine rc_put (i := 0) (k := 6) (fs' := [.int 0, .int (-1), .ref (b + 1), .ref (b + 2), .ref (b + 3), .ref (b + 4), .ref (b + 5)]) (V' := [.inr (1, [.int 0, .int (-1), .ref (b + 1), .ref (b + 2), .ref (b + 3), .ref (b + 4), .ref (b + 5)]), .inl (G.1, 24, .inl fun _ => 0), .inl (G.1, 24, .inl fun _ => 0), .inl (G.1, 24, .inl fun _ => 0), .inl (G.1, 24, .inl fun _ => 0), .inl (G.2.1, 24, .inl fun _ => 0)]) rfl hX1 tyX1_ok nmX1 rfl rfl (by decide) rfl rfl fX1_28 rfl rfl rfl (Nat.le_of_ble_eq_true rfl) rfl rfl dX1_init_46 ?_
  exact rc_ret dX1_init_49 (by decide) (fun H h => h)
abbrev mX2_init : MI := (yX2_init, cX2_init, 1, none)
theorem kX2_init : mj_CV mX2_init 0 := ⟨n_RX2, c_X2_init, by decide +kernel, by decide, by decide +kernel, by decide +kernel, by decide +kernel⟩
theorem defX2 : ∀ j, j < 3 → defaultValue (tyX2 j) = vp_V [.int 0, .int 0, .null] j := fun j hj => by
  match j, hj with
  | 0, _ => rfl
  | 1, _ => rfl
  | 2, _ => rfl
  | j + 3, hj => exact absurd hj (by omega)
def VX2 (G : ClassId × ClassId × ClassId) (b : Nat) : List va_E := [.inr (2, [.int 0, .int 0, .ref (b + 1)]), .inl (G.1, 160, .inl fun _ => 0)]
abbrev rmX2 : Room := { frames := 1, cells := 1, slots := 160, locals := 40 }
set_option maxRecDepth 20000 in
set_option maxHeartbeats 4000000 in
theorem qX2 {ρ : Nat → Nat → Nat} {D : va_G} {G : ClassId × ClassId × ClassId} {b : Nat} : RC ρ D G rmX2 mX2_init b (HC D b (VX2 G b)) 0 0 0 [.ref b] [] [.inr (2, [.int 0, .int 0, .null])] := by
  refine rc_aload (i := 0) (j := 0) dX2_init_0 rfl rfl ?_
  refine rc_obj lX2_3 i_objInit c_objInit dX2_init_1 ⟨Nat.le_of_ble_eq_true rfl, Nat.le_of_ble_eq_true rfl⟩ ?_
  refine rc_aload (i := 0) (j := 0) dX2_init_4 rfl rfl ?_
  refine rc_sipush (v := 160) dX2_init_5 (by decide) ?_
  refine rc_newI (N := 160) (x := b + 1) rfl a_int dX2_init_8 (by decide) (by decide) (by decide) (by decide) ?_
  refine rc_put (i := 0) (k := 2) (fs' := [.int 0, .int 0, .ref (b + 1)]) (V' := [.inr (2, [.int 0, .int 0, .ref (b + 1)]), .inl (G.1, 160, .inl fun _ => 0)]) rfl hX2 tyX2_ok nmX2 rfl rfl (by decide) rfl rfl fX2_11 rfl rfl rfl (Nat.le_of_ble_eq_true rfl) rfl rfl dX2_init_10 ?_
  exact rc_ret dX2_init_13 (by decide) (fun H h => h)
abbrev mX9_init : MI := (yX9_init, cX9_init, 1, none)
theorem kX9_init : mj_CV mX9_init 0 := ⟨n_RX9, c_X9_init, by decide +kernel, by decide, by decide +kernel, by decide +kernel, by decide +kernel⟩
theorem defX9 : ∀ j, j < 7 → defaultValue (tyX9 j) = vp_V [.int 0, .null, .null, .null, .null, .int 0, .int 0] j := fun j hj => by
  match j, hj with
  | 0, _ => rfl
  | 1, _ => rfl
  | 2, _ => rfl
  | 3, _ => rfl
  | 4, _ => rfl
  | 5, _ => rfl
  | 6, _ => rfl
  | j + 7, hj => exact absurd hj (by omega)
def VX9 (G : ClassId × ClassId × ClassId) (b : Nat) : List va_E := [.inr (9, [.int 0, .ref (b + 1), .ref (b + 2), .ref (b + 3), .ref (b + 4), .int 0, .int 0]), .inl (G.1, 700, .inl fun _ => 0), .inl (G.1, 701, .inl fun _ => 0), .inl (G.1, 701, .inl fun _ => 0), .inl (G.1, 701, .inl fun _ => 0)]
abbrev rmX9 : Room := { frames := 1, cells := 4, slots := 2803, locals := 40 }
set_option maxRecDepth 20000 in
set_option maxHeartbeats 4000000 in
theorem qX9 {ρ : Nat → Nat → Nat} {D : va_G} {G : ClassId × ClassId × ClassId} {b : Nat} : RC ρ D G rmX9 mX9_init b (HC D b (VX9 G b)) 0 0 0 [.ref b] [] [.inr (9, [.int 0, .null, .null, .null, .null, .int 0, .int 0])] := by
  refine rc_aload (i := 0) (j := 0) dX9_init_0 rfl rfl ?_
  refine rc_obj lX9_3 i_objInit c_objInit dX9_init_1 ⟨Nat.le_of_ble_eq_true rfl, Nat.le_of_ble_eq_true rfl⟩ ?_
  refine rc_aload (i := 0) (j := 0) dX9_init_4 rfl rfl ?_
  refine rc_sipush (v := 700) dX9_init_5 (by decide) ?_
  refine rc_newI (N := 700) (x := b + 1) rfl a_int dX9_init_8 (by decide) (by decide) (by decide) (by decide) ?_
  refine rc_put (i := 0) (k := 1) (fs' := [.int 0, .ref (b + 1), .null, .null, .null, .int 0, .int 0]) (V' := [.inr (9, [.int 0, .ref (b + 1), .null, .null, .null, .int 0, .int 0]), .inl (G.1, 700, .inl fun _ => 0)]) rfl hX9 tyX9_ok nmX9 rfl rfl (by decide) rfl rfl fX9_9 rfl rfl rfl (Nat.le_of_ble_eq_true rfl) rfl rfl dX9_init_10 ?_
  refine rc_aload (i := 0) (j := 0) dX9_init_13 rfl rfl ?_
  refine rc_sipush (v := 701) dX9_init_14 (by decide) ?_
  refine rc_newI (N := 701) (x := b + 2) rfl a_int dX9_init_17 (by decide) (by decide) (by decide) (by decide) ?_
  refine rc_put (i := 0) (k := 2) (fs' := [.int 0, .ref (b + 1), .ref (b + 2), .null, .null, .int 0, .int 0]) (V' := [.inr (9, [.int 0, .ref (b + 1), .ref (b + 2), .null, .null, .int 0, .int 0]), .inl (G.1, 700, .inl fun _ => 0), .inl (G.1, 701, .inl fun _ => 0)]) rfl hX9 tyX9_ok nmX9 rfl rfl (by decide) rfl rfl fX9_15 rfl rfl rfl (Nat.le_of_ble_eq_true rfl) rfl rfl dX9_init_19 ?_
  refine rc_aload (i := 0) (j := 0) dX9_init_22 rfl rfl ?_
  refine rc_sipush (v := 701) dX9_init_23 (by decide) ?_
  refine rc_newI (N := 701) (x := b + 3) rfl a_int dX9_init_26 (by decide) (by decide) (by decide) (by decide) ?_
  refine rc_put (i := 0) (k := 3) (fs' := [.int 0, .ref (b + 1), .ref (b + 2), .ref (b + 3), .null, .int 0, .int 0]) (V' := [.inr (9, [.int 0, .ref (b + 1), .ref (b + 2), .ref (b + 3), .null, .int 0, .int 0]), .inl (G.1, 700, .inl fun _ => 0), .inl (G.1, 701, .inl fun _ => 0), .inl (G.1, 701, .inl fun _ => 0)]) rfl hX9 tyX9_ok nmX9 rfl rfl (by decide) rfl rfl fX9_18 rfl rfl rfl (Nat.le_of_ble_eq_true rfl) rfl rfl dX9_init_28 ?_
  refine rc_aload (i := 0) (j := 0) dX9_init_31 rfl rfl ?_
  refine rc_sipush (v := 701) dX9_init_32 (by decide) ?_
  refine rc_newI (N := 701) (x := b + 4) rfl a_int dX9_init_35 (by decide) (by decide) (by decide) (by decide) ?_
  refine rc_put (i := 0) (k := 4) (fs' := [.int 0, .ref (b + 1), .ref (b + 2), .ref (b + 3), .ref (b + 4), .int 0, .int 0]) (V' := [.inr (9, [.int 0, .ref (b + 1), .ref (b + 2), .ref (b + 3), .ref (b + 4), .int 0, .int 0]), .inl (G.1, 700, .inl fun _ => 0), .inl (G.1, 701, .inl fun _ => 0), .inl (G.1, 701, .inl fun _ => 0), .inl (G.1, 701, .inl fun _ => 0)]) rfl hX9 tyX9_ok nmX9 rfl rfl (by decide) rfl rfl fX9_21 rfl rfl rfl (Nat.le_of_ble_eq_true rfl) rfl rfl dX9_init_37 ?_
  exact rc_ret dX9_init_40 (by decide) (fun H h => h)
abbrev mX7_init : MI := (yX7_init, cX7_init, 1, none)
theorem kX7_init : mj_CV mX7_init 0 := ⟨n_RX7, c_X7_init, by decide +kernel, by decide, by decide +kernel, by decide +kernel, by decide +kernel⟩
theorem defX7 : ∀ j, j < 10 → defaultValue (tyX7 j) = vp_V [.null, .null, .int 0, .int 0, .int 0, .int 0, .int 0, .int 0, .int 0, .int 0] j := fun j hj => by
  match j, hj with
  | 0, _ => rfl
  | 1, _ => rfl
  | 2, _ => rfl
  | 3, _ => rfl
  | 4, _ => rfl
  | 5, _ => rfl
  | 6, _ => rfl
  | 7, _ => rfl
  | 8, _ => rfl
  | 9, _ => rfl
  | j + 10, hj => exact absurd hj (by omega)
def VX7 (G : ClassId × ClassId × ClassId) (b : Nat) : List va_E := [.inr (7, [.ref (b + 1), .ref (b + 6), .int 0, .int (-1), .int 0, .int 0, .int 0, .int 0, .int 0, .int 0]), .inr (9, [.int 0, .ref (b + 2), .ref (b + 3), .ref (b + 4), .ref (b + 5), .int 0, .int 0]), .inl (G.1, 700, .inl fun _ => 0), .inl (G.1, 701, .inl fun _ => 0), .inl (G.1, 701, .inl fun _ => 0), .inl (G.1, 701, .inl fun _ => 0), .inr (0, [.int 0, .ref (b + 7), .ref (b + 8), .ref (b + 9), .ref (b + 10), .ref (b + 11), .int 0, .ref (b + 12), .ref (b + 13), .ref (b + 14), .int 0, .ref (b + 15), .int 0, .int 0, .ref (b + 16), .ref (b + 22)]), .inl (G.1, 7, .inl fun _ => 0), .inl (G.1, 7, .inl fun _ => 0), .inl (G.1, 7, .inl fun _ => 0), .inl (G.1, 7, .inl fun _ => 0), .inl (G.1, 7, .inl fun _ => 0), .inl (G.1, 10, .inl fun _ => 0), .inl (G.1, 10, .inl fun _ => 0), .inl (G.1, 10, .inl fun _ => 0), .inl (G.1, 119, .inl fun _ => 0), .inr (4, [.int 0, .ref (b + 17), .ref (b + 18), .ref (b + 19), .int 0, .ref (b + 20), .ref (b + 21)]), .inl (G.1, 3, .inl fun _ => 0), .inl (G.1, 3, .inl fun _ => 0), .inl (G.1, 3, .inl fun _ => 0), .inl (G.1, 8, .inl fun _ => 0), .inl (G.1, 8, .inl fun _ => 0), .inr (3, [.int 0, .ref (b + 23), .ref (b + 24), .ref (b + 25), .ref (b + 26), .ref (b + 27)]), .inl (G.1, 64, .inl fun _ => 0), .inl (G.1, 64, .inl fun _ => 0), .inl (G.1, 3, .inl fun _ => 0), .inl (G.1, 3, .inl fun _ => 0), .inl (G.2.2, 64, .inr (.inl fun _ => 0))]
abbrev rmX7 : Room := { frames := 3, cells := 27, slots := 3246, locals := 120 }
set_option maxRecDepth 20000 in
set_option maxHeartbeats 4000000 in
theorem qX7 {ρ : Nat → Nat → Nat} {D : va_G} {G : ClassId × ClassId × ClassId} {b : Nat} : RC ρ D G rmX7 mX7_init b (HC D b (VX7 G b)) 0 0 0 [.ref b] [] [.inr (7, [.null, .null, .int 0, .int 0, .int 0, .int 0, .int 0, .int 0, .int 0, .int 0])] := by
  refine rc_aload (i := 0) (j := 0) dX7_init_0 rfl rfl ?_
  refine rc_obj lX7_3 i_objInit c_objInit dX7_init_1 ⟨Nat.le_of_ble_eq_true rfl, Nat.le_of_ble_eq_true rfl⟩ ?_
  refine rc_aload (i := 0) (j := 0) dX7_init_4 rfl rfl ?_
  refine rc_new (ci := 9) (x := b + 1) (fs := [.int 0, .null, .null, .null, .null, .int 0, .int 0]) rfl tyX9 rfl hX9 tyX9_ok qX7_9 tX9 n_RX9 defX9 dX7_init_5 (by decide) ?_
  refine rc_dup dX7_init_8 ?_
  refine rc_callN (host := "SidePonds") (M' := mX9_init) (rm' := rmX9) (x := b + 1) (As := []) rfl rfl kX9_init i_X9_init (List.mem_of_getElem? (i := 1) rfl) dX7_init_9 rfl (Nat.le_of_ble_eq_true rfl) rfl rfl rfl (Nat.le_of_ble_eq_true rfl) ⟨Nat.le_of_ble_eq_true rfl, Nat.le_of_ble_eq_true rfl⟩ ⟨Nat.le_of_ble_eq_true rfl, Nat.le_of_ble_eq_true rfl⟩ (qX9) ?_
  refine rc_put (i := 0) (k := 0) (fs' := [.ref (b + 1), .null, .int 0, .int 0, .int 0, .int 0, .int 0, .int 0, .int 0, .int 0]) (V' := [.inr (7, [.ref (b + 1), .null, .int 0, .int 0, .int 0, .int 0, .int 0, .int 0, .int 0, .int 0]), .inr (9, [.int 0, .ref (b + 2), .ref (b + 3), .ref (b + 4), .ref (b + 5), .int 0, .int 0]), .inl (G.1, 700, .inl fun _ => 0), .inl (G.1, 701, .inl fun _ => 0), .inl (G.1, 701, .inl fun _ => 0), .inl (G.1, 701, .inl fun _ => 0)]) rfl hX7 tyX7_ok nmX7 rfl rfl (by decide) rfl rfl fX7_12 rfl rfl rfl (Nat.le_of_ble_eq_true rfl) rfl rfl dX7_init_12 ?_
  refine rc_aload (i := 0) (j := 0) dX7_init_15 rfl rfl ?_
  refine rc_new (ci := 0) (x := b + 6) (fs := [.int 0, .null, .null, .null, .null, .null, .int 0, .null, .null, .null, .int 0, .null, .int 0, .int 0, .null, .null]) rfl tyX0 rfl hX0 tyX0_ok qX7_18 tX0 n_RX0 defX0 dX7_init_16 (by decide) ?_
  refine rc_dup dX7_init_19 ?_
  refine rc_callN (host := "SidePonds") (M' := mX0_init) (rm' := rmX0) (x := b + 6) (As := []) rfl rfl kX0_init i_X0_init (List.mem_of_getElem? (i := 2) rfl) dX7_init_20 rfl (Nat.le_of_ble_eq_true rfl) rfl rfl rfl (Nat.le_of_ble_eq_true rfl) ⟨Nat.le_of_ble_eq_true rfl, Nat.le_of_ble_eq_true rfl⟩ ⟨Nat.le_of_ble_eq_true rfl, Nat.le_of_ble_eq_true rfl⟩ (qX0) ?_
  refine rc_put (i := 0) (k := 1) (fs' := [.ref (b + 1), .ref (b + 6), .int 0, .int 0, .int 0, .int 0, .int 0, .int 0, .int 0, .int 0]) (V' := [.inr (7, [.ref (b + 1), .ref (b + 6), .int 0, .int 0, .int 0, .int 0, .int 0, .int 0, .int 0, .int 0]), .inr (9, [.int 0, .ref (b + 2), .ref (b + 3), .ref (b + 4), .ref (b + 5), .int 0, .int 0]), .inl (G.1, 700, .inl fun _ => 0), .inl (G.1, 701, .inl fun _ => 0), .inl (G.1, 701, .inl fun _ => 0), .inl (G.1, 701, .inl fun _ => 0), .inr (0, [.int 0, .ref (b + 7), .ref (b + 8), .ref (b + 9), .ref (b + 10), .ref (b + 11), .int 0, .ref (b + 12), .ref (b + 13), .ref (b + 14), .int 0, .ref (b + 15), .int 0, .int 0, .ref (b + 16), .ref (b + 22)]), .inl (G.1, 7, .inl fun _ => 0), .inl (G.1, 7, .inl fun _ => 0), .inl (G.1, 7, .inl fun _ => 0), .inl (G.1, 7, .inl fun _ => 0), .inl (G.1, 7, .inl fun _ => 0), .inl (G.1, 10, .inl fun _ => 0), .inl (G.1, 10, .inl fun _ => 0), .inl (G.1, 10, .inl fun _ => 0), .inl (G.1, 119, .inl fun _ => 0), .inr (4, [.int 0, .ref (b + 17), .ref (b + 18), .ref (b + 19), .int 0, .ref (b + 20), .ref (b + 21)]), .inl (G.1, 3, .inl fun _ => 0), .inl (G.1, 3, .inl fun _ => 0), .inl (G.1, 3, .inl fun _ => 0), .inl (G.1, 8, .inl fun _ => 0), .inl (G.1, 8, .inl fun _ => 0), .inr (3, [.int 0, .ref (b + 23), .ref (b + 24), .ref (b + 25), .ref (b + 26), .ref (b + 27)]), .inl (G.1, 64, .inl fun _ => 0), .inl (G.1, 64, .inl fun _ => 0), .inl (G.1, 3, .inl fun _ => 0), .inl (G.1, 3, .inl fun _ => 0), .inl (G.2.2, 64, .inr (.inl fun _ => 0))]) rfl hX7 tyX7_ok nmX7 rfl rfl (by decide) rfl rfl fX7_21 rfl rfl rfl (Nat.le_of_ble_eq_true rfl) rfl rfl dX7_init_23 ?_
  refine rc_aload (i := 0) (j := 0) dX7_init_26 rfl rfl ?_
  refine rc_iconst (v := -1) dX7_init_27 (by decide) ?_
  refine rc_put (i := 0) (k := 3) (fs' := [.ref (b + 1), .ref (b + 6), .int 0, .int (-1), .int 0, .int 0, .int 0, .int 0, .int 0, .int 0]) (V' := [.inr (7, [.ref (b + 1), .ref (b + 6), .int 0, .int (-1), .int 0, .int 0, .int 0, .int 0, .int 0, .int 0]), .inr (9, [.int 0, .ref (b + 2), .ref (b + 3), .ref (b + 4), .ref (b + 5), .int 0, .int 0]), .inl (G.1, 700, .inl fun _ => 0), .inl (G.1, 701, .inl fun _ => 0), .inl (G.1, 701, .inl fun _ => 0), .inl (G.1, 701, .inl fun _ => 0), .inr (0, [.int 0, .ref (b + 7), .ref (b + 8), .ref (b + 9), .ref (b + 10), .ref (b + 11), .int 0, .ref (b + 12), .ref (b + 13), .ref (b + 14), .int 0, .ref (b + 15), .int 0, .int 0, .ref (b + 16), .ref (b + 22)]), .inl (G.1, 7, .inl fun _ => 0), .inl (G.1, 7, .inl fun _ => 0), .inl (G.1, 7, .inl fun _ => 0), .inl (G.1, 7, .inl fun _ => 0), .inl (G.1, 7, .inl fun _ => 0), .inl (G.1, 10, .inl fun _ => 0), .inl (G.1, 10, .inl fun _ => 0), .inl (G.1, 10, .inl fun _ => 0), .inl (G.1, 119, .inl fun _ => 0), .inr (4, [.int 0, .ref (b + 17), .ref (b + 18), .ref (b + 19), .int 0, .ref (b + 20), .ref (b + 21)]), .inl (G.1, 3, .inl fun _ => 0), .inl (G.1, 3, .inl fun _ => 0), .inl (G.1, 3, .inl fun _ => 0), .inl (G.1, 8, .inl fun _ => 0), .inl (G.1, 8, .inl fun _ => 0), .inr (3, [.int 0, .ref (b + 23), .ref (b + 24), .ref (b + 25), .ref (b + 26), .ref (b + 27)]), .inl (G.1, 64, .inl fun _ => 0), .inl (G.1, 64, .inl fun _ => 0), .inl (G.1, 3, .inl fun _ => 0), .inl (G.1, 3, .inl fun _ => 0), .inl (G.2.2, 64, .inr (.inl fun _ => 0))]) rfl hX7 tyX7_ok nmX7 rfl rfl (by decide) rfl rfl fX7_25 rfl rfl rfl (Nat.le_of_ble_eq_true rfl) rfl rfl dX7_init_28 ?_
  exact rc_ret dX7_init_31 (by decide) (fun H h => h)
abbrev mX10_init : MI := (yX10_init, cX10_init, 1, none)
theorem kX10_init : mj_CV mX10_init 0 := ⟨n_RX10, c_X10_init, by decide +kernel, by decide, by decide +kernel, by decide +kernel, by decide +kernel⟩
theorem defX10 : ∀ j, j < 13 → defaultValue (tyX10 j) = vp_V [.null, .null, .null, .null, .null, .null, .null, .null, .null, .null, .int 0, .int 0, .int 0] j := fun j hj => by
  match j, hj with
  | 0, _ => rfl
  | 1, _ => rfl
  | 2, _ => rfl
  | 3, _ => rfl
  | 4, _ => rfl
  | 5, _ => rfl
  | 6, _ => rfl
  | 7, _ => rfl
  | 8, _ => rfl
  | 9, _ => rfl
  | 10, _ => rfl
  | 11, _ => rfl
  | 12, _ => rfl
  | j + 13, hj => exact absurd hj (by omega)
def VX10 (G : ClassId × ClassId × ClassId) (b : Nat) : List va_E := [.inr (10, [.ref (b + 1), .ref (b + 51), .ref (b + 55), .ref (b + 59), .ref (b + 63), .ref (b + 65), .ref (b + 66), .ref (b + 72), .ref (b + 74), .ref (b + 29), .int 0, .int 0, .int (-1)]), .inr (7, [.ref (b + 2), .ref (b + 7), .int 0, .int (-1), .int 0, .int 0, .int 0, .int 0, .int 0, .int 0]), .inr (9, [.int 0, .ref (b + 3), .ref (b + 4), .ref (b + 5), .ref (b + 6), .int 0, .int 0]), .inl (G.1, 700, .inl fun _ => 0), .inl (G.1, 701, .inl fun _ => 0), .inl (G.1, 701, .inl fun _ => 0), .inl (G.1, 701, .inl fun _ => 0), .inr (0, [.int 0, .ref (b + 8), .ref (b + 9), .ref (b + 10), .ref (b + 11), .ref (b + 12), .int 0, .ref (b + 13), .ref (b + 14), .ref (b + 15), .int 0, .ref (b + 16), .int 0, .int 0, .ref (b + 17), .ref (b + 23)]), .inl (G.1, 7, .inl fun _ => 0), .inl (G.1, 7, .inl fun _ => 0), .inl (G.1, 7, .inl fun _ => 0), .inl (G.1, 7, .inl fun _ => 0), .inl (G.1, 7, .inl fun _ => 0), .inl (G.1, 10, .inl fun _ => 0), .inl (G.1, 10, .inl fun _ => 0), .inl (G.1, 10, .inl fun _ => 0), .inl (G.1, 119, .inl fun _ => 0), .inr (4, [.int 0, .ref (b + 18), .ref (b + 19), .ref (b + 20), .int 0, .ref (b + 21), .ref (b + 22)]), .inl (G.1, 3, .inl fun _ => 0), .inl (G.1, 3, .inl fun _ => 0), .inl (G.1, 3, .inl fun _ => 0), .inl (G.1, 8, .inl fun _ => 0), .inl (G.1, 8, .inl fun _ => 0), .inr (3, [.int 0, .ref (b + 24), .ref (b + 25), .ref (b + 26), .ref (b + 27), .ref (b + 28)]), .inl (G.1, 64, .inl fun _ => 0), .inl (G.1, 64, .inl fun _ => 0), .inl (G.1, 3, .inl fun _ => 0), .inl (G.1, 3, .inl fun _ => 0), .inl (G.2.2, 64, .inr (.inl fun _ => 0)), .inr (0, [.int 0, .ref (b + 30), .ref (b + 31), .ref (b + 32), .ref (b + 33), .ref (b + 34), .int 0, .ref (b + 35), .ref (b + 36), .ref (b + 37), .int 0, .ref (b + 38), .int 0, .int 0, .ref (b + 39), .ref (b + 45)]), .inl (G.1, 7, .inl fun _ => 0), .inl (G.1, 7, .inl fun _ => 0), .inl (G.1, 7, .inl fun _ => 0), .inl (G.1, 7, .inl fun _ => 0), .inl (G.1, 7, .inl fun _ => 0), .inl (G.1, 10, .inl fun _ => 0), .inl (G.1, 10, .inl fun _ => 0), .inl (G.1, 10, .inl fun _ => 0), .inl (G.1, 119, .inl fun _ => 0), .inr (4, [.int 0, .ref (b + 40), .ref (b + 41), .ref (b + 42), .int 0, .ref (b + 43), .ref (b + 44)]), .inl (G.1, 3, .inl fun _ => 0), .inl (G.1, 3, .inl fun _ => 0), .inl (G.1, 3, .inl fun _ => 0), .inl (G.1, 8, .inl fun _ => 0), .inl (G.1, 8, .inl fun _ => 0), .inr (3, [.int 0, .ref (b + 46), .ref (b + 47), .ref (b + 48), .ref (b + 49), .ref (b + 50)]), .inl (G.1, 64, .inl fun _ => 0), .inl (G.1, 64, .inl fun _ => 0), .inl (G.1, 3, .inl fun _ => 0), .inl (G.1, 3, .inl fun _ => 0), .inl (G.2.2, 64, .inr (.inl fun _ => 0)), .inr (8, [.ref (b + 29), .ref (b + 52), .int 0, .ref (b + 53), .ref (b + 54), .int 0, .int 0, .int 0]), .inl (G.1, 7, .inl fun _ => 0), .inl (G.1, 8, .inl fun _ => 0), .inl (G.1, 8, .inl fun _ => 0), .inr (8, [.ref (b + 29), .ref (b + 56), .int 0, .ref (b + 57), .ref (b + 58), .int 0, .int 0, .int 0]), .inl (G.1, 7, .inl fun _ => 0), .inl (G.1, 8, .inl fun _ => 0), .inl (G.1, 8, .inl fun _ => 0), .inr (8, [.ref (b + 29), .ref (b + 60), .int 0, .ref (b + 61), .ref (b + 62), .int 0, .int 0, .int 0]), .inl (G.1, 7, .inl fun _ => 0), .inl (G.1, 8, .inl fun _ => 0), .inl (G.1, 8, .inl fun _ => 0), .inr (5, [.int 0, .int 0, .int 0, .int 0, .int 0, .int 0, .int 0, .int 0, .ref (b + 64)]), .inl (G.2.2, 7, .inr (.inl fun _ => 0)), .inr (6, [.int 0, .int 0, .int 0, .int 0, .int 0, .int 0, .int 0]), .inr (1, [.int 0, .int (-1), .ref (b + 67), .ref (b + 68), .ref (b + 69), .ref (b + 70), .ref (b + 71)]), .inl (G.1, 24, .inl fun _ => 0), .inl (G.1, 24, .inl fun _ => 0), .inl (G.1, 24, .inl fun _ => 0), .inl (G.1, 24, .inl fun _ => 0), .inl (G.2.1, 24, .inl fun _ => 0), .inr (2, [.int 0, .int 0, .ref (b + 73)]), .inl (G.1, 160, .inl fun _ => 0), .inl (G.1, 600, .inl fun _ => 0)]
abbrev rmX10 : Room := { frames := 4, cells := 74, slots := 4698, locals := 160 }
set_option maxRecDepth 20000 in
set_option maxHeartbeats 4000000 in
theorem qX10 {ρ : Nat → Nat → Nat} {D : va_G} {G : ClassId × ClassId × ClassId} {b : Nat} : RC ρ D G rmX10 mX10_init b (HC D b (VX10 G b)) 0 0 0 [.ref b] [] [.inr (10, [.null, .null, .null, .null, .null, .null, .null, .null, .null, .null, .int 0, .int 0, .int 0])] := by
  refine rc_aload (i := 0) (j := 0) dX10_init_0 rfl rfl ?_
  refine rc_obj lX10_3 i_objInit c_objInit dX10_init_1 ⟨Nat.le_of_ble_eq_true rfl, Nat.le_of_ble_eq_true rfl⟩ ?_
  refine rc_aload (i := 0) (j := 0) dX10_init_4 rfl rfl ?_
  refine rc_new (ci := 7) (x := b + 1) (fs := [.null, .null, .int 0, .int 0, .int 0, .int 0, .int 0, .int 0, .int 0, .int 0]) rfl tyX7 rfl hX7 tyX7_ok qX10_9 tX7 n_RX7 defX7 dX10_init_5 (by decide) ?_
  refine rc_dup dX10_init_8 ?_
  refine rc_callN (host := "SidePonds") (M' := mX7_init) (rm' := rmX7) (x := b + 1) (As := []) rfl rfl kX7_init i_X7_init (List.mem_of_getElem? (i := 0) rfl) dX10_init_9 rfl (Nat.le_of_ble_eq_true rfl) rfl rfl rfl (Nat.le_of_ble_eq_true rfl) ⟨Nat.le_of_ble_eq_true rfl, Nat.le_of_ble_eq_true rfl⟩ ⟨Nat.le_of_ble_eq_true rfl, Nat.le_of_ble_eq_true rfl⟩ (qX7) ?_
  refine rc_put (i := 0) (k := 0) (fs' := [.ref (b + 1), .null, .null, .null, .null, .null, .null, .null, .null, .null, .int 0, .int 0, .int 0]) (V' := [.inr (10, [.ref (b + 1), .null, .null, .null, .null, .null, .null, .null, .null, .null, .int 0, .int 0, .int 0]), .inr (7, [.ref (b + 2), .ref (b + 7), .int 0, .int (-1), .int 0, .int 0, .int 0, .int 0, .int 0, .int 0]), .inr (9, [.int 0, .ref (b + 3), .ref (b + 4), .ref (b + 5), .ref (b + 6), .int 0, .int 0]), .inl (G.1, 700, .inl fun _ => 0), .inl (G.1, 701, .inl fun _ => 0), .inl (G.1, 701, .inl fun _ => 0), .inl (G.1, 701, .inl fun _ => 0), .inr (0, [.int 0, .ref (b + 8), .ref (b + 9), .ref (b + 10), .ref (b + 11), .ref (b + 12), .int 0, .ref (b + 13), .ref (b + 14), .ref (b + 15), .int 0, .ref (b + 16), .int 0, .int 0, .ref (b + 17), .ref (b + 23)]), .inl (G.1, 7, .inl fun _ => 0), .inl (G.1, 7, .inl fun _ => 0), .inl (G.1, 7, .inl fun _ => 0), .inl (G.1, 7, .inl fun _ => 0), .inl (G.1, 7, .inl fun _ => 0), .inl (G.1, 10, .inl fun _ => 0), .inl (G.1, 10, .inl fun _ => 0), .inl (G.1, 10, .inl fun _ => 0), .inl (G.1, 119, .inl fun _ => 0), .inr (4, [.int 0, .ref (b + 18), .ref (b + 19), .ref (b + 20), .int 0, .ref (b + 21), .ref (b + 22)]), .inl (G.1, 3, .inl fun _ => 0), .inl (G.1, 3, .inl fun _ => 0), .inl (G.1, 3, .inl fun _ => 0), .inl (G.1, 8, .inl fun _ => 0), .inl (G.1, 8, .inl fun _ => 0), .inr (3, [.int 0, .ref (b + 24), .ref (b + 25), .ref (b + 26), .ref (b + 27), .ref (b + 28)]), .inl (G.1, 64, .inl fun _ => 0), .inl (G.1, 64, .inl fun _ => 0), .inl (G.1, 3, .inl fun _ => 0), .inl (G.1, 3, .inl fun _ => 0), .inl (G.2.2, 64, .inr (.inl fun _ => 0))]) rfl hX10 tyX10_ok nmX10 rfl rfl (by decide) rfl rfl fX10_12 rfl rfl rfl (Nat.le_of_ble_eq_true rfl) rfl rfl dX10_init_12 ?_
  refine rc_aload (i := 0) (j := 0) dX10_init_15 rfl rfl ?_
  refine rc_new (ci := 0) (x := b + 29) (fs := [.int 0, .null, .null, .null, .null, .null, .int 0, .null, .null, .null, .int 0, .null, .int 0, .int 0, .null, .null]) rfl tyX0 rfl hX0 tyX0_ok qX10_18 tX0 n_RX0 defX0 dX10_init_16 (by decide) ?_
  refine rc_dup dX10_init_19 ?_
  refine rc_callN (host := "SidePonds") (M' := mX0_init) (rm' := rmX0) (x := b + 29) (As := []) rfl rfl kX0_init i_X0_init (List.mem_of_getElem? (i := 5) rfl) dX10_init_20 rfl (Nat.le_of_ble_eq_true rfl) rfl rfl rfl (Nat.le_of_ble_eq_true rfl) ⟨Nat.le_of_ble_eq_true rfl, Nat.le_of_ble_eq_true rfl⟩ ⟨Nat.le_of_ble_eq_true rfl, Nat.le_of_ble_eq_true rfl⟩ (qX0) ?_
  refine rc_put (i := 0) (k := 9) (fs' := [.ref (b + 1), .null, .null, .null, .null, .null, .null, .null, .null, .ref (b + 29), .int 0, .int 0, .int 0]) (V' := [.inr (10, [.ref (b + 1), .null, .null, .null, .null, .null, .null, .null, .null, .ref (b + 29), .int 0, .int 0, .int 0]), .inr (7, [.ref (b + 2), .ref (b + 7), .int 0, .int (-1), .int 0, .int 0, .int 0, .int 0, .int 0, .int 0]), .inr (9, [.int 0, .ref (b + 3), .ref (b + 4), .ref (b + 5), .ref (b + 6), .int 0, .int 0]), .inl (G.1, 700, .inl fun _ => 0), .inl (G.1, 701, .inl fun _ => 0), .inl (G.1, 701, .inl fun _ => 0), .inl (G.1, 701, .inl fun _ => 0), .inr (0, [.int 0, .ref (b + 8), .ref (b + 9), .ref (b + 10), .ref (b + 11), .ref (b + 12), .int 0, .ref (b + 13), .ref (b + 14), .ref (b + 15), .int 0, .ref (b + 16), .int 0, .int 0, .ref (b + 17), .ref (b + 23)]), .inl (G.1, 7, .inl fun _ => 0), .inl (G.1, 7, .inl fun _ => 0), .inl (G.1, 7, .inl fun _ => 0), .inl (G.1, 7, .inl fun _ => 0), .inl (G.1, 7, .inl fun _ => 0), .inl (G.1, 10, .inl fun _ => 0), .inl (G.1, 10, .inl fun _ => 0), .inl (G.1, 10, .inl fun _ => 0), .inl (G.1, 119, .inl fun _ => 0), .inr (4, [.int 0, .ref (b + 18), .ref (b + 19), .ref (b + 20), .int 0, .ref (b + 21), .ref (b + 22)]), .inl (G.1, 3, .inl fun _ => 0), .inl (G.1, 3, .inl fun _ => 0), .inl (G.1, 3, .inl fun _ => 0), .inl (G.1, 8, .inl fun _ => 0), .inl (G.1, 8, .inl fun _ => 0), .inr (3, [.int 0, .ref (b + 24), .ref (b + 25), .ref (b + 26), .ref (b + 27), .ref (b + 28)]), .inl (G.1, 64, .inl fun _ => 0), .inl (G.1, 64, .inl fun _ => 0), .inl (G.1, 3, .inl fun _ => 0), .inl (G.1, 3, .inl fun _ => 0), .inl (G.2.2, 64, .inr (.inl fun _ => 0)), .inr (0, [.int 0, .ref (b + 30), .ref (b + 31), .ref (b + 32), .ref (b + 33), .ref (b + 34), .int 0, .ref (b + 35), .ref (b + 36), .ref (b + 37), .int 0, .ref (b + 38), .int 0, .int 0, .ref (b + 39), .ref (b + 45)]), .inl (G.1, 7, .inl fun _ => 0), .inl (G.1, 7, .inl fun _ => 0), .inl (G.1, 7, .inl fun _ => 0), .inl (G.1, 7, .inl fun _ => 0), .inl (G.1, 7, .inl fun _ => 0), .inl (G.1, 10, .inl fun _ => 0), .inl (G.1, 10, .inl fun _ => 0), .inl (G.1, 10, .inl fun _ => 0), .inl (G.1, 119, .inl fun _ => 0), .inr (4, [.int 0, .ref (b + 40), .ref (b + 41), .ref (b + 42), .int 0, .ref (b + 43), .ref (b + 44)]), .inl (G.1, 3, .inl fun _ => 0), .inl (G.1, 3, .inl fun _ => 0), .inl (G.1, 3, .inl fun _ => 0), .inl (G.1, 8, .inl fun _ => 0), .inl (G.1, 8, .inl fun _ => 0), .inr (3, [.int 0, .ref (b + 46), .ref (b + 47), .ref (b + 48), .ref (b + 49), .ref (b + 50)]), .inl (G.1, 64, .inl fun _ => 0), .inl (G.1, 64, .inl fun _ => 0), .inl (G.1, 3, .inl fun _ => 0), .inl (G.1, 3, .inl fun _ => 0), .inl (G.2.2, 64, .inr (.inl fun _ => 0))]) rfl hX10 tyX10_ok nmX10 rfl rfl (by decide) rfl rfl fX10_21 rfl rfl rfl (Nat.le_of_ble_eq_true rfl) rfl rfl dX10_init_23 ?_
  refine rc_aload (i := 0) (j := 0) dX10_init_26 rfl rfl ?_
  refine rc_new (ci := 8) (x := b + 51) (fs := [.null, .null, .int 0, .null, .null, .int 0, .int 0, .int 0]) rfl tyX8 rfl hX8 tyX8_ok qX10_25 tX8 n_RX8 defX8 dX10_init_27 (by decide) ?_
  refine rc_dup dX10_init_30 ?_
  refine rc_aload (i := 0) (j := 0) dX10_init_31 rfl rfl ?_
  refine rc_get (i := 0) (k := 9) (v := .ref (b + 29)) rfl hX10 rfl rfl (by decide) rfl fX10_21 rfl dX10_init_32 ?_
  refine rc_call (M' := mX8_init) (rm' := rmX8) (x := b + 51) (As := [.ref (b + 29)]) rfl rfl kX8_init i_X8_init lX10_27 dX10_init_35 rfl (Nat.le_of_ble_eq_true rfl) rfl rfl rfl (Nat.le_of_ble_eq_true rfl) ⟨Nat.le_of_ble_eq_true rfl, Nat.le_of_ble_eq_true rfl⟩ ⟨Nat.le_of_ble_eq_true rfl, Nat.le_of_ble_eq_true rfl⟩ (qX8 (x1 := b + 29)) ?_
  refine rc_put (i := 0) (k := 1) (fs' := [.ref (b + 1), .ref (b + 51), .null, .null, .null, .null, .null, .null, .null, .ref (b + 29), .int 0, .int 0, .int 0]) (V' := [.inr (10, [.ref (b + 1), .ref (b + 51), .null, .null, .null, .null, .null, .null, .null, .ref (b + 29), .int 0, .int 0, .int 0]), .inr (7, [.ref (b + 2), .ref (b + 7), .int 0, .int (-1), .int 0, .int 0, .int 0, .int 0, .int 0, .int 0]), .inr (9, [.int 0, .ref (b + 3), .ref (b + 4), .ref (b + 5), .ref (b + 6), .int 0, .int 0]), .inl (G.1, 700, .inl fun _ => 0), .inl (G.1, 701, .inl fun _ => 0), .inl (G.1, 701, .inl fun _ => 0), .inl (G.1, 701, .inl fun _ => 0), .inr (0, [.int 0, .ref (b + 8), .ref (b + 9), .ref (b + 10), .ref (b + 11), .ref (b + 12), .int 0, .ref (b + 13), .ref (b + 14), .ref (b + 15), .int 0, .ref (b + 16), .int 0, .int 0, .ref (b + 17), .ref (b + 23)]), .inl (G.1, 7, .inl fun _ => 0), .inl (G.1, 7, .inl fun _ => 0), .inl (G.1, 7, .inl fun _ => 0), .inl (G.1, 7, .inl fun _ => 0), .inl (G.1, 7, .inl fun _ => 0), .inl (G.1, 10, .inl fun _ => 0), .inl (G.1, 10, .inl fun _ => 0), .inl (G.1, 10, .inl fun _ => 0), .inl (G.1, 119, .inl fun _ => 0), .inr (4, [.int 0, .ref (b + 18), .ref (b + 19), .ref (b + 20), .int 0, .ref (b + 21), .ref (b + 22)]), .inl (G.1, 3, .inl fun _ => 0), .inl (G.1, 3, .inl fun _ => 0), .inl (G.1, 3, .inl fun _ => 0), .inl (G.1, 8, .inl fun _ => 0), .inl (G.1, 8, .inl fun _ => 0), .inr (3, [.int 0, .ref (b + 24), .ref (b + 25), .ref (b + 26), .ref (b + 27), .ref (b + 28)]), .inl (G.1, 64, .inl fun _ => 0), .inl (G.1, 64, .inl fun _ => 0), .inl (G.1, 3, .inl fun _ => 0), .inl (G.1, 3, .inl fun _ => 0), .inl (G.2.2, 64, .inr (.inl fun _ => 0)), .inr (0, [.int 0, .ref (b + 30), .ref (b + 31), .ref (b + 32), .ref (b + 33), .ref (b + 34), .int 0, .ref (b + 35), .ref (b + 36), .ref (b + 37), .int 0, .ref (b + 38), .int 0, .int 0, .ref (b + 39), .ref (b + 45)]), .inl (G.1, 7, .inl fun _ => 0), .inl (G.1, 7, .inl fun _ => 0), .inl (G.1, 7, .inl fun _ => 0), .inl (G.1, 7, .inl fun _ => 0), .inl (G.1, 7, .inl fun _ => 0), .inl (G.1, 10, .inl fun _ => 0), .inl (G.1, 10, .inl fun _ => 0), .inl (G.1, 10, .inl fun _ => 0), .inl (G.1, 119, .inl fun _ => 0), .inr (4, [.int 0, .ref (b + 40), .ref (b + 41), .ref (b + 42), .int 0, .ref (b + 43), .ref (b + 44)]), .inl (G.1, 3, .inl fun _ => 0), .inl (G.1, 3, .inl fun _ => 0), .inl (G.1, 3, .inl fun _ => 0), .inl (G.1, 8, .inl fun _ => 0), .inl (G.1, 8, .inl fun _ => 0), .inr (3, [.int 0, .ref (b + 46), .ref (b + 47), .ref (b + 48), .ref (b + 49), .ref (b + 50)]), .inl (G.1, 64, .inl fun _ => 0), .inl (G.1, 64, .inl fun _ => 0), .inl (G.1, 3, .inl fun _ => 0), .inl (G.1, 3, .inl fun _ => 0), .inl (G.2.2, 64, .inr (.inl fun _ => 0)), .inr (8, [.ref (b + 29), .ref (b + 52), .int 0, .ref (b + 53), .ref (b + 54), .int 0, .int 0, .int 0]), .inl (G.1, 7, .inl fun _ => 0), .inl (G.1, 8, .inl fun _ => 0), .inl (G.1, 8, .inl fun _ => 0)]) rfl hX10 tyX10_ok nmX10 rfl rfl (by decide) rfl rfl fX10_30 rfl rfl rfl (Nat.le_of_ble_eq_true rfl) rfl rfl dX10_init_38 ?_
  refine rc_aload (i := 0) (j := 0) dX10_init_41 rfl rfl ?_
  refine rc_new (ci := 8) (x := b + 55) (fs := [.null, .null, .int 0, .null, .null, .int 0, .int 0, .int 0]) rfl tyX8 rfl hX8 tyX8_ok qX10_25 tX8 n_RX8 defX8 dX10_init_42 (by decide) ?_
  refine rc_dup dX10_init_45 ?_
  refine rc_aload (i := 0) (j := 0) dX10_init_46 rfl rfl ?_
  refine rc_get (i := 0) (k := 9) (v := .ref (b + 29)) rfl hX10 rfl rfl (by decide) rfl fX10_21 rfl dX10_init_47 ?_
  refine rc_call (M' := mX8_init) (rm' := rmX8) (x := b + 55) (As := [.ref (b + 29)]) rfl rfl kX8_init i_X8_init lX10_27 dX10_init_50 rfl (Nat.le_of_ble_eq_true rfl) rfl rfl rfl (Nat.le_of_ble_eq_true rfl) ⟨Nat.le_of_ble_eq_true rfl, Nat.le_of_ble_eq_true rfl⟩ ⟨Nat.le_of_ble_eq_true rfl, Nat.le_of_ble_eq_true rfl⟩ (qX8 (x1 := b + 29)) ?_
  refine rc_put (i := 0) (k := 2) (fs' := [.ref (b + 1), .ref (b + 51), .ref (b + 55), .null, .null, .null, .null, .null, .null, .ref (b + 29), .int 0, .int 0, .int 0]) (V' := [.inr (10, [.ref (b + 1), .ref (b + 51), .ref (b + 55), .null, .null, .null, .null, .null, .null, .ref (b + 29), .int 0, .int 0, .int 0]), .inr (7, [.ref (b + 2), .ref (b + 7), .int 0, .int (-1), .int 0, .int 0, .int 0, .int 0, .int 0, .int 0]), .inr (9, [.int 0, .ref (b + 3), .ref (b + 4), .ref (b + 5), .ref (b + 6), .int 0, .int 0]), .inl (G.1, 700, .inl fun _ => 0), .inl (G.1, 701, .inl fun _ => 0), .inl (G.1, 701, .inl fun _ => 0), .inl (G.1, 701, .inl fun _ => 0), .inr (0, [.int 0, .ref (b + 8), .ref (b + 9), .ref (b + 10), .ref (b + 11), .ref (b + 12), .int 0, .ref (b + 13), .ref (b + 14), .ref (b + 15), .int 0, .ref (b + 16), .int 0, .int 0, .ref (b + 17), .ref (b + 23)]), .inl (G.1, 7, .inl fun _ => 0), .inl (G.1, 7, .inl fun _ => 0), .inl (G.1, 7, .inl fun _ => 0), .inl (G.1, 7, .inl fun _ => 0), .inl (G.1, 7, .inl fun _ => 0), .inl (G.1, 10, .inl fun _ => 0), .inl (G.1, 10, .inl fun _ => 0), .inl (G.1, 10, .inl fun _ => 0), .inl (G.1, 119, .inl fun _ => 0), .inr (4, [.int 0, .ref (b + 18), .ref (b + 19), .ref (b + 20), .int 0, .ref (b + 21), .ref (b + 22)]), .inl (G.1, 3, .inl fun _ => 0), .inl (G.1, 3, .inl fun _ => 0), .inl (G.1, 3, .inl fun _ => 0), .inl (G.1, 8, .inl fun _ => 0), .inl (G.1, 8, .inl fun _ => 0), .inr (3, [.int 0, .ref (b + 24), .ref (b + 25), .ref (b + 26), .ref (b + 27), .ref (b + 28)]), .inl (G.1, 64, .inl fun _ => 0), .inl (G.1, 64, .inl fun _ => 0), .inl (G.1, 3, .inl fun _ => 0), .inl (G.1, 3, .inl fun _ => 0), .inl (G.2.2, 64, .inr (.inl fun _ => 0)), .inr (0, [.int 0, .ref (b + 30), .ref (b + 31), .ref (b + 32), .ref (b + 33), .ref (b + 34), .int 0, .ref (b + 35), .ref (b + 36), .ref (b + 37), .int 0, .ref (b + 38), .int 0, .int 0, .ref (b + 39), .ref (b + 45)]), .inl (G.1, 7, .inl fun _ => 0), .inl (G.1, 7, .inl fun _ => 0), .inl (G.1, 7, .inl fun _ => 0), .inl (G.1, 7, .inl fun _ => 0), .inl (G.1, 7, .inl fun _ => 0), .inl (G.1, 10, .inl fun _ => 0), .inl (G.1, 10, .inl fun _ => 0), .inl (G.1, 10, .inl fun _ => 0), .inl (G.1, 119, .inl fun _ => 0), .inr (4, [.int 0, .ref (b + 40), .ref (b + 41), .ref (b + 42), .int 0, .ref (b + 43), .ref (b + 44)]), .inl (G.1, 3, .inl fun _ => 0), .inl (G.1, 3, .inl fun _ => 0), .inl (G.1, 3, .inl fun _ => 0), .inl (G.1, 8, .inl fun _ => 0), .inl (G.1, 8, .inl fun _ => 0), .inr (3, [.int 0, .ref (b + 46), .ref (b + 47), .ref (b + 48), .ref (b + 49), .ref (b + 50)]), .inl (G.1, 64, .inl fun _ => 0), .inl (G.1, 64, .inl fun _ => 0), .inl (G.1, 3, .inl fun _ => 0), .inl (G.1, 3, .inl fun _ => 0), .inl (G.2.2, 64, .inr (.inl fun _ => 0)), .inr (8, [.ref (b + 29), .ref (b + 52), .int 0, .ref (b + 53), .ref (b + 54), .int 0, .int 0, .int 0]), .inl (G.1, 7, .inl fun _ => 0), .inl (G.1, 8, .inl fun _ => 0), .inl (G.1, 8, .inl fun _ => 0), .inr (8, [.ref (b + 29), .ref (b + 56), .int 0, .ref (b + 57), .ref (b + 58), .int 0, .int 0, .int 0]), .inl (G.1, 7, .inl fun _ => 0), .inl (G.1, 8, .inl fun _ => 0), .inl (G.1, 8, .inl fun _ => 0)]) rfl hX10 tyX10_ok nmX10 rfl rfl (by decide) rfl rfl fX10_34 rfl rfl rfl (Nat.le_of_ble_eq_true rfl) rfl rfl dX10_init_53 ?_
  refine rc_aload (i := 0) (j := 0) dX10_init_56 rfl rfl ?_
  refine rc_new (ci := 8) (x := b + 59) (fs := [.null, .null, .int 0, .null, .null, .int 0, .int 0, .int 0]) rfl tyX8 rfl hX8 tyX8_ok qX10_25 tX8 n_RX8 defX8 dX10_init_57 (by decide) ?_
  refine rc_dup dX10_init_60 ?_
  refine rc_aload (i := 0) (j := 0) dX10_init_61 rfl rfl ?_
  refine rc_get (i := 0) (k := 9) (v := .ref (b + 29)) rfl hX10 rfl rfl (by decide) rfl fX10_21 rfl dX10_init_62 ?_
  refine rc_call (M' := mX8_init) (rm' := rmX8) (x := b + 59) (As := [.ref (b + 29)]) rfl rfl kX8_init i_X8_init lX10_27 dX10_init_65 rfl (Nat.le_of_ble_eq_true rfl) rfl rfl rfl (Nat.le_of_ble_eq_true rfl) ⟨Nat.le_of_ble_eq_true rfl, Nat.le_of_ble_eq_true rfl⟩ ⟨Nat.le_of_ble_eq_true rfl, Nat.le_of_ble_eq_true rfl⟩ (qX8 (x1 := b + 29)) ?_
  refine rc_put (i := 0) (k := 3) (fs' := [.ref (b + 1), .ref (b + 51), .ref (b + 55), .ref (b + 59), .null, .null, .null, .null, .null, .ref (b + 29), .int 0, .int 0, .int 0]) (V' := [.inr (10, [.ref (b + 1), .ref (b + 51), .ref (b + 55), .ref (b + 59), .null, .null, .null, .null, .null, .ref (b + 29), .int 0, .int 0, .int 0]), .inr (7, [.ref (b + 2), .ref (b + 7), .int 0, .int (-1), .int 0, .int 0, .int 0, .int 0, .int 0, .int 0]), .inr (9, [.int 0, .ref (b + 3), .ref (b + 4), .ref (b + 5), .ref (b + 6), .int 0, .int 0]), .inl (G.1, 700, .inl fun _ => 0), .inl (G.1, 701, .inl fun _ => 0), .inl (G.1, 701, .inl fun _ => 0), .inl (G.1, 701, .inl fun _ => 0), .inr (0, [.int 0, .ref (b + 8), .ref (b + 9), .ref (b + 10), .ref (b + 11), .ref (b + 12), .int 0, .ref (b + 13), .ref (b + 14), .ref (b + 15), .int 0, .ref (b + 16), .int 0, .int 0, .ref (b + 17), .ref (b + 23)]), .inl (G.1, 7, .inl fun _ => 0), .inl (G.1, 7, .inl fun _ => 0), .inl (G.1, 7, .inl fun _ => 0), .inl (G.1, 7, .inl fun _ => 0), .inl (G.1, 7, .inl fun _ => 0), .inl (G.1, 10, .inl fun _ => 0), .inl (G.1, 10, .inl fun _ => 0), .inl (G.1, 10, .inl fun _ => 0), .inl (G.1, 119, .inl fun _ => 0), .inr (4, [.int 0, .ref (b + 18), .ref (b + 19), .ref (b + 20), .int 0, .ref (b + 21), .ref (b + 22)]), .inl (G.1, 3, .inl fun _ => 0), .inl (G.1, 3, .inl fun _ => 0), .inl (G.1, 3, .inl fun _ => 0), .inl (G.1, 8, .inl fun _ => 0), .inl (G.1, 8, .inl fun _ => 0), .inr (3, [.int 0, .ref (b + 24), .ref (b + 25), .ref (b + 26), .ref (b + 27), .ref (b + 28)]), .inl (G.1, 64, .inl fun _ => 0), .inl (G.1, 64, .inl fun _ => 0), .inl (G.1, 3, .inl fun _ => 0), .inl (G.1, 3, .inl fun _ => 0), .inl (G.2.2, 64, .inr (.inl fun _ => 0)), .inr (0, [.int 0, .ref (b + 30), .ref (b + 31), .ref (b + 32), .ref (b + 33), .ref (b + 34), .int 0, .ref (b + 35), .ref (b + 36), .ref (b + 37), .int 0, .ref (b + 38), .int 0, .int 0, .ref (b + 39), .ref (b + 45)]), .inl (G.1, 7, .inl fun _ => 0), .inl (G.1, 7, .inl fun _ => 0), .inl (G.1, 7, .inl fun _ => 0), .inl (G.1, 7, .inl fun _ => 0), .inl (G.1, 7, .inl fun _ => 0), .inl (G.1, 10, .inl fun _ => 0), .inl (G.1, 10, .inl fun _ => 0), .inl (G.1, 10, .inl fun _ => 0), .inl (G.1, 119, .inl fun _ => 0), .inr (4, [.int 0, .ref (b + 40), .ref (b + 41), .ref (b + 42), .int 0, .ref (b + 43), .ref (b + 44)]), .inl (G.1, 3, .inl fun _ => 0), .inl (G.1, 3, .inl fun _ => 0), .inl (G.1, 3, .inl fun _ => 0), .inl (G.1, 8, .inl fun _ => 0), .inl (G.1, 8, .inl fun _ => 0), .inr (3, [.int 0, .ref (b + 46), .ref (b + 47), .ref (b + 48), .ref (b + 49), .ref (b + 50)]), .inl (G.1, 64, .inl fun _ => 0), .inl (G.1, 64, .inl fun _ => 0), .inl (G.1, 3, .inl fun _ => 0), .inl (G.1, 3, .inl fun _ => 0), .inl (G.2.2, 64, .inr (.inl fun _ => 0)), .inr (8, [.ref (b + 29), .ref (b + 52), .int 0, .ref (b + 53), .ref (b + 54), .int 0, .int 0, .int 0]), .inl (G.1, 7, .inl fun _ => 0), .inl (G.1, 8, .inl fun _ => 0), .inl (G.1, 8, .inl fun _ => 0), .inr (8, [.ref (b + 29), .ref (b + 56), .int 0, .ref (b + 57), .ref (b + 58), .int 0, .int 0, .int 0]), .inl (G.1, 7, .inl fun _ => 0), .inl (G.1, 8, .inl fun _ => 0), .inl (G.1, 8, .inl fun _ => 0), .inr (8, [.ref (b + 29), .ref (b + 60), .int 0, .ref (b + 61), .ref (b + 62), .int 0, .int 0, .int 0]), .inl (G.1, 7, .inl fun _ => 0), .inl (G.1, 8, .inl fun _ => 0), .inl (G.1, 8, .inl fun _ => 0)]) rfl hX10 tyX10_ok nmX10 rfl rfl (by decide) rfl rfl fX10_37 rfl rfl rfl (Nat.le_of_ble_eq_true rfl) rfl rfl dX10_init_68 ?_
  refine rc_aload (i := 0) (j := 0) dX10_init_71 rfl rfl ?_
  refine rc_new (ci := 5) (x := b + 63) (fs := [.int 0, .int 0, .int 0, .int 0, .int 0, .int 0, .int 0, .int 0, .null]) rfl tyX5 rfl hX5 tyX5_ok qX10_40 tX5 n_RX5 defX5 dX10_init_72 (by decide) ?_
  refine rc_dup dX10_init_75 ?_
  refine rc_callN (host := "SidePonds") (M' := mX5_init) (rm' := rmX5) (x := b + 63) (As := []) rfl rfl kX5_init i_X5_init (List.mem_of_getElem? (i := 6) rfl) dX10_init_76 rfl (Nat.le_of_ble_eq_true rfl) rfl rfl rfl (Nat.le_of_ble_eq_true rfl) ⟨Nat.le_of_ble_eq_true rfl, Nat.le_of_ble_eq_true rfl⟩ ⟨Nat.le_of_ble_eq_true rfl, Nat.le_of_ble_eq_true rfl⟩ (qX5) ?_
  refine rc_put (i := 0) (k := 4) (fs' := [.ref (b + 1), .ref (b + 51), .ref (b + 55), .ref (b + 59), .ref (b + 63), .null, .null, .null, .null, .ref (b + 29), .int 0, .int 0, .int 0]) (V' := [.inr (10, [.ref (b + 1), .ref (b + 51), .ref (b + 55), .ref (b + 59), .ref (b + 63), .null, .null, .null, .null, .ref (b + 29), .int 0, .int 0, .int 0]), .inr (7, [.ref (b + 2), .ref (b + 7), .int 0, .int (-1), .int 0, .int 0, .int 0, .int 0, .int 0, .int 0]), .inr (9, [.int 0, .ref (b + 3), .ref (b + 4), .ref (b + 5), .ref (b + 6), .int 0, .int 0]), .inl (G.1, 700, .inl fun _ => 0), .inl (G.1, 701, .inl fun _ => 0), .inl (G.1, 701, .inl fun _ => 0), .inl (G.1, 701, .inl fun _ => 0), .inr (0, [.int 0, .ref (b + 8), .ref (b + 9), .ref (b + 10), .ref (b + 11), .ref (b + 12), .int 0, .ref (b + 13), .ref (b + 14), .ref (b + 15), .int 0, .ref (b + 16), .int 0, .int 0, .ref (b + 17), .ref (b + 23)]), .inl (G.1, 7, .inl fun _ => 0), .inl (G.1, 7, .inl fun _ => 0), .inl (G.1, 7, .inl fun _ => 0), .inl (G.1, 7, .inl fun _ => 0), .inl (G.1, 7, .inl fun _ => 0), .inl (G.1, 10, .inl fun _ => 0), .inl (G.1, 10, .inl fun _ => 0), .inl (G.1, 10, .inl fun _ => 0), .inl (G.1, 119, .inl fun _ => 0), .inr (4, [.int 0, .ref (b + 18), .ref (b + 19), .ref (b + 20), .int 0, .ref (b + 21), .ref (b + 22)]), .inl (G.1, 3, .inl fun _ => 0), .inl (G.1, 3, .inl fun _ => 0), .inl (G.1, 3, .inl fun _ => 0), .inl (G.1, 8, .inl fun _ => 0), .inl (G.1, 8, .inl fun _ => 0), .inr (3, [.int 0, .ref (b + 24), .ref (b + 25), .ref (b + 26), .ref (b + 27), .ref (b + 28)]), .inl (G.1, 64, .inl fun _ => 0), .inl (G.1, 64, .inl fun _ => 0), .inl (G.1, 3, .inl fun _ => 0), .inl (G.1, 3, .inl fun _ => 0), .inl (G.2.2, 64, .inr (.inl fun _ => 0)), .inr (0, [.int 0, .ref (b + 30), .ref (b + 31), .ref (b + 32), .ref (b + 33), .ref (b + 34), .int 0, .ref (b + 35), .ref (b + 36), .ref (b + 37), .int 0, .ref (b + 38), .int 0, .int 0, .ref (b + 39), .ref (b + 45)]), .inl (G.1, 7, .inl fun _ => 0), .inl (G.1, 7, .inl fun _ => 0), .inl (G.1, 7, .inl fun _ => 0), .inl (G.1, 7, .inl fun _ => 0), .inl (G.1, 7, .inl fun _ => 0), .inl (G.1, 10, .inl fun _ => 0), .inl (G.1, 10, .inl fun _ => 0), .inl (G.1, 10, .inl fun _ => 0), .inl (G.1, 119, .inl fun _ => 0), .inr (4, [.int 0, .ref (b + 40), .ref (b + 41), .ref (b + 42), .int 0, .ref (b + 43), .ref (b + 44)]), .inl (G.1, 3, .inl fun _ => 0), .inl (G.1, 3, .inl fun _ => 0), .inl (G.1, 3, .inl fun _ => 0), .inl (G.1, 8, .inl fun _ => 0), .inl (G.1, 8, .inl fun _ => 0), .inr (3, [.int 0, .ref (b + 46), .ref (b + 47), .ref (b + 48), .ref (b + 49), .ref (b + 50)]), .inl (G.1, 64, .inl fun _ => 0), .inl (G.1, 64, .inl fun _ => 0), .inl (G.1, 3, .inl fun _ => 0), .inl (G.1, 3, .inl fun _ => 0), .inl (G.2.2, 64, .inr (.inl fun _ => 0)), .inr (8, [.ref (b + 29), .ref (b + 52), .int 0, .ref (b + 53), .ref (b + 54), .int 0, .int 0, .int 0]), .inl (G.1, 7, .inl fun _ => 0), .inl (G.1, 8, .inl fun _ => 0), .inl (G.1, 8, .inl fun _ => 0), .inr (8, [.ref (b + 29), .ref (b + 56), .int 0, .ref (b + 57), .ref (b + 58), .int 0, .int 0, .int 0]), .inl (G.1, 7, .inl fun _ => 0), .inl (G.1, 8, .inl fun _ => 0), .inl (G.1, 8, .inl fun _ => 0), .inr (8, [.ref (b + 29), .ref (b + 60), .int 0, .ref (b + 61), .ref (b + 62), .int 0, .int 0, .int 0]), .inl (G.1, 7, .inl fun _ => 0), .inl (G.1, 8, .inl fun _ => 0), .inl (G.1, 8, .inl fun _ => 0), .inr (5, [.int 0, .int 0, .int 0, .int 0, .int 0, .int 0, .int 0, .int 0, .ref (b + 64)]), .inl (G.2.2, 7, .inr (.inl fun _ => 0))]) rfl hX10 tyX10_ok nmX10 rfl rfl (by decide) rfl rfl fX10_43 rfl rfl rfl (Nat.le_of_ble_eq_true rfl) rfl rfl dX10_init_79 ?_
  refine rc_aload (i := 0) (j := 0) dX10_init_82 rfl rfl ?_
  refine rc_new (ci := 6) (x := b + 65) (fs := [.int 0, .int 0, .int 0, .int 0, .int 0, .int 0, .int 0]) rfl tyX6 rfl hX6 tyX6_ok qX10_47 tX6 n_RX6 defX6 dX10_init_83 (by decide) ?_
  refine rc_dup dX10_init_86 ?_
  refine rc_callN (host := "SidePonds") (M' := mX6_init) (rm' := rmX6) (x := b + 65) (As := []) rfl rfl kX6_init i_X6_init (List.mem_of_getElem? (i := 7) rfl) dX10_init_87 rfl (Nat.le_of_ble_eq_true rfl) rfl rfl rfl (Nat.le_of_ble_eq_true rfl) ⟨Nat.le_of_ble_eq_true rfl, Nat.le_of_ble_eq_true rfl⟩ ⟨Nat.le_of_ble_eq_true rfl, Nat.le_of_ble_eq_true rfl⟩ (qX6) ?_
  refine rc_put (i := 0) (k := 5) (fs' := [.ref (b + 1), .ref (b + 51), .ref (b + 55), .ref (b + 59), .ref (b + 63), .ref (b + 65), .null, .null, .null, .ref (b + 29), .int 0, .int 0, .int 0]) (V' := [.inr (10, [.ref (b + 1), .ref (b + 51), .ref (b + 55), .ref (b + 59), .ref (b + 63), .ref (b + 65), .null, .null, .null, .ref (b + 29), .int 0, .int 0, .int 0]), .inr (7, [.ref (b + 2), .ref (b + 7), .int 0, .int (-1), .int 0, .int 0, .int 0, .int 0, .int 0, .int 0]), .inr (9, [.int 0, .ref (b + 3), .ref (b + 4), .ref (b + 5), .ref (b + 6), .int 0, .int 0]), .inl (G.1, 700, .inl fun _ => 0), .inl (G.1, 701, .inl fun _ => 0), .inl (G.1, 701, .inl fun _ => 0), .inl (G.1, 701, .inl fun _ => 0), .inr (0, [.int 0, .ref (b + 8), .ref (b + 9), .ref (b + 10), .ref (b + 11), .ref (b + 12), .int 0, .ref (b + 13), .ref (b + 14), .ref (b + 15), .int 0, .ref (b + 16), .int 0, .int 0, .ref (b + 17), .ref (b + 23)]), .inl (G.1, 7, .inl fun _ => 0), .inl (G.1, 7, .inl fun _ => 0), .inl (G.1, 7, .inl fun _ => 0), .inl (G.1, 7, .inl fun _ => 0), .inl (G.1, 7, .inl fun _ => 0), .inl (G.1, 10, .inl fun _ => 0), .inl (G.1, 10, .inl fun _ => 0), .inl (G.1, 10, .inl fun _ => 0), .inl (G.1, 119, .inl fun _ => 0), .inr (4, [.int 0, .ref (b + 18), .ref (b + 19), .ref (b + 20), .int 0, .ref (b + 21), .ref (b + 22)]), .inl (G.1, 3, .inl fun _ => 0), .inl (G.1, 3, .inl fun _ => 0), .inl (G.1, 3, .inl fun _ => 0), .inl (G.1, 8, .inl fun _ => 0), .inl (G.1, 8, .inl fun _ => 0), .inr (3, [.int 0, .ref (b + 24), .ref (b + 25), .ref (b + 26), .ref (b + 27), .ref (b + 28)]), .inl (G.1, 64, .inl fun _ => 0), .inl (G.1, 64, .inl fun _ => 0), .inl (G.1, 3, .inl fun _ => 0), .inl (G.1, 3, .inl fun _ => 0), .inl (G.2.2, 64, .inr (.inl fun _ => 0)), .inr (0, [.int 0, .ref (b + 30), .ref (b + 31), .ref (b + 32), .ref (b + 33), .ref (b + 34), .int 0, .ref (b + 35), .ref (b + 36), .ref (b + 37), .int 0, .ref (b + 38), .int 0, .int 0, .ref (b + 39), .ref (b + 45)]), .inl (G.1, 7, .inl fun _ => 0), .inl (G.1, 7, .inl fun _ => 0), .inl (G.1, 7, .inl fun _ => 0), .inl (G.1, 7, .inl fun _ => 0), .inl (G.1, 7, .inl fun _ => 0), .inl (G.1, 10, .inl fun _ => 0), .inl (G.1, 10, .inl fun _ => 0), .inl (G.1, 10, .inl fun _ => 0), .inl (G.1, 119, .inl fun _ => 0), .inr (4, [.int 0, .ref (b + 40), .ref (b + 41), .ref (b + 42), .int 0, .ref (b + 43), .ref (b + 44)]), .inl (G.1, 3, .inl fun _ => 0), .inl (G.1, 3, .inl fun _ => 0), .inl (G.1, 3, .inl fun _ => 0), .inl (G.1, 8, .inl fun _ => 0), .inl (G.1, 8, .inl fun _ => 0), .inr (3, [.int 0, .ref (b + 46), .ref (b + 47), .ref (b + 48), .ref (b + 49), .ref (b + 50)]), .inl (G.1, 64, .inl fun _ => 0), .inl (G.1, 64, .inl fun _ => 0), .inl (G.1, 3, .inl fun _ => 0), .inl (G.1, 3, .inl fun _ => 0), .inl (G.2.2, 64, .inr (.inl fun _ => 0)), .inr (8, [.ref (b + 29), .ref (b + 52), .int 0, .ref (b + 53), .ref (b + 54), .int 0, .int 0, .int 0]), .inl (G.1, 7, .inl fun _ => 0), .inl (G.1, 8, .inl fun _ => 0), .inl (G.1, 8, .inl fun _ => 0), .inr (8, [.ref (b + 29), .ref (b + 56), .int 0, .ref (b + 57), .ref (b + 58), .int 0, .int 0, .int 0]), .inl (G.1, 7, .inl fun _ => 0), .inl (G.1, 8, .inl fun _ => 0), .inl (G.1, 8, .inl fun _ => 0), .inr (8, [.ref (b + 29), .ref (b + 60), .int 0, .ref (b + 61), .ref (b + 62), .int 0, .int 0, .int 0]), .inl (G.1, 7, .inl fun _ => 0), .inl (G.1, 8, .inl fun _ => 0), .inl (G.1, 8, .inl fun _ => 0), .inr (5, [.int 0, .int 0, .int 0, .int 0, .int 0, .int 0, .int 0, .int 0, .ref (b + 64)]), .inl (G.2.2, 7, .inr (.inl fun _ => 0)), .inr (6, [.int 0, .int 0, .int 0, .int 0, .int 0, .int 0, .int 0])]) rfl hX10 tyX10_ok nmX10 rfl rfl (by decide) rfl rfl fX10_50 rfl rfl rfl (Nat.le_of_ble_eq_true rfl) rfl rfl dX10_init_90 ?_
  refine rc_aload (i := 0) (j := 0) dX10_init_93 rfl rfl ?_
  refine rc_new (ci := 1) (x := b + 66) (fs := [.int 0, .int 0, .null, .null, .null, .null, .null]) rfl tyX1 rfl hX1 tyX1_ok qX10_54 tX1 n_RX1 defX1 dX10_init_94 (by decide) ?_
  refine rc_dup dX10_init_97 ?_
  refine rc_callN (host := "SidePonds") (M' := mX1_init) (rm' := rmX1) (x := b + 66) (As := []) rfl rfl kX1_init i_X1_init (List.mem_of_getElem? (i := 8) rfl) dX10_init_98 rfl (Nat.le_of_ble_eq_true rfl) rfl rfl rfl (Nat.le_of_ble_eq_true rfl) ⟨Nat.le_of_ble_eq_true rfl, Nat.le_of_ble_eq_true rfl⟩ ⟨Nat.le_of_ble_eq_true rfl, Nat.le_of_ble_eq_true rfl⟩ (qX1) ?_
  refine rc_put (i := 0) (k := 6) (fs' := [.ref (b + 1), .ref (b + 51), .ref (b + 55), .ref (b + 59), .ref (b + 63), .ref (b + 65), .ref (b + 66), .null, .null, .ref (b + 29), .int 0, .int 0, .int 0]) (V' := [.inr (10, [.ref (b + 1), .ref (b + 51), .ref (b + 55), .ref (b + 59), .ref (b + 63), .ref (b + 65), .ref (b + 66), .null, .null, .ref (b + 29), .int 0, .int 0, .int 0]), .inr (7, [.ref (b + 2), .ref (b + 7), .int 0, .int (-1), .int 0, .int 0, .int 0, .int 0, .int 0, .int 0]), .inr (9, [.int 0, .ref (b + 3), .ref (b + 4), .ref (b + 5), .ref (b + 6), .int 0, .int 0]), .inl (G.1, 700, .inl fun _ => 0), .inl (G.1, 701, .inl fun _ => 0), .inl (G.1, 701, .inl fun _ => 0), .inl (G.1, 701, .inl fun _ => 0), .inr (0, [.int 0, .ref (b + 8), .ref (b + 9), .ref (b + 10), .ref (b + 11), .ref (b + 12), .int 0, .ref (b + 13), .ref (b + 14), .ref (b + 15), .int 0, .ref (b + 16), .int 0, .int 0, .ref (b + 17), .ref (b + 23)]), .inl (G.1, 7, .inl fun _ => 0), .inl (G.1, 7, .inl fun _ => 0), .inl (G.1, 7, .inl fun _ => 0), .inl (G.1, 7, .inl fun _ => 0), .inl (G.1, 7, .inl fun _ => 0), .inl (G.1, 10, .inl fun _ => 0), .inl (G.1, 10, .inl fun _ => 0), .inl (G.1, 10, .inl fun _ => 0), .inl (G.1, 119, .inl fun _ => 0), .inr (4, [.int 0, .ref (b + 18), .ref (b + 19), .ref (b + 20), .int 0, .ref (b + 21), .ref (b + 22)]), .inl (G.1, 3, .inl fun _ => 0), .inl (G.1, 3, .inl fun _ => 0), .inl (G.1, 3, .inl fun _ => 0), .inl (G.1, 8, .inl fun _ => 0), .inl (G.1, 8, .inl fun _ => 0), .inr (3, [.int 0, .ref (b + 24), .ref (b + 25), .ref (b + 26), .ref (b + 27), .ref (b + 28)]), .inl (G.1, 64, .inl fun _ => 0), .inl (G.1, 64, .inl fun _ => 0), .inl (G.1, 3, .inl fun _ => 0), .inl (G.1, 3, .inl fun _ => 0), .inl (G.2.2, 64, .inr (.inl fun _ => 0)), .inr (0, [.int 0, .ref (b + 30), .ref (b + 31), .ref (b + 32), .ref (b + 33), .ref (b + 34), .int 0, .ref (b + 35), .ref (b + 36), .ref (b + 37), .int 0, .ref (b + 38), .int 0, .int 0, .ref (b + 39), .ref (b + 45)]), .inl (G.1, 7, .inl fun _ => 0), .inl (G.1, 7, .inl fun _ => 0), .inl (G.1, 7, .inl fun _ => 0), .inl (G.1, 7, .inl fun _ => 0), .inl (G.1, 7, .inl fun _ => 0), .inl (G.1, 10, .inl fun _ => 0), .inl (G.1, 10, .inl fun _ => 0), .inl (G.1, 10, .inl fun _ => 0), .inl (G.1, 119, .inl fun _ => 0), .inr (4, [.int 0, .ref (b + 40), .ref (b + 41), .ref (b + 42), .int 0, .ref (b + 43), .ref (b + 44)]), .inl (G.1, 3, .inl fun _ => 0), .inl (G.1, 3, .inl fun _ => 0), .inl (G.1, 3, .inl fun _ => 0), .inl (G.1, 8, .inl fun _ => 0), .inl (G.1, 8, .inl fun _ => 0), .inr (3, [.int 0, .ref (b + 46), .ref (b + 47), .ref (b + 48), .ref (b + 49), .ref (b + 50)]), .inl (G.1, 64, .inl fun _ => 0), .inl (G.1, 64, .inl fun _ => 0), .inl (G.1, 3, .inl fun _ => 0), .inl (G.1, 3, .inl fun _ => 0), .inl (G.2.2, 64, .inr (.inl fun _ => 0)), .inr (8, [.ref (b + 29), .ref (b + 52), .int 0, .ref (b + 53), .ref (b + 54), .int 0, .int 0, .int 0]), .inl (G.1, 7, .inl fun _ => 0), .inl (G.1, 8, .inl fun _ => 0), .inl (G.1, 8, .inl fun _ => 0), .inr (8, [.ref (b + 29), .ref (b + 56), .int 0, .ref (b + 57), .ref (b + 58), .int 0, .int 0, .int 0]), .inl (G.1, 7, .inl fun _ => 0), .inl (G.1, 8, .inl fun _ => 0), .inl (G.1, 8, .inl fun _ => 0), .inr (8, [.ref (b + 29), .ref (b + 60), .int 0, .ref (b + 61), .ref (b + 62), .int 0, .int 0, .int 0]), .inl (G.1, 7, .inl fun _ => 0), .inl (G.1, 8, .inl fun _ => 0), .inl (G.1, 8, .inl fun _ => 0), .inr (5, [.int 0, .int 0, .int 0, .int 0, .int 0, .int 0, .int 0, .int 0, .ref (b + 64)]), .inl (G.2.2, 7, .inr (.inl fun _ => 0)), .inr (6, [.int 0, .int 0, .int 0, .int 0, .int 0, .int 0, .int 0]), .inr (1, [.int 0, .int (-1), .ref (b + 67), .ref (b + 68), .ref (b + 69), .ref (b + 70), .ref (b + 71)]), .inl (G.1, 24, .inl fun _ => 0), .inl (G.1, 24, .inl fun _ => 0), .inl (G.1, 24, .inl fun _ => 0), .inl (G.1, 24, .inl fun _ => 0), .inl (G.2.1, 24, .inl fun _ => 0)]) rfl hX10 tyX10_ok nmX10 rfl rfl (by decide) rfl rfl fX10_57 rfl rfl rfl (Nat.le_of_ble_eq_true rfl) rfl rfl dX10_init_101 ?_
  refine rc_aload (i := 0) (j := 0) dX10_init_104 rfl rfl ?_
  refine rc_new (ci := 2) (x := b + 72) (fs := [.int 0, .int 0, .null]) rfl tyX2 rfl hX2 tyX2_ok qX10_61 tX2 n_RX2 defX2 dX10_init_105 (by decide) ?_
  refine rc_dup dX10_init_108 ?_
  refine rc_callN (host := "SidePonds") (M' := mX2_init) (rm' := rmX2) (x := b + 72) (As := []) rfl rfl kX2_init i_X2_init (List.mem_of_getElem? (i := 9) rfl) dX10_init_109 rfl (Nat.le_of_ble_eq_true rfl) rfl rfl rfl (Nat.le_of_ble_eq_true rfl) ⟨Nat.le_of_ble_eq_true rfl, Nat.le_of_ble_eq_true rfl⟩ ⟨Nat.le_of_ble_eq_true rfl, Nat.le_of_ble_eq_true rfl⟩ (qX2) ?_
  refine rc_put (i := 0) (k := 7) (fs' := [.ref (b + 1), .ref (b + 51), .ref (b + 55), .ref (b + 59), .ref (b + 63), .ref (b + 65), .ref (b + 66), .ref (b + 72), .null, .ref (b + 29), .int 0, .int 0, .int 0]) (V' := [.inr (10, [.ref (b + 1), .ref (b + 51), .ref (b + 55), .ref (b + 59), .ref (b + 63), .ref (b + 65), .ref (b + 66), .ref (b + 72), .null, .ref (b + 29), .int 0, .int 0, .int 0]), .inr (7, [.ref (b + 2), .ref (b + 7), .int 0, .int (-1), .int 0, .int 0, .int 0, .int 0, .int 0, .int 0]), .inr (9, [.int 0, .ref (b + 3), .ref (b + 4), .ref (b + 5), .ref (b + 6), .int 0, .int 0]), .inl (G.1, 700, .inl fun _ => 0), .inl (G.1, 701, .inl fun _ => 0), .inl (G.1, 701, .inl fun _ => 0), .inl (G.1, 701, .inl fun _ => 0), .inr (0, [.int 0, .ref (b + 8), .ref (b + 9), .ref (b + 10), .ref (b + 11), .ref (b + 12), .int 0, .ref (b + 13), .ref (b + 14), .ref (b + 15), .int 0, .ref (b + 16), .int 0, .int 0, .ref (b + 17), .ref (b + 23)]), .inl (G.1, 7, .inl fun _ => 0), .inl (G.1, 7, .inl fun _ => 0), .inl (G.1, 7, .inl fun _ => 0), .inl (G.1, 7, .inl fun _ => 0), .inl (G.1, 7, .inl fun _ => 0), .inl (G.1, 10, .inl fun _ => 0), .inl (G.1, 10, .inl fun _ => 0), .inl (G.1, 10, .inl fun _ => 0), .inl (G.1, 119, .inl fun _ => 0), .inr (4, [.int 0, .ref (b + 18), .ref (b + 19), .ref (b + 20), .int 0, .ref (b + 21), .ref (b + 22)]), .inl (G.1, 3, .inl fun _ => 0), .inl (G.1, 3, .inl fun _ => 0), .inl (G.1, 3, .inl fun _ => 0), .inl (G.1, 8, .inl fun _ => 0), .inl (G.1, 8, .inl fun _ => 0), .inr (3, [.int 0, .ref (b + 24), .ref (b + 25), .ref (b + 26), .ref (b + 27), .ref (b + 28)]), .inl (G.1, 64, .inl fun _ => 0), .inl (G.1, 64, .inl fun _ => 0), .inl (G.1, 3, .inl fun _ => 0), .inl (G.1, 3, .inl fun _ => 0), .inl (G.2.2, 64, .inr (.inl fun _ => 0)), .inr (0, [.int 0, .ref (b + 30), .ref (b + 31), .ref (b + 32), .ref (b + 33), .ref (b + 34), .int 0, .ref (b + 35), .ref (b + 36), .ref (b + 37), .int 0, .ref (b + 38), .int 0, .int 0, .ref (b + 39), .ref (b + 45)]), .inl (G.1, 7, .inl fun _ => 0), .inl (G.1, 7, .inl fun _ => 0), .inl (G.1, 7, .inl fun _ => 0), .inl (G.1, 7, .inl fun _ => 0), .inl (G.1, 7, .inl fun _ => 0), .inl (G.1, 10, .inl fun _ => 0), .inl (G.1, 10, .inl fun _ => 0), .inl (G.1, 10, .inl fun _ => 0), .inl (G.1, 119, .inl fun _ => 0), .inr (4, [.int 0, .ref (b + 40), .ref (b + 41), .ref (b + 42), .int 0, .ref (b + 43), .ref (b + 44)]), .inl (G.1, 3, .inl fun _ => 0), .inl (G.1, 3, .inl fun _ => 0), .inl (G.1, 3, .inl fun _ => 0), .inl (G.1, 8, .inl fun _ => 0), .inl (G.1, 8, .inl fun _ => 0), .inr (3, [.int 0, .ref (b + 46), .ref (b + 47), .ref (b + 48), .ref (b + 49), .ref (b + 50)]), .inl (G.1, 64, .inl fun _ => 0), .inl (G.1, 64, .inl fun _ => 0), .inl (G.1, 3, .inl fun _ => 0), .inl (G.1, 3, .inl fun _ => 0), .inl (G.2.2, 64, .inr (.inl fun _ => 0)), .inr (8, [.ref (b + 29), .ref (b + 52), .int 0, .ref (b + 53), .ref (b + 54), .int 0, .int 0, .int 0]), .inl (G.1, 7, .inl fun _ => 0), .inl (G.1, 8, .inl fun _ => 0), .inl (G.1, 8, .inl fun _ => 0), .inr (8, [.ref (b + 29), .ref (b + 56), .int 0, .ref (b + 57), .ref (b + 58), .int 0, .int 0, .int 0]), .inl (G.1, 7, .inl fun _ => 0), .inl (G.1, 8, .inl fun _ => 0), .inl (G.1, 8, .inl fun _ => 0), .inr (8, [.ref (b + 29), .ref (b + 60), .int 0, .ref (b + 61), .ref (b + 62), .int 0, .int 0, .int 0]), .inl (G.1, 7, .inl fun _ => 0), .inl (G.1, 8, .inl fun _ => 0), .inl (G.1, 8, .inl fun _ => 0), .inr (5, [.int 0, .int 0, .int 0, .int 0, .int 0, .int 0, .int 0, .int 0, .ref (b + 64)]), .inl (G.2.2, 7, .inr (.inl fun _ => 0)), .inr (6, [.int 0, .int 0, .int 0, .int 0, .int 0, .int 0, .int 0]), .inr (1, [.int 0, .int (-1), .ref (b + 67), .ref (b + 68), .ref (b + 69), .ref (b + 70), .ref (b + 71)]), .inl (G.1, 24, .inl fun _ => 0), .inl (G.1, 24, .inl fun _ => 0), .inl (G.1, 24, .inl fun _ => 0), .inl (G.1, 24, .inl fun _ => 0), .inl (G.2.1, 24, .inl fun _ => 0), .inr (2, [.int 0, .int 0, .ref (b + 73)]), .inl (G.1, 160, .inl fun _ => 0)]) rfl hX10 tyX10_ok nmX10 rfl rfl (by decide) rfl rfl fX10_64 rfl rfl rfl (Nat.le_of_ble_eq_true rfl) rfl rfl dX10_init_112 ?_
  refine rc_aload (i := 0) (j := 0) dX10_init_115 rfl rfl ?_
  refine rc_sipush (v := 600) dX10_init_116 (by decide) ?_
  refine rc_newI (N := 600) (x := b + 74) rfl a_int dX10_init_119 (by decide) (by decide) (by decide) (by decide) ?_
  refine rc_put (i := 0) (k := 8) (fs' := [.ref (b + 1), .ref (b + 51), .ref (b + 55), .ref (b + 59), .ref (b + 63), .ref (b + 65), .ref (b + 66), .ref (b + 72), .ref (b + 74), .ref (b + 29), .int 0, .int 0, .int 0]) (V' := [.inr (10, [.ref (b + 1), .ref (b + 51), .ref (b + 55), .ref (b + 59), .ref (b + 63), .ref (b + 65), .ref (b + 66), .ref (b + 72), .ref (b + 74), .ref (b + 29), .int 0, .int 0, .int 0]), .inr (7, [.ref (b + 2), .ref (b + 7), .int 0, .int (-1), .int 0, .int 0, .int 0, .int 0, .int 0, .int 0]), .inr (9, [.int 0, .ref (b + 3), .ref (b + 4), .ref (b + 5), .ref (b + 6), .int 0, .int 0]), .inl (G.1, 700, .inl fun _ => 0), .inl (G.1, 701, .inl fun _ => 0), .inl (G.1, 701, .inl fun _ => 0), .inl (G.1, 701, .inl fun _ => 0), .inr (0, [.int 0, .ref (b + 8), .ref (b + 9), .ref (b + 10), .ref (b + 11), .ref (b + 12), .int 0, .ref (b + 13), .ref (b + 14), .ref (b + 15), .int 0, .ref (b + 16), .int 0, .int 0, .ref (b + 17), .ref (b + 23)]), .inl (G.1, 7, .inl fun _ => 0), .inl (G.1, 7, .inl fun _ => 0), .inl (G.1, 7, .inl fun _ => 0), .inl (G.1, 7, .inl fun _ => 0), .inl (G.1, 7, .inl fun _ => 0), .inl (G.1, 10, .inl fun _ => 0), .inl (G.1, 10, .inl fun _ => 0), .inl (G.1, 10, .inl fun _ => 0), .inl (G.1, 119, .inl fun _ => 0), .inr (4, [.int 0, .ref (b + 18), .ref (b + 19), .ref (b + 20), .int 0, .ref (b + 21), .ref (b + 22)]), .inl (G.1, 3, .inl fun _ => 0), .inl (G.1, 3, .inl fun _ => 0), .inl (G.1, 3, .inl fun _ => 0), .inl (G.1, 8, .inl fun _ => 0), .inl (G.1, 8, .inl fun _ => 0), .inr (3, [.int 0, .ref (b + 24), .ref (b + 25), .ref (b + 26), .ref (b + 27), .ref (b + 28)]), .inl (G.1, 64, .inl fun _ => 0), .inl (G.1, 64, .inl fun _ => 0), .inl (G.1, 3, .inl fun _ => 0), .inl (G.1, 3, .inl fun _ => 0), .inl (G.2.2, 64, .inr (.inl fun _ => 0)), .inr (0, [.int 0, .ref (b + 30), .ref (b + 31), .ref (b + 32), .ref (b + 33), .ref (b + 34), .int 0, .ref (b + 35), .ref (b + 36), .ref (b + 37), .int 0, .ref (b + 38), .int 0, .int 0, .ref (b + 39), .ref (b + 45)]), .inl (G.1, 7, .inl fun _ => 0), .inl (G.1, 7, .inl fun _ => 0), .inl (G.1, 7, .inl fun _ => 0), .inl (G.1, 7, .inl fun _ => 0), .inl (G.1, 7, .inl fun _ => 0), .inl (G.1, 10, .inl fun _ => 0), .inl (G.1, 10, .inl fun _ => 0), .inl (G.1, 10, .inl fun _ => 0), .inl (G.1, 119, .inl fun _ => 0), .inr (4, [.int 0, .ref (b + 40), .ref (b + 41), .ref (b + 42), .int 0, .ref (b + 43), .ref (b + 44)]), .inl (G.1, 3, .inl fun _ => 0), .inl (G.1, 3, .inl fun _ => 0), .inl (G.1, 3, .inl fun _ => 0), .inl (G.1, 8, .inl fun _ => 0), .inl (G.1, 8, .inl fun _ => 0), .inr (3, [.int 0, .ref (b + 46), .ref (b + 47), .ref (b + 48), .ref (b + 49), .ref (b + 50)]), .inl (G.1, 64, .inl fun _ => 0), .inl (G.1, 64, .inl fun _ => 0), .inl (G.1, 3, .inl fun _ => 0), .inl (G.1, 3, .inl fun _ => 0), .inl (G.2.2, 64, .inr (.inl fun _ => 0)), .inr (8, [.ref (b + 29), .ref (b + 52), .int 0, .ref (b + 53), .ref (b + 54), .int 0, .int 0, .int 0]), .inl (G.1, 7, .inl fun _ => 0), .inl (G.1, 8, .inl fun _ => 0), .inl (G.1, 8, .inl fun _ => 0), .inr (8, [.ref (b + 29), .ref (b + 56), .int 0, .ref (b + 57), .ref (b + 58), .int 0, .int 0, .int 0]), .inl (G.1, 7, .inl fun _ => 0), .inl (G.1, 8, .inl fun _ => 0), .inl (G.1, 8, .inl fun _ => 0), .inr (8, [.ref (b + 29), .ref (b + 60), .int 0, .ref (b + 61), .ref (b + 62), .int 0, .int 0, .int 0]), .inl (G.1, 7, .inl fun _ => 0), .inl (G.1, 8, .inl fun _ => 0), .inl (G.1, 8, .inl fun _ => 0), .inr (5, [.int 0, .int 0, .int 0, .int 0, .int 0, .int 0, .int 0, .int 0, .ref (b + 64)]), .inl (G.2.2, 7, .inr (.inl fun _ => 0)), .inr (6, [.int 0, .int 0, .int 0, .int 0, .int 0, .int 0, .int 0]), .inr (1, [.int 0, .int (-1), .ref (b + 67), .ref (b + 68), .ref (b + 69), .ref (b + 70), .ref (b + 71)]), .inl (G.1, 24, .inl fun _ => 0), .inl (G.1, 24, .inl fun _ => 0), .inl (G.1, 24, .inl fun _ => 0), .inl (G.1, 24, .inl fun _ => 0), .inl (G.2.1, 24, .inl fun _ => 0), .inr (2, [.int 0, .int 0, .ref (b + 73)]), .inl (G.1, 160, .inl fun _ => 0), .inl (G.1, 600, .inl fun _ => 0)]) rfl hX10 tyX10_ok nmX10 rfl rfl (by decide) rfl rfl fX10_68 rfl rfl rfl (Nat.le_of_ble_eq_true rfl) rfl rfl dX10_init_121 ?_
  refine rc_aload (i := 0) (j := 0) dX10_init_124 rfl rfl ?_
  refine rc_iconst (v := -1) dX10_init_125 (by decide) ?_
  refine rc_put (i := 0) (k := 12) (fs' := [.ref (b + 1), .ref (b + 51), .ref (b + 55), .ref (b + 59), .ref (b + 63), .ref (b + 65), .ref (b + 66), .ref (b + 72), .ref (b + 74), .ref (b + 29), .int 0, .int 0, .int (-1)]) (V' := [.inr (10, [.ref (b + 1), .ref (b + 51), .ref (b + 55), .ref (b + 59), .ref (b + 63), .ref (b + 65), .ref (b + 66), .ref (b + 72), .ref (b + 74), .ref (b + 29), .int 0, .int 0, .int (-1)]), .inr (7, [.ref (b + 2), .ref (b + 7), .int 0, .int (-1), .int 0, .int 0, .int 0, .int 0, .int 0, .int 0]), .inr (9, [.int 0, .ref (b + 3), .ref (b + 4), .ref (b + 5), .ref (b + 6), .int 0, .int 0]), .inl (G.1, 700, .inl fun _ => 0), .inl (G.1, 701, .inl fun _ => 0), .inl (G.1, 701, .inl fun _ => 0), .inl (G.1, 701, .inl fun _ => 0), .inr (0, [.int 0, .ref (b + 8), .ref (b + 9), .ref (b + 10), .ref (b + 11), .ref (b + 12), .int 0, .ref (b + 13), .ref (b + 14), .ref (b + 15), .int 0, .ref (b + 16), .int 0, .int 0, .ref (b + 17), .ref (b + 23)]), .inl (G.1, 7, .inl fun _ => 0), .inl (G.1, 7, .inl fun _ => 0), .inl (G.1, 7, .inl fun _ => 0), .inl (G.1, 7, .inl fun _ => 0), .inl (G.1, 7, .inl fun _ => 0), .inl (G.1, 10, .inl fun _ => 0), .inl (G.1, 10, .inl fun _ => 0), .inl (G.1, 10, .inl fun _ => 0), .inl (G.1, 119, .inl fun _ => 0), .inr (4, [.int 0, .ref (b + 18), .ref (b + 19), .ref (b + 20), .int 0, .ref (b + 21), .ref (b + 22)]), .inl (G.1, 3, .inl fun _ => 0), .inl (G.1, 3, .inl fun _ => 0), .inl (G.1, 3, .inl fun _ => 0), .inl (G.1, 8, .inl fun _ => 0), .inl (G.1, 8, .inl fun _ => 0), .inr (3, [.int 0, .ref (b + 24), .ref (b + 25), .ref (b + 26), .ref (b + 27), .ref (b + 28)]), .inl (G.1, 64, .inl fun _ => 0), .inl (G.1, 64, .inl fun _ => 0), .inl (G.1, 3, .inl fun _ => 0), .inl (G.1, 3, .inl fun _ => 0), .inl (G.2.2, 64, .inr (.inl fun _ => 0)), .inr (0, [.int 0, .ref (b + 30), .ref (b + 31), .ref (b + 32), .ref (b + 33), .ref (b + 34), .int 0, .ref (b + 35), .ref (b + 36), .ref (b + 37), .int 0, .ref (b + 38), .int 0, .int 0, .ref (b + 39), .ref (b + 45)]), .inl (G.1, 7, .inl fun _ => 0), .inl (G.1, 7, .inl fun _ => 0), .inl (G.1, 7, .inl fun _ => 0), .inl (G.1, 7, .inl fun _ => 0), .inl (G.1, 7, .inl fun _ => 0), .inl (G.1, 10, .inl fun _ => 0), .inl (G.1, 10, .inl fun _ => 0), .inl (G.1, 10, .inl fun _ => 0), .inl (G.1, 119, .inl fun _ => 0), .inr (4, [.int 0, .ref (b + 40), .ref (b + 41), .ref (b + 42), .int 0, .ref (b + 43), .ref (b + 44)]), .inl (G.1, 3, .inl fun _ => 0), .inl (G.1, 3, .inl fun _ => 0), .inl (G.1, 3, .inl fun _ => 0), .inl (G.1, 8, .inl fun _ => 0), .inl (G.1, 8, .inl fun _ => 0), .inr (3, [.int 0, .ref (b + 46), .ref (b + 47), .ref (b + 48), .ref (b + 49), .ref (b + 50)]), .inl (G.1, 64, .inl fun _ => 0), .inl (G.1, 64, .inl fun _ => 0), .inl (G.1, 3, .inl fun _ => 0), .inl (G.1, 3, .inl fun _ => 0), .inl (G.2.2, 64, .inr (.inl fun _ => 0)), .inr (8, [.ref (b + 29), .ref (b + 52), .int 0, .ref (b + 53), .ref (b + 54), .int 0, .int 0, .int 0]), .inl (G.1, 7, .inl fun _ => 0), .inl (G.1, 8, .inl fun _ => 0), .inl (G.1, 8, .inl fun _ => 0), .inr (8, [.ref (b + 29), .ref (b + 56), .int 0, .ref (b + 57), .ref (b + 58), .int 0, .int 0, .int 0]), .inl (G.1, 7, .inl fun _ => 0), .inl (G.1, 8, .inl fun _ => 0), .inl (G.1, 8, .inl fun _ => 0), .inr (8, [.ref (b + 29), .ref (b + 60), .int 0, .ref (b + 61), .ref (b + 62), .int 0, .int 0, .int 0]), .inl (G.1, 7, .inl fun _ => 0), .inl (G.1, 8, .inl fun _ => 0), .inl (G.1, 8, .inl fun _ => 0), .inr (5, [.int 0, .int 0, .int 0, .int 0, .int 0, .int 0, .int 0, .int 0, .ref (b + 64)]), .inl (G.2.2, 7, .inr (.inl fun _ => 0)), .inr (6, [.int 0, .int 0, .int 0, .int 0, .int 0, .int 0, .int 0]), .inr (1, [.int 0, .int (-1), .ref (b + 67), .ref (b + 68), .ref (b + 69), .ref (b + 70), .ref (b + 71)]), .inl (G.1, 24, .inl fun _ => 0), .inl (G.1, 24, .inl fun _ => 0), .inl (G.1, 24, .inl fun _ => 0), .inl (G.1, 24, .inl fun _ => 0), .inl (G.2.1, 24, .inl fun _ => 0), .inr (2, [.int 0, .int 0, .ref (b + 73)]), .inl (G.1, 160, .inl fun _ => 0), .inl (G.1, 600, .inl fun _ => 0)]) rfl hX10 tyX10_ok nmX10 rfl rfl (by decide) rfl rfl fX10_72 rfl rfl rfl (Nat.le_of_ble_eq_true rfl) rfl rfl dX10_init_126 ?_
  exact rc_ret dX10_init_129 (by decide) (fun H h => h)
abbrev mX11_init : MI := (yX11_init, cX11_init, 1, none)
theorem kX11_init : mj_CV mX11_init 0 := ⟨n_RX11, c_X11_init, by decide +kernel, by decide, by decide +kernel, by decide +kernel, by decide +kernel⟩
theorem defX11 : ∀ j, j < 70 → defaultValue (tyX11 j) = vp_V [.int 0, .null, .int 0, .null, .null, .null, .null, .null, .null, .null, .null, .null, .null, .null, .null, .null, .null, .null, .null, .null, .null, .null, .null, .null, .int 0, .int 0, .int 0, .int 0, .int 0, .int 0, .int 0, .int 0, .int 0, .int 0, .int 0, .int 0, .int 0, .null, .null, .int 0, .null, .null, .null, .null, .null, .null, .null, .int 0, .int 0, .int 0, .int 0, .int 0, .int 0, .null, .int 0, .int 0, .int 0, .int 0, .int 0, .null, .null, .int 0, .int 0, .null, .null, .null, .null, .null, .null, .null] j := fun j hj => by
  match j, hj with
  | 0, _ => rfl
  | 1, _ => rfl
  | 2, _ => rfl
  | 3, _ => rfl
  | 4, _ => rfl
  | 5, _ => rfl
  | 6, _ => rfl
  | 7, _ => rfl
  | 8, _ => rfl
  | 9, _ => rfl
  | 10, _ => rfl
  | 11, _ => rfl
  | 12, _ => rfl
  | 13, _ => rfl
  | 14, _ => rfl
  | 15, _ => rfl
  | 16, _ => rfl
  | 17, _ => rfl
  | 18, _ => rfl
  | 19, _ => rfl
  | 20, _ => rfl
  | 21, _ => rfl
  | 22, _ => rfl
  | 23, _ => rfl
  | 24, _ => rfl
  | 25, _ => rfl
  | 26, _ => rfl
  | 27, _ => rfl
  | 28, _ => rfl
  | 29, _ => rfl
  | 30, _ => rfl
  | 31, _ => rfl
  | 32, _ => rfl
  | 33, _ => rfl
  | 34, _ => rfl
  | 35, _ => rfl
  | 36, _ => rfl
  | 37, _ => rfl
  | 38, _ => rfl
  | 39, _ => rfl
  | 40, _ => rfl
  | 41, _ => rfl
  | 42, _ => rfl
  | 43, _ => rfl
  | 44, _ => rfl
  | 45, _ => rfl
  | 46, _ => rfl
  | 47, _ => rfl
  | 48, _ => rfl
  | 49, _ => rfl
  | 50, _ => rfl
  | 51, _ => rfl
  | 52, _ => rfl
  | 53, _ => rfl
  | 54, _ => rfl
  | 55, _ => rfl
  | 56, _ => rfl
  | 57, _ => rfl
  | 58, _ => rfl
  | 59, _ => rfl
  | 60, _ => rfl
  | 61, _ => rfl
  | 62, _ => rfl
  | 63, _ => rfl
  | 64, _ => rfl
  | 65, _ => rfl
  | 66, _ => rfl
  | 67, _ => rfl
  | 68, _ => rfl
  | 69, _ => rfl
  | j + 70, hj => exact absurd hj (by omega)
def VX11 (G : ClassId × ClassId × ClassId) (b : Nat) : List va_E := [.inr (11, [.int 0, .ref (b + 1), .int 0, .ref (b + 2), .ref (b + 3), .ref (b + 4), .ref (b + 5), .ref (b + 6), .ref (b + 7), .ref (b + 8), .ref (b + 9), .ref (b + 10), .ref (b + 11), .ref (b + 12), .ref (b + 13), .ref (b + 14), .ref (b + 15), .ref (b + 16), .ref (b + 17), .ref (b + 18), .ref (b + 19), .ref (b + 20), .ref (b + 21), .ref (b + 22), .int 0, .int 0, .int 0, .int 0, .int 0, .int 0, .int 0, .int 0, .int 0, .int 0, .int (-1), .int 0, .int 0, .ref (b + 23), .ref (b + 24), .int 0, .ref (b + 25), .ref (b + 26), .ref (b + 27), .ref (b + 28), .ref (b + 29), .ref (b + 30), .ref (b + 31), .int 0, .int 0, .int 0, .int (-1), .int (-1), .int 0, .ref (b + 32), .int 0, .int 0, .int 0, .int 0, .int 0, .ref (b + 33), .ref (b + 34), .int 0, .int (-1), .ref (b + 35), .ref (b + 36), .ref (b + 37), .ref (b + 38), .ref (b + 39), .ref (b + 40), .ref (b + 41)]), .inl (G.1, 700, .inl fun _ => 0), .inl (G.1, 18, .inl fun _ => 0), .inl (G.1, 14, .inl fun _ => 0), .inl (G.1, 14, .inl fun _ => 0), .inl (G.1, 14, .inl fun _ => 0), .inl (G.1, 14, .inl fun _ => 0), .inl (G.1, 14, .inl fun _ => 0), .inl (G.1, 6, .inl fun _ => 0), .inl (G.1, 6, .inl fun _ => 0), .inl (G.1, 6, .inl fun _ => 0), .inl (G.1, 20, .inl fun _ => 0), .inl (G.1, 20, .inl fun _ => 0), .inl (G.1, 20, .inl fun _ => 0), .inl (G.1, 24, .inl fun _ => 0), .inl (G.1, 24, .inl fun _ => 0), .inl (G.1, 24, .inl fun _ => 0), .inl (G.1, 16, .inl fun _ => 0), .inl (G.1, 16, .inl fun _ => 0), .inl (G.1, 6, .inl fun _ => 0), .inl (G.1, 6, .inl fun _ => 0), .inl (G.1, 128, .inl fun _ => 0), .inl (G.1, 128, .inl fun _ => 0), .inl (G.2.2, 7, .inr (.inl fun _ => 0)), .inl (G.2.2, 64, .inr (.inl fun _ => 0)), .inl (G.1, 23, .inl fun _ => 0), .inl (G.1, 23, .inl fun _ => 0), .inl (G.1, 23, .inl fun _ => 0), .inl (G.1, 23, .inl fun _ => 0), .inl (G.1, 161, .inl fun _ => 0), .inl (G.1, 184, .inl fun _ => 0), .inl (G.1, 184, .inl fun _ => 0), .inl (G.1, 35, .inl fun _ => 0), .inl (G.1, 10, .inl fun _ => 0), .inl (G.1, 7, .inl fun _ => 0), .inl (G.1, 24, .inl fun _ => 0), .inl (G.1, 24, .inl fun _ => 0), .inl (G.1, 24, .inl fun _ => 0), .inl (G.2.1, 24, .inl fun _ => 0), .inl (G.1, 24, .inl fun _ => 0), .inl (G.2.1, 24, .inl fun _ => 0), .inl (G.1, 610, .inl fun _ => 0)]
