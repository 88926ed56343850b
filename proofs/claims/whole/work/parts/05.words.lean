def mj_W : List Cond := lw_tbl.filter goodWord
theorem mj_good : GoodIn lw_tbl mj_W := fun w h => ⟨(List.mem_filter.mp h).1, good_of_word (List.mem_filter.mp h).2⟩
theorem mj_t {w : Cond} (h : w ∈ tables_1) (g : goodWord w = true) : w ∈ mj_W := List.mem_filter.mpr ⟨List.mem_append_right _ h, g⟩
theorem mj_t1 {w : Cond} (h : w ∈ tables_1_1) (g : goodWord w = true) : w ∈ mj_W := mj_t (List.mem_append_left _ h) g
theorem mj_t2 {w : Cond} (h : w ∈ tables_1_2) (g : goodWord w = true) : w ∈ mj_W := mj_t (List.mem_append_right _ (List.mem_append_left _ h)) g
theorem mj_t3 {w : Cond} (h : w ∈ tables_1_3) (g : goodWord w = true) : w ∈ mj_W := mj_t (List.mem_append_right _ (List.mem_append_right _ (List.mem_append_left _ h))) g
theorem mj_t4 {w : Cond} (h : w ∈ tables_1_4) (g : goodWord w = true) : w ∈ mj_W := mj_t (List.mem_append_right _ (List.mem_append_right _ (List.mem_append_right _ (List.mem_append_left _ h)))) g
theorem mj_t5 {w : Cond} (h : w ∈ tables_1_5) (g : goodWord w = true) : w ∈ mj_W := mj_t (List.mem_append_right _ (List.mem_append_right _ (List.mem_append_right _ (List.mem_append_right _ (List.mem_append_left _ h))))) g
theorem mj_t6 {w : Cond} (h : w ∈ tables_1_6) (g : goodWord w = true) : w ∈ mj_W := mj_t (List.mem_append_right _ (List.mem_append_right _ (List.mem_append_right _ (List.mem_append_right _ (List.mem_append_right _ (List.mem_append_left _ h)))))) g
theorem mj_t7 {w : Cond} (h : w ∈ tables_1_7) (g : goodWord w = true) : w ∈ mj_W := mj_t (List.mem_append_right _ (List.mem_append_right _ (List.mem_append_right _ (List.mem_append_right _ (List.mem_append_right _ (List.mem_append_right _ (List.mem_append_left _ h))))))) g
theorem mj_t8 {w : Cond} (h : w ∈ tables_1_8) (g : goodWord w = true) : w ∈ mj_W := mj_t (List.mem_append_right _ (List.mem_append_right _ (List.mem_append_right _ (List.mem_append_right _ (List.mem_append_right _ (List.mem_append_right _ (List.mem_append_right _ (List.mem_append_left _ h)))))))) g
theorem mj_t9 {w : Cond} (h : w ∈ tables_1_9) (g : goodWord w = true) : w ∈ mj_W := mj_t (List.mem_append_right _ (List.mem_append_right _ (List.mem_append_right _ (List.mem_append_right _ (List.mem_append_right _ (List.mem_append_right _ (List.mem_append_right _ (List.mem_append_right _ (List.mem_append_left _ h))))))))) g
theorem mj_t10 {w : Cond} (h : w ∈ tables_1_10) (g : goodWord w = true) : w ∈ mj_W := mj_t (List.mem_append_right _ (List.mem_append_right _ (List.mem_append_right _ (List.mem_append_right _ (List.mem_append_right _ (List.mem_append_right _ (List.mem_append_right _ (List.mem_append_right _ (List.mem_append_right _ (h)))))))))) g
theorem mj_p1 {q : MethodName × Nat} (h : q ∈ lw_privs_1) : Cond.selects q.1.cls q.1 q.1 ∈ mj_W := List.mem_filter.mpr ⟨List.mem_append_left _ (List.mem_map.mpr ⟨q, List.mem_append_left _ h, rfl⟩), rfl⟩
theorem mj_p2 {q : MethodName × Nat} (h : q ∈ lw_privs_2) : Cond.selects q.1.cls q.1 q.1 ∈ mj_W := List.mem_filter.mpr ⟨List.mem_append_left _ (List.mem_map.mpr ⟨q, List.mem_append_right _ (List.mem_append_left _ h), rfl⟩), rfl⟩
theorem mj_p3 {q : MethodName × Nat} (h : q ∈ lw_privs_3) : Cond.selects q.1.cls q.1 q.1 ∈ mj_W := List.mem_filter.mpr ⟨List.mem_append_left _ (List.mem_map.mpr ⟨q, List.mem_append_right _ (List.mem_append_right _ (List.mem_append_left _ h)), rfl⟩), rfl⟩
theorem mj_p4 {q : MethodName × Nat} (h : q ∈ lw_privs_4) : Cond.selects q.1.cls q.1 q.1 ∈ mj_W := List.mem_filter.mpr ⟨List.mem_append_left _ (List.mem_map.mpr ⟨q, List.mem_append_right _ (List.mem_append_right _ (List.mem_append_right _ (List.mem_append_left _ h))), rfl⟩), rfl⟩
theorem mj_p5 {q : MethodName × Nat} (h : q ∈ lw_privs_5) : Cond.selects q.1.cls q.1 q.1 ∈ mj_W := List.mem_filter.mpr ⟨List.mem_append_left _ (List.mem_map.mpr ⟨q, List.mem_append_right _ (List.mem_append_right _ (List.mem_append_right _ (List.mem_append_right _ (List.mem_append_left _ h)))), rfl⟩), rfl⟩
theorem mj_p6 {q : MethodName × Nat} (h : q ∈ lw_privs_6) : Cond.selects q.1.cls q.1 q.1 ∈ mj_W := List.mem_filter.mpr ⟨List.mem_append_left _ (List.mem_map.mpr ⟨q, List.mem_append_right _ (List.mem_append_right _ (List.mem_append_right _ (List.mem_append_right _ (List.mem_append_right _ (List.mem_append_left _ h))))), rfl⟩), rfl⟩
theorem mj_p7 {q : MethodName × Nat} (h : q ∈ lw_privs_7) : Cond.selects q.1.cls q.1 q.1 ∈ mj_W := List.mem_filter.mpr ⟨List.mem_append_left _ (List.mem_map.mpr ⟨q, List.mem_append_right _ (List.mem_append_right _ (List.mem_append_right _ (List.mem_append_right _ (List.mem_append_right _ (List.mem_append_right _ (List.mem_append_left _ h)))))), rfl⟩), rfl⟩
theorem mj_p8 {q : MethodName × Nat} (h : q ∈ lw_privs_8) : Cond.selects q.1.cls q.1 q.1 ∈ mj_W := List.mem_filter.mpr ⟨List.mem_append_left _ (List.mem_map.mpr ⟨q, List.mem_append_right _ (List.mem_append_right _ (List.mem_append_right _ (List.mem_append_right _ (List.mem_append_right _ (List.mem_append_right _ (List.mem_append_right _ (h))))))), rfl⟩), rfl⟩
theorem uX0_0 : u_lay RX0 TX0 0 ∈ mj_W := mj_t1 (List.mem_of_getElem? (i := 206) rfl) rfl
theorem uX0_1 : u_lay RX0 TX0 1 ∈ mj_W := mj_t1 (List.mem_of_getElem? (i := 208) rfl) rfl
theorem uX0_2 : u_lay RX0 TX0 2 ∈ mj_W := mj_t1 (List.mem_of_getElem? (i := 210) rfl) rfl
theorem uX0_3 : u_lay RX0 TX0 3 ∈ mj_W := mj_t1 (List.mem_of_getElem? (i := 212) rfl) rfl
theorem uX0_4 : u_lay RX0 TX0 4 ∈ mj_W := mj_t1 (List.mem_of_getElem? (i := 214) rfl) rfl
theorem uX0_5 : u_lay RX0 TX0 5 ∈ mj_W := mj_t1 (List.mem_of_getElem? (i := 216) rfl) rfl
theorem uX0_6 : u_lay RX0 TX0 6 ∈ mj_W := mj_t1 (List.mem_of_getElem? (i := 218) rfl) rfl
theorem uX0_7 : u_lay RX0 TX0 7 ∈ mj_W := mj_t1 (List.mem_of_getElem? (i := 220) rfl) rfl
theorem uX0_8 : u_lay RX0 TX0 8 ∈ mj_W := mj_t1 (List.mem_of_getElem? (i := 222) rfl) rfl
theorem uX0_9 : u_lay RX0 TX0 9 ∈ mj_W := mj_t1 (List.mem_of_getElem? (i := 224) rfl) rfl
theorem uX0_10 : u_lay RX0 TX0 10 ∈ mj_W := mj_t1 (List.mem_of_getElem? (i := 226) rfl) rfl
theorem uX0_11 : u_lay RX0 TX0 11 ∈ mj_W := mj_t1 (List.mem_of_getElem? (i := 228) rfl) rfl
theorem uX0_12 : u_lay RX0 TX0 12 ∈ mj_W := mj_t1 (List.mem_of_getElem? (i := 230) rfl) rfl
theorem uX0_13 : u_lay RX0 TX0 13 ∈ mj_W := mj_t1 (List.mem_of_getElem? (i := 232) rfl) rfl
theorem uX0_14 : u_lay RX0 TX0 14 ∈ mj_W := mj_t1 (List.mem_of_getElem? (i := 234) rfl) rfl
theorem uX0_15 : u_lay RX0 TX0 15 ∈ mj_W := mj_t1 (List.mem_of_getElem? (i := 236) rfl) rfl
theorem uX1_0 : u_lay RX1 TX1 0 ∈ mj_W := mj_t2 (List.mem_of_getElem? (i := 174) rfl) rfl
theorem uX1_1 : u_lay RX1 TX1 1 ∈ mj_W := mj_t2 (List.mem_of_getElem? (i := 176) rfl) rfl
theorem uX1_2 : u_lay RX1 TX1 2 ∈ mj_W := mj_t2 (List.mem_of_getElem? (i := 178) rfl) rfl
theorem uX1_3 : u_lay RX1 TX1 3 ∈ mj_W := mj_t2 (List.mem_of_getElem? (i := 180) rfl) rfl
theorem uX1_4 : u_lay RX1 TX1 4 ∈ mj_W := mj_t2 (List.mem_of_getElem? (i := 182) rfl) rfl
theorem uX1_5 : u_lay RX1 TX1 5 ∈ mj_W := mj_t2 (List.mem_of_getElem? (i := 184) rfl) rfl
theorem uX1_6 : u_lay RX1 TX1 6 ∈ mj_W := mj_t2 (List.mem_of_getElem? (i := 186) rfl) rfl
theorem uX2_0 : u_lay RX2 TX2 0 ∈ mj_W := mj_t2 (List.mem_of_getElem? (i := 200) rfl) rfl
theorem uX2_1 : u_lay RX2 TX2 1 ∈ mj_W := mj_t2 (List.mem_of_getElem? (i := 202) rfl) rfl
theorem uX2_2 : u_lay RX2 TX2 2 ∈ mj_W := mj_t2 (List.mem_of_getElem? (i := 204) rfl) rfl
theorem uX3_0 : u_lay RX3 TX3 0 ∈ mj_W := mj_t1 (List.mem_of_getElem? (i := 137) rfl) rfl
theorem uX3_1 : u_lay RX3 TX3 1 ∈ mj_W := mj_t1 (List.mem_of_getElem? (i := 139) rfl) rfl
theorem uX3_2 : u_lay RX3 TX3 2 ∈ mj_W := mj_t1 (List.mem_of_getElem? (i := 141) rfl) rfl
theorem uX3_3 : u_lay RX3 TX3 3 ∈ mj_W := mj_t1 (List.mem_of_getElem? (i := 143) rfl) rfl
theorem uX3_4 : u_lay RX3 TX3 4 ∈ mj_W := mj_t1 (List.mem_of_getElem? (i := 145) rfl) rfl
theorem uX3_5 : u_lay RX3 TX3 5 ∈ mj_W := mj_t1 (List.mem_of_getElem? (i := 147) rfl) rfl
theorem uX4_0 : u_lay RX4 TX4 0 ∈ mj_W := mj_t1 (List.mem_of_getElem? (i := 109) rfl) rfl
theorem uX4_1 : u_lay RX4 TX4 1 ∈ mj_W := mj_t1 (List.mem_of_getElem? (i := 111) rfl) rfl
theorem uX4_2 : u_lay RX4 TX4 2 ∈ mj_W := mj_t1 (List.mem_of_getElem? (i := 113) rfl) rfl
theorem uX4_3 : u_lay RX4 TX4 3 ∈ mj_W := mj_t1 (List.mem_of_getElem? (i := 115) rfl) rfl
theorem uX4_4 : u_lay RX4 TX4 4 ∈ mj_W := mj_t1 (List.mem_of_getElem? (i := 117) rfl) rfl
theorem uX4_5 : u_lay RX4 TX4 5 ∈ mj_W := mj_t1 (List.mem_of_getElem? (i := 119) rfl) rfl
theorem uX4_6 : u_lay RX4 TX4 6 ∈ mj_W := mj_t1 (List.mem_of_getElem? (i := 121) rfl) rfl
theorem uX5_0 : u_lay RX5 TX5 0 ∈ mj_W := mj_t2 (List.mem_of_getElem? (i := 109) rfl) rfl
theorem uX5_1 : u_lay RX5 TX5 1 ∈ mj_W := mj_t2 (List.mem_of_getElem? (i := 111) rfl) rfl
theorem uX5_2 : u_lay RX5 TX5 2 ∈ mj_W := mj_t2 (List.mem_of_getElem? (i := 113) rfl) rfl
theorem uX5_3 : u_lay RX5 TX5 3 ∈ mj_W := mj_t2 (List.mem_of_getElem? (i := 115) rfl) rfl
theorem uX5_4 : u_lay RX5 TX5 4 ∈ mj_W := mj_t2 (List.mem_of_getElem? (i := 117) rfl) rfl
theorem uX5_5 : u_lay RX5 TX5 5 ∈ mj_W := mj_t2 (List.mem_of_getElem? (i := 119) rfl) rfl
theorem uX5_6 : u_lay RX5 TX5 6 ∈ mj_W := mj_t2 (List.mem_of_getElem? (i := 121) rfl) rfl
theorem uX5_7 : u_lay RX5 TX5 7 ∈ mj_W := mj_t2 (List.mem_of_getElem? (i := 123) rfl) rfl
theorem uX5_8 : u_lay RX5 TX5 8 ∈ mj_W := mj_t2 (List.mem_of_getElem? (i := 125) rfl) rfl
theorem uX6_0 : u_lay RX6 TX6 0 ∈ mj_W := mj_t2 (List.mem_of_getElem? (i := 144) rfl) rfl
theorem uX6_1 : u_lay RX6 TX6 1 ∈ mj_W := mj_t2 (List.mem_of_getElem? (i := 146) rfl) rfl
theorem uX6_2 : u_lay RX6 TX6 2 ∈ mj_W := mj_t2 (List.mem_of_getElem? (i := 148) rfl) rfl
theorem uX6_3 : u_lay RX6 TX6 3 ∈ mj_W := mj_t2 (List.mem_of_getElem? (i := 150) rfl) rfl
theorem uX6_4 : u_lay RX6 TX6 4 ∈ mj_W := mj_t2 (List.mem_of_getElem? (i := 152) rfl) rfl
theorem uX6_5 : u_lay RX6 TX6 5 ∈ mj_W := mj_t2 (List.mem_of_getElem? (i := 154) rfl) rfl
theorem uX6_6 : u_lay RX6 TX6 6 ∈ mj_W := mj_t2 (List.mem_of_getElem? (i := 156) rfl) rfl
theorem uX7_0 : u_lay RX7 TX7 0 ∈ mj_W := mj_t2 (List.mem_of_getElem? (i := 14) rfl) rfl
theorem uX7_1 : u_lay RX7 TX7 1 ∈ mj_W := mj_t2 (List.mem_of_getElem? (i := 16) rfl) rfl
theorem uX7_2 : u_lay RX7 TX7 2 ∈ mj_W := mj_t2 (List.mem_of_getElem? (i := 18) rfl) rfl
theorem uX7_3 : u_lay RX7 TX7 3 ∈ mj_W := mj_t2 (List.mem_of_getElem? (i := 20) rfl) rfl
theorem uX7_4 : u_lay RX7 TX7 4 ∈ mj_W := mj_t2 (List.mem_of_getElem? (i := 22) rfl) rfl
theorem uX7_5 : u_lay RX7 TX7 5 ∈ mj_W := mj_t2 (List.mem_of_getElem? (i := 24) rfl) rfl
theorem uX7_6 : u_lay RX7 TX7 6 ∈ mj_W := mj_t2 (List.mem_of_getElem? (i := 26) rfl) rfl
theorem uX7_7 : u_lay RX7 TX7 7 ∈ mj_W := mj_t2 (List.mem_of_getElem? (i := 28) rfl) rfl
theorem uX7_8 : u_lay RX7 TX7 8 ∈ mj_W := mj_t2 (List.mem_of_getElem? (i := 30) rfl) rfl
theorem uX7_9 : u_lay RX7 TX7 9 ∈ mj_W := mj_t2 (List.mem_of_getElem? (i := 32) rfl) rfl
theorem uX8_0 : u_lay RX8 TX8 0 ∈ mj_W := mj_t2 (List.mem_of_getElem? (i := 69) rfl) rfl
theorem uX8_1 : u_lay RX8 TX8 1 ∈ mj_W := mj_t2 (List.mem_of_getElem? (i := 71) rfl) rfl
theorem uX8_2 : u_lay RX8 TX8 2 ∈ mj_W := mj_t2 (List.mem_of_getElem? (i := 73) rfl) rfl
theorem uX8_3 : u_lay RX8 TX8 3 ∈ mj_W := mj_t2 (List.mem_of_getElem? (i := 75) rfl) rfl
theorem uX8_4 : u_lay RX8 TX8 4 ∈ mj_W := mj_t2 (List.mem_of_getElem? (i := 77) rfl) rfl
theorem uX8_5 : u_lay RX8 TX8 5 ∈ mj_W := mj_t2 (List.mem_of_getElem? (i := 79) rfl) rfl
theorem uX8_6 : u_lay RX8 TX8 6 ∈ mj_W := mj_t2 (List.mem_of_getElem? (i := 81) rfl) rfl
theorem uX8_7 : u_lay RX8 TX8 7 ∈ mj_W := mj_t2 (List.mem_of_getElem? (i := 83) rfl) rfl
theorem uX9_0 : u_lay RX9 TX9 0 ∈ mj_W := mj_t1 (List.mem_of_getElem? (i := 53) rfl) rfl
theorem uX9_1 : u_lay RX9 TX9 1 ∈ mj_W := mj_t1 (List.mem_of_getElem? (i := 55) rfl) rfl
theorem uX9_2 : u_lay RX9 TX9 2 ∈ mj_W := mj_t1 (List.mem_of_getElem? (i := 57) rfl) rfl
theorem uX9_3 : u_lay RX9 TX9 3 ∈ mj_W := mj_t1 (List.mem_of_getElem? (i := 59) rfl) rfl
theorem uX9_4 : u_lay RX9 TX9 4 ∈ mj_W := mj_t1 (List.mem_of_getElem? (i := 61) rfl) rfl
theorem uX9_5 : u_lay RX9 TX9 5 ∈ mj_W := mj_t1 (List.mem_of_getElem? (i := 63) rfl) rfl
theorem uX9_6 : u_lay RX9 TX9 6 ∈ mj_W := mj_t1 (List.mem_of_getElem? (i := 65) rfl) rfl
theorem uX10_0 : u_lay RX10 TX10 0 ∈ mj_W := mj_t2 (List.mem_of_getElem? (i := 220) rfl) rfl
theorem uX10_1 : u_lay RX10 TX10 1 ∈ mj_W := mj_t2 (List.mem_of_getElem? (i := 222) rfl) rfl
theorem uX10_2 : u_lay RX10 TX10 2 ∈ mj_W := mj_t2 (List.mem_of_getElem? (i := 224) rfl) rfl
theorem uX10_3 : u_lay RX10 TX10 3 ∈ mj_W := mj_t2 (List.mem_of_getElem? (i := 226) rfl) rfl
theorem uX10_4 : u_lay RX10 TX10 4 ∈ mj_W := mj_t2 (List.mem_of_getElem? (i := 228) rfl) rfl
theorem uX10_5 : u_lay RX10 TX10 5 ∈ mj_W := mj_t2 (List.mem_of_getElem? (i := 230) rfl) rfl
theorem uX10_6 : u_lay RX10 TX10 6 ∈ mj_W := mj_t2 (List.mem_of_getElem? (i := 232) rfl) rfl
theorem uX10_7 : u_lay RX10 TX10 7 ∈ mj_W := mj_t2 (List.mem_of_getElem? (i := 234) rfl) rfl
theorem uX10_8 : u_lay RX10 TX10 8 ∈ mj_W := mj_t2 (List.mem_of_getElem? (i := 236) rfl) rfl
theorem uX10_9 : u_lay RX10 TX10 9 ∈ mj_W := mj_t2 (List.mem_of_getElem? (i := 238) rfl) rfl
theorem uX10_10 : u_lay RX10 TX10 10 ∈ mj_W := mj_t3 (List.mem_of_getElem? (i := 0) rfl) rfl
theorem uX10_11 : u_lay RX10 TX10 11 ∈ mj_W := mj_t3 (List.mem_of_getElem? (i := 2) rfl) rfl
theorem uX10_12 : u_lay RX10 TX10 12 ∈ mj_W := mj_t3 (List.mem_of_getElem? (i := 4) rfl) rfl
theorem uX11_0 : u_lay RX11 TX11 0 ∈ mj_W := mj_t7 (List.mem_of_getElem? (i := 63) rfl) rfl
theorem uX11_1 : u_lay RX11 TX11 1 ∈ mj_W := mj_t7 (List.mem_of_getElem? (i := 65) rfl) rfl
theorem uX11_2 : u_lay RX11 TX11 2 ∈ mj_W := mj_t7 (List.mem_of_getElem? (i := 67) rfl) rfl
theorem uX11_3 : u_lay RX11 TX11 3 ∈ mj_W := mj_t7 (List.mem_of_getElem? (i := 69) rfl) rfl
theorem uX11_4 : u_lay RX11 TX11 4 ∈ mj_W := mj_t7 (List.mem_of_getElem? (i := 71) rfl) rfl
theorem uX11_5 : u_lay RX11 TX11 5 ∈ mj_W := mj_t7 (List.mem_of_getElem? (i := 73) rfl) rfl
theorem uX11_6 : u_lay RX11 TX11 6 ∈ mj_W := mj_t7 (List.mem_of_getElem? (i := 75) rfl) rfl
theorem uX11_7 : u_lay RX11 TX11 7 ∈ mj_W := mj_t7 (List.mem_of_getElem? (i := 77) rfl) rfl
theorem uX11_8 : u_lay RX11 TX11 8 ∈ mj_W := mj_t7 (List.mem_of_getElem? (i := 79) rfl) rfl
theorem uX11_9 : u_lay RX11 TX11 9 ∈ mj_W := mj_t7 (List.mem_of_getElem? (i := 81) rfl) rfl
theorem uX11_10 : u_lay RX11 TX11 10 ∈ mj_W := mj_t7 (List.mem_of_getElem? (i := 83) rfl) rfl
theorem uX11_11 : u_lay RX11 TX11 11 ∈ mj_W := mj_t7 (List.mem_of_getElem? (i := 85) rfl) rfl
theorem uX11_12 : u_lay RX11 TX11 12 ∈ mj_W := mj_t7 (List.mem_of_getElem? (i := 87) rfl) rfl
theorem uX11_13 : u_lay RX11 TX11 13 ∈ mj_W := mj_t7 (List.mem_of_getElem? (i := 89) rfl) rfl
theorem uX11_14 : u_lay RX11 TX11 14 ∈ mj_W := mj_t7 (List.mem_of_getElem? (i := 91) rfl) rfl
theorem uX11_15 : u_lay RX11 TX11 15 ∈ mj_W := mj_t7 (List.mem_of_getElem? (i := 93) rfl) rfl
theorem uX11_16 : u_lay RX11 TX11 16 ∈ mj_W := mj_t7 (List.mem_of_getElem? (i := 95) rfl) rfl
theorem uX11_17 : u_lay RX11 TX11 17 ∈ mj_W := mj_t7 (List.mem_of_getElem? (i := 97) rfl) rfl
theorem uX11_18 : u_lay RX11 TX11 18 ∈ mj_W := mj_t7 (List.mem_of_getElem? (i := 99) rfl) rfl
theorem uX11_19 : u_lay RX11 TX11 19 ∈ mj_W := mj_t7 (List.mem_of_getElem? (i := 101) rfl) rfl
theorem uX11_20 : u_lay RX11 TX11 20 ∈ mj_W := mj_t7 (List.mem_of_getElem? (i := 103) rfl) rfl
theorem uX11_21 : u_lay RX11 TX11 21 ∈ mj_W := mj_t7 (List.mem_of_getElem? (i := 105) rfl) rfl
theorem uX11_22 : u_lay RX11 TX11 22 ∈ mj_W := mj_t7 (List.mem_of_getElem? (i := 107) rfl) rfl
theorem uX11_23 : u_lay RX11 TX11 23 ∈ mj_W := mj_t7 (List.mem_of_getElem? (i := 109) rfl) rfl
theorem uX11_24 : u_lay RX11 TX11 24 ∈ mj_W := mj_t7 (List.mem_of_getElem? (i := 111) rfl) rfl
theorem uX11_25 : u_lay RX11 TX11 25 ∈ mj_W := mj_t7 (List.mem_of_getElem? (i := 113) rfl) rfl
theorem uX11_26 : u_lay RX11 TX11 26 ∈ mj_W := mj_t7 (List.mem_of_getElem? (i := 115) rfl) rfl
theorem uX11_27 : u_lay RX11 TX11 27 ∈ mj_W := mj_t7 (List.mem_of_getElem? (i := 117) rfl) rfl
theorem uX11_28 : u_lay RX11 TX11 28 ∈ mj_W := mj_t7 (List.mem_of_getElem? (i := 119) rfl) rfl
theorem uX11_29 : u_lay RX11 TX11 29 ∈ mj_W := mj_t7 (List.mem_of_getElem? (i := 121) rfl) rfl
theorem uX11_30 : u_lay RX11 TX11 30 ∈ mj_W := mj_t7 (List.mem_of_getElem? (i := 123) rfl) rfl
theorem uX11_31 : u_lay RX11 TX11 31 ∈ mj_W := mj_t7 (List.mem_of_getElem? (i := 125) rfl) rfl
theorem uX11_32 : u_lay RX11 TX11 32 ∈ mj_W := mj_t7 (List.mem_of_getElem? (i := 127) rfl) rfl
theorem uX11_33 : u_lay RX11 TX11 33 ∈ mj_W := mj_t7 (List.mem_of_getElem? (i := 129) rfl) rfl
theorem uX11_34 : u_lay RX11 TX11 34 ∈ mj_W := mj_t7 (List.mem_of_getElem? (i := 131) rfl) rfl
theorem uX11_35 : u_lay RX11 TX11 35 ∈ mj_W := mj_t7 (List.mem_of_getElem? (i := 133) rfl) rfl
theorem uX11_36 : u_lay RX11 TX11 36 ∈ mj_W := mj_t7 (List.mem_of_getElem? (i := 135) rfl) rfl
theorem uX11_37 : u_lay RX11 TX11 37 ∈ mj_W := mj_t7 (List.mem_of_getElem? (i := 137) rfl) rfl
theorem uX11_38 : u_lay RX11 TX11 38 ∈ mj_W := mj_t7 (List.mem_of_getElem? (i := 139) rfl) rfl
theorem uX11_39 : u_lay RX11 TX11 39 ∈ mj_W := mj_t7 (List.mem_of_getElem? (i := 141) rfl) rfl
theorem uX11_40 : u_lay RX11 TX11 40 ∈ mj_W := mj_t7 (List.mem_of_getElem? (i := 143) rfl) rfl
theorem uX11_41 : u_lay RX11 TX11 41 ∈ mj_W := mj_t7 (List.mem_of_getElem? (i := 145) rfl) rfl
theorem uX11_42 : u_lay RX11 TX11 42 ∈ mj_W := mj_t7 (List.mem_of_getElem? (i := 147) rfl) rfl
theorem uX11_43 : u_lay RX11 TX11 43 ∈ mj_W := mj_t7 (List.mem_of_getElem? (i := 149) rfl) rfl
theorem uX11_44 : u_lay RX11 TX11 44 ∈ mj_W := mj_t7 (List.mem_of_getElem? (i := 151) rfl) rfl
theorem uX11_45 : u_lay RX11 TX11 45 ∈ mj_W := mj_t7 (List.mem_of_getElem? (i := 153) rfl) rfl
theorem uX11_46 : u_lay RX11 TX11 46 ∈ mj_W := mj_t7 (List.mem_of_getElem? (i := 155) rfl) rfl
theorem uX11_47 : u_lay RX11 TX11 47 ∈ mj_W := mj_t7 (List.mem_of_getElem? (i := 157) rfl) rfl
theorem uX11_48 : u_lay RX11 TX11 48 ∈ mj_W := mj_t7 (List.mem_of_getElem? (i := 159) rfl) rfl
theorem uX11_49 : u_lay RX11 TX11 49 ∈ mj_W := mj_t7 (List.mem_of_getElem? (i := 161) rfl) rfl
theorem uX11_50 : u_lay RX11 TX11 50 ∈ mj_W := mj_t7 (List.mem_of_getElem? (i := 163) rfl) rfl
theorem uX11_51 : u_lay RX11 TX11 51 ∈ mj_W := mj_t7 (List.mem_of_getElem? (i := 165) rfl) rfl
theorem uX11_52 : u_lay RX11 TX11 52 ∈ mj_W := mj_t7 (List.mem_of_getElem? (i := 167) rfl) rfl
theorem uX11_53 : u_lay RX11 TX11 53 ∈ mj_W := mj_t7 (List.mem_of_getElem? (i := 169) rfl) rfl
theorem uX11_54 : u_lay RX11 TX11 54 ∈ mj_W := mj_t7 (List.mem_of_getElem? (i := 171) rfl) rfl
theorem uX11_55 : u_lay RX11 TX11 55 ∈ mj_W := mj_t7 (List.mem_of_getElem? (i := 173) rfl) rfl
theorem uX11_56 : u_lay RX11 TX11 56 ∈ mj_W := mj_t7 (List.mem_of_getElem? (i := 175) rfl) rfl
theorem uX11_57 : u_lay RX11 TX11 57 ∈ mj_W := mj_t7 (List.mem_of_getElem? (i := 177) rfl) rfl
theorem uX11_58 : u_lay RX11 TX11 58 ∈ mj_W := mj_t7 (List.mem_of_getElem? (i := 179) rfl) rfl
theorem uX11_59 : u_lay RX11 TX11 59 ∈ mj_W := mj_t7 (List.mem_of_getElem? (i := 181) rfl) rfl
theorem uX11_60 : u_lay RX11 TX11 60 ∈ mj_W := mj_t7 (List.mem_of_getElem? (i := 183) rfl) rfl
theorem uX11_61 : u_lay RX11 TX11 61 ∈ mj_W := mj_t7 (List.mem_of_getElem? (i := 185) rfl) rfl
theorem uX11_62 : u_lay RX11 TX11 62 ∈ mj_W := mj_t7 (List.mem_of_getElem? (i := 187) rfl) rfl
theorem uX11_63 : u_lay RX11 TX11 63 ∈ mj_W := mj_t7 (List.mem_of_getElem? (i := 189) rfl) rfl
theorem uX11_64 : u_lay RX11 TX11 64 ∈ mj_W := mj_t7 (List.mem_of_getElem? (i := 191) rfl) rfl
theorem uX11_65 : u_lay RX11 TX11 65 ∈ mj_W := mj_t7 (List.mem_of_getElem? (i := 193) rfl) rfl
theorem uX11_66 : u_lay RX11 TX11 66 ∈ mj_W := mj_t7 (List.mem_of_getElem? (i := 195) rfl) rfl
theorem uX11_67 : u_lay RX11 TX11 67 ∈ mj_W := mj_t7 (List.mem_of_getElem? (i := 197) rfl) rfl
theorem uX11_68 : u_lay RX11 TX11 68 ∈ mj_W := mj_t7 (List.mem_of_getElem? (i := 199) rfl) rfl
theorem uX11_69 : u_lay RX11 TX11 69 ∈ mj_W := mj_t7 (List.mem_of_getElem? (i := 201) rfl) rfl
theorem fJ0_9 : Cond.fieldLink RJ0 9 "java/lang/String" "value" "[B" ∈ mj_W := mj_t10 (List.mem_of_getElem? (i := 85) rfl) rfl
theorem fJ0_15 : Cond.fieldLink RJ0 15 "java/lang/String" "coder" "B" ∈ mj_W := mj_t10 (List.mem_of_getElem? (i := 86) rfl) rfl
theorem fJ0_38 : Cond.fieldLink RJ0 38 "java/lang/String" "COMPACT_STRINGS" "Z" ∈ mj_W := mj_t3 (List.mem_of_getElem? (i := 68) rfl) rfl
theorem fJ0_1053 : Cond.fieldLink RJ0 1053 "jdk/internal/util/Preconditions" "SIOOBE_FORMATTER" "Ljava/util/function/BiFunction;" ∈ mj_W := mj_t3 (List.mem_of_getElem? (i := 84) rfl) rfl
theorem fJ2_44 : Cond.fieldLink RJ2 44 "java/lang/StringUTF16" "$assertionsDisabled" "Z" ∈ mj_W := mj_t3 (List.mem_of_getElem? (i := 102) rfl) rfl
theorem fJ2_59 : Cond.fieldLink RJ2 59 "java/lang/StringUTF16" "HI_BYTE_SHIFT" "I" ∈ mj_W := mj_t3 (List.mem_of_getElem? (i := 104) rfl) rfl
theorem fJ2_63 : Cond.fieldLink RJ2 63 "java/lang/StringUTF16" "LO_BYTE_SHIFT" "I" ∈ mj_W := mj_t3 (List.mem_of_getElem? (i := 106) rfl) rfl
theorem fX0_9 : Cond.fieldLink RX0 9 RX0 (TX0 1).2.1 (TX0 1).2.2.1 ∈ mj_W := mj_t1 (List.mem_of_getElem? (i := 155) rfl) rfl
theorem fX0_15 : Cond.fieldLink RX0 15 RX0 (TX0 2).2.1 (TX0 2).2.2.1 ∈ mj_W := mj_t1 (List.mem_of_getElem? (i := 156) rfl) rfl
theorem fX0_18 : Cond.fieldLink RX0 18 RX0 (TX0 3).2.1 (TX0 3).2.2.1 ∈ mj_W := mj_t1 (List.mem_of_getElem? (i := 160) rfl) rfl
theorem fX0_21 : Cond.fieldLink RX0 21 RX0 (TX0 4).2.1 (TX0 4).2.2.1 ∈ mj_W := mj_t1 (List.mem_of_getElem? (i := 164) rfl) rfl
theorem fX0_24 : Cond.fieldLink RX0 24 RX0 (TX0 5).2.1 (TX0 5).2.2.1 ∈ mj_W := mj_t1 (List.mem_of_getElem? (i := 166) rfl) rfl
theorem fX0_27 : Cond.fieldLink RX0 27 RX0 (TX0 7).2.1 (TX0 7).2.2.1 ∈ mj_W := mj_t1 (List.mem_of_getElem? (i := 176) rfl) rfl
theorem fX0_30 : Cond.fieldLink RX0 30 RX0 (TX0 8).2.1 (TX0 8).2.2.1 ∈ mj_W := mj_t1 (List.mem_of_getElem? (i := 180) rfl) rfl
theorem fX0_33 : Cond.fieldLink RX0 33 RX0 (TX0 9).2.1 (TX0 9).2.2.1 ∈ mj_W := mj_t1 (List.mem_of_getElem? (i := 184) rfl) rfl
theorem fX0_36 : Cond.fieldLink RX0 36 RX0 (TX0 11).2.1 (TX0 11).2.2.1 ∈ mj_W := mj_t1 (List.mem_of_getElem? (i := 189) rfl) rfl
theorem fX0_42 : Cond.fieldLink RX0 42 RX0 (TX0 14).2.1 (TX0 14).2.2.1 ∈ mj_W := mj_t1 (List.mem_of_getElem? (i := 197) rfl) rfl
theorem fX0_49 : Cond.fieldLink RX0 49 RX0 (TX0 15).2.1 (TX0 15).2.2.1 ∈ mj_W := mj_t1 (List.mem_of_getElem? (i := 202) rfl) rfl
theorem fX0_53 : Cond.fieldLink RX0 53 RX0 (TX0 0).2.1 (TX0 0).2.2.1 ∈ mj_W := mj_t1 (List.mem_of_getElem? (i := 151) rfl) rfl
theorem fX0_57 : Cond.fieldLink RX0 57 RX0 (TX0 6).2.1 (TX0 6).2.2.1 ∈ mj_W := mj_t1 (List.mem_of_getElem? (i := 170) rfl) rfl
theorem fX0_60 : Cond.fieldLink RX0 60 RX0 (TX0 10).2.1 (TX0 10).2.2.1 ∈ mj_W := mj_t1 (List.mem_of_getElem? (i := 187) rfl) rfl
theorem fX0_63 : Cond.fieldLink RX0 63 RX0 (TX0 12).2.1 (TX0 12).2.2.1 ∈ mj_W := mj_t1 (List.mem_of_getElem? (i := 190) rfl) rfl
theorem fX0_66 : Cond.fieldLink RX0 66 RX0 (TX0 13).2.1 (TX0 13).2.2.1 ∈ mj_W := mj_t1 (List.mem_of_getElem? (i := 194) rfl) rfl
theorem fX0_73 : Cond.fieldLink RX0 73 RX4 (TX4 0).2.1 (TX4 0).2.2.1 ∈ mj_W := mj_t1 (List.mem_of_getElem? (i := 82) rfl) rfl
theorem fX0_76 : Cond.fieldLink RX0 76 RX4 (TX4 4).2.1 (TX4 4).2.2.1 ∈ mj_W := mj_t1 (List.mem_of_getElem? (i := 98) rfl) rfl
theorem fX0_85 : Cond.fieldLink RX0 85 RX4 (TX4 1).2.1 (TX4 1).2.2.1 ∈ mj_W := mj_t1 (List.mem_of_getElem? (i := 87) rfl) rfl
theorem fX0_88 : Cond.fieldLink RX0 88 RX4 (TX4 3).2.1 (TX4 3).2.2.1 ∈ mj_W := mj_t1 (List.mem_of_getElem? (i := 95) rfl) rfl
theorem fX0_91 : Cond.fieldLink RX0 91 RX4 (TX4 2).2.1 (TX4 2).2.2.1 ∈ mj_W := mj_t1 (List.mem_of_getElem? (i := 91) rfl) rfl
theorem fX1_11 : Cond.fieldLink RX1 11 RX1 (TX1 1).2.1 (TX1 1).2.2.1 ∈ mj_W := mj_t2 (List.mem_of_getElem? (i := 167) rfl) rfl
theorem fX1_15 : Cond.fieldLink RX1 15 RX1 (TX1 2).2.1 (TX1 2).2.2.1 ∈ mj_W := mj_t2 (List.mem_of_getElem? (i := 169) rfl) rfl
theorem fX1_19 : Cond.fieldLink RX1 19 RX1 (TX1 3).2.1 (TX1 3).2.2.1 ∈ mj_W := mj_t2 (List.mem_of_getElem? (i := 170) rfl) rfl
theorem fX1_22 : Cond.fieldLink RX1 22 RX1 (TX1 4).2.1 (TX1 4).2.2.1 ∈ mj_W := mj_t2 (List.mem_of_getElem? (i := 171) rfl) rfl
theorem fX1_25 : Cond.fieldLink RX1 25 RX1 (TX1 5).2.1 (TX1 5).2.2.1 ∈ mj_W := mj_t2 (List.mem_of_getElem? (i := 172) rfl) rfl
theorem fX1_28 : Cond.fieldLink RX1 28 RX1 (TX1 6).2.1 (TX1 6).2.2.1 ∈ mj_W := mj_t2 (List.mem_of_getElem? (i := 173) rfl) rfl
theorem fX1_32 : Cond.fieldLink RX1 32 RX1 (TX1 0).2.1 (TX1 0).2.2.1 ∈ mj_W := mj_t2 (List.mem_of_getElem? (i := 165) rfl) rfl
theorem fX10_12 : Cond.fieldLink RX10 12 RX10 (TX10 0).2.1 (TX10 0).2.2.1 ∈ mj_W := mj_t2 (List.mem_of_getElem? (i := 207) rfl) rfl
theorem fX10_21 : Cond.fieldLink RX10 21 RX10 (TX10 9).2.1 (TX10 9).2.2.1 ∈ mj_W := mj_t2 (List.mem_of_getElem? (i := 216) rfl) rfl
theorem fX10_30 : Cond.fieldLink RX10 30 RX10 (TX10 1).2.1 (TX10 1).2.2.1 ∈ mj_W := mj_t2 (List.mem_of_getElem? (i := 208) rfl) rfl
theorem fX10_34 : Cond.fieldLink RX10 34 RX10 (TX10 2).2.1 (TX10 2).2.2.1 ∈ mj_W := mj_t2 (List.mem_of_getElem? (i := 209) rfl) rfl
theorem fX10_37 : Cond.fieldLink RX10 37 RX10 (TX10 3).2.1 (TX10 3).2.2.1 ∈ mj_W := mj_t2 (List.mem_of_getElem? (i := 210) rfl) rfl
theorem fX10_43 : Cond.fieldLink RX10 43 RX10 (TX10 4).2.1 (TX10 4).2.2.1 ∈ mj_W := mj_t2 (List.mem_of_getElem? (i := 211) rfl) rfl
theorem fX10_50 : Cond.fieldLink RX10 50 RX10 (TX10 5).2.1 (TX10 5).2.2.1 ∈ mj_W := mj_t2 (List.mem_of_getElem? (i := 212) rfl) rfl
theorem fX10_57 : Cond.fieldLink RX10 57 RX10 (TX10 6).2.1 (TX10 6).2.2.1 ∈ mj_W := mj_t2 (List.mem_of_getElem? (i := 213) rfl) rfl
theorem fX10_64 : Cond.fieldLink RX10 64 RX10 (TX10 7).2.1 (TX10 7).2.2.1 ∈ mj_W := mj_t2 (List.mem_of_getElem? (i := 214) rfl) rfl
theorem fX10_68 : Cond.fieldLink RX10 68 RX10 (TX10 8).2.1 (TX10 8).2.2.1 ∈ mj_W := mj_t2 (List.mem_of_getElem? (i := 215) rfl) rfl
theorem fX10_72 : Cond.fieldLink RX10 72 RX10 (TX10 12).2.1 (TX10 12).2.2.1 ∈ mj_W := mj_t2 (List.mem_of_getElem? (i := 219) rfl) rfl
theorem fX10_76 : Cond.fieldLink RX10 76 RX7 (TX7 0).2.1 (TX7 0).2.2.1 ∈ mj_W := mj_t2 (List.mem_of_getElem? (i := 0) rfl) rfl
theorem fX10_90 : Cond.fieldLink RX10 90 RX9 (TX9 0).2.1 (TX9 0).2.2.1 ∈ mj_W := mj_t1 (List.mem_of_getElem? (i := 46) rfl) rfl
theorem fX10_96 : Cond.fieldLink RX10 96 RX7 (TX7 2).2.1 (TX7 2).2.2.1 ∈ mj_W := mj_t2 (List.mem_of_getElem? (i := 4) rfl) rfl
theorem fX10_99 : Cond.fieldLink RX10 99 RX10 (TX10 11).2.1 (TX10 11).2.2.1 ∈ mj_W := mj_t2 (List.mem_of_getElem? (i := 218) rfl) rfl
theorem fX10_102 : Cond.fieldLink RX10 102 RX7 (TX7 3).2.1 (TX7 3).2.2.1 ∈ mj_W := mj_t2 (List.mem_of_getElem? (i := 6) rfl) rfl
theorem fX10_105 : Cond.fieldLink RX10 105 RX7 (TX7 1).2.1 (TX7 1).2.2.1 ∈ mj_W := mj_t2 (List.mem_of_getElem? (i := 2) rfl) rfl
theorem fX10_109 : Cond.fieldLink RX10 109 RX10 (TX10 10).2.1 (TX10 10).2.2.1 ∈ mj_W := mj_t2 (List.mem_of_getElem? (i := 217) rfl) rfl
theorem fX10_117 : Cond.fieldLink RX10 117 RX7 (TX7 4).2.1 (TX7 4).2.2.1 ∈ mj_W := mj_t2 (List.mem_of_getElem? (i := 8) rfl) rfl
theorem fX10_135 : Cond.fieldLink RX10 135 RX0 (TX0 2).2.1 (TX0 2).2.2.1 ∈ mj_W := mj_t1 (List.mem_of_getElem? (i := 158) rfl) rfl
theorem fX10_138 : Cond.fieldLink RX10 138 RX0 (TX0 3).2.1 (TX0 3).2.2.1 ∈ mj_W := mj_t1 (List.mem_of_getElem? (i := 162) rfl) rfl
theorem fX10_141 : Cond.fieldLink RX10 141 RX8 (TX8 1).2.1 (TX8 1).2.2.1 ∈ mj_W := mj_t2 (List.mem_of_getElem? (i := 49) rfl) rfl
theorem fX10_144 : Cond.fieldLink RX10 144 RX0 (TX0 5).2.1 (TX0 5).2.2.1 ∈ mj_W := mj_t1 (List.mem_of_getElem? (i := 168) rfl) rfl
theorem fX10_147 : Cond.fieldLink RX10 147 RX0 (TX0 14).2.1 (TX0 14).2.2.1 ∈ mj_W := mj_t1 (List.mem_of_getElem? (i := 199) rfl) rfl
theorem fX10_177 : Cond.fieldLink RX10 177 RX0 (TX0 7).2.1 (TX0 7).2.2.1 ∈ mj_W := mj_t1 (List.mem_of_getElem? (i := 178) rfl) rfl
theorem fX10_180 : Cond.fieldLink RX10 180 RX0 (TX0 8).2.1 (TX0 8).2.2.1 ∈ mj_W := mj_t1 (List.mem_of_getElem? (i := 182) rfl) rfl
theorem fX10_183 : Cond.fieldLink RX10 183 RX0 (TX0 9).2.1 (TX0 9).2.2.1 ∈ mj_W := mj_t1 (List.mem_of_getElem? (i := 186) rfl) rfl
theorem fX10_193 : Cond.fieldLink RX10 193 RX8 (TX8 2).2.1 (TX8 2).2.2.1 ∈ mj_W := mj_t2 (List.mem_of_getElem? (i := 54) rfl) rfl
theorem fX10_199 : Cond.fieldLink RX10 199 RX4 (TX4 1).2.1 (TX4 1).2.2.1 ∈ mj_W := mj_t1 (List.mem_of_getElem? (i := 85) rfl) rfl
theorem fX10_202 : Cond.fieldLink RX10 202 RX4 (TX4 2).2.1 (TX4 2).2.2.1 ∈ mj_W := mj_t1 (List.mem_of_getElem? (i := 90) rfl) rfl
theorem fX10_205 : Cond.fieldLink RX10 205 RX4 (TX4 3).2.1 (TX4 3).2.2.1 ∈ mj_W := mj_t1 (List.mem_of_getElem? (i := 94) rfl) rfl
theorem fX10_214 : Cond.fieldLink RX10 214 RX4 (TX4 5).2.1 (TX4 5).2.2.1 ∈ mj_W := mj_t1 (List.mem_of_getElem? (i := 104) rfl) rfl
theorem fX10_217 : Cond.fieldLink RX10 217 RX4 (TX4 6).2.1 (TX4 6).2.2.1 ∈ mj_W := mj_t1 (List.mem_of_getElem? (i := 108) rfl) rfl
theorem fX10_220 : Cond.fieldLink RX10 220 RX8 (TX8 3).2.1 (TX8 3).2.2.1 ∈ mj_W := mj_t2 (List.mem_of_getElem? (i := 57) rfl) rfl
theorem fX10_223 : Cond.fieldLink RX10 223 RX8 (TX8 4).2.1 (TX8 4).2.2.1 ∈ mj_W := mj_t2 (List.mem_of_getElem? (i := 60) rfl) rfl
theorem fX10_262 : Cond.fieldLink RX10 262 RX8 (TX8 6).2.1 (TX8 6).2.2.1 ∈ mj_W := mj_t2 (List.mem_of_getElem? (i := 66) rfl) rfl
theorem fX10_265 : Cond.fieldLink RX10 265 RX5 (TX5 0).2.1 (TX5 0).2.2.1 ∈ mj_W := mj_t2 (List.mem_of_getElem? (i := 93) rfl) rfl
theorem fX10_287 : Cond.fieldLink RX10 287 RX8 (TX8 5).2.1 (TX8 5).2.2.1 ∈ mj_W := mj_t2 (List.mem_of_getElem? (i := 63) rfl) rfl
theorem fX10_293 : Cond.fieldLink RX10 293 RX0 (TX0 0).2.1 (TX0 0).2.2.1 ∈ mj_W := mj_t1 (List.mem_of_getElem? (i := 154) rfl) rfl
theorem fX10_324 : Cond.fieldLink RX10 324 RX6 (TX6 0).2.1 (TX6 0).2.2.1 ∈ mj_W := mj_t2 (List.mem_of_getElem? (i := 135) rfl) rfl
theorem fX10_327 : Cond.fieldLink RX10 327 RX6 (TX6 1).2.1 (TX6 1).2.2.1 ∈ mj_W := mj_t2 (List.mem_of_getElem? (i := 137) rfl) rfl
theorem fX10_330 : Cond.fieldLink RX10 330 RX6 (TX6 2).2.1 (TX6 2).2.2.1 ∈ mj_W := mj_t2 (List.mem_of_getElem? (i := 139) rfl) rfl
theorem fX10_358 : Cond.fieldLink RX10 358 RX0 (TX0 12).2.1 (TX0 12).2.2.1 ∈ mj_W := mj_t1 (List.mem_of_getElem? (i := 193) rfl) rfl
theorem fX10_370 : Cond.fieldLink RX10 370 RX1 (TX1 0).2.1 (TX1 0).2.2.1 ∈ mj_W := mj_t2 (List.mem_of_getElem? (i := 166) rfl) rfl
theorem fX10_373 : Cond.fieldLink RX10 373 RX1 (TX1 1).2.1 (TX1 1).2.2.1 ∈ mj_W := mj_t2 (List.mem_of_getElem? (i := 168) rfl) rfl
theorem fX10_388 : Cond.fieldLink RX10 388 RX8 (TX8 7).2.1 (TX8 7).2.2.1 ∈ mj_W := mj_t2 (List.mem_of_getElem? (i := 68) rfl) rfl
theorem fX10_391 : Cond.fieldLink RX10 391 RX5 (TX5 1).2.1 (TX5 1).2.2.1 ∈ mj_W := mj_t2 (List.mem_of_getElem? (i := 95) rfl) rfl
theorem fX10_394 : Cond.fieldLink RX10 394 RX5 (TX5 2).2.1 (TX5 2).2.2.1 ∈ mj_W := mj_t2 (List.mem_of_getElem? (i := 97) rfl) rfl
theorem fX10_397 : Cond.fieldLink RX10 397 RX5 (TX5 5).2.1 (TX5 5).2.2.1 ∈ mj_W := mj_t2 (List.mem_of_getElem? (i := 103) rfl) rfl
theorem fX10_400 : Cond.fieldLink RX10 400 RX5 (TX5 3).2.1 (TX5 3).2.2.1 ∈ mj_W := mj_t2 (List.mem_of_getElem? (i := 99) rfl) rfl
theorem fX10_403 : Cond.fieldLink RX10 403 RX5 (TX5 4).2.1 (TX5 4).2.2.1 ∈ mj_W := mj_t2 (List.mem_of_getElem? (i := 101) rfl) rfl
theorem fX10_410 : Cond.fieldLink RX10 410 RX2 (TX2 0).2.1 (TX2 0).2.2.1 ∈ mj_W := mj_t2 (List.mem_of_getElem? (i := 197) rfl) rfl
theorem fX10_411 : Cond.fieldLink RX10 411 RX4 (TX4 0).2.1 (TX4 0).2.2.1 ∈ mj_W := mj_t1 (List.mem_of_getElem? (i := 83) rfl) rfl
theorem fX10_412 : Cond.fieldLink RX10 412 RX0 (TX0 6).2.1 (TX0 6).2.2.1 ∈ mj_W := mj_t1 (List.mem_of_getElem? (i := 175) rfl) rfl
theorem fX10_415 : Cond.fieldLink RX10 415 RX0 (TX0 10).2.1 (TX0 10).2.2.1 ∈ mj_W := mj_t1 (List.mem_of_getElem? (i := 188) rfl) rfl
theorem fX10_418 : Cond.fieldLink RX10 418 RX4 (TX4 4).2.1 (TX4 4).2.2.1 ∈ mj_W := mj_t1 (List.mem_of_getElem? (i := 101) rfl) rfl
theorem fX10_421 : Cond.fieldLink RX10 421 RX0 (TX0 15).2.1 (TX0 15).2.2.1 ∈ mj_W := mj_t1 (List.mem_of_getElem? (i := 205) rfl) rfl
theorem fX10_425 : Cond.fieldLink RX10 425 RX3 (TX3 0).2.1 (TX3 0).2.2.1 ∈ mj_W := mj_t1 (List.mem_of_getElem? (i := 131) rfl) rfl
theorem fX10_439 : Cond.fieldLink RX10 439 RX5 (TX5 6).2.1 (TX5 6).2.2.1 ∈ mj_W := mj_t2 (List.mem_of_getElem? (i := 105) rfl) rfl
theorem fX10_442 : Cond.fieldLink RX10 442 RX5 (TX5 7).2.1 (TX5 7).2.2.1 ∈ mj_W := mj_t2 (List.mem_of_getElem? (i := 107) rfl) rfl
theorem fX11_7 : Cond.fieldLink RX11 7 RX11 (TX11 1).2.1 (TX11 1).2.2.1 ∈ mj_W := mj_t6 (List.mem_of_getElem? (i := 234) rfl) rfl
theorem fX11_13 : Cond.fieldLink RX11 13 RX11 (TX11 3).2.1 (TX11 3).2.2.1 ∈ mj_W := mj_t6 (List.mem_of_getElem? (i := 236) rfl) rfl
theorem fX11_16 : Cond.fieldLink RX11 16 RX11 (TX11 4).2.1 (TX11 4).2.2.1 ∈ mj_W := mj_t6 (List.mem_of_getElem? (i := 237) rfl) rfl
theorem fX11_19 : Cond.fieldLink RX11 19 RX11 (TX11 5).2.1 (TX11 5).2.2.1 ∈ mj_W := mj_t6 (List.mem_of_getElem? (i := 238) rfl) rfl
theorem fX11_22 : Cond.fieldLink RX11 22 RX11 (TX11 6).2.1 (TX11 6).2.2.1 ∈ mj_W := mj_t6 (List.mem_of_getElem? (i := 239) rfl) rfl
theorem fX11_25 : Cond.fieldLink RX11 25 RX11 (TX11 7).2.1 (TX11 7).2.2.1 ∈ mj_W := mj_t7 (List.mem_of_getElem? (i := 0) rfl) rfl
theorem fX11_28 : Cond.fieldLink RX11 28 RX11 (TX11 8).2.1 (TX11 8).2.2.1 ∈ mj_W := mj_t7 (List.mem_of_getElem? (i := 1) rfl) rfl
theorem fX11_31 : Cond.fieldLink RX11 31 RX11 (TX11 9).2.1 (TX11 9).2.2.1 ∈ mj_W := mj_t7 (List.mem_of_getElem? (i := 2) rfl) rfl
theorem fX11_34 : Cond.fieldLink RX11 34 RX11 (TX11 10).2.1 (TX11 10).2.2.1 ∈ mj_W := mj_t7 (List.mem_of_getElem? (i := 3) rfl) rfl
theorem fX11_37 : Cond.fieldLink RX11 37 RX11 (TX11 11).2.1 (TX11 11).2.2.1 ∈ mj_W := mj_t7 (List.mem_of_getElem? (i := 4) rfl) rfl
theorem fX11_40 : Cond.fieldLink RX11 40 RX11 (TX11 12).2.1 (TX11 12).2.2.1 ∈ mj_W := mj_t7 (List.mem_of_getElem? (i := 5) rfl) rfl
theorem fX11_43 : Cond.fieldLink RX11 43 RX11 (TX11 13).2.1 (TX11 13).2.2.1 ∈ mj_W := mj_t7 (List.mem_of_getElem? (i := 6) rfl) rfl
theorem fX11_46 : Cond.fieldLink RX11 46 RX11 (TX11 14).2.1 (TX11 14).2.2.1 ∈ mj_W := mj_t7 (List.mem_of_getElem? (i := 7) rfl) rfl
theorem fX11_49 : Cond.fieldLink RX11 49 RX11 (TX11 15).2.1 (TX11 15).2.2.1 ∈ mj_W := mj_t7 (List.mem_of_getElem? (i := 8) rfl) rfl
theorem fX11_52 : Cond.fieldLink RX11 52 RX11 (TX11 16).2.1 (TX11 16).2.2.1 ∈ mj_W := mj_t7 (List.mem_of_getElem? (i := 9) rfl) rfl
theorem fX11_55 : Cond.fieldLink RX11 55 RX11 (TX11 17).2.1 (TX11 17).2.2.1 ∈ mj_W := mj_t7 (List.mem_of_getElem? (i := 10) rfl) rfl
theorem fX11_58 : Cond.fieldLink RX11 58 RX11 (TX11 18).2.1 (TX11 18).2.2.1 ∈ mj_W := mj_t7 (List.mem_of_getElem? (i := 11) rfl) rfl
theorem fX11_61 : Cond.fieldLink RX11 61 RX11 (TX11 19).2.1 (TX11 19).2.2.1 ∈ mj_W := mj_t7 (List.mem_of_getElem? (i := 12) rfl) rfl
theorem fX11_64 : Cond.fieldLink RX11 64 RX11 (TX11 20).2.1 (TX11 20).2.2.1 ∈ mj_W := mj_t7 (List.mem_of_getElem? (i := 13) rfl) rfl
theorem fX11_67 : Cond.fieldLink RX11 67 RX11 (TX11 21).2.1 (TX11 21).2.2.1 ∈ mj_W := mj_t7 (List.mem_of_getElem? (i := 14) rfl) rfl
theorem fX11_70 : Cond.fieldLink RX11 70 RX11 (TX11 22).2.1 (TX11 22).2.2.1 ∈ mj_W := mj_t7 (List.mem_of_getElem? (i := 15) rfl) rfl
theorem fX11_73 : Cond.fieldLink RX11 73 RX11 (TX11 23).2.1 (TX11 23).2.2.1 ∈ mj_W := mj_t7 (List.mem_of_getElem? (i := 16) rfl) rfl
theorem fX11_76 : Cond.fieldLink RX11 76 RX11 (TX11 34).2.1 (TX11 34).2.2.1 ∈ mj_W := mj_t7 (List.mem_of_getElem? (i := 27) rfl) rfl
theorem fX11_80 : Cond.fieldLink RX11 80 RX11 (TX11 37).2.1 (TX11 37).2.2.1 ∈ mj_W := mj_t7 (List.mem_of_getElem? (i := 30) rfl) rfl
theorem fX11_84 : Cond.fieldLink RX11 84 RX11 (TX11 38).2.1 (TX11 38).2.2.1 ∈ mj_W := mj_t7 (List.mem_of_getElem? (i := 31) rfl) rfl
theorem fX11_87 : Cond.fieldLink RX11 87 RX11 (TX11 40).2.1 (TX11 40).2.2.1 ∈ mj_W := mj_t7 (List.mem_of_getElem? (i := 33) rfl) rfl
theorem fX11_90 : Cond.fieldLink RX11 90 RX11 (TX11 41).2.1 (TX11 41).2.2.1 ∈ mj_W := mj_t7 (List.mem_of_getElem? (i := 34) rfl) rfl
theorem fX11_93 : Cond.fieldLink RX11 93 RX11 (TX11 42).2.1 (TX11 42).2.2.1 ∈ mj_W := mj_t7 (List.mem_of_getElem? (i := 35) rfl) rfl
theorem fX11_96 : Cond.fieldLink RX11 96 RX11 (TX11 43).2.1 (TX11 43).2.2.1 ∈ mj_W := mj_t7 (List.mem_of_getElem? (i := 36) rfl) rfl
theorem fX11_99 : Cond.fieldLink RX11 99 RX11 (TX11 44).2.1 (TX11 44).2.2.1 ∈ mj_W := mj_t7 (List.mem_of_getElem? (i := 37) rfl) rfl
theorem fX11_102 : Cond.fieldLink RX11 102 RX11 (TX11 45).2.1 (TX11 45).2.2.1 ∈ mj_W := mj_t7 (List.mem_of_getElem? (i := 38) rfl) rfl
theorem fX11_105 : Cond.fieldLink RX11 105 RX11 (TX11 46).2.1 (TX11 46).2.2.1 ∈ mj_W := mj_t7 (List.mem_of_getElem? (i := 39) rfl) rfl
theorem fX11_108 : Cond.fieldLink RX11 108 RX11 (TX11 50).2.1 (TX11 50).2.2.1 ∈ mj_W := mj_t7 (List.mem_of_getElem? (i := 43) rfl) rfl
theorem fX11_111 : Cond.fieldLink RX11 111 RX11 (TX11 51).2.1 (TX11 51).2.2.1 ∈ mj_W := mj_t7 (List.mem_of_getElem? (i := 44) rfl) rfl
theorem fX11_114 : Cond.fieldLink RX11 114 RX11 (TX11 53).2.1 (TX11 53).2.2.1 ∈ mj_W := mj_t7 (List.mem_of_getElem? (i := 46) rfl) rfl
theorem fX11_117 : Cond.fieldLink RX11 117 RX11 (TX11 59).2.1 (TX11 59).2.2.1 ∈ mj_W := mj_t7 (List.mem_of_getElem? (i := 52) rfl) rfl
theorem fX11_120 : Cond.fieldLink RX11 120 RX11 (TX11 60).2.1 (TX11 60).2.2.1 ∈ mj_W := mj_t7 (List.mem_of_getElem? (i := 53) rfl) rfl
theorem fX11_123 : Cond.fieldLink RX11 123 RX11 (TX11 62).2.1 (TX11 62).2.2.1 ∈ mj_W := mj_t7 (List.mem_of_getElem? (i := 55) rfl) rfl
theorem fX11_126 : Cond.fieldLink RX11 126 RX11 (TX11 63).2.1 (TX11 63).2.2.1 ∈ mj_W := mj_t7 (List.mem_of_getElem? (i := 56) rfl) rfl
theorem fX11_129 : Cond.fieldLink RX11 129 RX11 (TX11 64).2.1 (TX11 64).2.2.1 ∈ mj_W := mj_t7 (List.mem_of_getElem? (i := 57) rfl) rfl
theorem fX11_132 : Cond.fieldLink RX11 132 RX11 (TX11 65).2.1 (TX11 65).2.2.1 ∈ mj_W := mj_t7 (List.mem_of_getElem? (i := 58) rfl) rfl
theorem fX11_135 : Cond.fieldLink RX11 135 RX11 (TX11 66).2.1 (TX11 66).2.2.1 ∈ mj_W := mj_t7 (List.mem_of_getElem? (i := 59) rfl) rfl
theorem fX11_139 : Cond.fieldLink RX11 139 RX11 (TX11 67).2.1 (TX11 67).2.2.1 ∈ mj_W := mj_t7 (List.mem_of_getElem? (i := 60) rfl) rfl
theorem fX11_142 : Cond.fieldLink RX11 142 RX11 (TX11 68).2.1 (TX11 68).2.2.1 ∈ mj_W := mj_t7 (List.mem_of_getElem? (i := 61) rfl) rfl
theorem fX11_145 : Cond.fieldLink RX11 145 RX11 (TX11 69).2.1 (TX11 69).2.2.1 ∈ mj_W := mj_t7 (List.mem_of_getElem? (i := 62) rfl) rfl
theorem fX11_151 : Cond.fieldLink RX11 151 RX11 (TX11 0).2.1 (TX11 0).2.2.1 ∈ mj_W := mj_t6 (List.mem_of_getElem? (i := 233) rfl) rfl
theorem fX11_154 : Cond.fieldLink RX11 154 RX11 (TX11 2).2.1 (TX11 2).2.2.1 ∈ mj_W := mj_t6 (List.mem_of_getElem? (i := 235) rfl) rfl
theorem fX11_157 : Cond.fieldLink RX11 157 RX11 (TX11 27).2.1 (TX11 27).2.2.1 ∈ mj_W := mj_t7 (List.mem_of_getElem? (i := 20) rfl) rfl
theorem fX11_160 : Cond.fieldLink RX11 160 RX11 (TX11 26).2.1 (TX11 26).2.2.1 ∈ mj_W := mj_t7 (List.mem_of_getElem? (i := 19) rfl) rfl
theorem fX11_167 : Cond.fieldLink RX11 167 RX11 (TX11 28).2.1 (TX11 28).2.2.1 ∈ mj_W := mj_t7 (List.mem_of_getElem? (i := 21) rfl) rfl
theorem fX11_170 : Cond.fieldLink RX11 170 RX11 (TX11 29).2.1 (TX11 29).2.2.1 ∈ mj_W := mj_t7 (List.mem_of_getElem? (i := 22) rfl) rfl
theorem fX11_180 : Cond.fieldLink RX11 180 RX11 (TX11 30).2.1 (TX11 30).2.2.1 ∈ mj_W := mj_t7 (List.mem_of_getElem? (i := 23) rfl) rfl
theorem fX11_205 : Cond.fieldLink RX11 205 RX11 (TX11 31).2.1 (TX11 31).2.2.1 ∈ mj_W := mj_t7 (List.mem_of_getElem? (i := 24) rfl) rfl
theorem fX11_208 : Cond.fieldLink RX11 208 RX11 (TX11 32).2.1 (TX11 32).2.2.1 ∈ mj_W := mj_t7 (List.mem_of_getElem? (i := 25) rfl) rfl
theorem fX11_228 : Cond.fieldLink RX11 228 RX11 (TX11 24).2.1 (TX11 24).2.2.1 ∈ mj_W := mj_t7 (List.mem_of_getElem? (i := 17) rfl) rfl
theorem fX11_267 : Cond.fieldLink RX11 267 RX11 (TX11 25).2.1 (TX11 25).2.2.1 ∈ mj_W := mj_t7 (List.mem_of_getElem? (i := 18) rfl) rfl
theorem fX11_273 : Cond.fieldLink RX11 273 RX11 (TX11 36).2.1 (TX11 36).2.2.1 ∈ mj_W := mj_t7 (List.mem_of_getElem? (i := 29) rfl) rfl
theorem fX11_300 : Cond.fieldLink RX11 300 RX11 (TX11 35).2.1 (TX11 35).2.2.1 ∈ mj_W := mj_t7 (List.mem_of_getElem? (i := 28) rfl) rfl
theorem fX11_306 : Cond.fieldLink RX11 306 RX11 (TX11 33).2.1 (TX11 33).2.2.1 ∈ mj_W := mj_t7 (List.mem_of_getElem? (i := 26) rfl) rfl
theorem fX11_313 : Cond.fieldLink RX11 313 RX11 (TX11 61).2.1 (TX11 61).2.2.1 ∈ mj_W := mj_t7 (List.mem_of_getElem? (i := 54) rfl) rfl
theorem fX11_316 : Cond.fieldLink RX11 316 RX11 (TX11 47).2.1 (TX11 47).2.2.1 ∈ mj_W := mj_t7 (List.mem_of_getElem? (i := 40) rfl) rfl
theorem fX11_320 : Cond.fieldLink RX11 320 RX11 (TX11 48).2.1 (TX11 48).2.2.1 ∈ mj_W := mj_t7 (List.mem_of_getElem? (i := 41) rfl) rfl
theorem fX11_323 : Cond.fieldLink RX11 323 RX11 (TX11 39).2.1 (TX11 39).2.2.1 ∈ mj_W := mj_t7 (List.mem_of_getElem? (i := 32) rfl) rfl
theorem fX11_365 : Cond.fieldLink RX11 365 RX11 (TX11 49).2.1 (TX11 49).2.2.1 ∈ mj_W := mj_t7 (List.mem_of_getElem? (i := 42) rfl) rfl
theorem fX11_416 : Cond.fieldLink RX11 416 RX11 (TX11 52).2.1 (TX11 52).2.2.1 ∈ mj_W := mj_t7 (List.mem_of_getElem? (i := 45) rfl) rfl
theorem fX11_504 : Cond.fieldLink RX11 504 RX11 (TX11 55).2.1 (TX11 55).2.2.1 ∈ mj_W := mj_t7 (List.mem_of_getElem? (i := 48) rfl) rfl
theorem fX11_507 : Cond.fieldLink RX11 507 RX11 (TX11 56).2.1 (TX11 56).2.2.1 ∈ mj_W := mj_t7 (List.mem_of_getElem? (i := 49) rfl) rfl
theorem fX11_519 : Cond.fieldLink RX11 519 RX11 (TX11 54).2.1 (TX11 54).2.2.1 ∈ mj_W := mj_t7 (List.mem_of_getElem? (i := 47) rfl) rfl
theorem fX11_528 : Cond.fieldLink RX11 528 RX11 (TX11 57).2.1 (TX11 57).2.2.1 ∈ mj_W := mj_t7 (List.mem_of_getElem? (i := 50) rfl) rfl
theorem fX11_531 : Cond.fieldLink RX11 531 RX11 (TX11 58).2.1 (TX11 58).2.2.1 ∈ mj_W := mj_t7 (List.mem_of_getElem? (i := 51) rfl) rfl
theorem fX2_11 : Cond.fieldLink RX2 11 RX2 (TX2 2).2.1 (TX2 2).2.2.1 ∈ mj_W := mj_t2 (List.mem_of_getElem? (i := 199) rfl) rfl
theorem fX2_15 : Cond.fieldLink RX2 15 RX2 (TX2 0).2.1 (TX2 0).2.2.1 ∈ mj_W := mj_t2 (List.mem_of_getElem? (i := 196) rfl) rfl
theorem fX2_19 : Cond.fieldLink RX2 19 RX2 (TX2 1).2.1 (TX2 1).2.2.1 ∈ mj_W := mj_t2 (List.mem_of_getElem? (i := 198) rfl) rfl
theorem fX2_22 : Cond.fieldLink RX2 22 RX8 (TX8 1).2.1 (TX8 1).2.2.1 ∈ mj_W := mj_t2 (List.mem_of_getElem? (i := 48) rfl) rfl
theorem fX2_27 : Cond.fieldLink RX2 27 RX8 (TX8 2).2.1 (TX8 2).2.2.1 ∈ mj_W := mj_t2 (List.mem_of_getElem? (i := 52) rfl) rfl
theorem fX3_9 : Cond.fieldLink RX3 9 RX3 (TX3 1).2.1 (TX3 1).2.2.1 ∈ mj_W := mj_t1 (List.mem_of_getElem? (i := 132) rfl) rfl
theorem fX3_15 : Cond.fieldLink RX3 15 RX3 (TX3 2).2.1 (TX3 2).2.2.1 ∈ mj_W := mj_t1 (List.mem_of_getElem? (i := 133) rfl) rfl
theorem fX3_18 : Cond.fieldLink RX3 18 RX3 (TX3 3).2.1 (TX3 3).2.2.1 ∈ mj_W := mj_t1 (List.mem_of_getElem? (i := 134) rfl) rfl
theorem fX3_21 : Cond.fieldLink RX3 21 RX3 (TX3 4).2.1 (TX3 4).2.2.1 ∈ mj_W := mj_t1 (List.mem_of_getElem? (i := 135) rfl) rfl
theorem fX3_24 : Cond.fieldLink RX3 24 RX3 (TX3 5).2.1 (TX3 5).2.2.1 ∈ mj_W := mj_t1 (List.mem_of_getElem? (i := 136) rfl) rfl
theorem fX3_28 : Cond.fieldLink RX3 28 RX3 (TX3 0).2.1 (TX3 0).2.2.1 ∈ mj_W := mj_t1 (List.mem_of_getElem? (i := 130) rfl) rfl
theorem fX4_9 : Cond.fieldLink RX4 9 RX4 (TX4 1).2.1 (TX4 1).2.2.1 ∈ mj_W := mj_t1 (List.mem_of_getElem? (i := 84) rfl) rfl
theorem fX4_15 : Cond.fieldLink RX4 15 RX4 (TX4 2).2.1 (TX4 2).2.2.1 ∈ mj_W := mj_t1 (List.mem_of_getElem? (i := 89) rfl) rfl
theorem fX4_18 : Cond.fieldLink RX4 18 RX4 (TX4 3).2.1 (TX4 3).2.2.1 ∈ mj_W := mj_t1 (List.mem_of_getElem? (i := 93) rfl) rfl
theorem fX4_21 : Cond.fieldLink RX4 21 RX4 (TX4 5).2.1 (TX4 5).2.2.1 ∈ mj_W := mj_t1 (List.mem_of_getElem? (i := 102) rfl) rfl
theorem fX4_24 : Cond.fieldLink RX4 24 RX4 (TX4 6).2.1 (TX4 6).2.2.1 ∈ mj_W := mj_t1 (List.mem_of_getElem? (i := 106) rfl) rfl
theorem fX4_27 : Cond.fieldLink RX4 27 RX4 (TX4 0).2.1 (TX4 0).2.2.1 ∈ mj_W := mj_t1 (List.mem_of_getElem? (i := 81) rfl) rfl
theorem fX4_31 : Cond.fieldLink RX4 31 RX4 (TX4 4).2.1 (TX4 4).2.2.1 ∈ mj_W := mj_t1 (List.mem_of_getElem? (i := 97) rfl) rfl
theorem fX5_9 : Cond.fieldLink RX5 9 RX5 (TX5 8).2.1 (TX5 8).2.2.1 ∈ mj_W := mj_t2 (List.mem_of_getElem? (i := 108) rfl) rfl
theorem fX5_15 : Cond.fieldLink RX5 15 RX5 (TX5 0).2.1 (TX5 0).2.2.1 ∈ mj_W := mj_t2 (List.mem_of_getElem? (i := 92) rfl) rfl
theorem fX5_19 : Cond.fieldLink RX5 19 RX5 (TX5 1).2.1 (TX5 1).2.2.1 ∈ mj_W := mj_t2 (List.mem_of_getElem? (i := 94) rfl) rfl
theorem fX5_22 : Cond.fieldLink RX5 22 RX5 (TX5 2).2.1 (TX5 2).2.2.1 ∈ mj_W := mj_t2 (List.mem_of_getElem? (i := 96) rfl) rfl
theorem fX5_25 : Cond.fieldLink RX5 25 RX5 (TX5 3).2.1 (TX5 3).2.2.1 ∈ mj_W := mj_t2 (List.mem_of_getElem? (i := 98) rfl) rfl
theorem fX5_28 : Cond.fieldLink RX5 28 RX5 (TX5 4).2.1 (TX5 4).2.2.1 ∈ mj_W := mj_t2 (List.mem_of_getElem? (i := 100) rfl) rfl
theorem fX5_31 : Cond.fieldLink RX5 31 RX5 (TX5 5).2.1 (TX5 5).2.2.1 ∈ mj_W := mj_t2 (List.mem_of_getElem? (i := 102) rfl) rfl
theorem fX5_35 : Cond.fieldLink RX5 35 RX5 (TX5 6).2.1 (TX5 6).2.2.1 ∈ mj_W := mj_t2 (List.mem_of_getElem? (i := 104) rfl) rfl
theorem fX5_38 : Cond.fieldLink RX5 38 RX5 (TX5 7).2.1 (TX5 7).2.2.1 ∈ mj_W := mj_t2 (List.mem_of_getElem? (i := 106) rfl) rfl
theorem fX5_57 : Cond.fieldLink RX5 57 RX8 (TX8 6).2.1 (TX8 6).2.2.1 ∈ mj_W := mj_t2 (List.mem_of_getElem? (i := 65) rfl) rfl
theorem fX5_62 : Cond.fieldLink RX5 62 RX8 (TX8 0).2.1 (TX8 0).2.2.1 ∈ mj_W := mj_t2 (List.mem_of_getElem? (i := 45) rfl) rfl
theorem fX5_66 : Cond.fieldLink RX5 66 RX0 (TX0 0).2.1 (TX0 0).2.2.1 ∈ mj_W := mj_t1 (List.mem_of_getElem? (i := 152) rfl) rfl
theorem fX5_71 : Cond.fieldLink RX5 71 RX0 (TX0 5).2.1 (TX0 5).2.2.1 ∈ mj_W := mj_t1 (List.mem_of_getElem? (i := 167) rfl) rfl
theorem fX5_79 : Cond.fieldLink RX5 79 RX0 (TX0 6).2.1 (TX0 6).2.2.1 ∈ mj_W := mj_t1 (List.mem_of_getElem? (i := 172) rfl) rfl
theorem fX5_86 : Cond.fieldLink RX5 86 RX0 (TX0 9).2.1 (TX0 9).2.2.1 ∈ mj_W := mj_t1 (List.mem_of_getElem? (i := 185) rfl) rfl
theorem fX5_109 : Cond.fieldLink RX5 109 RX8 (TX8 2).2.1 (TX8 2).2.2.1 ∈ mj_W := mj_t2 (List.mem_of_getElem? (i := 53) rfl) rfl
theorem fX5_112 : Cond.fieldLink RX5 112 RX0 (TX0 12).2.1 (TX0 12).2.2.1 ∈ mj_W := mj_t1 (List.mem_of_getElem? (i := 191) rfl) rfl
theorem fX5_122 : Cond.fieldLink RX5 122 RX0 (TX0 14).2.1 (TX0 14).2.2.1 ∈ mj_W := mj_t1 (List.mem_of_getElem? (i := 200) rfl) rfl
theorem fX5_126 : Cond.fieldLink RX5 126 RX4 (TX4 4).2.1 (TX4 4).2.2.1 ∈ mj_W := mj_t1 (List.mem_of_getElem? (i := 99) rfl) rfl
theorem fX5_131 : Cond.fieldLink RX5 131 RX8 (TX8 3).2.1 (TX8 3).2.2.1 ∈ mj_W := mj_t2 (List.mem_of_getElem? (i := 56) rfl) rfl
theorem fX5_134 : Cond.fieldLink RX5 134 RX4 (TX4 6).2.1 (TX4 6).2.2.1 ∈ mj_W := mj_t1 (List.mem_of_getElem? (i := 107) rfl) rfl
theorem fX5_137 : Cond.fieldLink RX5 137 RX4 (TX4 5).2.1 (TX4 5).2.2.1 ∈ mj_W := mj_t1 (List.mem_of_getElem? (i := 103) rfl) rfl
theorem fX5_147 : Cond.fieldLink RX5 147 RX8 (TX8 5).2.1 (TX8 5).2.2.1 ∈ mj_W := mj_t2 (List.mem_of_getElem? (i := 62) rfl) rfl
theorem fX5_150 : Cond.fieldLink RX5 150 RX4 (TX4 1).2.1 (TX4 1).2.2.1 ∈ mj_W := mj_t1 (List.mem_of_getElem? (i := 86) rfl) rfl
theorem fX5_153 : Cond.fieldLink RX5 153 RX8 (TX8 4).2.1 (TX8 4).2.2.1 ∈ mj_W := mj_t2 (List.mem_of_getElem? (i := 59) rfl) rfl
theorem fX5_173 : Cond.fieldLink RX5 173 RX0 (TX0 15).2.1 (TX0 15).2.2.1 ∈ mj_W := mj_t1 (List.mem_of_getElem? (i := 203) rfl) rfl
theorem fX5_183 : Cond.fieldLink RX5 183 RX0 (TX0 2).2.1 (TX0 2).2.2.1 ∈ mj_W := mj_t1 (List.mem_of_getElem? (i := 159) rfl) rfl
theorem fX5_186 : Cond.fieldLink RX5 186 RX0 (TX0 3).2.1 (TX0 3).2.2.1 ∈ mj_W := mj_t1 (List.mem_of_getElem? (i := 163) rfl) rfl
theorem fX5_189 : Cond.fieldLink RX5 189 RX8 (TX8 1).2.1 (TX8 1).2.2.1 ∈ mj_W := mj_t2 (List.mem_of_getElem? (i := 50) rfl) rfl
theorem fX6_9 : Cond.fieldLink RX6 9 RX6 (TX6 3).2.1 (TX6 3).2.2.1 ∈ mj_W := mj_t2 (List.mem_of_getElem? (i := 140) rfl) rfl
theorem fX6_15 : Cond.fieldLink RX6 15 RX6 (TX6 4).2.1 (TX6 4).2.2.1 ∈ mj_W := mj_t2 (List.mem_of_getElem? (i := 141) rfl) rfl
theorem fX6_18 : Cond.fieldLink RX6 18 RX6 (TX6 5).2.1 (TX6 5).2.2.1 ∈ mj_W := mj_t2 (List.mem_of_getElem? (i := 142) rfl) rfl
theorem fX6_21 : Cond.fieldLink RX6 21 RX8 (TX8 1).2.1 (TX8 1).2.2.1 ∈ mj_W := mj_t2 (List.mem_of_getElem? (i := 47) rfl) rfl
theorem fX6_27 : Cond.fieldLink RX6 27 RX6 (TX6 6).2.1 (TX6 6).2.2.1 ∈ mj_W := mj_t2 (List.mem_of_getElem? (i := 143) rfl) rfl
theorem fX6_30 : Cond.fieldLink RX6 30 RX6 (TX6 0).2.1 (TX6 0).2.2.1 ∈ mj_W := mj_t2 (List.mem_of_getElem? (i := 134) rfl) rfl
theorem fX6_33 : Cond.fieldLink RX6 33 RX6 (TX6 1).2.1 (TX6 1).2.2.1 ∈ mj_W := mj_t2 (List.mem_of_getElem? (i := 136) rfl) rfl
theorem fX6_36 : Cond.fieldLink RX6 36 RX6 (TX6 2).2.1 (TX6 2).2.2.1 ∈ mj_W := mj_t2 (List.mem_of_getElem? (i := 138) rfl) rfl
theorem fX6_51 : Cond.fieldLink RX6 51 RX8 (TX8 0).2.1 (TX8 0).2.2.1 ∈ mj_W := mj_t2 (List.mem_of_getElem? (i := 44) rfl) rfl
theorem fX6_55 : Cond.fieldLink RX6 55 RX0 (TX0 6).2.1 (TX0 6).2.2.1 ∈ mj_W := mj_t1 (List.mem_of_getElem? (i := 171) rfl) rfl
theorem fX6_64 : Cond.fieldLink RX6 64 RX0 (TX0 7).2.1 (TX0 7).2.2.1 ∈ mj_W := mj_t1 (List.mem_of_getElem? (i := 177) rfl) rfl
theorem fX6_67 : Cond.fieldLink RX6 67 RX0 (TX0 8).2.1 (TX0 8).2.2.1 ∈ mj_W := mj_t1 (List.mem_of_getElem? (i := 181) rfl) rfl
theorem fX7_12 : Cond.fieldLink RX7 12 RX7 (TX7 0).2.1 (TX7 0).2.2.1 ∈ mj_W := mj_t1 (List.mem_of_getElem? (i := 239) rfl) rfl
theorem fX7_21 : Cond.fieldLink RX7 21 RX7 (TX7 1).2.1 (TX7 1).2.2.1 ∈ mj_W := mj_t2 (List.mem_of_getElem? (i := 1) rfl) rfl
theorem fX7_25 : Cond.fieldLink RX7 25 RX7 (TX7 3).2.1 (TX7 3).2.2.1 ∈ mj_W := mj_t2 (List.mem_of_getElem? (i := 5) rfl) rfl
theorem fX7_29 : Cond.fieldLink RX7 29 RX7 (TX7 2).2.1 (TX7 2).2.2.1 ∈ mj_W := mj_t2 (List.mem_of_getElem? (i := 3) rfl) rfl
theorem fX7_32 : Cond.fieldLink RX7 32 RX7 (TX7 4).2.1 (TX7 4).2.2.1 ∈ mj_W := mj_t2 (List.mem_of_getElem? (i := 7) rfl) rfl
theorem fX7_35 : Cond.fieldLink RX7 35 RX7 (TX7 5).2.1 (TX7 5).2.2.1 ∈ mj_W := mj_t2 (List.mem_of_getElem? (i := 9) rfl) rfl
theorem fX7_38 : Cond.fieldLink RX7 38 RX7 (TX7 6).2.1 (TX7 6).2.2.1 ∈ mj_W := mj_t2 (List.mem_of_getElem? (i := 10) rfl) rfl
theorem fX7_42 : Cond.fieldLink RX7 42 RX7 (TX7 7).2.1 (TX7 7).2.2.1 ∈ mj_W := mj_t2 (List.mem_of_getElem? (i := 11) rfl) rfl
theorem fX7_45 : Cond.fieldLink RX7 45 RX7 (TX7 8).2.1 (TX7 8).2.2.1 ∈ mj_W := mj_t2 (List.mem_of_getElem? (i := 12) rfl) rfl
theorem fX7_123 : Cond.fieldLink RX7 123 RX0 (TX0 14).2.1 (TX0 14).2.2.1 ∈ mj_W := mj_t1 (List.mem_of_getElem? (i := 198) rfl) rfl
theorem fX7_143 : Cond.fieldLink RX7 143 RX0 (TX0 6).2.1 (TX0 6).2.2.1 ∈ mj_W := mj_t1 (List.mem_of_getElem? (i := 173) rfl) rfl
theorem fX7_152 : Cond.fieldLink RX7 152 RX0 (TX0 5).2.1 (TX0 5).2.2.1 ∈ mj_W := mj_t1 (List.mem_of_getElem? (i := 169) rfl) rfl
theorem fX7_156 : Cond.fieldLink RX7 156 RX0 (TX0 12).2.1 (TX0 12).2.2.1 ∈ mj_W := mj_t1 (List.mem_of_getElem? (i := 192) rfl) rfl
theorem fX7_160 : Cond.fieldLink RX7 160 RX0 (TX0 13).2.1 (TX0 13).2.2.1 ∈ mj_W := mj_t1 (List.mem_of_getElem? (i := 196) rfl) rfl
theorem fX7_163 : Cond.fieldLink RX7 163 RX0 (TX0 15).2.1 (TX0 15).2.2.1 ∈ mj_W := mj_t1 (List.mem_of_getElem? (i := 204) rfl) rfl
theorem fX7_172 : Cond.fieldLink RX7 172 RX7 (TX7 9).2.1 (TX7 9).2.2.1 ∈ mj_W := mj_t2 (List.mem_of_getElem? (i := 13) rfl) rfl
theorem fX8_9 : Cond.fieldLink RX8 9 RX8 (TX8 1).2.1 (TX8 1).2.2.1 ∈ mj_W := mj_t2 (List.mem_of_getElem? (i := 46) rfl) rfl
theorem fX8_15 : Cond.fieldLink RX8 15 RX8 (TX8 3).2.1 (TX8 3).2.2.1 ∈ mj_W := mj_t2 (List.mem_of_getElem? (i := 55) rfl) rfl
theorem fX8_18 : Cond.fieldLink RX8 18 RX8 (TX8 4).2.1 (TX8 4).2.2.1 ∈ mj_W := mj_t2 (List.mem_of_getElem? (i := 58) rfl) rfl
theorem fX8_21 : Cond.fieldLink RX8 21 RX8 (TX8 0).2.1 (TX8 0).2.2.1 ∈ mj_W := mj_t2 (List.mem_of_getElem? (i := 43) rfl) rfl
theorem fX8_25 : Cond.fieldLink RX8 25 RX0 (TX0 4).2.1 (TX0 4).2.2.1 ∈ mj_W := mj_t1 (List.mem_of_getElem? (i := 165) rfl) rfl
theorem fX8_28 : Cond.fieldLink RX8 28 RX8 (TX8 2).2.1 (TX8 2).2.2.1 ∈ mj_W := mj_t2 (List.mem_of_getElem? (i := 51) rfl) rfl
theorem fX8_32 : Cond.fieldLink RX8 32 RX8 (TX8 5).2.1 (TX8 5).2.2.1 ∈ mj_W := mj_t2 (List.mem_of_getElem? (i := 61) rfl) rfl
theorem fX8_35 : Cond.fieldLink RX8 35 RX8 (TX8 6).2.1 (TX8 6).2.2.1 ∈ mj_W := mj_t2 (List.mem_of_getElem? (i := 64) rfl) rfl
theorem fX8_38 : Cond.fieldLink RX8 38 RX0 (TX0 13).2.1 (TX0 13).2.2.1 ∈ mj_W := mj_t1 (List.mem_of_getElem? (i := 195) rfl) rfl
theorem fX8_41 : Cond.fieldLink RX8 41 RX8 (TX8 7).2.1 (TX8 7).2.2.1 ∈ mj_W := mj_t2 (List.mem_of_getElem? (i := 67) rfl) rfl
theorem fX8_44 : Cond.fieldLink RX8 44 RX0 (TX0 3).2.1 (TX0 3).2.2.1 ∈ mj_W := mj_t1 (List.mem_of_getElem? (i := 161) rfl) rfl
theorem fX8_47 : Cond.fieldLink RX8 47 RX0 (TX0 2).2.1 (TX0 2).2.2.1 ∈ mj_W := mj_t1 (List.mem_of_getElem? (i := 157) rfl) rfl
theorem fX8_54 : Cond.fieldLink RX8 54 RX0 (TX0 7).2.1 (TX0 7).2.2.1 ∈ mj_W := mj_t1 (List.mem_of_getElem? (i := 179) rfl) rfl
theorem fX8_57 : Cond.fieldLink RX8 57 RX0 (TX0 8).2.1 (TX0 8).2.2.1 ∈ mj_W := mj_t1 (List.mem_of_getElem? (i := 183) rfl) rfl
theorem fX8_79 : Cond.fieldLink RX8 79 RX0 (TX0 6).2.1 (TX0 6).2.2.1 ∈ mj_W := mj_t1 (List.mem_of_getElem? (i := 174) rfl) rfl
theorem fX8_95 : Cond.fieldLink RX8 95 RX0 (TX0 0).2.1 (TX0 0).2.2.1 ∈ mj_W := mj_t1 (List.mem_of_getElem? (i := 153) rfl) rfl
theorem fX8_98 : Cond.fieldLink RX8 98 RX0 (TX0 14).2.1 (TX0 14).2.2.1 ∈ mj_W := mj_t1 (List.mem_of_getElem? (i := 201) rfl) rfl
theorem fX8_102 : Cond.fieldLink RX8 102 RX4 (TX4 4).2.1 (TX4 4).2.2.1 ∈ mj_W := mj_t1 (List.mem_of_getElem? (i := 100) rfl) rfl
theorem fX8_107 : Cond.fieldLink RX8 107 RX4 (TX4 5).2.1 (TX4 5).2.2.1 ∈ mj_W := mj_t1 (List.mem_of_getElem? (i := 105) rfl) rfl
theorem fX8_113 : Cond.fieldLink RX8 113 RX4 (TX4 1).2.1 (TX4 1).2.2.1 ∈ mj_W := mj_t1 (List.mem_of_getElem? (i := 88) rfl) rfl
theorem fX8_116 : Cond.fieldLink RX8 116 RX4 (TX4 2).2.1 (TX4 2).2.2.1 ∈ mj_W := mj_t1 (List.mem_of_getElem? (i := 92) rfl) rfl
theorem fX8_123 : Cond.fieldLink RX8 123 RX4 (TX4 3).2.1 (TX4 3).2.2.1 ∈ mj_W := mj_t1 (List.mem_of_getElem? (i := 96) rfl) rfl
theorem fX9_9 : Cond.fieldLink RX9 9 RX9 (TX9 1).2.1 (TX9 1).2.2.1 ∈ mj_W := mj_t1 (List.mem_of_getElem? (i := 47) rfl) rfl
theorem fX9_15 : Cond.fieldLink RX9 15 RX9 (TX9 2).2.1 (TX9 2).2.2.1 ∈ mj_W := mj_t1 (List.mem_of_getElem? (i := 48) rfl) rfl
theorem fX9_18 : Cond.fieldLink RX9 18 RX9 (TX9 3).2.1 (TX9 3).2.2.1 ∈ mj_W := mj_t1 (List.mem_of_getElem? (i := 49) rfl) rfl
theorem fX9_21 : Cond.fieldLink RX9 21 RX9 (TX9 4).2.1 (TX9 4).2.2.1 ∈ mj_W := mj_t1 (List.mem_of_getElem? (i := 50) rfl) rfl
theorem fX9_24 : Cond.fieldLink RX9 24 RX9 (TX9 0).2.1 (TX9 0).2.2.1 ∈ mj_W := mj_t1 (List.mem_of_getElem? (i := 45) rfl) rfl
theorem fX9_34 : Cond.fieldLink RX9 34 RX9 (TX9 5).2.1 (TX9 5).2.2.1 ∈ mj_W := mj_t1 (List.mem_of_getElem? (i := 51) rfl) rfl
theorem fX9_37 : Cond.fieldLink RX9 37 RX9 (TX9 6).2.1 (TX9 6).2.2.1 ∈ mj_W := mj_t1 (List.mem_of_getElem? (i := 52) rfl) rfl
theorem lJ0_335 : Cond.methodLink RJ0 335 yJ0_coder_7d493 ∈ mj_W := mj_t3 (List.mem_of_getElem? (i := 64) rfl) rfl
theorem lJ0_492 : Cond.methodLink RJ0 492 yJ0_isLatin1_aae02 ∈ mj_W := mj_t3 (List.mem_of_getElem? (i := 74) rfl) rfl
theorem lJ0_495 : Cond.methodLink RJ0 495 yJ1_charAt_3b067 ∈ mj_W := mj_t3 (List.mem_of_getElem? (i := 78) rfl) rfl
theorem lJ0_498 : Cond.methodLink RJ0 498 yJ2_charAt_3b067 ∈ mj_W := mj_t3 (List.mem_of_getElem? (i := 89) rfl) rfl
theorem lJ0_505 : Cond.methodLink RJ0 505 yJ0_length_8abf5 ∈ mj_W := mj_t3 (List.mem_of_getElem? (i := 133) rfl) rfl
theorem lJ0_633 : Cond.methodLink RJ0 633 yJ0_indexOf_7cf53 ∈ mj_W := mj_t3 (List.mem_of_getElem? (i := 129) rfl) rfl
theorem lJ0_637 : Cond.methodLink RJ0 637 yJ1_indexOf_4cfef ∈ mj_W := mj_t3 (List.mem_of_getElem? (i := 134) rfl) rfl
theorem lJ0_640 : Cond.methodLink RJ0 640 yJ2_indexOf_4cfef ∈ mj_W := mj_t3 (List.mem_of_getElem? (i := 147) rfl) rfl
theorem lJ0_1059 : Cond.methodLink RJ0 1059 yJ3_checkIndex_8e157 ∈ mj_W := mj_t3 (List.mem_of_getElem? (i := 86) rfl) rfl
theorem lJ0_1062 : Cond.methodLink RJ0 1062 yJ3_checkFromToIndex_8c36e ∈ mj_W := mj_t3 (List.mem_of_getElem? (i := 162) rfl) rfl
theorem lJ1_9 : Cond.methodLink RJ1 9 yJ0_checkIndex_df160 ∈ mj_W := mj_t3 (List.mem_of_getElem? (i := 81) rfl) rfl
theorem lJ1_38 : Cond.methodLink RJ1 38 Lib.Math.min.name ∈ mj_W := mj_t3 (List.mem_of_getElem? (i := 143) rfl) rfl
theorem lJ1_88 : Cond.methodLink RJ1 88 yJ1_canEncode_9a6ad ∈ mj_W := mj_t3 (List.mem_of_getElem? (i := 137) rfl) rfl
theorem lJ1_92 : Cond.methodLink RJ1 92 Lib.Math.max.name ∈ mj_W := mj_t3 (List.mem_of_getElem? (i := 140) rfl) rfl
theorem lJ1_95 : Cond.methodLink RJ1 95 yJ1_indexOfChar_4cfef ∈ mj_W := mj_t3 (List.mem_of_getElem? (i := 144) rfl) rfl
theorem lJ2_48 : Cond.methodLink RJ2 48 yJ2_length_9d52b ∈ mj_W := mj_t3 (List.mem_of_getElem? (i := 95) rfl) rfl
theorem lJ2_67 : Cond.methodLink RJ2 67 yJ2_checkIndex_2214a ∈ mj_W := mj_t3 (List.mem_of_getElem? (i := 92) rfl) rfl
theorem lJ2_71 : Cond.methodLink RJ2 71 yJ2_getChar_3b067 ∈ mj_W := mj_t3 (List.mem_of_getElem? (i := 99) rfl) rfl
theorem lJ2_96 : Cond.methodLink RJ2 96 yJ2_checkBoundsBeginEnd_d044e ∈ mj_W := mj_t3 (List.mem_of_getElem? (i := 156) rfl) rfl
theorem lJ2_157 : Cond.methodLink RJ2 157 yJ11_highSurrogate_5068e ∈ mj_W := mj_t3 (List.mem_of_getElem? (i := 174) rfl) rfl
theorem lJ2_161 : Cond.methodLink RJ2 161 yJ11_lowSurrogate_5068e ∈ mj_W := mj_t3 (List.mem_of_getElem? (i := 178) rfl) rfl
theorem lJ2_164 : Cond.methodLink RJ2 164 yJ11_isValidCodePoint_9a6ad ∈ mj_W := mj_t3 (List.mem_of_getElem? (i := 171) rfl) rfl
theorem lJ2_183 : Cond.methodLink RJ2 183 Lib.Math.min.name ∈ mj_W := mj_t3 (List.mem_of_getElem? (i := 151) rfl) rfl
theorem lJ2_224 : Cond.methodLink RJ2 224 Lib.Math.max.name ∈ mj_W := mj_t3 (List.mem_of_getElem? (i := 150) rfl) rfl
theorem lJ2_228 : Cond.methodLink RJ2 228 yJ2_indexOfChar_4cfef ∈ mj_W := mj_t3 (List.mem_of_getElem? (i := 153) rfl) rfl
theorem lJ2_232 : Cond.methodLink RJ2 232 yJ2_indexOfSupplementary_4cfef ∈ mj_W := mj_t3 (List.mem_of_getElem? (i := 168) rfl) rfl
theorem lJ2_241 : Cond.methodLink RJ2 241 yJ0_checkBoundsBeginEnd_23922 ∈ mj_W := mj_t3 (List.mem_of_getElem? (i := 159) rfl) rfl
theorem lJ2_244 : Cond.methodLink RJ2 244 yJ2_indexOfCharUnsafe_4cfef ∈ mj_W := mj_t3 (List.mem_of_getElem? (i := 165) rfl) rfl
theorem lJ2_414 : Cond.methodLink RJ2 414 yJ0_checkIndex_df160 ∈ mj_W := mj_t3 (List.mem_of_getElem? (i := 98) rfl) rfl
theorem lL_7 : Cond.methodLink RL 7 yX10_pond ∈ mj_W := mj_t6 (List.mem_of_getElem? (i := 132) rfl) rfl
theorem lL_17 : Cond.methodLink RL 17 yX10_init ∈ mj_W := mj_t1 (List.mem_of_getElem? (i := 27) rfl) rfl
theorem lL_20 : Cond.methodLink RL 20 yX11_init ∈ mj_W := mj_t6 (List.mem_of_getElem? (i := 221) rfl) rfl
theorem lL_21 : Cond.methodLink RL 21 yX10_feed ∈ mj_W := mj_t3 (List.mem_of_getElem? (i := 7) rfl) rfl
theorem lL_25 : Cond.methodLink RL 25 yX11_feed ∈ mj_W := mj_t7 (List.mem_of_getElem? (i := 208) rfl) rfl
theorem lL_26 : Cond.methodLink RL 26 yX10_text ∈ mj_W := mj_t3 (List.mem_of_getElem? (i := 19) rfl) rfl
theorem lL_30 : Cond.methodLink RL 30 yX11_text ∈ mj_W := mj_t7 (List.mem_of_getElem? (i := 212) rfl) rfl
theorem lL_31 : Cond.methodLink RL 31 yX10_fault ∈ mj_W := mj_t4 (List.mem_of_getElem? (i := 106) rfl) rfl
theorem lL_34 : Cond.methodLink RL 34 yX11_fault ∈ mj_W := mj_t8 (List.mem_of_getElem? (i := 108) rfl) rfl
theorem lL_35 : Cond.methodLink RL 35 yX10_named ∈ mj_W := mj_t4 (List.mem_of_getElem? (i := 110) rfl) rfl
theorem lL_38 : Cond.methodLink RL 38 yX11_named ∈ mj_W := mj_t8 (List.mem_of_getElem? (i := 112) rfl) rfl
theorem lL_39 : Cond.methodLink RL 39 yL_pond ∈ mj_W := mj_t6 (List.mem_of_getElem? (i := 127) rfl) rfl
theorem lL_44 : Cond.methodLink RL 44 yX11_pond ∈ mj_W := mj_t8 (List.mem_of_getElem? (i := 116) rfl) rfl
theorem lL_45 : Cond.methodLink RL 45 yX11_thrown ∈ mj_W := mj_t7 (List.mem_of_getElem? (i := 204) rfl) rfl
theorem lL_49 : Cond.methodLink RL 49 yX10_level ∈ mj_W := mj_t4 (List.mem_of_getElem? (i := 115) rfl) rfl
theorem lL_52 : Cond.methodLink RL 52 yX11_level ∈ mj_W := mj_t8 (List.mem_of_getElem? (i := 131) rfl) rfl
theorem lL_53 : Cond.methodLink RL 53 yX10_pipe ∈ mj_W := mj_t4 (List.mem_of_getElem? (i := 134) rfl) rfl
theorem lL_56 : Cond.methodLink RL 56 yX11_pipe ∈ mj_W := mj_t8 (List.mem_of_getElem? (i := 148) rfl) rfl
theorem lL_57 : Cond.methodLink RL 57 yX10_lock ∈ mj_W := mj_t4 (List.mem_of_getElem? (i := 158) rfl) rfl
theorem lL_60 : Cond.methodLink RL 60 yX11_lock ∈ mj_W := mj_t8 (List.mem_of_getElem? (i := 168) rfl) rfl
theorem lL_61 : Cond.methodLink RL 61 yX10_boat ∈ mj_W := mj_t4 (List.mem_of_getElem? (i := 173) rfl) rfl
theorem lL_64 : Cond.methodLink RL 64 yX11_boat ∈ mj_W := mj_t8 (List.mem_of_getElem? (i := 180) rfl) rfl
theorem lL_65 : Cond.methodLink RL 65 yX10_law ∈ mj_W := mj_t4 (List.mem_of_getElem? (i := 181) rfl) rfl
theorem lL_69 : Cond.methodLink RL 69 yX11_law ∈ mj_W := mj_t8 (List.mem_of_getElem? (i := 188) rfl) rfl
theorem lL_70 : Cond.methodLink RL 70 yX10_runs ∈ mj_W := mj_t4 (List.mem_of_getElem? (i := 234) rfl) rfl
theorem lL_73 : Cond.methodLink RL 73 yX11_runs ∈ mj_W := mj_t8 (List.mem_of_getElem? (i := 233) rfl) rfl
theorem lL_74 : Cond.methodLink RL 74 yX10_draw ∈ mj_W := mj_t5 (List.mem_of_getElem? (i := 4) rfl) rfl
theorem lL_77 : Cond.methodLink RL 77 yX11_draw ∈ mj_W := mj_t9 (List.mem_of_getElem? (i := 6) rfl) rfl
theorem lL_78 : Cond.methodLink RL 78 yX10_fill ∈ mj_W := mj_t5 (List.mem_of_getElem? (i := 26) rfl) rfl
theorem lL_81 : Cond.methodLink RL 81 yX11_fill ∈ mj_W := mj_t9 (List.mem_of_getElem? (i := 22) rfl) rfl
theorem lL_82 : Cond.methodLink RL 82 yX10_spill ∈ mj_W := mj_t5 (List.mem_of_getElem? (i := 37) rfl) rfl
theorem lL_85 : Cond.methodLink RL 85 yX11_spill ∈ mj_W := mj_t9 (List.mem_of_getElem? (i := 31) rfl) rfl
theorem lL_86 : Cond.methodLink RL 86 yX10_mend ∈ mj_W := mj_t5 (List.mem_of_getElem? (i := 46) rfl) rfl
theorem lL_90 : Cond.methodLink RL 90 yX11_mend ∈ mj_W := mj_t9 (List.mem_of_getElem? (i := 35) rfl) rfl
theorem lL_91 : Cond.methodLink RL 91 yX10_go ∈ mj_W := mj_t5 (List.mem_of_getElem? (i := 50) rfl) rfl
theorem lL_94 : Cond.methodLink RL 94 yX11_go ∈ mj_W := mj_t9 (List.mem_of_getElem? (i := 39) rfl) rfl
theorem lL_95 : Cond.methodLink RL 95 yX10_ahead ∈ mj_W := mj_t5 (List.mem_of_getElem? (i := 121) rfl) rfl
theorem lL_99 : Cond.methodLink RL 99 yX11_ahead ∈ mj_W := mj_t9 (List.mem_of_getElem? (i := 75) rfl) rfl
theorem lL_100 : Cond.methodLink RL 100 yX10_upWhen ∈ mj_W := mj_t5 (List.mem_of_getElem? (i := 135) rfl) rfl
theorem lL_103 : Cond.methodLink RL 103 yX11_upWhen ∈ mj_W := mj_t9 (List.mem_of_getElem? (i := 90) rfl) rfl
theorem lL_104 : Cond.methodLink RL 104 yX10_joined ∈ mj_W := mj_t5 (List.mem_of_getElem? (i := 140) rfl) rfl
theorem lL_107 : Cond.methodLink RL 107 yX11_joined ∈ mj_W := mj_t9 (List.mem_of_getElem? (i := 94) rfl) rfl
theorem lL_108 : Cond.methodLink RL 108 yX10_needs ∈ mj_W := mj_t5 (List.mem_of_getElem? (i := 156) rfl) rfl
theorem lL_111 : Cond.methodLink RL 111 yX11_needs ∈ mj_W := mj_t9 (List.mem_of_getElem? (i := 102) rfl) rfl
theorem lL_112 : Cond.methodLink RL 112 yX10_spare ∈ mj_W := mj_t5 (List.mem_of_getElem? (i := 169) rfl) rfl
theorem lL_115 : Cond.methodLink RL 115 yX11_spare ∈ mj_W := mj_t9 (List.mem_of_getElem? (i := 113) rfl) rfl
theorem lL_116 : Cond.methodLink RL 116 yX10_lift ∈ mj_W := mj_t5 (List.mem_of_getElem? (i := 173) rfl) rfl
theorem lL_119 : Cond.methodLink RL 119 yX11_lift ∈ mj_W := mj_t9 (List.mem_of_getElem? (i := 121) rfl) rfl
theorem lL_120 : Cond.methodLink RL 120 yX10_fewest ∈ mj_W := mj_t5 (List.mem_of_getElem? (i := 181) rfl) rfl
theorem lL_123 : Cond.methodLink RL 123 yX11_fewest ∈ mj_W := mj_t9 (List.mem_of_getElem? (i := 129) rfl) rfl
theorem lL_124 : Cond.methodLink RL 124 yX10_draws ∈ mj_W := mj_t5 (List.mem_of_getElem? (i := 203) rfl) rfl
theorem lL_127 : Cond.methodLink RL 127 yX11_draws ∈ mj_W := mj_t9 (List.mem_of_getElem? (i := 153) rfl) rfl
theorem lL_128 : Cond.methodLink RL 128 yX10_highest ∈ mj_W := mj_t5 (List.mem_of_getElem? (i := 207) rfl) rfl
theorem lL_131 : Cond.methodLink RL 131 yX11_highest ∈ mj_W := mj_t9 (List.mem_of_getElem? (i := 161) rfl) rfl
theorem lL_132 : Cond.methodLink RL 132 yX10_apart ∈ mj_W := mj_t5 (List.mem_of_getElem? (i := 212) rfl) rfl
theorem lL_135 : Cond.methodLink RL 135 yX11_apart ∈ mj_W := mj_t9 (List.mem_of_getElem? (i := 165) rfl) rfl
theorem lL_136 : Cond.methodLink RL 136 yX10_still ∈ mj_W := mj_t5 (List.mem_of_getElem? (i := 219) rfl) rfl
theorem lL_139 : Cond.methodLink RL 139 yX11_still ∈ mj_W := mj_t9 (List.mem_of_getElem? (i := 170) rfl) rfl
theorem lL_140 : Cond.methodLink RL 140 yX10_reach ∈ mj_W := mj_t5 (List.mem_of_getElem? (i := 230) rfl) rfl
theorem lL_143 : Cond.methodLink RL 143 yX11_reach ∈ mj_W := mj_t9 (List.mem_of_getElem? (i := 178) rfl) rfl
theorem lL_144 : Cond.methodLink RL 144 yX10_pass ∈ mj_W := mj_t5 (List.mem_of_getElem? (i := 238) rfl) rfl
theorem lL_147 : Cond.methodLink RL 147 yX11_pass ∈ mj_W := mj_t9 (List.mem_of_getElem? (i := 186) rfl) rfl
theorem lL_148 : Cond.methodLink RL 148 yX10_lockfuls ∈ mj_W := mj_t6 (List.mem_of_getElem? (i := 8) rfl) rfl
theorem lL_151 : Cond.methodLink RL 151 yX11_lockfuls ∈ mj_W := mj_t9 (List.mem_of_getElem? (i := 206) rfl) rfl
theorem lL_152 : Cond.methodLink RL 152 yX10_game ∈ mj_W := mj_t6 (List.mem_of_getElem? (i := 12) rfl) rfl
theorem lL_155 : Cond.methodLink RL 155 yX11_game ∈ mj_W := mj_t9 (List.mem_of_getElem? (i := 210) rfl) rfl
theorem lL_156 : Cond.methodLink RL 156 yX10_rests ∈ mj_W := mj_t6 (List.mem_of_getElem? (i := 16) rfl) rfl
theorem lL_159 : Cond.methodLink RL 159 yX11_rests ∈ mj_W := mj_t9 (List.mem_of_getElem? (i := 214) rfl) rfl
theorem lL_160 : Cond.methodLink RL 160 yX10_rest ∈ mj_W := mj_t6 (List.mem_of_getElem? (i := 27) rfl) rfl
theorem lL_163 : Cond.methodLink RL 163 yX11_rest ∈ mj_W := mj_t9 (List.mem_of_getElem? (i := 234) rfl) rfl
theorem lL_164 : Cond.methodLink RL 164 yX10_holds ∈ mj_W := mj_t6 (List.mem_of_getElem? (i := 31) rfl) rfl
theorem lL_167 : Cond.methodLink RL 167 yX11_holds ∈ mj_W := mj_t9 (List.mem_of_getElem? (i := 238) rfl) rfl
theorem lL_168 : Cond.methodLink RL 168 yX10_see ∈ mj_W := mj_t6 (List.mem_of_getElem? (i := 36) rfl) rfl
theorem lL_172 : Cond.methodLink RL 172 yX11_see ∈ mj_W := mj_t10 (List.mem_of_getElem? (i := 4) rfl) rfl
theorem lL_173 : Cond.methodLink RL 173 yX10_strike ∈ mj_W := mj_t6 (List.mem_of_getElem? (i := 49) rfl) rfl
theorem lL_176 : Cond.methodLink RL 176 yX11_strike ∈ mj_W := mj_t10 (List.mem_of_getElem? (i := 8) rfl) rfl
theorem lL_177 : Cond.methodLink RL 177 yX10_known ∈ mj_W := mj_t6 (List.mem_of_getElem? (i := 53) rfl) rfl
theorem lL_180 : Cond.methodLink RL 180 yX11_known ∈ mj_W := mj_t10 (List.mem_of_getElem? (i := 12) rfl) rfl
theorem lL_181 : Cond.methodLink RL 181 yX10_leaks ∈ mj_W := mj_t6 (List.mem_of_getElem? (i := 57) rfl) rfl
theorem lL_184 : Cond.methodLink RL 184 yX11_leaks ∈ mj_W := mj_t10 (List.mem_of_getElem? (i := 16) rfl) rfl
theorem lL_185 : Cond.methodLink RL 185 yX10_ask ∈ mj_W := mj_t6 (List.mem_of_getElem? (i := 86) rfl) rfl
theorem lL_188 : Cond.methodLink RL 188 yX11_ask ∈ mj_W := mj_t10 (List.mem_of_getElem? (i := 36) rfl) rfl
theorem lL_189 : Cond.methodLink RL 189 yX10_chance ∈ mj_W := mj_t6 (List.mem_of_getElem? (i := 94) rfl) rfl
theorem lL_192 : Cond.methodLink RL 192 yX11_chance ∈ mj_W := mj_t10 (List.mem_of_getElem? (i := 44) rfl) rfl
theorem lL_193 : Cond.methodLink RL 193 yX10_tried ∈ mj_W := mj_t6 (List.mem_of_getElem? (i := 98) rfl) rfl
theorem lL_196 : Cond.methodLink RL 196 yX11_tried ∈ mj_W := mj_t10 (List.mem_of_getElem? (i := 48) rfl) rfl
theorem lL_197 : Cond.methodLink RL 197 yX10_undo ∈ mj_W := mj_t6 (List.mem_of_getElem? (i := 102) rfl) rfl
theorem lL_200 : Cond.methodLink RL 200 yX11_undo ∈ mj_W := mj_t10 (List.mem_of_getElem? (i := 52) rfl) rfl
theorem lL_201 : Cond.methodLink RL 201 yX10_keep ∈ mj_W := mj_t6 (List.mem_of_getElem? (i := 110) rfl) rfl
theorem lL_204 : Cond.methodLink RL 204 yX11_keep ∈ mj_W := mj_t10 (List.mem_of_getElem? (i := 56) rfl) rfl
theorem lL_205 : Cond.methodLink RL 205 yX10_back ∈ mj_W := mj_t6 (List.mem_of_getElem? (i := 114) rfl) rfl
theorem lL_208 : Cond.methodLink RL 208 yX11_back ∈ mj_W := mj_t10 (List.mem_of_getElem? (i := 60) rfl) rfl
theorem lL_209 : Cond.methodLink RL 209 yX10_count ∈ mj_W := mj_t6 (List.mem_of_getElem? (i := 118) rfl) rfl
theorem lL_212 : Cond.methodLink RL 212 yX11_count ∈ mj_W := mj_t10 (List.mem_of_getElem? (i := 64) rfl) rfl
theorem lX0_3 : Cond.methodLink RX0 3 objectInit ∈ mj_W := mj_t1 (List.mem_of_getElem? (i := 74) rfl) rfl
theorem lX0_69 : Cond.methodLink RX0 69 yX4_clear ∈ mj_W := mj_t3 (List.mem_of_getElem? (i := 31) rfl) rfl
theorem lX0_72 : Cond.methodLink RX0 72 yX3_clear ∈ mj_W := mj_t3 (List.mem_of_getElem? (i := 35) rfl) rfl
theorem lX0_79 : Cond.methodLink RX0 79 Lib.Math.max.name ∈ mj_W := mj_t5 (List.mem_of_getElem? (i := 167) rfl) rfl
theorem lX1_3 : Cond.methodLink RX1 3 objectInit ∈ mj_W := mj_t2 (List.mem_of_getElem? (i := 164) rfl) rfl
theorem lX1_35 : Cond.methodLink RX1 35 yX1_isFull ∈ mj_W := mj_t6 (List.mem_of_getElem? (i := 48) rfl) rfl
theorem lX1_39 : Cond.methodLink RX1 39 yX1_knownCount ∈ mj_W := mj_t6 (List.mem_of_getElem? (i := 65) rfl) rfl
theorem lX1_43 : Cond.methodLink RX1 43 yX1_counts ∈ mj_W := mj_t6 (List.mem_of_getElem? (i := 73) rfl) rfl
theorem lX1_47 : Cond.methodLink RX1 47 Lib.Math.max.name ∈ mj_W := mj_t6 (List.mem_of_getElem? (i := 77) rfl) rfl
theorem lX10_3 : Cond.methodLink RX10 3 objectInit ∈ mj_W := mj_t1 (List.mem_of_getElem? (i := 30) rfl) rfl
theorem lX10_27 : Cond.methodLink RX10 27 yX8_init ∈ mj_W := mj_t2 (List.mem_of_getElem? (i := 39) rfl) rfl
theorem lX10_80 : Cond.methodLink RX10 80 yX9_hasRoom ∈ mj_W := mj_t3 (List.mem_of_getElem? (i := 11) rfl) rfl
theorem lX10_86 : Cond.methodLink RX10 86 yX9_append ∈ mj_W := mj_t3 (List.mem_of_getElem? (i := 15) rfl) rfl
theorem lX10_93 : Cond.methodLink RX10 93 yX7_read ∈ mj_W := mj_t3 (List.mem_of_getElem? (i := 23) rfl) rfl
theorem lX10_106 : Cond.methodLink RX10 106 yX8_begin ∈ mj_W := mj_t4 (List.mem_of_getElem? (i := 93) rfl) rfl
theorem lX10_113 : Cond.methodLink RX10 113 yX1_clear ∈ mj_W := mj_t4 (List.mem_of_getElem? (i := 97) rfl) rfl
theorem lX10_116 : Cond.methodLink RX10 116 yX2_clear ∈ mj_W := mj_t4 (List.mem_of_getElem? (i := 101) rfl) rfl
theorem lX10_120 : Cond.methodLink RX10 120 yX0_pondNamed ∈ mj_W := mj_t4 (List.mem_of_getElem? (i := 114) rfl) rfl
theorem lX10_124 : Cond.methodLink RX10 124 yX10_isPond ∈ mj_W := mj_t4 (List.mem_of_getElem? (i := 119) rfl) rfl
theorem lX10_151 : Cond.methodLink RX10 151 yX4_ofPond ∈ mj_W := mj_t6 (List.mem_of_getElem? (i := 202) rfl) rfl
theorem lX10_156 : Cond.methodLink RX10 156 yX10_orWithout ∈ mj_W := mj_t4 (List.mem_of_getElem? (i := 170) rfl) rfl
theorem lX10_164 : Cond.methodLink RX10 164 yX10_isHalf ∈ mj_W := mj_t4 (List.mem_of_getElem? (i := 123) rfl) rfl
theorem lX10_167 : Cond.methodLink RX10 167 yX8_raised ∈ mj_W := mj_t4 (List.mem_of_getElem? (i := 126) rfl) rfl
theorem lX10_170 : Cond.methodLink RX10 170 yX10_inLeastTerms ∈ mj_W := mj_t4 (List.mem_of_getElem? (i := 130) rfl) rfl
theorem lX10_174 : Cond.methodLink RX10 174 yX10_isPipe ∈ mj_W := mj_t4 (List.mem_of_getElem? (i := 138) rfl) rfl
theorem lX10_186 : Cond.methodLink RX10 186 yX5_asItGoes ∈ mj_W := mj_t4 (List.mem_of_getElem? (i := 142) rfl) rfl
theorem lX10_189 : Cond.methodLink RX10 189 yX5_openNow ∈ mj_W := mj_t4 (List.mem_of_getElem? (i := 146) rfl) rfl
theorem lX10_196 : Cond.methodLink RX10 196 yX10_isLock ∈ mj_W := mj_t4 (List.mem_of_getElem? (i := 162) rfl) rfl
theorem lX10_208 : Cond.methodLink RX10 208 yX8_boatIn ∈ mj_W := mj_t4 (List.mem_of_getElem? (i := 166) rfl) rfl
theorem lX10_211 : Cond.methodLink RX10 211 yX10_isBoat ∈ mj_W := mj_t4 (List.mem_of_getElem? (i := 177) rfl) rfl
theorem lX10_226 : Cond.methodLink RX10 226 yX8_giver ∈ mj_W := mj_t4 (List.mem_of_getElem? (i := 185) rfl) rfl
theorem lX10_229 : Cond.methodLink RX10 229 yX5_worth ∈ mj_W := mj_t4 (List.mem_of_getElem? (i := 193) rfl) rfl
theorem lX10_233 : Cond.methodLink RX10 233 yX4_pondOfBoat ∈ mj_W := mj_t4 (List.mem_of_getElem? (i := 229) rfl) rfl
theorem lX10_238 : Cond.methodLink RX10 238 yX8_movable ∈ mj_W := mj_t4 (List.mem_of_getElem? (i := 238) rfl) rfl
theorem lX10_241 : Cond.methodLink RX10 241 yX8_isJammed ∈ mj_W := mj_t5 (List.mem_of_getElem? (i := 8) rfl) rfl
theorem lX10_244 : Cond.methodLink RX10 244 yX2_note ∈ mj_W := mj_t5 (List.mem_of_getElem? (i := 12) rfl) rfl
theorem lX10_248 : Cond.methodLink RX10 248 yX8_run ∈ mj_W := mj_t5 (List.mem_of_getElem? (i := 17) rfl) rfl
theorem lX10_252 : Cond.methodLink RX10 252 yX10_isBucket ∈ mj_W := mj_t5 (List.mem_of_getElem? (i := 30) rfl) rfl
theorem lX10_255 : Cond.methodLink RX10 255 yX8_pour ∈ mj_W := mj_t5 (List.mem_of_getElem? (i := 33) rfl) rfl
theorem lX10_259 : Cond.methodLink RX10 259 yX8_lose ∈ mj_W := mj_t5 (List.mem_of_getElem? (i := 41) rfl) rfl
theorem lX10_268 : Cond.methodLink RX10 268 yX5_advance ∈ mj_W := mj_t5 (List.mem_of_getElem? (i := 54) rfl) rfl
theorem lX10_272 : Cond.methodLink RX10 272 yX8_become ∈ mj_W := mj_t5 (List.mem_of_getElem? (i := 125) rfl) rfl
theorem lX10_275 : Cond.methodLink RX10 275 yX8_boatsThatAre ∈ mj_W := mj_t5 (List.mem_of_getElem? (i := 129) rfl) rfl
theorem lX10_278 : Cond.methodLink RX10 278 yX8_waitedByAll ∈ mj_W := mj_t5 (List.mem_of_getElem? (i := 130) rfl) rfl
theorem lX10_282 : Cond.methodLink RX10 282 yJ6_bitCount_0f7a4 ∈ mj_W := mj_t5 (List.mem_of_getElem? (i := 134) rfl) rfl
theorem lX10_290 : Cond.methodLink RX10 290 yX5_oneMinute ∈ mj_W := mj_t5 (List.mem_of_getElem? (i := 139) rfl) rfl
theorem lX10_296 : Cond.methodLink RX10 296 yX8_waterOf ∈ mj_W := mj_t5 (List.mem_of_getElem? (i := 144) rfl) rfl
theorem lX10_299 : Cond.methodLink RX10 299 yX0_bedUpTo ∈ mj_W := mj_t5 (List.mem_of_getElem? (i := 148) rfl) rfl
theorem lX10_303 : Cond.methodLink RX10 303 yX0_areaUpTo ∈ mj_W := mj_t5 (List.mem_of_getElem? (i := 152) rfl) rfl
theorem lX10_306 : Cond.methodLink RX10 306 yX10_isHeight ∈ mj_W := mj_t5 (List.mem_of_getElem? (i := 160) rfl) rfl
theorem lX10_309 : Cond.methodLink RX10 309 yX0_waterFor ∈ mj_W := mj_t5 (List.mem_of_getElem? (i := 163) rfl) rfl
theorem lX10_312 : Cond.methodLink RX10 312 Lib.Math.max.name ∈ mj_W := mj_t5 (List.mem_of_getElem? (i := 168) rfl) rfl
theorem lX10_317 : Cond.methodLink RX10 317 yX0_liftOf ∈ mj_W := mj_t5 (List.mem_of_getElem? (i := 177) rfl) rfl
theorem lX10_320 : Cond.methodLink RX10 320 yX6_seek ∈ mj_W := mj_t5 (List.mem_of_getElem? (i := 185) rfl) rfl
theorem lX10_333 : Cond.methodLink RX10 333 yX8_higherBy ∈ mj_W := mj_t5 (List.mem_of_getElem? (i := 211) rfl) rfl
theorem lX10_336 : Cond.methodLink RX10 336 Lib.Math.abs.name ∈ mj_W := mj_t5 (List.mem_of_getElem? (i := 216) rfl) rfl
theorem lX10_339 : Cond.methodLink RX10 339 yX8_runAll ∈ mj_W := mj_t5 (List.mem_of_getElem? (i := 223) rfl) rfl
theorem lX10_342 : Cond.methodLink RX10 342 yX0_nextTo ∈ mj_W := mj_t5 (List.mem_of_getElem? (i := 234) rfl) rfl
theorem lX10_346 : Cond.methodLink RX10 346 yX0_wideAcross ∈ mj_W := mj_t6 (List.mem_of_getElem? (i := 3) rfl) rfl
theorem lX10_349 : Cond.methodLink RX10 349 Lib.Math.min.name ∈ mj_W := mj_t6 (List.mem_of_getElem? (i := 7) rfl) rfl
theorem lX10_352 : Cond.methodLink RX10 352 yX10_isRest ∈ mj_W := mj_t6 (List.mem_of_getElem? (i := 20) rfl) rfl
theorem lX10_363 : Cond.methodLink RX10 363 yX1_isFull ∈ mj_W := mj_t6 (List.mem_of_getElem? (i := 40) rfl) rfl
theorem lX10_366 : Cond.methodLink RX10 366 yX1_add ∈ mj_W := mj_t6 (List.mem_of_getElem? (i := 44) rfl) rfl
theorem lX10_376 : Cond.methodLink RX10 376 yX1_settle ∈ mj_W := mj_t6 (List.mem_of_getElem? (i := 61) rfl) rfl
theorem lX10_379 : Cond.methodLink RX10 379 yX1_lastKnownMinute ∈ mj_W := mj_t6 (List.mem_of_getElem? (i := 69) rfl) rfl
theorem lX10_382 : Cond.methodLink RX10 382 yX10_weigh ∈ mj_W := mj_t6 (List.mem_of_getElem? (i := 78) rfl) rfl
theorem lX10_385 : Cond.methodLink RX10 385 yX10_leftAtWorst ∈ mj_W := mj_t6 (List.mem_of_getElem? (i := 90) rfl) rfl
theorem lX10_406 : Cond.methodLink RX10 406 yX2_takeBack ∈ mj_W := mj_t6 (List.mem_of_getElem? (i := 106) rfl) rfl
theorem lX10_430 : Cond.methodLink RX10 430 yX0_allPonds ∈ mj_W := mj_t6 (List.mem_of_getElem? (i := 122) rfl) rfl
theorem lX10_433 : Cond.methodLink RX10 433 yX1_knownCount ∈ mj_W := mj_t6 (List.mem_of_getElem? (i := 126) rfl) rfl
theorem lX10_436 : Cond.methodLink RX10 436 yX10_keeperHas ∈ mj_W := mj_t6 (List.mem_of_getElem? (i := 24) rfl) rfl
theorem lX10_445 : Cond.methodLink RX10 445 yX1_hold ∈ mj_W := mj_t6 (List.mem_of_getElem? (i := 82) rfl) rfl
theorem lX11_1 : Cond.methodLink RX11 1 objectInit ∈ mj_W := mj_t6 (List.mem_of_getElem? (i := 224) rfl) rfl
theorem lX11_148 : Cond.methodLink RX11 148 yX11_begins ∈ mj_W := mj_t6 (List.mem_of_getElem? (i := 225) rfl) rfl
theorem lX11_163 : Cond.methodLink RX11 163 yX11_here ∈ mj_W := mj_t7 (List.mem_of_getElem? (i := 224) rfl) rfl
theorem lX11_173 : Cond.methodLink RX11 173 yX11_isSmall ∈ mj_W := mj_t7 (List.mem_of_getElem? (i := 228) rfl) rfl
theorem lX11_177 : Cond.methodLink RX11 177 yX11_word ∈ mj_W := mj_t7 (List.mem_of_getElem? (i := 231) rfl) rfl
theorem lX11_183 : Cond.methodLink RX11 183 yX11_name ∈ mj_W := mj_t7 (List.mem_of_getElem? (i := 238) rfl) rfl
theorem lX11_186 : Cond.methodLink RX11 186 yX11_isDigit ∈ mj_W := mj_t8 (List.mem_of_getElem? (i := 2) rfl) rfl
theorem lX11_190 : Cond.methodLink RX11 190 yX11_sign ∈ mj_W := mj_t8 (List.mem_of_getElem? (i := 6) rfl) rfl
theorem lX11_196 : Cond.methodLink RX11 196 yJ0_length_8abf5 ∈ mj_W := mj_t7 (List.mem_of_getElem? (i := 236) rfl) rfl
theorem lX11_201 : Cond.methodLink RX11 201 yJ0_charAt_5068e ∈ mj_W := mj_t7 (List.mem_of_getElem? (i := 237) rfl) rfl
theorem lX11_211 : Cond.methodLink RX11 211 yX11_token ∈ mj_W := mj_t7 (List.mem_of_getElem? (i := 220) rfl) rfl
theorem lX11_214 : Cond.methodLink RX11 214 yX11_wrong ∈ mj_W := mj_t8 (List.mem_of_getElem? (i := 14) rfl) rfl
theorem lX11_217 : Cond.methodLink RX11 217 yX11_found ∈ mj_W := mj_t8 (List.mem_of_getElem? (i := 30) rfl) rfl
theorem lX11_221 : Cond.methodLink RX11 221 yX11_fresher ∈ mj_W := mj_t8 (List.mem_of_getElem? (i := 22) rfl) rfl
theorem lX11_225 : Cond.methodLink RX11 225 yX11_isFull ∈ mj_W := mj_t8 (List.mem_of_getElem? (i := 18) rfl) rfl
theorem lX11_231 : Cond.methodLink RX11 231 yX11_fresh ∈ mj_W := mj_t8 (List.mem_of_getElem? (i := 26) rfl) rfl
theorem lX11_235 : Cond.methodLink RX11 235 yX11_numeral ∈ mj_W := mj_t8 (List.mem_of_getElem? (i := 33) rfl) rfl
theorem lX11_239 : Cond.methodLink RX11 239 yX11_reads ∈ mj_W := mj_t7 (List.mem_of_getElem? (i := 216) rfl) rfl
theorem lX11_243 : Cond.methodLink RX11 243 yX11_lockLine ∈ mj_W := mj_t8 (List.mem_of_getElem? (i := 37) rfl) rfl
theorem lX11_246 : Cond.methodLink RX11 246 yX11_pipeLine ∈ mj_W := mj_t8 (List.mem_of_getElem? (i := 53) rfl) rfl
theorem lX11_249 : Cond.methodLink RX11 249 yX11_turnLine ∈ mj_W := mj_t8 (List.mem_of_getElem? (i := 57) rfl) rfl
theorem lX11_252 : Cond.methodLink RX11 252 yX11_pondAtHand ∈ mj_W := mj_t8 (List.mem_of_getElem? (i := 41) rfl) rfl
theorem lX11_255 : Cond.methodLink RX11 255 yX11_lockWith ∈ mj_W := mj_t8 (List.mem_of_getElem? (i := 45) rfl) rfl
theorem lX11_258 : Cond.methodLink RX11 258 yX11_goOn ∈ mj_W := mj_t8 (List.mem_of_getElem? (i := 49) rfl) rfl
theorem lX11_261 : Cond.methodLink RX11 261 yX11_lawLine ∈ mj_W := mj_t8 (List.mem_of_getElem? (i := 61) rfl) rfl
theorem lX11_264 : Cond.methodLink RX11 264 yX11_isSign ∈ mj_W := mj_t8 (List.mem_of_getElem? (i := 101) rfl) rfl
theorem lX11_270 : Cond.methodLink RX11 270 yX11_expression ∈ mj_W := mj_t8 (List.mem_of_getElem? (i := 65) rfl) rfl
theorem lX11_276 : Cond.methodLink RX11 276 yX11_conjunction ∈ mj_W := mj_t8 (List.mem_of_getElem? (i := 69) rfl) rfl
theorem lX11_279 : Cond.methodLink RX11 279 yX11_isWord ∈ mj_W := mj_t8 (List.mem_of_getElem? (i := 77) rfl) rfl
theorem lX11_282 : Cond.methodLink RX11 282 yX11_knot ∈ mj_W := mj_t8 (List.mem_of_getElem? (i := 81) rfl) rfl
theorem lX11_285 : Cond.methodLink RX11 285 yX11_puts ∈ mj_W := mj_t8 (List.mem_of_getElem? (i := 85) rfl) rfl
theorem lX11_288 : Cond.methodLink RX11 288 yX11_negation ∈ mj_W := mj_t8 (List.mem_of_getElem? (i := 73) rfl) rfl
theorem lX11_291 : Cond.methodLink RX11 291 yX11_sum ∈ mj_W := mj_t8 (List.mem_of_getElem? (i := 89) rfl) rfl
theorem lX11_294 : Cond.methodLink RX11 294 yX11_product ∈ mj_W := mj_t8 (List.mem_of_getElem? (i := 93) rfl) rfl
theorem lX11_297 : Cond.methodLink RX11 297 yX11_primary ∈ mj_W := mj_t8 (List.mem_of_getElem? (i := 97) rfl) rfl
theorem lX11_303 : Cond.methodLink RX11 303 yX11_line ∈ mj_W := mj_t8 (List.mem_of_getElem? (i := 10) rfl) rfl
theorem lX11_309 : Cond.methodLink RX11 309 yX11_half ∈ mj_W := mj_t8 (List.mem_of_getElem? (i := 105) rfl) rfl
theorem lX11_326 : Cond.methodLink RX11 326 yX11_is ∈ mj_W := mj_t8 (List.mem_of_getElem? (i := 225) rfl) rfl
theorem lX11_330 : Cond.methodLink RX11 330 Lib.MathLoose.abs_long.x ∈ mj_W := mj_t8 (List.mem_of_getElem? (i := 228) rfl) rfl
theorem lX11_340 : Cond.methodLink RX11 340 yX11_works ∈ mj_W := mj_t8 (List.mem_of_getElem? (i := 221) rfl) rfl
theorem lX11_343 : Cond.methodLink RX11 343 yX11_starts ∈ mj_W := mj_t6 (List.mem_of_getElem? (i := 229) rfl) rfl
theorem lX11_346 : Cond.methodLink RX11 346 yX11_fullOf ∈ mj_W := mj_t8 (List.mem_of_getElem? (i := 138) rfl) rfl
theorem lX11_349 : Cond.methodLink RX11 349 yX11_higherBy ∈ mj_W := mj_t8 (List.mem_of_getElem? (i := 201) rfl) rfl
theorem lX11_353 : Cond.methodLink RX11 353 yX11_sourceOf ∈ mj_W := mj_t8 (List.mem_of_getElem? (i := 197) rfl) rfl
theorem lX11_356 : Cond.methodLink RX11 356 yX11_sinkOf ∈ mj_W := mj_t9 (List.mem_of_getElem? (i := 1) rfl) rfl
theorem lX11_359 : Cond.methodLink RX11 359 Lib.Math.min.name ∈ mj_W := mj_t9 (List.mem_of_getElem? (i := 5) rfl) rfl
theorem lX11_362 : Cond.methodLink RX11 362 yX11_runOf ∈ mj_W := mj_t8 (List.mem_of_getElem? (i := 237) rfl) rfl
theorem lX11_368 : Cond.methodLink RX11 368 yX11_isJammed ∈ mj_W := mj_t8 (List.mem_of_getElem? (i := 160) rfl) rfl
theorem lX11_372 : Cond.methodLink RX11 372 yX11_isTurned ∈ mj_W := mj_t8 (List.mem_of_getElem? (i := 164) rfl) rfl
theorem lX11_375 : Cond.methodLink RX11 375 yX11_isOpen ∈ mj_W := mj_t8 (List.mem_of_getElem? (i := 156) rfl) rfl
theorem lX11_378 : Cond.methodLink RX11 378 yX11_openMany ∈ mj_W := mj_t8 (List.mem_of_getElem? (i := 209) rfl) rfl
theorem lX11_381 : Cond.methodLink RX11 381 yX11_boatsOf ∈ mj_W := mj_t8 (List.mem_of_getElem? (i := 213) rfl) rfl
theorem lX11_384 : Cond.methodLink RX11 384 yX11_hasLaw ∈ mj_W := mj_t8 (List.mem_of_getElem? (i := 192) rfl) rfl
theorem lX11_387 : Cond.methodLink RX11 387 yX11_goes ∈ mj_W := mj_t8 (List.mem_of_getElem? (i := 217) rfl) rfl
theorem lX11_390 : Cond.methodLink RX11 390 Lib.MathLoose.min_long.x ∈ mj_W := mj_t9 (List.mem_of_getElem? (i := 55) rfl) rfl
theorem lX11_393 : Cond.methodLink RX11 393 Lib.MathLoose.max_long.x ∈ mj_W := mj_t9 (List.mem_of_getElem? (i := 56) rfl) rfl
theorem lX11_400 : Cond.methodLink RX11 400 yX11_calls ∈ mj_W := mj_t8 (List.mem_of_getElem? (i := 205) rfl) rfl
theorem lX11_404 : Cond.methodLink RX11 404 yX11_within ∈ mj_W := mj_t9 (List.mem_of_getElem? (i := 51) rfl) rfl
theorem lX11_407 : Cond.methodLink RX11 407 yX11_flows ∈ mj_W := mj_t9 (List.mem_of_getElem? (i := 18) rfl) rfl
theorem lX11_410 : Cond.methodLink RX11 410 yX11_doesJam ∈ mj_W := mj_t9 (List.mem_of_getElem? (i := 57) rfl) rfl
theorem lX11_414 : Cond.methodLink RX11 414 Lib.Math.max.name ∈ mj_W := mj_t9 (List.mem_of_getElem? (i := 30) rfl) rfl
theorem lX11_419 : Cond.methodLink RX11 419 yX11_boatIn ∈ mj_W := mj_t8 (List.mem_of_getElem? (i := 176) rfl) rfl
theorem lX11_422 : Cond.methodLink RX11 422 yX11_isHigh ∈ mj_W := mj_t9 (List.mem_of_getElem? (i := 71) rfl) rfl
theorem lX11_426 : Cond.methodLink RX11 426 yX11_more ∈ mj_W := mj_t9 (List.mem_of_getElem? (i := 26) rfl) rfl
theorem lX11_429 : Cond.methodLink RX11 429 yX11_opens ∈ mj_W := mj_t9 (List.mem_of_getElem? (i := 47) rfl) rfl
theorem lX11_433 : Cond.methodLink RX11 433 yX11_loses ∈ mj_W := mj_t9 (List.mem_of_getElem? (i := 63) rfl) rfl
theorem lX11_436 : Cond.methodLink RX11 436 yX11_moves ∈ mj_W := mj_t9 (List.mem_of_getElem? (i := 67) rfl) rfl
theorem lX11_439 : Cond.methodLink RX11 439 yX11_passes ∈ mj_W := mj_t9 (List.mem_of_getElem? (i := 43) rfl) rfl
theorem lX11_443 : Cond.methodLink RX11 443 yX11_common ∈ mj_W := mj_t8 (List.mem_of_getElem? (i := 145) rfl) rfl
theorem lX11_446 : Cond.methodLink RX11 446 yX11_isPond ∈ mj_W := mj_t8 (List.mem_of_getElem? (i := 120) rfl) rfl
theorem lX11_449 : Cond.methodLink RX11 449 yX11_lockOf ∈ mj_W := mj_t8 (List.mem_of_getElem? (i := 124) rfl) rfl
theorem lX11_452 : Cond.methodLink RX11 452 yX11_orNone ∈ mj_W := mj_t8 (List.mem_of_getElem? (i := 128) rfl) rfl
theorem lX11_455 : Cond.methodLink RX11 455 yX11_isPart ∈ mj_W := mj_t8 (List.mem_of_getElem? (i := 135) rfl) rfl
theorem lX11_458 : Cond.methodLink RX11 458 yX11_part ∈ mj_W := mj_t8 (List.mem_of_getElem? (i := 142) rfl) rfl
theorem lX11_461 : Cond.methodLink RX11 461 yX11_isPipe ∈ mj_W := mj_t8 (List.mem_of_getElem? (i := 152) rfl) rfl
theorem lX11_464 : Cond.methodLink RX11 464 yX11_isLock ∈ mj_W := mj_t8 (List.mem_of_getElem? (i := 172) rfl) rfl
theorem lX11_467 : Cond.methodLink RX11 467 yX11_isBoat ∈ mj_W := mj_t8 (List.mem_of_getElem? (i := 184) rfl) rfl
theorem lX11_474 : Cond.methodLink RX11 474 yX11_copies ∈ mj_W := mj_t9 (List.mem_of_getElem? (i := 14) rfl) rfl
theorem lX11_477 : Cond.methodLink RX11 477 yX11_keepNow ∈ mj_W := mj_t9 (List.mem_of_getElem? (i := 10) rfl) rfl
theorem lX11_480 : Cond.methodLink RX11 480 yX11_goesOn ∈ mj_W := mj_t9 (List.mem_of_getElem? (i := 79) rfl) rfl
theorem lX11_483 : Cond.methodLink RX11 483 yX11_sumOf ∈ mj_W := mj_t9 (List.mem_of_getElem? (i := 83) rfl) rfl
theorem lX11_486 : Cond.methodLink RX11 486 yX11_bitsOf ∈ mj_W := mj_t9 (List.mem_of_getElem? (i := 87) rfl) rfl
theorem lX11_489 : Cond.methodLink RX11 489 yX11_joinedBy ∈ mj_W := mj_t9 (List.mem_of_getElem? (i := 98) rfl) rfl
theorem lX11_492 : Cond.methodLink RX11 492 yX11_isHeight ∈ mj_W := mj_t9 (List.mem_of_getElem? (i := 106) rfl) rfl
theorem lX11_495 : Cond.methodLink RX11 495 yX11_overOf ∈ mj_W := mj_t9 (List.mem_of_getElem? (i := 109) rfl) rfl
theorem lX11_498 : Cond.methodLink RX11 498 yX11_spareOf ∈ mj_W := mj_t9 (List.mem_of_getElem? (i := 117) rfl) rfl
theorem lX11_501 : Cond.methodLink RX11 501 yX11_liftOf ∈ mj_W := mj_t9 (List.mem_of_getElem? (i := 125) rfl) rfl
theorem lX11_510 : Cond.methodLink RX11 510 yX11_laysWater ∈ mj_W := mj_t9 (List.mem_of_getElem? (i := 145) rfl) rfl
theorem lX11_513 : Cond.methodLink RX11 513 yX11_takes ∈ mj_W := mj_t9 (List.mem_of_getElem? (i := 141) rfl) rfl
theorem lX11_516 : Cond.methodLink RX11 516 yX11_opensTo ∈ mj_W := mj_t9 (List.mem_of_getElem? (i := 149) rfl) rfl
theorem lX11_522 : Cond.methodLink RX11 522 yX11_seeks ∈ mj_W := mj_t9 (List.mem_of_getElem? (i := 137) rfl) rfl
theorem lX11_525 : Cond.methodLink RX11 525 yX11_fewestBy ∈ mj_W := mj_t9 (List.mem_of_getElem? (i := 133) rfl) rfl
theorem lX11_534 : Cond.methodLink RX11 534 yX11_drawsBy ∈ mj_W := mj_t9 (List.mem_of_getElem? (i := 157) rfl) rfl
theorem lX11_537 : Cond.methodLink RX11 537 Lib.Math.abs.name ∈ mj_W := mj_t9 (List.mem_of_getElem? (i := 169) rfl) rfl
theorem lX11_539 : Cond.methodLink RX11 539 yX11_runsAll ∈ mj_W := mj_t9 (List.mem_of_getElem? (i := 174) rfl) rfl
theorem lX11_542 : Cond.methodLink RX11 542 yX11_nextTo ∈ mj_W := mj_t9 (List.mem_of_getElem? (i := 182) rfl) rfl
theorem lX11_545 : Cond.methodLink RX11 545 yX11_otherOf ∈ mj_W := mj_t9 (List.mem_of_getElem? (i := 194) rfl) rfl
theorem lX11_548 : Cond.methodLink RX11 548 yX11_roomFrom ∈ mj_W := mj_t9 (List.mem_of_getElem? (i := 198) rfl) rfl
theorem lX11_551 : Cond.methodLink RX11 551 yX11_findsOne ∈ mj_W := mj_t9 (List.mem_of_getElem? (i := 190) rfl) rfl
theorem lX11_554 : Cond.methodLink RX11 554 yX11_sends ∈ mj_W := mj_t9 (List.mem_of_getElem? (i := 202) rfl) rfl
theorem lX11_557 : Cond.methodLink RX11 557 yX11_hasOf ∈ mj_W := mj_t9 (List.mem_of_getElem? (i := 230) rfl) rfl
theorem lX11_561 : Cond.methodLink RX11 561 yX11_isRest ∈ mj_W := mj_t9 (List.mem_of_getElem? (i := 226) rfl) rfl
theorem lX11_564 : Cond.methodLink RX11 564 yX11_areTwo ∈ mj_W := mj_t9 (List.mem_of_getElem? (i := 218) rfl) rfl
theorem lX11_567 : Cond.methodLink RX11 567 yX11_restOf ∈ mj_W := mj_t9 (List.mem_of_getElem? (i := 222) rfl) rfl
theorem lX11_574 : Cond.methodLink RX11 574 yX11_knownMany ∈ mj_W := mj_t10 (List.mem_of_getElem? (i := 24) rfl) rfl
theorem lX11_577 : Cond.methodLink RX11 577 yX11_isSo ∈ mj_W := mj_t10 (List.mem_of_getElem? (i := 32) rfl) rfl
theorem lX11_580 : Cond.methodLink RX11 580 yX11_fitsLeak ∈ mj_W := mj_t10 (List.mem_of_getElem? (i := 28) rfl) rfl
theorem lX11_583 : Cond.methodLink RX11 583 yX11_leaksOf ∈ mj_W := mj_t10 (List.mem_of_getElem? (i := 20) rfl) rfl
theorem lX11_586 : Cond.methodLink RX11 586 yX11_worstAt ∈ mj_W := mj_t10 (List.mem_of_getElem? (i := 40) rfl) rfl
theorem lX2_3 : Cond.methodLink RX2 3 objectInit ∈ mj_W := mj_t2 (List.mem_of_getElem? (i := 195) rfl) rfl
theorem lX2_30 : Cond.methodLink RX2 30 Lib.Math.min.name ∈ mj_W := mj_t5 (List.mem_of_getElem? (i := 16) rfl) rfl
theorem lX3_3 : Cond.methodLink RX3 3 objectInit ∈ mj_W := mj_t1 (List.mem_of_getElem? (i := 129) rfl) rfl
theorem lX3_32 : Cond.methodLink RX3 32 yX3_truth ∈ mj_W := mj_t4 (List.mem_of_getElem? (i := 214) rfl) rfl
theorem lX3_36 : Cond.methodLink RX3 36 yX3_valueOf ∈ mj_W := mj_t4 (List.mem_of_getElem? (i := 217) rfl) rfl
theorem lX3_42 : Cond.methodLink RX3 42 yX3_inBounds ∈ mj_W := mj_t4 (List.mem_of_getElem? (i := 220) rfl) rfl
theorem lX3_46 : Cond.methodLink RX3 46 yX3_product ∈ mj_W := mj_t4 (List.mem_of_getElem? (i := 226) rfl) rfl
theorem lX4_3 : Cond.methodLink RX4 3 objectInit ∈ mj_W := mj_t1 (List.mem_of_getElem? (i := 80) rfl) rfl
theorem lX5_3 : Cond.methodLink RX5 3 objectInit ∈ mj_W := mj_t2 (List.mem_of_getElem? (i := 91) rfl) rfl
theorem lX5_41 : Cond.methodLink RX5 41 yX5_oneMinute ∈ mj_W := mj_t5 (List.mem_of_getElem? (i := 58) rfl) rfl
theorem lX5_45 : Cond.methodLink RX5 45 yX5_letSprings ∈ mj_W := mj_t5 (List.mem_of_getElem? (i := 62) rfl) rfl
theorem lX5_48 : Cond.methodLink RX5 48 yX5_letPipes ∈ mj_W := mj_t5 (List.mem_of_getElem? (i := 67) rfl) rfl
theorem lX5_51 : Cond.methodLink RX5 51 yX5_letLeaks ∈ mj_W := mj_t5 (List.mem_of_getElem? (i := 94) rfl) rfl
theorem lX5_54 : Cond.methodLink RX5 54 yX5_letBoats ∈ mj_W := mj_t5 (List.mem_of_getElem? (i := 99) rfl) rfl
theorem lX5_75 : Cond.methodLink RX5 75 yX8_pour ∈ mj_W := mj_t5 (List.mem_of_getElem? (i := 66) rfl) rfl
theorem lX5_82 : Cond.methodLink RX5 82 yX5_openNow ∈ mj_W := mj_t4 (List.mem_of_getElem? (i := 199) rfl) rfl
theorem lX5_89 : Cond.methodLink RX5 89 yX8_giver ∈ mj_W := mj_t5 (List.mem_of_getElem? (i := 71) rfl) rfl
theorem lX5_93 : Cond.methodLink RX5 93 yX5_worth ∈ mj_W := mj_t5 (List.mem_of_getElem? (i := 72) rfl) rfl
theorem lX5_97 : Cond.methodLink RX5 97 yX5_put ∈ mj_W := mj_t5 (List.mem_of_getElem? (i := 73) rfl) rfl
theorem lX5_101 : Cond.methodLink RX5 101 yX8_run ∈ mj_W := mj_t5 (List.mem_of_getElem? (i := 82) rfl) rfl
theorem lX5_105 : Cond.methodLink RX5 105 yX5_jamsNow ∈ mj_W := mj_t5 (List.mem_of_getElem? (i := 83) rfl) rfl
theorem lX5_115 : Cond.methodLink RX5 115 yX8_nextNumber ∈ mj_W := mj_t5 (List.mem_of_getElem? (i := 87) rfl) rfl
theorem lX5_119 : Cond.methodLink RX5 119 yX8_lose ∈ mj_W := mj_t5 (List.mem_of_getElem? (i := 98) rfl) rfl
theorem lX5_140 : Cond.methodLink RX5 140 yX8_letIn ∈ mj_W := mj_t5 (List.mem_of_getElem? (i := 103) rfl) rfl
theorem lX5_143 : Cond.methodLink RX5 143 yX8_canGoUp ∈ mj_W := mj_t5 (List.mem_of_getElem? (i := 113) rfl) rfl
theorem lX5_156 : Cond.methodLink RX5 156 yX0_allPipes ∈ mj_W := mj_t4 (List.mem_of_getElem? (i := 150) rfl) rfl
theorem lX5_159 : Cond.methodLink RX5 159 yX0_turnedIn ∈ mj_W := mj_t4 (List.mem_of_getElem? (i := 154) rfl) rfl
theorem lX5_164 : Cond.methodLink RX5 164 Lib.MathLoose.min_long.x ∈ mj_W := mj_t5 (List.mem_of_getElem? (i := 76) rfl) rfl
theorem lX5_170 : Cond.methodLink RX5 170 Lib.MathLoose.max_long.x ∈ mj_W := mj_t5 (List.mem_of_getElem? (i := 79) rfl) rfl
theorem lX5_177 : Cond.methodLink RX5 177 yX3_isTold ∈ mj_W := mj_t4 (List.mem_of_getElem? (i := 197) rfl) rfl
theorem lX5_192 : Cond.methodLink RX5 192 yJ6_bitCount_0f7a4 ∈ mj_W := mj_t4 (List.mem_of_getElem? (i := 200) rfl) rfl
theorem lX5_197 : Cond.methodLink RX5 197 yX8_boatsThatAre ∈ mj_W := mj_t4 (List.mem_of_getElem? (i := 206) rfl) rfl
theorem lX5_200 : Cond.methodLink RX5 200 yX3_worth ∈ mj_W := mj_t4 (List.mem_of_getElem? (i := 210) rfl) rfl
theorem lX6_3 : Cond.methodLink RX6 3 objectInit ∈ mj_W := mj_t2 (List.mem_of_getElem? (i := 133) rfl) rfl
theorem lX6_39 : Cond.methodLink RX6 39 yX6_open ∈ mj_W := mj_t5 (List.mem_of_getElem? (i := 189) rfl) rfl
theorem lX6_43 : Cond.methodLink RX6 43 yX8_isAtLeast ∈ mj_W := mj_t5 (List.mem_of_getElem? (i := 193) rfl) rfl
theorem lX6_47 : Cond.methodLink RX6 47 yX6_note ∈ mj_W := mj_t5 (List.mem_of_getElem? (i := 194) rfl) rfl
theorem lX6_60 : Cond.methodLink RX6 60 yX8_giver ∈ mj_W := mj_t5 (List.mem_of_getElem? (i := 199) rfl) rfl
theorem lX6_70 : Cond.methodLink RX6 70 yX8_isJammed ∈ mj_W := mj_t5 (List.mem_of_getElem? (i := 200) rfl) rfl
theorem lX6_74 : Cond.methodLink RX6 74 yX8_movable ∈ mj_W := mj_t5 (List.mem_of_getElem? (i := 201) rfl) rfl
theorem lX6_77 : Cond.methodLink RX6 77 yX8_move ∈ mj_W := mj_t5 (List.mem_of_getElem? (i := 202) rfl) rfl
theorem lX6_80 : Cond.methodLink RX6 80 Lib.Math.max.name ∈ mj_W := mj_t5 (List.mem_of_getElem? (i := 198) rfl) rfl
theorem lX7_3 : Cond.methodLink RX7 3 objectInit ∈ mj_W := mj_t1 (List.mem_of_getElem? (i := 38) rfl) rfl
theorem lX7_48 : Cond.methodLink RX7 48 yX0_clear ∈ mj_W := mj_t3 (List.mem_of_getElem? (i := 27) rfl) rfl
theorem lX7_51 : Cond.methodLink RX7 51 yX9_open ∈ mj_W := mj_t3 (List.mem_of_getElem? (i := 39) rfl) rfl
theorem lX7_55 : Cond.methodLink RX7 55 yX9_kind ∈ mj_W := mj_t3 (List.mem_of_getElem? (i := 185) rfl) rfl
theorem lX7_59 : Cond.methodLink RX7 59 yX7_readLine ∈ mj_W := mj_t3 (List.mem_of_getElem? (i := 189) rfl) rfl
theorem lX7_62 : Cond.methodLink RX7 62 yX9_place ∈ mj_W := mj_t3 (List.mem_of_getElem? (i := 193) rfl) rfl
theorem lX7_64 : Cond.methodLink RX7 64 yX7_fail ∈ mj_W := mj_t3 (List.mem_of_getElem? (i := 197) rfl) rfl
theorem lX7_68 : Cond.methodLink RX7 68 yX0_hasAllOf ∈ mj_W := mj_t3 (List.mem_of_getElem? (i := 201) rfl) rfl
theorem lX7_72 : Cond.methodLink RX7 72 yX9_advance ∈ mj_W := mj_t3 (List.mem_of_getElem? (i := 205) rfl) rfl
theorem lX7_75 : Cond.methodLink RX7 75 yX7_readPond ∈ mj_W := mj_t3 (List.mem_of_getElem? (i := 209) rfl) rfl
theorem lX7_78 : Cond.methodLink RX7 78 yX7_readLock ∈ mj_W := mj_t3 (List.mem_of_getElem? (i := 237) rfl) rfl
theorem lX7_81 : Cond.methodLink RX7 81 yX7_readPipe ∈ mj_W := mj_t4 (List.mem_of_getElem? (i := 13) rfl) rfl
theorem lX7_84 : Cond.methodLink RX7 84 yX7_readTurn ∈ mj_W := mj_t4 (List.mem_of_getElem? (i := 25) rfl) rfl
theorem lX7_87 : Cond.methodLink RX7 87 yX7_readBoat ∈ mj_W := mj_t4 (List.mem_of_getElem? (i := 33) rfl) rfl
theorem lX7_90 : Cond.methodLink RX7 90 yX7_readSpring ∈ mj_W := mj_t4 (List.mem_of_getElem? (i := 41) rfl) rfl
theorem lX7_93 : Cond.methodLink RX7 93 yX7_readJam ∈ mj_W := mj_t4 (List.mem_of_getElem? (i := 45) rfl) rfl
theorem lX7_96 : Cond.methodLink RX7 96 yX7_readSeed ∈ mj_W := mj_t4 (List.mem_of_getElem? (i := 49) rfl) rfl
theorem lX7_99 : Cond.methodLink RX7 99 yX7_readLaw ∈ mj_W := mj_t4 (List.mem_of_getElem? (i := 54) rfl) rfl
theorem lX7_102 : Cond.methodLink RX7 102 yX7_take ∈ mj_W := mj_t3 (List.mem_of_getElem? (i := 221) rfl) rfl
theorem lX7_105 : Cond.methodLink RX7 105 yX7_ownWord ∈ mj_W := mj_t3 (List.mem_of_getElem? (i := 213) rfl) rfl
theorem lX7_108 : Cond.methodLink RX7 108 yX0_pondNamed ∈ mj_W := mj_t3 (List.mem_of_getElem? (i := 225) rfl) rfl
theorem lX7_112 : Cond.methodLink RX7 112 yX7_number ∈ mj_W := mj_t3 (List.mem_of_getElem? (i := 229) rfl) rfl
theorem lX7_116 : Cond.methodLink RX7 116 yX0_addPond ∈ mj_W := mj_t3 (List.mem_of_getElem? (i := 233) rfl) rfl
theorem lX7_120 : Cond.methodLink RX7 120 yX7_toldPond ∈ mj_W := mj_t4 (List.mem_of_getElem? (i := 1) rfl) rfl
theorem lX7_127 : Cond.methodLink RX7 127 yX4_ofPond ∈ mj_W := mj_t4 (List.mem_of_getElem? (i := 5) rfl) rfl
theorem lX7_132 : Cond.methodLink RX7 132 yX4_add ∈ mj_W := mj_t4 (List.mem_of_getElem? (i := 9) rfl) rfl
theorem lX7_136 : Cond.methodLink RX7 136 yX0_hasPipe ∈ mj_W := mj_t4 (List.mem_of_getElem? (i := 17) rfl) rfl
theorem lX7_140 : Cond.methodLink RX7 140 yX0_addPipe ∈ mj_W := mj_t4 (List.mem_of_getElem? (i := 21) rfl) rfl
theorem lX7_146 : Cond.methodLink RX7 146 yX0_addTurn ∈ mj_W := mj_t4 (List.mem_of_getElem? (i := 29) rfl) rfl
theorem lX7_149 : Cond.methodLink RX7 149 yX4_addBoat ∈ mj_W := mj_t4 (List.mem_of_getElem? (i := 37) rfl) rfl
theorem lX7_167 : Cond.methodLink RX7 167 yX3_isTold ∈ mj_W := mj_t4 (List.mem_of_getElem? (i := 58) rfl) rfl
theorem lX7_175 : Cond.methodLink RX7 175 yX3_begin ∈ mj_W := mj_t4 (List.mem_of_getElem? (i := 62) rfl) rfl
theorem lX7_178 : Cond.methodLink RX7 178 yX7_readRanked ∈ mj_W := mj_t4 (List.mem_of_getElem? (i := 66) rfl) rfl
theorem lX7_181 : Cond.methodLink RX7 181 yX3_end ∈ mj_W := mj_t4 (List.mem_of_getElem? (i := 89) rfl) rfl
theorem lX7_184 : Cond.methodLink RX7 184 yX7_readPart ∈ mj_W := mj_t4 (List.mem_of_getElem? (i := 70) rfl) rfl
theorem lX7_187 : Cond.methodLink RX7 187 yX7_readDenied ∈ mj_W := mj_t4 (List.mem_of_getElem? (i := 82) rfl) rfl
theorem lX7_190 : Cond.methodLink RX7 190 yX7_rankOf ∈ mj_W := mj_t4 (List.mem_of_getElem? (i := 86) rfl) rfl
theorem lX7_193 : Cond.methodLink RX7 193 yX7_takeKnot ∈ mj_W := mj_t4 (List.mem_of_getElem? (i := 74) rfl) rfl
theorem lX7_196 : Cond.methodLink RX7 196 yX3_add ∈ mj_W := mj_t4 (List.mem_of_getElem? (i := 78) rfl) rfl
theorem lX7_198 : Cond.methodLink RX7 198 yX9_value ∈ mj_W := mj_t3 (List.mem_of_getElem? (i := 217) rfl) rfl
theorem lX8_3 : Cond.methodLink RX8 3 objectInit ∈ mj_W := mj_t2 (List.mem_of_getElem? (i := 42) rfl) rfl
theorem lX8_50 : Cond.methodLink RX8 50 yX8_raised ∈ mj_W := mj_t5 (List.mem_of_getElem? (i := 112) rfl) rfl
theorem lX8_60 : Cond.methodLink RX8 60 yX8_higherBy ∈ mj_W := mj_t4 (List.mem_of_getElem? (i := 189) rfl) rfl
theorem lX8_64 : Cond.methodLink RX8 64 yX8_giver ∈ mj_W := mj_t5 (List.mem_of_getElem? (i := 2) rfl) rfl
theorem lX8_67 : Cond.methodLink RX8 67 Lib.Math.min.name ∈ mj_W := mj_t5 (List.mem_of_getElem? (i := 3) rfl) rfl
theorem lX8_72 : Cond.methodLink RX8 72 yX8_movable ∈ mj_W := mj_t5 (List.mem_of_getElem? (i := 21) rfl) rfl
theorem lX8_75 : Cond.methodLink RX8 75 yX8_move ∈ mj_W := mj_t5 (List.mem_of_getElem? (i := 22) rfl) rfl
theorem lX8_82 : Cond.methodLink RX8 82 yX8_isJammed ∈ mj_W := mj_t5 (List.mem_of_getElem? (i := 227) rfl) rfl
theorem lX8_89 : Cond.methodLink RX8 89 yX8_run ∈ mj_W := mj_t5 (List.mem_of_getElem? (i := 229) rfl) rfl
theorem lX8_92 : Cond.methodLink RX8 92 Lib.Math.max.name ∈ mj_W := mj_t5 (List.mem_of_getElem? (i := 45) rfl) rfl
theorem lX8_110 : Cond.methodLink RX8 110 yX8_boatIn ∈ mj_W := mj_t5 (List.mem_of_getElem? (i := 107) rfl) rfl
theorem lX8_119 : Cond.methodLink RX8 119 yX8_isAtMost ∈ mj_W := mj_t5 (List.mem_of_getElem? (i := 108) rfl) rfl
theorem lX8_126 : Cond.methodLink RX8 126 yX8_isAtLeast ∈ mj_W := mj_t5 (List.mem_of_getElem? (i := 117) rfl) rfl
theorem lX9_3 : Cond.methodLink RX9 3 objectInit ∈ mj_W := mj_t1 (List.mem_of_getElem? (i := 44) rfl) rfl
theorem lX9_28 : Cond.methodLink RX9 28 Lib.Math.min.name ∈ mj_W := mj_t3 (List.mem_of_getElem? (i := 43) rfl) rfl
theorem lX9_40 : Cond.methodLink RX9 40 yX9_isLetter ∈ mj_W := mj_t3 (List.mem_of_getElem? (i := 46) rfl) rfl
theorem lX9_44 : Cond.methodLink RX9 44 yX9_addWord ∈ mj_W := mj_t3 (List.mem_of_getElem? (i := 49) rfl) rfl
theorem lX9_47 : Cond.methodLink RX9 47 yX9_isDigit ∈ mj_W := mj_t3 (List.mem_of_getElem? (i := 112) rfl) rfl
theorem lX9_50 : Cond.methodLink RX9 50 yX9_addNumber ∈ mj_W := mj_t3 (List.mem_of_getElem? (i := 115) rfl) rfl
theorem lX9_53 : Cond.methodLink RX9 53 yX9_addSign ∈ mj_W := mj_t3 (List.mem_of_getElem? (i := 120) rfl) rfl
theorem lX9_56 : Cond.methodLink RX9 56 yX9_add ∈ mj_W := mj_t3 (List.mem_of_getElem? (i := 108) rfl) rfl
theorem lX9_60 : Cond.methodLink RX9 60 yX9_packed ∈ mj_W := mj_t3 (List.mem_of_getElem? (i := 53) rfl) rfl
theorem lX9_64 : Cond.methodLink RX9 64 yX9_kindOfWord ∈ mj_W := mj_t3 (List.mem_of_getElem? (i := 56) rfl) rfl
theorem lX9_70 : Cond.methodLink RX9 70 yJ0_length_8abf5 ∈ mj_W := mj_t3 (List.mem_of_getElem? (i := 60) rfl) rfl
theorem lX9_76 : Cond.methodLink RX9 76 yJ0_charAt_5068e ∈ mj_W := mj_t3 (List.mem_of_getElem? (i := 70) rfl) rfl
theorem lX9_83 : Cond.methodLink RX9 83 yJ0_indexOf_0f7a4 ∈ mj_W := mj_t3 (List.mem_of_getElem? (i := 125) rfl) rfl
theorem lX9_86 : Cond.methodLink RX9 86 yX9_withSecond ∈ mj_W := mj_t3 (List.mem_of_getElem? (i := 182) rfl) rfl
theorem oJ11_76 : Cond.constant RJ11 76 (56320) ∈ mj_W := mj_t3 (List.mem_of_getElem? (i := 181) rfl) rfl
theorem oJ11_110 : Cond.constant RJ11 110 (55232) ∈ mj_W := mj_t3 (List.mem_of_getElem? (i := 177) rfl) rfl
theorem oJ2_227 : Cond.constant RJ2 227 (65536) ∈ mj_W := mj_t3 (List.mem_of_getElem? (i := 152) rfl) rfl
theorem oJ6_265 : Cond.constant RJ6 265 (1431655765) ∈ mj_W := mj_t4 (List.mem_of_getElem? (i := 203) rfl) rfl
theorem oJ6_266 : Cond.constant RJ6 266 (858993459) ∈ mj_W := mj_t4 (List.mem_of_getElem? (i := 204) rfl) rfl
theorem oJ6_267 : Cond.constant RJ6 267 (252645135) ∈ mj_W := mj_t4 (List.mem_of_getElem? (i := 205) rfl) rfl
theorem oX10_345 : Cond.constant RX10 345 (2147483647) ∈ mj_W := mj_t6 (List.mem_of_getElem? (i := 2) rfl) rfl
theorem oX11_189 : Cond.constant RX11 189 (99999) ∈ mj_W := mj_t8 (List.mem_of_getElem? (i := 5) rfl) rfl
theorem oX11_396 : Cond.constant RX11 396 (1103515245) ∈ mj_W := mj_t9 (List.mem_of_getElem? (i := 61) rfl) rfl
theorem oX11_399 : Cond.constant RX11 399 (2147483647) ∈ mj_W := mj_t9 (List.mem_of_getElem? (i := 62) rfl) rfl
theorem oX7_159 : Cond.constant RX7 159 (99999) ∈ mj_W := mj_t4 (List.mem_of_getElem? (i := 53) rfl) rfl
theorem oX8_88 : Cond.constant RX8 88 (2147483647) ∈ mj_W := mj_t5 (List.mem_of_getElem? (i := 228) rfl) rfl
theorem oX9_80 : Cond.constant RX9 80 (1000000) ∈ mj_W := mj_t3 (List.mem_of_getElem? (i := 119) rfl) rfl
theorem olX10_236 : Cond.constantLong RX10 236 (-9223372036854775808) ∈ mj_W := mj_t4 (List.mem_of_getElem? (i := 233) rfl) rfl
theorem olX10_356 : Cond.constantLong RX10 356 (-1) ∈ mj_W := mj_t4 (List.mem_of_getElem? (i := 133) rfl) rfl
theorem olX10_361 : Cond.constantLong RX10 361 (100) ∈ mj_W := mj_t6 (List.mem_of_getElem? (i := 35) rfl) rfl
theorem olX11_336 : Cond.constantLong RX11 336 (1000000000000) ∈ mj_W := mj_t8 (List.mem_of_getElem? (i := 231) rfl) rfl
theorem olX11_338 : Cond.constantLong RX11 338 (-1000000000000) ∈ mj_W := mj_t8 (List.mem_of_getElem? (i := 232) rfl) rfl
theorem olX11_472 : Cond.constantLong RX11 472 (-9223372036854775808) ∈ mj_W := mj_t8 (List.mem_of_getElem? (i := 196) rfl) rfl
theorem olX11_570 : Cond.constantLong RX11 570 (-1) ∈ mj_W := mj_t10 (List.mem_of_getElem? (i := 2) rfl) rfl
theorem olX11_572 : Cond.constantLong RX11 572 (100) ∈ mj_W := mj_t10 (List.mem_of_getElem? (i := 3) rfl) rfl
theorem olX3_40 : Cond.constantLong RX3 40 (-9223372036854775808) ∈ mj_W := mj_t4 (List.mem_of_getElem? (i := 225) rfl) rfl
theorem olX3_50 : Cond.constantLong RX3 50 (1000000000000) ∈ mj_W := mj_t4 (List.mem_of_getElem? (i := 223) rfl) rfl
theorem olX3_52 : Cond.constantLong RX3 52 (-1000000000000) ∈ mj_W := mj_t4 (List.mem_of_getElem? (i := 224) rfl) rfl
theorem olX5_162 : Cond.constantLong RX5 162 (-9223372036854775808) ∈ mj_W := mj_t4 (List.mem_of_getElem? (i := 198) rfl) rfl
theorem olX8_129 : Cond.constantLong RX8 129 (1103515245) ∈ mj_W := mj_t5 (List.mem_of_getElem? (i := 91) rfl) rfl
theorem olX8_131 : Cond.constantLong RX8 131 (12345) ∈ mj_W := mj_t5 (List.mem_of_getElem? (i := 92) rfl) rfl
theorem olX8_133 : Cond.constantLong RX8 133 (2147483647) ∈ mj_W := mj_t5 (List.mem_of_getElem? (i := 93) rfl) rfl
theorem c_X4_init : Cond.code yX4_init cX4_init 1 none ∈ mj_W := mj_t1 (List.mem_of_getElem? (i := 79) rfl) rfl
theorem i_X4_init : Cond.instanceMethod yX4_init ∈ mj_W := mj_t1 (List.mem_of_getElem? (i := 78) rfl) rfl
theorem c_X3_init : Cond.code yX3_init cX3_init 1 none ∈ mj_W := mj_t1 (List.mem_of_getElem? (i := 128) rfl) rfl
theorem i_X3_init : Cond.instanceMethod yX3_init ∈ mj_W := mj_t1 (List.mem_of_getElem? (i := 127) rfl) rfl
theorem c_X0_init : Cond.code yX0_init cX0_init 1 none ∈ mj_W := mj_t1 (List.mem_of_getElem? (i := 73) rfl) rfl
theorem i_X0_init : Cond.instanceMethod yX0_init ∈ mj_W := mj_t1 (List.mem_of_getElem? (i := 72) rfl) rfl
theorem c_X4_clear : Cond.code yX4_clear cX4_clear 1 none ∈ mj_W := mj_t3 (List.mem_of_getElem? (i := 34) rfl) rfl
theorem i_X4_clear : Cond.instanceMethod yX4_clear ∈ mj_W := mj_t3 (List.mem_of_getElem? (i := 32) rfl) rfl
theorem e_X4_clear : Cond.selects RX4 yX4_clear yX4_clear ∈ mj_W := mj_t3 (List.mem_of_getElem? (i := 33) rfl) rfl
theorem c_X3_clear : Cond.code yX3_clear cX3_clear 2 none ∈ mj_W := mj_t3 (List.mem_of_getElem? (i := 38) rfl) rfl
theorem i_X3_clear : Cond.instanceMethod yX3_clear ∈ mj_W := mj_t3 (List.mem_of_getElem? (i := 36) rfl) rfl
theorem e_X3_clear : Cond.selects RX3 yX3_clear yX3_clear ∈ mj_W := mj_t3 (List.mem_of_getElem? (i := 37) rfl) rfl
theorem c_X0_clear : Cond.code yX0_clear cX0_clear 2 none ∈ mj_W := mj_t3 (List.mem_of_getElem? (i := 30) rfl) rfl
theorem i_X0_clear : Cond.instanceMethod yX0_clear ∈ mj_W := mj_t3 (List.mem_of_getElem? (i := 28) rfl) rfl
theorem e_X0_clear : Cond.selects RX0 yX0_clear yX0_clear ∈ mj_W := mj_t3 (List.mem_of_getElem? (i := 29) rfl) rfl
theorem c_X0_hasAllOf : Cond.code yX0_hasAllOf cX0_hasAllOf 2 (some .boolean) ∈ mj_W := mj_t3 (List.mem_of_getElem? (i := 204) rfl) rfl
theorem i_X0_hasAllOf : Cond.instanceMethod yX0_hasAllOf ∈ mj_W := mj_t3 (List.mem_of_getElem? (i := 202) rfl) rfl
theorem e_X0_hasAllOf : Cond.selects RX0 yX0_hasAllOf yX0_hasAllOf ∈ mj_W := mj_t3 (List.mem_of_getElem? (i := 203) rfl) rfl
theorem c_X0_addPond : Cond.code yX0_addPond cX0_addPond 5 none ∈ mj_W := mj_t3 (List.mem_of_getElem? (i := 236) rfl) rfl
theorem i_X0_addPond : Cond.instanceMethod yX0_addPond ∈ mj_W := mj_t3 (List.mem_of_getElem? (i := 234) rfl) rfl
theorem e_X0_addPond : Cond.selects RX0 yX0_addPond yX0_addPond ∈ mj_W := mj_t3 (List.mem_of_getElem? (i := 235) rfl) rfl
theorem c_X0_addPipe : Cond.code yX0_addPipe cX0_addPipe 4 none ∈ mj_W := mj_t4 (List.mem_of_getElem? (i := 24) rfl) rfl
theorem i_X0_addPipe : Cond.instanceMethod yX0_addPipe ∈ mj_W := mj_t4 (List.mem_of_getElem? (i := 22) rfl) rfl
theorem e_X0_addPipe : Cond.selects RX0 yX0_addPipe yX0_addPipe ∈ mj_W := mj_t4 (List.mem_of_getElem? (i := 23) rfl) rfl
theorem c_X0_addTurn : Cond.code yX0_addTurn cX0_addTurn 5 none ∈ mj_W := mj_t4 (List.mem_of_getElem? (i := 32) rfl) rfl
theorem i_X0_addTurn : Cond.instanceMethod yX0_addTurn ∈ mj_W := mj_t4 (List.mem_of_getElem? (i := 30) rfl) rfl
theorem e_X0_addTurn : Cond.selects RX0 yX0_addTurn yX0_addTurn ∈ mj_W := mj_t4 (List.mem_of_getElem? (i := 31) rfl) rfl
theorem c_X0_pondNamed : Cond.code yX0_pondNamed cX0_pondNamed 3 (some .int) ∈ mj_W := mj_t3 (List.mem_of_getElem? (i := 228) rfl) rfl
theorem i_X0_pondNamed : Cond.instanceMethod yX0_pondNamed ∈ mj_W := mj_t3 (List.mem_of_getElem? (i := 226) rfl) rfl
theorem e_X0_pondNamed : Cond.selects RX0 yX0_pondNamed yX0_pondNamed ∈ mj_W := mj_t3 (List.mem_of_getElem? (i := 227) rfl) rfl
theorem c_X0_hasPipe : Cond.code yX0_hasPipe cX0_hasPipe 4 (some .boolean) ∈ mj_W := mj_t4 (List.mem_of_getElem? (i := 20) rfl) rfl
theorem i_X0_hasPipe : Cond.instanceMethod yX0_hasPipe ∈ mj_W := mj_t4 (List.mem_of_getElem? (i := 18) rfl) rfl
theorem e_X0_hasPipe : Cond.selects RX0 yX0_hasPipe yX0_hasPipe ∈ mj_W := mj_t4 (List.mem_of_getElem? (i := 19) rfl) rfl
theorem c_X0_turnedIn : Cond.code yX0_turnedIn cX0_turnedIn 2 (some .int) ∈ mj_W := mj_t4 (List.mem_of_getElem? (i := 157) rfl) rfl
theorem i_X0_turnedIn : Cond.instanceMethod yX0_turnedIn ∈ mj_W := mj_t4 (List.mem_of_getElem? (i := 155) rfl) rfl
theorem e_X0_turnedIn : Cond.selects RX0 yX0_turnedIn yX0_turnedIn ∈ mj_W := mj_t4 (List.mem_of_getElem? (i := 156) rfl) rfl
theorem c_X0_allPonds : Cond.code yX0_allPonds cX0_allPonds 1 (some .int) ∈ mj_W := mj_t6 (List.mem_of_getElem? (i := 125) rfl) rfl
theorem i_X0_allPonds : Cond.instanceMethod yX0_allPonds ∈ mj_W := mj_t6 (List.mem_of_getElem? (i := 123) rfl) rfl
theorem e_X0_allPonds : Cond.selects RX0 yX0_allPonds yX0_allPonds ∈ mj_W := mj_t6 (List.mem_of_getElem? (i := 124) rfl) rfl
theorem c_X0_allPipes : Cond.code yX0_allPipes cX0_allPipes 1 (some .int) ∈ mj_W := mj_t4 (List.mem_of_getElem? (i := 153) rfl) rfl
theorem i_X0_allPipes : Cond.instanceMethod yX0_allPipes ∈ mj_W := mj_t4 (List.mem_of_getElem? (i := 151) rfl) rfl
theorem e_X0_allPipes : Cond.selects RX0 yX0_allPipes yX0_allPipes ∈ mj_W := mj_t4 (List.mem_of_getElem? (i := 152) rfl) rfl
theorem c_X0_waterFor : Cond.code yX0_waterFor cX0_waterFor 3 (some .int) ∈ mj_W := mj_t5 (List.mem_of_getElem? (i := 166) rfl) rfl
theorem i_X0_waterFor : Cond.instanceMethod yX0_waterFor ∈ mj_W := mj_t5 (List.mem_of_getElem? (i := 164) rfl) rfl
theorem e_X0_waterFor : Cond.selects RX0 yX0_waterFor yX0_waterFor ∈ mj_W := mj_t5 (List.mem_of_getElem? (i := 165) rfl) rfl
theorem c_Mmax : Cond.code Lib.Math.max.name Lib.Math.max.code 2 (some .int) ∈ mj_W := mj_t3 (List.mem_of_getElem? (i := 142) rfl) rfl
theorem s_Mmax : Cond.static Lib.Math.max.name ∈ mj_W := mj_t3 (List.mem_of_getElem? (i := 141) rfl) rfl
theorem c_X0_liftOf : Cond.code yX0_liftOf cX0_liftOf 2 (some .int) ∈ mj_W := mj_t5 (List.mem_of_getElem? (i := 180) rfl) rfl
theorem i_X0_liftOf : Cond.instanceMethod yX0_liftOf ∈ mj_W := mj_t5 (List.mem_of_getElem? (i := 178) rfl) rfl
theorem e_X0_liftOf : Cond.selects RX0 yX0_liftOf yX0_liftOf ∈ mj_W := mj_t5 (List.mem_of_getElem? (i := 179) rfl) rfl
theorem c_X0_areaUpTo : Cond.code yX0_areaUpTo cX0_areaUpTo 6 (some .long) ∈ mj_W := mj_t5 (List.mem_of_getElem? (i := 155) rfl) rfl
theorem i_X0_areaUpTo : Cond.instanceMethod yX0_areaUpTo ∈ mj_W := mj_t5 (List.mem_of_getElem? (i := 153) rfl) rfl
theorem e_X0_areaUpTo : Cond.selects RX0 yX0_areaUpTo yX0_areaUpTo ∈ mj_W := mj_t5 (List.mem_of_getElem? (i := 154) rfl) rfl
theorem c_X0_bedUpTo : Cond.code yX0_bedUpTo cX0_bedUpTo 6 (some .long) ∈ mj_W := mj_t5 (List.mem_of_getElem? (i := 151) rfl) rfl
theorem i_X0_bedUpTo : Cond.instanceMethod yX0_bedUpTo ∈ mj_W := mj_t5 (List.mem_of_getElem? (i := 149) rfl) rfl
theorem e_X0_bedUpTo : Cond.selects RX0 yX0_bedUpTo yX0_bedUpTo ∈ mj_W := mj_t5 (List.mem_of_getElem? (i := 150) rfl) rfl
theorem c_X0_nextTo : Cond.code yX0_nextTo cX0_nextTo 6 (some .int) ∈ mj_W := mj_t5 (List.mem_of_getElem? (i := 237) rfl) rfl
theorem i_X0_nextTo : Cond.instanceMethod yX0_nextTo ∈ mj_W := mj_t5 (List.mem_of_getElem? (i := 235) rfl) rfl
theorem e_X0_nextTo : Cond.selects RX0 yX0_nextTo yX0_nextTo ∈ mj_W := mj_t5 (List.mem_of_getElem? (i := 236) rfl) rfl
theorem c_X0_wideAcross : Cond.code yX0_wideAcross cX0_wideAcross 5 (some .int) ∈ mj_W := mj_t6 (List.mem_of_getElem? (i := 6) rfl) rfl
theorem i_X0_wideAcross : Cond.instanceMethod yX0_wideAcross ∈ mj_W := mj_t6 (List.mem_of_getElem? (i := 4) rfl) rfl
theorem e_X0_wideAcross : Cond.selects RX0 yX0_wideAcross yX0_wideAcross ∈ mj_W := mj_t6 (List.mem_of_getElem? (i := 5) rfl) rfl
theorem c_X1_init : Cond.code yX1_init cX1_init 1 none ∈ mj_W := mj_t2 (List.mem_of_getElem? (i := 163) rfl) rfl
theorem i_X1_init : Cond.instanceMethod yX1_init ∈ mj_W := mj_t2 (List.mem_of_getElem? (i := 162) rfl) rfl
theorem c_X1_clear : Cond.code yX1_clear cX1_clear 1 none ∈ mj_W := mj_t4 (List.mem_of_getElem? (i := 100) rfl) rfl
theorem i_X1_clear : Cond.instanceMethod yX1_clear ∈ mj_W := mj_t4 (List.mem_of_getElem? (i := 98) rfl) rfl
theorem e_X1_clear : Cond.selects RX1 yX1_clear yX1_clear ∈ mj_W := mj_t4 (List.mem_of_getElem? (i := 99) rfl) rfl
theorem c_X1_isFull : Cond.code yX1_isFull cX1_isFull 1 (some .boolean) ∈ mj_W := mj_t6 (List.mem_of_getElem? (i := 43) rfl) rfl
theorem i_X1_isFull : Cond.instanceMethod yX1_isFull ∈ mj_W := mj_t6 (List.mem_of_getElem? (i := 41) rfl) rfl
theorem e_X1_isFull : Cond.selects RX1 yX1_isFull yX1_isFull ∈ mj_W := mj_t6 (List.mem_of_getElem? (i := 42) rfl) rfl
theorem c_X1_add : Cond.code yX1_add cX1_add 5 (some .int) ∈ mj_W := mj_t6 (List.mem_of_getElem? (i := 47) rfl) rfl
theorem i_X1_add : Cond.instanceMethod yX1_add ∈ mj_W := mj_t6 (List.mem_of_getElem? (i := 45) rfl) rfl
theorem e_X1_add : Cond.selects RX1 yX1_add yX1_add ∈ mj_W := mj_t6 (List.mem_of_getElem? (i := 46) rfl) rfl
theorem c_X1_knownCount : Cond.code yX1_knownCount cX1_knownCount 1 (some .int) ∈ mj_W := mj_t6 (List.mem_of_getElem? (i := 68) rfl) rfl
theorem i_X1_knownCount : Cond.instanceMethod yX1_knownCount ∈ mj_W := mj_t6 (List.mem_of_getElem? (i := 66) rfl) rfl
theorem e_X1_knownCount : Cond.selects RX1 yX1_knownCount yX1_knownCount ∈ mj_W := mj_t6 (List.mem_of_getElem? (i := 67) rfl) rfl
theorem c_X1_settle : Cond.code yX1_settle cX1_settle 2 none ∈ mj_W := mj_t6 (List.mem_of_getElem? (i := 64) rfl) rfl
theorem i_X1_settle : Cond.instanceMethod yX1_settle ∈ mj_W := mj_t6 (List.mem_of_getElem? (i := 62) rfl) rfl
theorem e_X1_settle : Cond.selects RX1 yX1_settle yX1_settle ∈ mj_W := mj_t6 (List.mem_of_getElem? (i := 63) rfl) rfl
theorem c_X1_counts : Cond.code yX1_counts cX1_counts 2 (some .boolean) ∈ mj_W := mj_t6 (List.mem_of_getElem? (i := 76) rfl) rfl
theorem i_X1_counts : Cond.instanceMethod yX1_counts ∈ mj_W := mj_t6 (List.mem_of_getElem? (i := 75) rfl) rfl
theorem e_X1_counts : Cond.selects RX1 yX1_counts yX1_counts ∈ mj_W := mj_p3 (List.mem_of_getElem? (i := 3) rfl)
theorem c_X1_lastKnownMinute : Cond.code yX1_lastKnownMinute cX1_lastKnownMinute 3 (some .int) ∈ mj_W := mj_t6 (List.mem_of_getElem? (i := 72) rfl) rfl
theorem i_X1_lastKnownMinute : Cond.instanceMethod yX1_lastKnownMinute ∈ mj_W := mj_t6 (List.mem_of_getElem? (i := 70) rfl) rfl
theorem e_X1_lastKnownMinute : Cond.selects RX1 yX1_lastKnownMinute yX1_lastKnownMinute ∈ mj_W := mj_t6 (List.mem_of_getElem? (i := 71) rfl) rfl
theorem c_X1_hold : Cond.code yX1_hold cX1_hold 4 (some .boolean) ∈ mj_W := mj_t6 (List.mem_of_getElem? (i := 85) rfl) rfl
theorem i_X1_hold : Cond.instanceMethod yX1_hold ∈ mj_W := mj_t6 (List.mem_of_getElem? (i := 83) rfl) rfl
theorem e_X1_hold : Cond.selects RX1 yX1_hold yX1_hold ∈ mj_W := mj_t6 (List.mem_of_getElem? (i := 84) rfl) rfl
theorem c_X2_init : Cond.code yX2_init cX2_init 1 none ∈ mj_W := mj_t2 (List.mem_of_getElem? (i := 194) rfl) rfl
theorem i_X2_init : Cond.instanceMethod yX2_init ∈ mj_W := mj_t2 (List.mem_of_getElem? (i := 193) rfl) rfl
theorem c_X2_clear : Cond.code yX2_clear cX2_clear 1 none ∈ mj_W := mj_t4 (List.mem_of_getElem? (i := 104) rfl) rfl
theorem i_X2_clear : Cond.instanceMethod yX2_clear ∈ mj_W := mj_t4 (List.mem_of_getElem? (i := 102) rfl) rfl
theorem e_X2_clear : Cond.selects RX2 yX2_clear yX2_clear ∈ mj_W := mj_t4 (List.mem_of_getElem? (i := 103) rfl) rfl
theorem c_X2_note : Cond.code yX2_note cX2_note 3 none ∈ mj_W := mj_t5 (List.mem_of_getElem? (i := 15) rfl) rfl
theorem i_X2_note : Cond.instanceMethod yX2_note ∈ mj_W := mj_t5 (List.mem_of_getElem? (i := 13) rfl) rfl
theorem e_X2_note : Cond.selects RX2 yX2_note yX2_note ∈ mj_W := mj_t5 (List.mem_of_getElem? (i := 14) rfl) rfl
theorem c_Mmin : Cond.code Lib.Math.min.name Lib.Math.min.code 2 (some .int) ∈ mj_W := mj_t3 (List.mem_of_getElem? (i := 45) rfl) rfl
theorem s_Mmin : Cond.static Lib.Math.min.name ∈ mj_W := mj_t3 (List.mem_of_getElem? (i := 44) rfl) rfl
theorem c_X2_takeBack : Cond.code yX2_takeBack cX2_takeBack 3 (some .boolean) ∈ mj_W := mj_t6 (List.mem_of_getElem? (i := 109) rfl) rfl
theorem i_X2_takeBack : Cond.instanceMethod yX2_takeBack ∈ mj_W := mj_t6 (List.mem_of_getElem? (i := 107) rfl) rfl
theorem e_X2_takeBack : Cond.selects RX2 yX2_takeBack yX2_takeBack ∈ mj_W := mj_t6 (List.mem_of_getElem? (i := 108) rfl) rfl
theorem c_X3_begin : Cond.code yX3_begin cX3_begin 2 none ∈ mj_W := mj_t4 (List.mem_of_getElem? (i := 65) rfl) rfl
theorem i_X3_begin : Cond.instanceMethod yX3_begin ∈ mj_W := mj_t4 (List.mem_of_getElem? (i := 63) rfl) rfl
theorem e_X3_begin : Cond.selects RX3 yX3_begin yX3_begin ∈ mj_W := mj_t4 (List.mem_of_getElem? (i := 64) rfl) rfl
theorem c_X3_end : Cond.code yX3_end cX3_end 2 none ∈ mj_W := mj_t4 (List.mem_of_getElem? (i := 92) rfl) rfl
theorem i_X3_end : Cond.instanceMethod yX3_end ∈ mj_W := mj_t4 (List.mem_of_getElem? (i := 90) rfl) rfl
theorem e_X3_end : Cond.selects RX3 yX3_end yX3_end ∈ mj_W := mj_t4 (List.mem_of_getElem? (i := 91) rfl) rfl
theorem c_X3_add : Cond.code yX3_add cX3_add 3 none ∈ mj_W := mj_t4 (List.mem_of_getElem? (i := 81) rfl) rfl
theorem i_X3_add : Cond.instanceMethod yX3_add ∈ mj_W := mj_t4 (List.mem_of_getElem? (i := 79) rfl) rfl
theorem e_X3_add : Cond.selects RX3 yX3_add yX3_add ∈ mj_W := mj_t4 (List.mem_of_getElem? (i := 80) rfl) rfl
theorem c_X3_isTold : Cond.code yX3_isTold cX3_isTold 2 (some .boolean) ∈ mj_W := mj_t4 (List.mem_of_getElem? (i := 61) rfl) rfl
theorem i_X3_isTold : Cond.instanceMethod yX3_isTold ∈ mj_W := mj_t4 (List.mem_of_getElem? (i := 59) rfl) rfl
theorem e_X3_isTold : Cond.selects RX3 yX3_isTold yX3_isTold ∈ mj_W := mj_t4 (List.mem_of_getElem? (i := 60) rfl) rfl
theorem c_X3_truth : Cond.code yX3_truth cX3_truth 1 (some .long) ∈ mj_W := mj_t4 (List.mem_of_getElem? (i := 216) rfl) rfl
theorem s_X3_truth : Cond.static yX3_truth ∈ mj_W := mj_t4 (List.mem_of_getElem? (i := 215) rfl) rfl
theorem c_X3_inBounds : Cond.code yX3_inBounds cX3_inBounds 2 (some .long) ∈ mj_W := mj_t4 (List.mem_of_getElem? (i := 222) rfl) rfl
theorem s_X3_inBounds : Cond.static yX3_inBounds ∈ mj_W := mj_t4 (List.mem_of_getElem? (i := 221) rfl) rfl
theorem c_X3_product : Cond.code yX3_product cX3_product 6 (some .long) ∈ mj_W := mj_t4 (List.mem_of_getElem? (i := 228) rfl) rfl
theorem s_X3_product : Cond.static yX3_product ∈ mj_W := mj_t4 (List.mem_of_getElem? (i := 227) rfl) rfl
theorem c_X3_valueOf : Cond.code yX3_valueOf cX3_valueOf 5 (some .long) ∈ mj_W := mj_t4 (List.mem_of_getElem? (i := 219) rfl) rfl
theorem s_X3_valueOf : Cond.static yX3_valueOf ∈ mj_W := mj_t4 (List.mem_of_getElem? (i := 218) rfl) rfl
theorem c_X3_worth : Cond.code yX3_worth cX3_worth 6 (some .long) ∈ mj_W := mj_t4 (List.mem_of_getElem? (i := 213) rfl) rfl
theorem i_X3_worth : Cond.instanceMethod yX3_worth ∈ mj_W := mj_t4 (List.mem_of_getElem? (i := 211) rfl) rfl
theorem e_X3_worth : Cond.selects RX3 yX3_worth yX3_worth ∈ mj_W := mj_t4 (List.mem_of_getElem? (i := 212) rfl) rfl
theorem c_X4_add : Cond.code yX4_add cX4_add 4 none ∈ mj_W := mj_t4 (List.mem_of_getElem? (i := 12) rfl) rfl
theorem i_X4_add : Cond.instanceMethod yX4_add ∈ mj_W := mj_t4 (List.mem_of_getElem? (i := 10) rfl) rfl
theorem e_X4_add : Cond.selects RX4 yX4_add yX4_add ∈ mj_W := mj_t4 (List.mem_of_getElem? (i := 11) rfl) rfl
theorem c_X4_addBoat : Cond.code yX4_addBoat cX4_addBoat 3 none ∈ mj_W := mj_t4 (List.mem_of_getElem? (i := 40) rfl) rfl
theorem i_X4_addBoat : Cond.instanceMethod yX4_addBoat ∈ mj_W := mj_t4 (List.mem_of_getElem? (i := 38) rfl) rfl
theorem e_X4_addBoat : Cond.selects RX4 yX4_addBoat yX4_addBoat ∈ mj_W := mj_t4 (List.mem_of_getElem? (i := 39) rfl) rfl
theorem c_X4_ofPond : Cond.code yX4_ofPond cX4_ofPond 3 (some .int) ∈ mj_W := mj_t4 (List.mem_of_getElem? (i := 8) rfl) rfl
theorem i_X4_ofPond : Cond.instanceMethod yX4_ofPond ∈ mj_W := mj_t4 (List.mem_of_getElem? (i := 6) rfl) rfl
theorem e_X4_ofPond : Cond.selects RX4 yX4_ofPond yX4_ofPond ∈ mj_W := mj_t4 (List.mem_of_getElem? (i := 7) rfl) rfl
theorem c_X4_pondOfBoat : Cond.code yX4_pondOfBoat cX4_pondOfBoat 2 (some .int) ∈ mj_W := mj_t4 (List.mem_of_getElem? (i := 232) rfl) rfl
theorem i_X4_pondOfBoat : Cond.instanceMethod yX4_pondOfBoat ∈ mj_W := mj_t4 (List.mem_of_getElem? (i := 230) rfl) rfl
theorem e_X4_pondOfBoat : Cond.selects RX4 yX4_pondOfBoat yX4_pondOfBoat ∈ mj_W := mj_t4 (List.mem_of_getElem? (i := 231) rfl) rfl
theorem c_X5_init : Cond.code yX5_init cX5_init 1 none ∈ mj_W := mj_t2 (List.mem_of_getElem? (i := 90) rfl) rfl
theorem i_X5_init : Cond.instanceMethod yX5_init ∈ mj_W := mj_t2 (List.mem_of_getElem? (i := 89) rfl) rfl
theorem c_X5_asItGoes : Cond.code yX5_asItGoes cX5_asItGoes 1 none ∈ mj_W := mj_t4 (List.mem_of_getElem? (i := 145) rfl) rfl
theorem i_X5_asItGoes : Cond.instanceMethod yX5_asItGoes ∈ mj_W := mj_t4 (List.mem_of_getElem? (i := 143) rfl) rfl
theorem e_X5_asItGoes : Cond.selects RX5 yX5_asItGoes yX5_asItGoes ∈ mj_W := mj_t4 (List.mem_of_getElem? (i := 144) rfl) rfl
theorem c_X8_pour : Cond.code yX8_pour cX8_pour 3 none ∈ mj_W := mj_t5 (List.mem_of_getElem? (i := 36) rfl) rfl
theorem i_X8_pour : Cond.instanceMethod yX8_pour ∈ mj_W := mj_t5 (List.mem_of_getElem? (i := 34) rfl) rfl
theorem e_X8_pour : Cond.selects RX8 yX8_pour yX8_pour ∈ mj_W := mj_t5 (List.mem_of_getElem? (i := 35) rfl) rfl
theorem c_X5_letSprings : Cond.code yX5_letSprings cX5_letSprings 3 none ∈ mj_W := mj_t5 (List.mem_of_getElem? (i := 65) rfl) rfl
theorem i_X5_letSprings : Cond.instanceMethod yX5_letSprings ∈ mj_W := mj_t5 (List.mem_of_getElem? (i := 64) rfl) rfl
theorem e_X5_letSprings : Cond.selects RX5 yX5_letSprings yX5_letSprings ∈ mj_W := mj_p2 (List.mem_of_getElem? (i := 11) rfl)
theorem c_X5_openNow : Cond.code yX5_openNow cX5_openNow 3 (some .int) ∈ mj_W := mj_t4 (List.mem_of_getElem? (i := 149) rfl) rfl
theorem i_X5_openNow : Cond.instanceMethod yX5_openNow ∈ mj_W := mj_t4 (List.mem_of_getElem? (i := 147) rfl) rfl
theorem e_X5_openNow : Cond.selects RX5 yX5_openNow yX5_openNow ∈ mj_W := mj_t4 (List.mem_of_getElem? (i := 148) rfl) rfl
theorem c_X8_higherBy : Cond.code yX8_higherBy cX8_higherBy 5 (some .int) ∈ mj_W := mj_t4 (List.mem_of_getElem? (i := 192) rfl) rfl
theorem i_X8_higherBy : Cond.instanceMethod yX8_higherBy ∈ mj_W := mj_t4 (List.mem_of_getElem? (i := 190) rfl) rfl
theorem e_X8_higherBy : Cond.selects RX8 yX8_higherBy yX8_higherBy ∈ mj_W := mj_t4 (List.mem_of_getElem? (i := 191) rfl) rfl
theorem c_X8_giver : Cond.code yX8_giver cX8_giver 4 (some .int) ∈ mj_W := mj_t4 (List.mem_of_getElem? (i := 188) rfl) rfl
theorem i_X8_giver : Cond.instanceMethod yX8_giver ∈ mj_W := mj_t4 (List.mem_of_getElem? (i := 186) rfl) rfl
theorem e_X8_giver : Cond.selects RX8 yX8_giver yX8_giver ∈ mj_W := mj_t4 (List.mem_of_getElem? (i := 187) rfl) rfl
theorem c_J6_bitCount_0f7a4 : Cond.code yJ6_bitCount_0f7a4 cJ6_bitCount_0f7a4 1 (some .int) ∈ mj_W := mj_t4 (List.mem_of_getElem? (i := 202) rfl) rfl
theorem s_J6_bitCount_0f7a4 : Cond.static yJ6_bitCount_0f7a4 ∈ mj_W := mj_t4 (List.mem_of_getElem? (i := 201) rfl) rfl
theorem c_X8_boatsThatAre : Cond.code yX8_boatsThatAre cX8_boatsThatAre 4 (some .int) ∈ mj_W := mj_t4 (List.mem_of_getElem? (i := 209) rfl) rfl
theorem i_X8_boatsThatAre : Cond.instanceMethod yX8_boatsThatAre ∈ mj_W := mj_t4 (List.mem_of_getElem? (i := 207) rfl) rfl
theorem e_X8_boatsThatAre : Cond.selects RX8 yX8_boatsThatAre yX8_boatsThatAre ∈ mj_W := mj_t4 (List.mem_of_getElem? (i := 208) rfl) rfl
theorem c_X5_worth : Cond.code yX5_worth cX5_worth 5 (some .long) ∈ mj_W := mj_t4 (List.mem_of_getElem? (i := 196) rfl) rfl
theorem i_X5_worth : Cond.instanceMethod yX5_worth ∈ mj_W := mj_t4 (List.mem_of_getElem? (i := 194) rfl) rfl
theorem e_X5_worth : Cond.selects RX5 yX5_worth yX5_worth ∈ mj_W := mj_t4 (List.mem_of_getElem? (i := 195) rfl) rfl
theorem c_X5_put : Cond.code yX5_put cX5_put 4 (some .int) ∈ mj_W := mj_t5 (List.mem_of_getElem? (i := 75) rfl) rfl
theorem s_X5_put : Cond.static yX5_put ∈ mj_W := mj_t5 (List.mem_of_getElem? (i := 74) rfl) rfl
theorem c_Mminl : Cond.code Lib.MathLoose.min_long.x Lib.MathLoose.min_long.code 4 (some .long) ∈ mj_W := mj_t5 (List.mem_of_getElem? (i := 78) rfl) rfl
theorem s_Mminl : Cond.static Lib.MathLoose.min_long.x ∈ mj_W := mj_t5 (List.mem_of_getElem? (i := 77) rfl) rfl
theorem c_Mmaxl : Cond.code Lib.MathLoose.max_long.x Lib.MathLoose.max_long.code 4 (some .long) ∈ mj_W := mj_t5 (List.mem_of_getElem? (i := 81) rfl) rfl
theorem s_Mmaxl : Cond.static Lib.MathLoose.max_long.x ∈ mj_W := mj_t5 (List.mem_of_getElem? (i := 80) rfl) rfl
theorem c_X8_movable : Cond.code yX8_movable cX8_movable 5 (some .int) ∈ mj_W := mj_t5 (List.mem_of_getElem? (i := 1) rfl) rfl
theorem i_X8_movable : Cond.instanceMethod yX8_movable ∈ mj_W := mj_t4 (List.mem_of_getElem? (i := 239) rfl) rfl
theorem e_X8_movable : Cond.selects RX8 yX8_movable yX8_movable ∈ mj_W := mj_t5 (List.mem_of_getElem? (i := 0) rfl) rfl
theorem c_X8_move : Cond.code yX8_move cX8_move 4 none ∈ mj_W := mj_t5 (List.mem_of_getElem? (i := 25) rfl) rfl
theorem i_X8_move : Cond.instanceMethod yX8_move ∈ mj_W := mj_t5 (List.mem_of_getElem? (i := 23) rfl) rfl
theorem e_X8_move : Cond.selects RX8 yX8_move yX8_move ∈ mj_W := mj_t5 (List.mem_of_getElem? (i := 24) rfl) rfl
theorem c_X8_run : Cond.code yX8_run cX8_run 5 (some .int) ∈ mj_W := mj_t5 (List.mem_of_getElem? (i := 20) rfl) rfl
theorem i_X8_run : Cond.instanceMethod yX8_run ∈ mj_W := mj_t5 (List.mem_of_getElem? (i := 18) rfl) rfl
theorem e_X8_run : Cond.selects RX8 yX8_run yX8_run ∈ mj_W := mj_t5 (List.mem_of_getElem? (i := 19) rfl) rfl
theorem c_X8_nextNumber : Cond.code yX8_nextNumber cX8_nextNumber 1 (some .int) ∈ mj_W := mj_t5 (List.mem_of_getElem? (i := 90) rfl) rfl
theorem i_X8_nextNumber : Cond.instanceMethod yX8_nextNumber ∈ mj_W := mj_t5 (List.mem_of_getElem? (i := 88) rfl) rfl
theorem e_X8_nextNumber : Cond.selects RX8 yX8_nextNumber yX8_nextNumber ∈ mj_W := mj_t5 (List.mem_of_getElem? (i := 89) rfl) rfl
theorem c_X5_jamsNow : Cond.code yX5_jamsNow cX5_jamsNow 3 (some .boolean) ∈ mj_W := mj_t5 (List.mem_of_getElem? (i := 86) rfl) rfl
theorem i_X5_jamsNow : Cond.instanceMethod yX5_jamsNow ∈ mj_W := mj_t5 (List.mem_of_getElem? (i := 85) rfl) rfl
theorem e_X5_jamsNow : Cond.selects RX5 yX5_jamsNow yX5_jamsNow ∈ mj_W := mj_p2 (List.mem_of_getElem? (i := 13) rfl)
theorem c_X5_letPipes : Cond.code yX5_letPipes cX5_letPipes 4 none ∈ mj_W := mj_t5 (List.mem_of_getElem? (i := 70) rfl) rfl
theorem i_X5_letPipes : Cond.instanceMethod yX5_letPipes ∈ mj_W := mj_t5 (List.mem_of_getElem? (i := 69) rfl) rfl
theorem e_X5_letPipes : Cond.selects RX5 yX5_letPipes yX5_letPipes ∈ mj_W := mj_p2 (List.mem_of_getElem? (i := 12) rfl)
theorem c_X8_lose : Cond.code yX8_lose cX8_lose 3 none ∈ mj_W := mj_t5 (List.mem_of_getElem? (i := 44) rfl) rfl
theorem i_X8_lose : Cond.instanceMethod yX8_lose ∈ mj_W := mj_t5 (List.mem_of_getElem? (i := 42) rfl) rfl
theorem e_X8_lose : Cond.selects RX8 yX8_lose yX8_lose ∈ mj_W := mj_t5 (List.mem_of_getElem? (i := 43) rfl) rfl
theorem c_X5_letLeaks : Cond.code yX5_letLeaks cX5_letLeaks 4 none ∈ mj_W := mj_t5 (List.mem_of_getElem? (i := 97) rfl) rfl
theorem i_X5_letLeaks : Cond.instanceMethod yX5_letLeaks ∈ mj_W := mj_t5 (List.mem_of_getElem? (i := 96) rfl) rfl
theorem e_X5_letLeaks : Cond.selects RX5 yX5_letLeaks yX5_letLeaks ∈ mj_W := mj_p2 (List.mem_of_getElem? (i := 14) rfl)
theorem c_X8_boatIn : Cond.code yX8_boatIn cX8_boatIn 3 (some .int) ∈ mj_W := mj_t4 (List.mem_of_getElem? (i := 169) rfl) rfl
theorem i_X8_boatIn : Cond.instanceMethod yX8_boatIn ∈ mj_W := mj_t4 (List.mem_of_getElem? (i := 167) rfl) rfl
theorem e_X8_boatIn : Cond.selects RX8 yX8_boatIn yX8_boatIn ∈ mj_W := mj_t4 (List.mem_of_getElem? (i := 168) rfl) rfl
theorem c_X8_raised : Cond.code yX8_raised cX8_raised 2 (some .int) ∈ mj_W := mj_t4 (List.mem_of_getElem? (i := 129) rfl) rfl
theorem i_X8_raised : Cond.instanceMethod yX8_raised ∈ mj_W := mj_t4 (List.mem_of_getElem? (i := 127) rfl) rfl
theorem e_X8_raised : Cond.selects RX8 yX8_raised yX8_raised ∈ mj_W := mj_t4 (List.mem_of_getElem? (i := 128) rfl) rfl
theorem c_X8_isAtMost : Cond.code yX8_isAtMost cX8_isAtMost 3 (some .boolean) ∈ mj_W := mj_t5 (List.mem_of_getElem? (i := 111) rfl) rfl
theorem i_X8_isAtMost : Cond.instanceMethod yX8_isAtMost ∈ mj_W := mj_t5 (List.mem_of_getElem? (i := 109) rfl) rfl
theorem e_X8_isAtMost : Cond.selects RX8 yX8_isAtMost yX8_isAtMost ∈ mj_W := mj_t5 (List.mem_of_getElem? (i := 110) rfl) rfl
theorem c_X8_letIn : Cond.code yX8_letIn cX8_letIn 3 none ∈ mj_W := mj_t5 (List.mem_of_getElem? (i := 106) rfl) rfl
theorem i_X8_letIn : Cond.instanceMethod yX8_letIn ∈ mj_W := mj_t5 (List.mem_of_getElem? (i := 104) rfl) rfl
theorem e_X8_letIn : Cond.selects RX8 yX8_letIn yX8_letIn ∈ mj_W := mj_t5 (List.mem_of_getElem? (i := 105) rfl) rfl
theorem c_X8_isAtLeast : Cond.code yX8_isAtLeast cX8_isAtLeast 3 (some .boolean) ∈ mj_W := mj_t5 (List.mem_of_getElem? (i := 120) rfl) rfl
theorem i_X8_isAtLeast : Cond.instanceMethod yX8_isAtLeast ∈ mj_W := mj_t5 (List.mem_of_getElem? (i := 118) rfl) rfl
theorem e_X8_isAtLeast : Cond.selects RX8 yX8_isAtLeast yX8_isAtLeast ∈ mj_W := mj_t5 (List.mem_of_getElem? (i := 119) rfl) rfl
theorem c_X8_canGoUp : Cond.code yX8_canGoUp cX8_canGoUp 3 (some .boolean) ∈ mj_W := mj_t5 (List.mem_of_getElem? (i := 116) rfl) rfl
theorem i_X8_canGoUp : Cond.instanceMethod yX8_canGoUp ∈ mj_W := mj_t5 (List.mem_of_getElem? (i := 114) rfl) rfl
theorem e_X8_canGoUp : Cond.selects RX8 yX8_canGoUp yX8_canGoUp ∈ mj_W := mj_t5 (List.mem_of_getElem? (i := 115) rfl) rfl
theorem c_X5_letBoats : Cond.code yX5_letBoats cX5_letBoats 5 none ∈ mj_W := mj_t5 (List.mem_of_getElem? (i := 102) rfl) rfl
theorem i_X5_letBoats : Cond.instanceMethod yX5_letBoats ∈ mj_W := mj_t5 (List.mem_of_getElem? (i := 101) rfl) rfl
theorem e_X5_letBoats : Cond.selects RX5 yX5_letBoats yX5_letBoats ∈ mj_W := mj_p2 (List.mem_of_getElem? (i := 15) rfl)
theorem c_X5_oneMinute : Cond.code yX5_oneMinute cX5_oneMinute 2 none ∈ mj_W := mj_t5 (List.mem_of_getElem? (i := 61) rfl) rfl
theorem i_X5_oneMinute : Cond.instanceMethod yX5_oneMinute ∈ mj_W := mj_t5 (List.mem_of_getElem? (i := 59) rfl) rfl
theorem e_X5_oneMinute : Cond.selects RX5 yX5_oneMinute yX5_oneMinute ∈ mj_W := mj_t5 (List.mem_of_getElem? (i := 60) rfl) rfl
theorem c_X5_advance : Cond.code yX5_advance cX5_advance 4 none ∈ mj_W := mj_t5 (List.mem_of_getElem? (i := 57) rfl) rfl
theorem i_X5_advance : Cond.instanceMethod yX5_advance ∈ mj_W := mj_t5 (List.mem_of_getElem? (i := 55) rfl) rfl
theorem e_X5_advance : Cond.selects RX5 yX5_advance yX5_advance ∈ mj_W := mj_t5 (List.mem_of_getElem? (i := 56) rfl) rfl
theorem c_X6_init : Cond.code yX6_init cX6_init 1 none ∈ mj_W := mj_t2 (List.mem_of_getElem? (i := 132) rfl) rfl
theorem i_X6_init : Cond.instanceMethod yX6_init ∈ mj_W := mj_t2 (List.mem_of_getElem? (i := 131) rfl) rfl
theorem c_X6_note : Cond.code yX6_note cX6_note 5 none ∈ mj_W := mj_t5 (List.mem_of_getElem? (i := 197) rfl) rfl
theorem i_X6_note : Cond.instanceMethod yX6_note ∈ mj_W := mj_t5 (List.mem_of_getElem? (i := 196) rfl) rfl
theorem e_X6_note : Cond.selects RX6 yX6_note yX6_note ∈ mj_W := mj_p3 (List.mem_of_getElem? (i := 1) rfl)
theorem c_X8_isJammed : Cond.code yX8_isJammed cX8_isJammed 2 (some .boolean) ∈ mj_W := mj_t5 (List.mem_of_getElem? (i := 11) rfl) rfl
theorem i_X8_isJammed : Cond.instanceMethod yX8_isJammed ∈ mj_W := mj_t5 (List.mem_of_getElem? (i := 9) rfl) rfl
theorem e_X8_isJammed : Cond.selects RX8 yX8_isJammed yX8_isJammed ∈ mj_W := mj_t5 (List.mem_of_getElem? (i := 10) rfl) rfl
theorem c_X6_open : Cond.code yX6_open cX6_open 8 none ∈ mj_W := mj_t5 (List.mem_of_getElem? (i := 192) rfl) rfl
theorem i_X6_open : Cond.instanceMethod yX6_open ∈ mj_W := mj_t5 (List.mem_of_getElem? (i := 191) rfl) rfl
theorem e_X6_open : Cond.selects RX6 yX6_open yX6_open ∈ mj_W := mj_p3 (List.mem_of_getElem? (i := 0) rfl)
theorem c_X6_seek : Cond.code yX6_seek cX6_seek 5 none ∈ mj_W := mj_t5 (List.mem_of_getElem? (i := 188) rfl) rfl
theorem i_X6_seek : Cond.instanceMethod yX6_seek ∈ mj_W := mj_t5 (List.mem_of_getElem? (i := 186) rfl) rfl
theorem e_X6_seek : Cond.selects RX6 yX6_seek yX6_seek ∈ mj_W := mj_t5 (List.mem_of_getElem? (i := 187) rfl) rfl
theorem c_X9_init : Cond.code yX9_init cX9_init 1 none ∈ mj_W := mj_t1 (List.mem_of_getElem? (i := 43) rfl) rfl
theorem i_X9_init : Cond.instanceMethod yX9_init ∈ mj_W := mj_t1 (List.mem_of_getElem? (i := 42) rfl) rfl
theorem c_X7_init : Cond.code yX7_init cX7_init 1 none ∈ mj_W := mj_t1 (List.mem_of_getElem? (i := 37) rfl) rfl
theorem i_X7_init : Cond.instanceMethod yX7_init ∈ mj_W := mj_t1 (List.mem_of_getElem? (i := 36) rfl) rfl
theorem c_X9_isLetter : Cond.code yX9_isLetter cX9_isLetter 1 (some .boolean) ∈ mj_W := mj_t3 (List.mem_of_getElem? (i := 48) rfl) rfl
theorem s_X9_isLetter : Cond.static yX9_isLetter ∈ mj_W := mj_t3 (List.mem_of_getElem? (i := 47) rfl) rfl
theorem c_X9_packed : Cond.code yX9_packed cX9_packed 3 (some .int) ∈ mj_W := mj_t3 (List.mem_of_getElem? (i := 55) rfl) rfl
theorem s_X9_packed : Cond.static yX9_packed ∈ mj_W := mj_t3 (List.mem_of_getElem? (i := 54) rfl) rfl
theorem c_J0_coder_7d493 : Cond.code yJ0_coder_7d493 cJ0_coder_7d493 1 (some .byte) ∈ mj_W := mj_t3 (List.mem_of_getElem? (i := 67) rfl) rfl
theorem i_J0_coder_7d493 : Cond.instanceMethod yJ0_coder_7d493 ∈ mj_W := mj_t3 (List.mem_of_getElem? (i := 65) rfl) rfl
theorem e_J0_coder_7d493 : Cond.selects RJ0 yJ0_coder_7d493 yJ0_coder_7d493 ∈ mj_W := mj_t3 (List.mem_of_getElem? (i := 66) rfl) rfl
theorem c_J0_length_8abf5 : Cond.code yJ0_length_8abf5 cJ0_length_8abf5 1 (some .int) ∈ mj_W := mj_t3 (List.mem_of_getElem? (i := 63) rfl) rfl
theorem i_J0_length_8abf5 : Cond.instanceMethod yJ0_length_8abf5 ∈ mj_W := mj_t3 (List.mem_of_getElem? (i := 61) rfl) rfl
theorem e_J0_length_8abf5 : Cond.selects RJ0 yJ0_length_8abf5 yJ0_length_8abf5 ∈ mj_W := mj_t3 (List.mem_of_getElem? (i := 62) rfl) rfl
theorem c_J0_isLatin1_aae02 : Cond.code yJ0_isLatin1_aae02 cJ0_isLatin1_aae02 1 (some .boolean) ∈ mj_W := mj_t3 (List.mem_of_getElem? (i := 77) rfl) rfl
theorem i_J0_isLatin1_aae02 : Cond.instanceMethod yJ0_isLatin1_aae02 ∈ mj_W := mj_t3 (List.mem_of_getElem? (i := 75) rfl) rfl
theorem e_J0_isLatin1_aae02 : Cond.selects RJ0 yJ0_isLatin1_aae02 yJ0_isLatin1_aae02 ∈ mj_W := mj_t3 (List.mem_of_getElem? (i := 76) rfl) rfl
theorem c_J3_checkIndex_8e157 : Cond.code yJ3_checkIndex_8e157 cJ3_checkIndex_8e157 3 (some .int) ∈ mj_W := mj_t3 (List.mem_of_getElem? (i := 88) rfl) rfl
theorem s_J3_checkIndex_8e157 : Cond.static yJ3_checkIndex_8e157 ∈ mj_W := mj_t3 (List.mem_of_getElem? (i := 87) rfl) rfl
theorem c_J0_checkIndex_df160 : Cond.code yJ0_checkIndex_df160 cJ0_checkIndex_df160 2 none ∈ mj_W := mj_t3 (List.mem_of_getElem? (i := 83) rfl) rfl
theorem s_J0_checkIndex_df160 : Cond.static yJ0_checkIndex_df160 ∈ mj_W := mj_t3 (List.mem_of_getElem? (i := 82) rfl) rfl
theorem c_J1_charAt_3b067 : Cond.code yJ1_charAt_3b067 cJ1_charAt_3b067 2 (some .char) ∈ mj_W := mj_t3 (List.mem_of_getElem? (i := 80) rfl) rfl
theorem s_J1_charAt_3b067 : Cond.static yJ1_charAt_3b067 ∈ mj_W := mj_t3 (List.mem_of_getElem? (i := 79) rfl) rfl
theorem c_J2_length_9d52b : Cond.code yJ2_length_9d52b cJ2_length_9d52b 1 (some .int) ∈ mj_W := mj_t3 (List.mem_of_getElem? (i := 97) rfl) rfl
theorem s_J2_length_9d52b : Cond.static yJ2_length_9d52b ∈ mj_W := mj_t3 (List.mem_of_getElem? (i := 96) rfl) rfl
theorem c_J2_checkIndex_2214a : Cond.code yJ2_checkIndex_2214a cJ2_checkIndex_2214a 2 none ∈ mj_W := mj_t3 (List.mem_of_getElem? (i := 94) rfl) rfl
theorem s_J2_checkIndex_2214a : Cond.static yJ2_checkIndex_2214a ∈ mj_W := mj_t3 (List.mem_of_getElem? (i := 93) rfl) rfl
theorem c_J2_getChar_3b067 : Cond.code yJ2_getChar_3b067 cJ2_getChar_3b067 2 (some .char) ∈ mj_W := mj_t3 (List.mem_of_getElem? (i := 101) rfl) rfl
theorem s_J2_getChar_3b067 : Cond.static yJ2_getChar_3b067 ∈ mj_W := mj_t3 (List.mem_of_getElem? (i := 100) rfl) rfl
theorem c_J2_charAt_3b067 : Cond.code yJ2_charAt_3b067 cJ2_charAt_3b067 2 (some .char) ∈ mj_W := mj_t3 (List.mem_of_getElem? (i := 91) rfl) rfl
theorem s_J2_charAt_3b067 : Cond.static yJ2_charAt_3b067 ∈ mj_W := mj_t3 (List.mem_of_getElem? (i := 90) rfl) rfl
theorem c_J0_charAt_5068e : Cond.code yJ0_charAt_5068e cJ0_charAt_5068e 2 (some .char) ∈ mj_W := mj_t3 (List.mem_of_getElem? (i := 73) rfl) rfl
theorem i_J0_charAt_5068e : Cond.instanceMethod yJ0_charAt_5068e ∈ mj_W := mj_t3 (List.mem_of_getElem? (i := 71) rfl) rfl
theorem e_J0_charAt_5068e : Cond.selects RJ0 yJ0_charAt_5068e yJ0_charAt_5068e ∈ mj_W := mj_t3 (List.mem_of_getElem? (i := 72) rfl) rfl
theorem c_X9_kindOfWord : Cond.code yX9_kindOfWord cX9_kindOfWord 5 (some .int) ∈ mj_W := mj_t3 (List.mem_of_getElem? (i := 58) rfl) rfl
theorem s_X9_kindOfWord : Cond.static yX9_kindOfWord ∈ mj_W := mj_t3 (List.mem_of_getElem? (i := 57) rfl) rfl
theorem c_X9_add : Cond.code yX9_add cX9_add 4 none ∈ mj_W := mj_t3 (List.mem_of_getElem? (i := 111) rfl) rfl
theorem i_X9_add : Cond.instanceMethod yX9_add ∈ mj_W := mj_t3 (List.mem_of_getElem? (i := 110) rfl) rfl
theorem e_X9_add : Cond.selects RX9 yX9_add yX9_add ∈ mj_W := mj_p1 (List.mem_of_getElem? (i := 1) rfl)
theorem c_X9_addWord : Cond.code yX9_addWord cX9_addWord 5 (some .int) ∈ mj_W := mj_t3 (List.mem_of_getElem? (i := 52) rfl) rfl
theorem i_X9_addWord : Cond.instanceMethod yX9_addWord ∈ mj_W := mj_t3 (List.mem_of_getElem? (i := 51) rfl) rfl
theorem e_X9_addWord : Cond.selects RX9 yX9_addWord yX9_addWord ∈ mj_W := mj_p1 (List.mem_of_getElem? (i := 0) rfl)
theorem c_X9_isDigit : Cond.code yX9_isDigit cX9_isDigit 1 (some .boolean) ∈ mj_W := mj_t3 (List.mem_of_getElem? (i := 114) rfl) rfl
theorem s_X9_isDigit : Cond.static yX9_isDigit ∈ mj_W := mj_t3 (List.mem_of_getElem? (i := 113) rfl) rfl
theorem c_X9_addNumber : Cond.code yX9_addNumber cX9_addNumber 5 (some .int) ∈ mj_W := mj_t3 (List.mem_of_getElem? (i := 118) rfl) rfl
theorem i_X9_addNumber : Cond.instanceMethod yX9_addNumber ∈ mj_W := mj_t3 (List.mem_of_getElem? (i := 117) rfl) rfl
theorem e_X9_addNumber : Cond.selects RX9 yX9_addNumber yX9_addNumber ∈ mj_W := mj_p1 (List.mem_of_getElem? (i := 2) rfl)
theorem c_J1_canEncode_9a6ad : Cond.code yJ1_canEncode_9a6ad cJ1_canEncode_9a6ad 1 (some .boolean) ∈ mj_W := mj_t3 (List.mem_of_getElem? (i := 139) rfl) rfl
theorem s_J1_canEncode_9a6ad : Cond.static yJ1_canEncode_9a6ad ∈ mj_W := mj_t3 (List.mem_of_getElem? (i := 138) rfl) rfl
theorem c_J1_indexOfChar_4cfef : Cond.code yJ1_indexOfChar_4cfef cJ1_indexOfChar_4cfef 6 (some .int) ∈ mj_W := mj_t3 (List.mem_of_getElem? (i := 146) rfl) rfl
theorem s_J1_indexOfChar_4cfef : Cond.static yJ1_indexOfChar_4cfef ∈ mj_W := mj_t3 (List.mem_of_getElem? (i := 145) rfl) rfl
theorem c_J1_indexOf_4cfef : Cond.code yJ1_indexOf_4cfef cJ1_indexOf_4cfef 4 (some .int) ∈ mj_W := mj_t3 (List.mem_of_getElem? (i := 136) rfl) rfl
theorem s_J1_indexOf_4cfef : Cond.static yJ1_indexOf_4cfef ∈ mj_W := mj_t3 (List.mem_of_getElem? (i := 135) rfl) rfl
theorem c_J3_checkFromToIndex_8c36e : Cond.code yJ3_checkFromToIndex_8c36e cJ3_checkFromToIndex_8c36e 4 (some .int) ∈ mj_W := mj_t3 (List.mem_of_getElem? (i := 164) rfl) rfl
theorem s_J3_checkFromToIndex_8c36e : Cond.static yJ3_checkFromToIndex_8c36e ∈ mj_W := mj_t3 (List.mem_of_getElem? (i := 163) rfl) rfl
theorem c_J0_checkBoundsBeginEnd_23922 : Cond.code yJ0_checkBoundsBeginEnd_23922 cJ0_checkBoundsBeginEnd_23922 3 none ∈ mj_W := mj_t3 (List.mem_of_getElem? (i := 161) rfl) rfl
theorem s_J0_checkBoundsBeginEnd_23922 : Cond.static yJ0_checkBoundsBeginEnd_23922 ∈ mj_W := mj_t3 (List.mem_of_getElem? (i := 160) rfl) rfl
theorem c_J2_checkBoundsBeginEnd_d044e : Cond.code yJ2_checkBoundsBeginEnd_d044e cJ2_checkBoundsBeginEnd_d044e 3 none ∈ mj_W := mj_t3 (List.mem_of_getElem? (i := 158) rfl) rfl
theorem s_J2_checkBoundsBeginEnd_d044e : Cond.static yJ2_checkBoundsBeginEnd_d044e ∈ mj_W := mj_t3 (List.mem_of_getElem? (i := 157) rfl) rfl
theorem c_J2_indexOfCharUnsafe_4cfef : Cond.code yJ2_indexOfCharUnsafe_4cfef cJ2_indexOfCharUnsafe_4cfef 5 (some .int) ∈ mj_W := mj_t3 (List.mem_of_getElem? (i := 167) rfl) rfl
theorem s_J2_indexOfCharUnsafe_4cfef : Cond.static yJ2_indexOfCharUnsafe_4cfef ∈ mj_W := mj_t3 (List.mem_of_getElem? (i := 166) rfl) rfl
theorem c_J2_indexOfChar_4cfef : Cond.code yJ2_indexOfChar_4cfef cJ2_indexOfChar_4cfef 4 (some .int) ∈ mj_W := mj_t3 (List.mem_of_getElem? (i := 155) rfl) rfl
theorem s_J2_indexOfChar_4cfef : Cond.static yJ2_indexOfChar_4cfef ∈ mj_W := mj_t3 (List.mem_of_getElem? (i := 154) rfl) rfl
theorem c_J11_isValidCodePoint_9a6ad : Cond.code yJ11_isValidCodePoint_9a6ad cJ11_isValidCodePoint_9a6ad 2 (some .boolean) ∈ mj_W := mj_t3 (List.mem_of_getElem? (i := 173) rfl) rfl
theorem s_J11_isValidCodePoint_9a6ad : Cond.static yJ11_isValidCodePoint_9a6ad ∈ mj_W := mj_t3 (List.mem_of_getElem? (i := 172) rfl) rfl
theorem c_J11_highSurrogate_5068e : Cond.code yJ11_highSurrogate_5068e cJ11_highSurrogate_5068e 1 (some .char) ∈ mj_W := mj_t3 (List.mem_of_getElem? (i := 176) rfl) rfl
theorem s_J11_highSurrogate_5068e : Cond.static yJ11_highSurrogate_5068e ∈ mj_W := mj_t3 (List.mem_of_getElem? (i := 175) rfl) rfl
theorem c_J11_lowSurrogate_5068e : Cond.code yJ11_lowSurrogate_5068e cJ11_lowSurrogate_5068e 1 (some .char) ∈ mj_W := mj_t3 (List.mem_of_getElem? (i := 180) rfl) rfl
theorem s_J11_lowSurrogate_5068e : Cond.static yJ11_lowSurrogate_5068e ∈ mj_W := mj_t3 (List.mem_of_getElem? (i := 179) rfl) rfl
theorem c_J2_indexOfSupplementary_4cfef : Cond.code yJ2_indexOfSupplementary_4cfef cJ2_indexOfSupplementary_4cfef 7 (some .int) ∈ mj_W := mj_t3 (List.mem_of_getElem? (i := 170) rfl) rfl
theorem s_J2_indexOfSupplementary_4cfef : Cond.static yJ2_indexOfSupplementary_4cfef ∈ mj_W := mj_t3 (List.mem_of_getElem? (i := 169) rfl) rfl
theorem c_J2_indexOf_4cfef : Cond.code yJ2_indexOf_4cfef cJ2_indexOf_4cfef 4 (some .int) ∈ mj_W := mj_t3 (List.mem_of_getElem? (i := 149) rfl) rfl
theorem s_J2_indexOf_4cfef : Cond.static yJ2_indexOf_4cfef ∈ mj_W := mj_t3 (List.mem_of_getElem? (i := 148) rfl) rfl
theorem c_J0_indexOf_7cf53 : Cond.code yJ0_indexOf_7cf53 cJ0_indexOf_7cf53 3 (some .int) ∈ mj_W := mj_t3 (List.mem_of_getElem? (i := 132) rfl) rfl
theorem i_J0_indexOf_7cf53 : Cond.instanceMethod yJ0_indexOf_7cf53 ∈ mj_W := mj_t3 (List.mem_of_getElem? (i := 130) rfl) rfl
theorem e_J0_indexOf_7cf53 : Cond.selects RJ0 yJ0_indexOf_7cf53 yJ0_indexOf_7cf53 ∈ mj_W := mj_t3 (List.mem_of_getElem? (i := 131) rfl) rfl
theorem c_J0_indexOf_0f7a4 : Cond.code yJ0_indexOf_0f7a4 cJ0_indexOf_0f7a4 2 (some .int) ∈ mj_W := mj_t3 (List.mem_of_getElem? (i := 128) rfl) rfl
theorem i_J0_indexOf_0f7a4 : Cond.instanceMethod yJ0_indexOf_0f7a4 ∈ mj_W := mj_t3 (List.mem_of_getElem? (i := 126) rfl) rfl
theorem e_J0_indexOf_0f7a4 : Cond.selects RJ0 yJ0_indexOf_0f7a4 yJ0_indexOf_0f7a4 ∈ mj_W := mj_t3 (List.mem_of_getElem? (i := 127) rfl) rfl
theorem c_X9_withSecond : Cond.code yX9_withSecond cX9_withSecond 2 (some .int) ∈ mj_W := mj_t3 (List.mem_of_getElem? (i := 184) rfl) rfl
theorem s_X9_withSecond : Cond.static yX9_withSecond ∈ mj_W := mj_t3 (List.mem_of_getElem? (i := 183) rfl) rfl
theorem c_X9_addSign : Cond.code yX9_addSign cX9_addSign 6 (some .int) ∈ mj_W := mj_t3 (List.mem_of_getElem? (i := 123) rfl) rfl
theorem i_X9_addSign : Cond.instanceMethod yX9_addSign ∈ mj_W := mj_t3 (List.mem_of_getElem? (i := 122) rfl) rfl
theorem e_X9_addSign : Cond.selects RX9 yX9_addSign yX9_addSign ∈ mj_W := mj_p1 (List.mem_of_getElem? (i := 3) rfl)
theorem c_X9_open : Cond.code yX9_open cX9_open 6 none ∈ mj_W := mj_t3 (List.mem_of_getElem? (i := 42) rfl) rfl
theorem i_X9_open : Cond.instanceMethod yX9_open ∈ mj_W := mj_t3 (List.mem_of_getElem? (i := 40) rfl) rfl
theorem e_X9_open : Cond.selects RX9 yX9_open yX9_open ∈ mj_W := mj_t3 (List.mem_of_getElem? (i := 41) rfl) rfl
theorem c_X9_kind : Cond.code yX9_kind cX9_kind 1 (some .int) ∈ mj_W := mj_t3 (List.mem_of_getElem? (i := 188) rfl) rfl
theorem i_X9_kind : Cond.instanceMethod yX9_kind ∈ mj_W := mj_t3 (List.mem_of_getElem? (i := 186) rfl) rfl
theorem e_X9_kind : Cond.selects RX9 yX9_kind yX9_kind ∈ mj_W := mj_t3 (List.mem_of_getElem? (i := 187) rfl) rfl
theorem c_X9_place : Cond.code yX9_place cX9_place 1 (some .int) ∈ mj_W := mj_t3 (List.mem_of_getElem? (i := 196) rfl) rfl
theorem i_X9_place : Cond.instanceMethod yX9_place ∈ mj_W := mj_t3 (List.mem_of_getElem? (i := 194) rfl) rfl
theorem e_X9_place : Cond.selects RX9 yX9_place yX9_place ∈ mj_W := mj_t3 (List.mem_of_getElem? (i := 195) rfl) rfl
theorem c_X7_fail : Cond.code yX7_fail cX7_fail 3 none ∈ mj_W := mj_t3 (List.mem_of_getElem? (i := 200) rfl) rfl
theorem i_X7_fail : Cond.instanceMethod yX7_fail ∈ mj_W := mj_t3 (List.mem_of_getElem? (i := 199) rfl) rfl
theorem e_X7_fail : Cond.selects RX7 yX7_fail yX7_fail ∈ mj_W := mj_p1 (List.mem_of_getElem? (i := 5) rfl)
theorem c_X9_advance : Cond.code yX9_advance cX9_advance 1 none ∈ mj_W := mj_t3 (List.mem_of_getElem? (i := 208) rfl) rfl
theorem i_X9_advance : Cond.instanceMethod yX9_advance ∈ mj_W := mj_t3 (List.mem_of_getElem? (i := 206) rfl) rfl
theorem e_X9_advance : Cond.selects RX9 yX9_advance yX9_advance ∈ mj_W := mj_t3 (List.mem_of_getElem? (i := 207) rfl) rfl
theorem c_X9_value : Cond.code yX9_value cX9_value 1 (some .int) ∈ mj_W := mj_t3 (List.mem_of_getElem? (i := 220) rfl) rfl
theorem i_X9_value : Cond.instanceMethod yX9_value ∈ mj_W := mj_t3 (List.mem_of_getElem? (i := 218) rfl) rfl
theorem e_X9_value : Cond.selects RX9 yX9_value yX9_value ∈ mj_W := mj_t3 (List.mem_of_getElem? (i := 219) rfl) rfl
theorem c_X7_take : Cond.code yX7_take cX7_take 2 none ∈ mj_W := mj_t3 (List.mem_of_getElem? (i := 224) rfl) rfl
theorem i_X7_take : Cond.instanceMethod yX7_take ∈ mj_W := mj_t3 (List.mem_of_getElem? (i := 223) rfl) rfl
theorem e_X7_take : Cond.selects RX7 yX7_take yX7_take ∈ mj_W := mj_p1 (List.mem_of_getElem? (i := 8) rfl)
theorem c_X7_ownWord : Cond.code yX7_ownWord cX7_ownWord 2 (some .int) ∈ mj_W := mj_t3 (List.mem_of_getElem? (i := 216) rfl) rfl
theorem i_X7_ownWord : Cond.instanceMethod yX7_ownWord ∈ mj_W := mj_t3 (List.mem_of_getElem? (i := 215) rfl) rfl
theorem e_X7_ownWord : Cond.selects RX7 yX7_ownWord yX7_ownWord ∈ mj_W := mj_p1 (List.mem_of_getElem? (i := 7) rfl)
theorem c_X7_number : Cond.code yX7_number cX7_number 5 (some .int) ∈ mj_W := mj_t3 (List.mem_of_getElem? (i := 232) rfl) rfl
theorem i_X7_number : Cond.instanceMethod yX7_number ∈ mj_W := mj_t3 (List.mem_of_getElem? (i := 231) rfl) rfl
theorem e_X7_number : Cond.selects RX7 yX7_number yX7_number ∈ mj_W := mj_p1 (List.mem_of_getElem? (i := 9) rfl)
theorem c_X7_readPond : Cond.code yX7_readPond cX7_readPond 6 none ∈ mj_W := mj_t3 (List.mem_of_getElem? (i := 212) rfl) rfl
theorem i_X7_readPond : Cond.instanceMethod yX7_readPond ∈ mj_W := mj_t3 (List.mem_of_getElem? (i := 211) rfl) rfl
theorem e_X7_readPond : Cond.selects RX7 yX7_readPond yX7_readPond ∈ mj_W := mj_p1 (List.mem_of_getElem? (i := 6) rfl)
theorem c_X7_toldPond : Cond.code yX7_toldPond cX7_toldPond 3 (some .int) ∈ mj_W := mj_t4 (List.mem_of_getElem? (i := 4) rfl) rfl
theorem i_X7_toldPond : Cond.instanceMethod yX7_toldPond ∈ mj_W := mj_t4 (List.mem_of_getElem? (i := 3) rfl) rfl
theorem e_X7_toldPond : Cond.selects RX7 yX7_toldPond yX7_toldPond ∈ mj_W := mj_p1 (List.mem_of_getElem? (i := 11) rfl)
theorem c_X7_readLock : Cond.code yX7_readLock cX7_readLock 5 none ∈ mj_W := mj_t4 (List.mem_of_getElem? (i := 0) rfl) rfl
theorem i_X7_readLock : Cond.instanceMethod yX7_readLock ∈ mj_W := mj_t3 (List.mem_of_getElem? (i := 239) rfl) rfl
theorem e_X7_readLock : Cond.selects RX7 yX7_readLock yX7_readLock ∈ mj_W := mj_p1 (List.mem_of_getElem? (i := 10) rfl)
theorem c_X7_readPipe : Cond.code yX7_readPipe cX7_readPipe 5 none ∈ mj_W := mj_t4 (List.mem_of_getElem? (i := 16) rfl) rfl
theorem i_X7_readPipe : Cond.instanceMethod yX7_readPipe ∈ mj_W := mj_t4 (List.mem_of_getElem? (i := 15) rfl) rfl
theorem e_X7_readPipe : Cond.selects RX7 yX7_readPipe yX7_readPipe ∈ mj_W := mj_p1 (List.mem_of_getElem? (i := 12) rfl)
theorem c_X7_readTurn : Cond.code yX7_readTurn cX7_readTurn 5 none ∈ mj_W := mj_t4 (List.mem_of_getElem? (i := 28) rfl) rfl
theorem i_X7_readTurn : Cond.instanceMethod yX7_readTurn ∈ mj_W := mj_t4 (List.mem_of_getElem? (i := 27) rfl) rfl
theorem e_X7_readTurn : Cond.selects RX7 yX7_readTurn yX7_readTurn ∈ mj_W := mj_p1 (List.mem_of_getElem? (i := 13) rfl)
theorem c_X7_readBoat : Cond.code yX7_readBoat cX7_readBoat 5 none ∈ mj_W := mj_t4 (List.mem_of_getElem? (i := 36) rfl) rfl
theorem i_X7_readBoat : Cond.instanceMethod yX7_readBoat ∈ mj_W := mj_t4 (List.mem_of_getElem? (i := 35) rfl) rfl
theorem e_X7_readBoat : Cond.selects RX7 yX7_readBoat yX7_readBoat ∈ mj_W := mj_p1 (List.mem_of_getElem? (i := 14) rfl)
theorem c_X7_readSpring : Cond.code yX7_readSpring cX7_readSpring 4 none ∈ mj_W := mj_t4 (List.mem_of_getElem? (i := 44) rfl) rfl
theorem i_X7_readSpring : Cond.instanceMethod yX7_readSpring ∈ mj_W := mj_t4 (List.mem_of_getElem? (i := 43) rfl) rfl
theorem e_X7_readSpring : Cond.selects RX7 yX7_readSpring yX7_readSpring ∈ mj_W := mj_p1 (List.mem_of_getElem? (i := 15) rfl)
theorem c_X7_readJam : Cond.code yX7_readJam cX7_readJam 1 none ∈ mj_W := mj_t4 (List.mem_of_getElem? (i := 48) rfl) rfl
theorem i_X7_readJam : Cond.instanceMethod yX7_readJam ∈ mj_W := mj_t4 (List.mem_of_getElem? (i := 47) rfl) rfl
theorem e_X7_readJam : Cond.selects RX7 yX7_readJam yX7_readJam ∈ mj_W := mj_p2 (List.mem_of_getElem? (i := 0) rfl)
theorem c_X7_readSeed : Cond.code yX7_readSeed cX7_readSeed 1 none ∈ mj_W := mj_t4 (List.mem_of_getElem? (i := 52) rfl) rfl
theorem i_X7_readSeed : Cond.instanceMethod yX7_readSeed ∈ mj_W := mj_t4 (List.mem_of_getElem? (i := 51) rfl) rfl
theorem e_X7_readSeed : Cond.selects RX7 yX7_readSeed yX7_readSeed ∈ mj_W := mj_p2 (List.mem_of_getElem? (i := 1) rfl)
theorem c_X7_takeKnot : Cond.code yX7_takeKnot cX7_takeKnot 1 none ∈ mj_W := mj_t4 (List.mem_of_getElem? (i := 77) rfl) rfl
theorem i_X7_takeKnot : Cond.instanceMethod yX7_takeKnot ∈ mj_W := mj_t4 (List.mem_of_getElem? (i := 76) rfl) rfl
theorem e_X7_takeKnot : Cond.selects RX7 yX7_takeKnot yX7_takeKnot ∈ mj_W := mj_p2 (List.mem_of_getElem? (i := 5) rfl)
theorem c_X7_rankOf : Cond.code yX7_rankOf cX7_rankOf 1 (some .int) ∈ mj_W := mj_t4 (List.mem_of_getElem? (i := 88) rfl) rfl
theorem s_X7_rankOf : Cond.static yX7_rankOf ∈ mj_W := mj_t4 (List.mem_of_getElem? (i := 87) rfl) rfl
theorem c_X7_readPart : Cond.code yX7_readPart cX7_readPart 3 none ∈ mj_W := mj_t4 (List.mem_of_getElem? (i := 73) rfl) rfl
theorem i_X7_readPart : Cond.instanceMethod yX7_readPart ∈ mj_W := mj_t4 (List.mem_of_getElem? (i := 72) rfl) rfl
theorem e_X7_readPart : Cond.selects RX7 yX7_readPart yX7_readPart ∈ mj_W := mj_p2 (List.mem_of_getElem? (i := 4) rfl)
theorem c_X7_readRanked : Cond.code yX7_readRanked cX7_readRanked 5 none ∈ mj_W := mj_t4 (List.mem_of_getElem? (i := 69) rfl) rfl
theorem i_X7_readRanked : Cond.instanceMethod yX7_readRanked ∈ mj_W := mj_t4 (List.mem_of_getElem? (i := 68) rfl) rfl
theorem e_X7_readRanked : Cond.selects RX7 yX7_readRanked yX7_readRanked ∈ mj_W := mj_p2 (List.mem_of_getElem? (i := 3) rfl)
theorem c_X7_readDenied : Cond.code yX7_readDenied cX7_readDenied 3 none ∈ mj_W := mj_t4 (List.mem_of_getElem? (i := 85) rfl) rfl
theorem i_X7_readDenied : Cond.instanceMethod yX7_readDenied ∈ mj_W := mj_t4 (List.mem_of_getElem? (i := 84) rfl) rfl
theorem e_X7_readDenied : Cond.selects RX7 yX7_readDenied yX7_readDenied ∈ mj_W := mj_p2 (List.mem_of_getElem? (i := 6) rfl)
theorem c_X7_readLaw : Cond.code yX7_readLaw cX7_readLaw 2 none ∈ mj_W := mj_t4 (List.mem_of_getElem? (i := 57) rfl) rfl
theorem i_X7_readLaw : Cond.instanceMethod yX7_readLaw ∈ mj_W := mj_t4 (List.mem_of_getElem? (i := 56) rfl) rfl
theorem e_X7_readLaw : Cond.selects RX7 yX7_readLaw yX7_readLaw ∈ mj_W := mj_p2 (List.mem_of_getElem? (i := 2) rfl)
theorem c_X7_readLine : Cond.code yX7_readLine cX7_readLine 2 none ∈ mj_W := mj_t3 (List.mem_of_getElem? (i := 192) rfl) rfl
theorem i_X7_readLine : Cond.instanceMethod yX7_readLine ∈ mj_W := mj_t3 (List.mem_of_getElem? (i := 191) rfl) rfl
theorem e_X7_readLine : Cond.selects RX7 yX7_readLine yX7_readLine ∈ mj_W := mj_p1 (List.mem_of_getElem? (i := 4) rfl)
theorem c_X7_read : Cond.code yX7_read cX7_read 3 none ∈ mj_W := mj_t3 (List.mem_of_getElem? (i := 26) rfl) rfl
theorem i_X7_read : Cond.instanceMethod yX7_read ∈ mj_W := mj_t3 (List.mem_of_getElem? (i := 24) rfl) rfl
theorem e_X7_read : Cond.selects RX7 yX7_read yX7_read ∈ mj_W := mj_t3 (List.mem_of_getElem? (i := 25) rfl) rfl
theorem c_X8_init : Cond.code yX8_init cX8_init 2 none ∈ mj_W := mj_t2 (List.mem_of_getElem? (i := 41) rfl) rfl
theorem i_X8_init : Cond.instanceMethod yX8_init ∈ mj_W := mj_t2 (List.mem_of_getElem? (i := 40) rfl) rfl
theorem c_X8_begin : Cond.code yX8_begin cX8_begin 3 none ∈ mj_W := mj_t4 (List.mem_of_getElem? (i := 96) rfl) rfl
theorem i_X8_begin : Cond.instanceMethod yX8_begin ∈ mj_W := mj_t4 (List.mem_of_getElem? (i := 94) rfl) rfl
theorem e_X8_begin : Cond.selects RX8 yX8_begin yX8_begin ∈ mj_W := mj_t4 (List.mem_of_getElem? (i := 95) rfl) rfl
theorem c_X8_become : Cond.code yX8_become cX8_become 3 none ∈ mj_W := mj_t5 (List.mem_of_getElem? (i := 128) rfl) rfl
theorem i_X8_become : Cond.instanceMethod yX8_become ∈ mj_W := mj_t5 (List.mem_of_getElem? (i := 126) rfl) rfl
theorem e_X8_become : Cond.selects RX8 yX8_become yX8_become ∈ mj_W := mj_t5 (List.mem_of_getElem? (i := 127) rfl) rfl
theorem c_X8_runAll : Cond.code yX8_runAll cX8_runAll 3 (some .int) ∈ mj_W := mj_t5 (List.mem_of_getElem? (i := 226) rfl) rfl
theorem i_X8_runAll : Cond.instanceMethod yX8_runAll ∈ mj_W := mj_t5 (List.mem_of_getElem? (i := 224) rfl) rfl
theorem e_X8_runAll : Cond.selects RX8 yX8_runAll yX8_runAll ∈ mj_W := mj_t5 (List.mem_of_getElem? (i := 225) rfl) rfl
theorem c_X8_waterOf : Cond.code yX8_waterOf cX8_waterOf 4 (some .int) ∈ mj_W := mj_t5 (List.mem_of_getElem? (i := 147) rfl) rfl
theorem i_X8_waterOf : Cond.instanceMethod yX8_waterOf ∈ mj_W := mj_t5 (List.mem_of_getElem? (i := 145) rfl) rfl
theorem e_X8_waterOf : Cond.selects RX8 yX8_waterOf yX8_waterOf ∈ mj_W := mj_t5 (List.mem_of_getElem? (i := 146) rfl) rfl
theorem c_X8_waitedByAll : Cond.code yX8_waitedByAll cX8_waitedByAll 3 (some .int) ∈ mj_W := mj_t5 (List.mem_of_getElem? (i := 133) rfl) rfl
theorem i_X8_waitedByAll : Cond.instanceMethod yX8_waitedByAll ∈ mj_W := mj_t5 (List.mem_of_getElem? (i := 131) rfl) rfl
theorem e_X8_waitedByAll : Cond.selects RX8 yX8_waitedByAll yX8_waitedByAll ∈ mj_W := mj_t5 (List.mem_of_getElem? (i := 132) rfl) rfl
theorem c_X9_hasRoom : Cond.code yX9_hasRoom cX9_hasRoom 1 (some .boolean) ∈ mj_W := mj_t3 (List.mem_of_getElem? (i := 14) rfl) rfl
theorem i_X9_hasRoom : Cond.instanceMethod yX9_hasRoom ∈ mj_W := mj_t3 (List.mem_of_getElem? (i := 12) rfl) rfl
theorem e_X9_hasRoom : Cond.selects RX9 yX9_hasRoom yX9_hasRoom ∈ mj_W := mj_t3 (List.mem_of_getElem? (i := 13) rfl) rfl
theorem c_X9_append : Cond.code yX9_append cX9_append 3 none ∈ mj_W := mj_t3 (List.mem_of_getElem? (i := 18) rfl) rfl
theorem i_X9_append : Cond.instanceMethod yX9_append ∈ mj_W := mj_t3 (List.mem_of_getElem? (i := 16) rfl) rfl
theorem e_X9_append : Cond.selects RX9 yX9_append yX9_append ∈ mj_W := mj_t3 (List.mem_of_getElem? (i := 17) rfl) rfl
theorem c_X10_init : Cond.code yX10_init cX10_init 1 none ∈ mj_W := mj_t1 (List.mem_of_getElem? (i := 29) rfl) rfl
theorem i_X10_init : Cond.instanceMethod yX10_init ∈ mj_W := mj_t1 (List.mem_of_getElem? (i := 28) rfl) rfl
theorem c_X10_feed : Cond.code yX10_feed cX10_feed 7 (some .int) ∈ mj_W := mj_t3 (List.mem_of_getElem? (i := 10) rfl) rfl
theorem i_X10_feed : Cond.instanceMethod yX10_feed ∈ mj_W := mj_t3 (List.mem_of_getElem? (i := 8) rfl) rfl
theorem e_X10_feed : Cond.selects RX10 yX10_feed yX10_feed ∈ mj_W := mj_t3 (List.mem_of_getElem? (i := 9) rfl) rfl
theorem c_X10_text : Cond.code yX10_text cX10_text 3 (some .int) ∈ mj_W := mj_t3 (List.mem_of_getElem? (i := 22) rfl) rfl
theorem i_X10_text : Cond.instanceMethod yX10_text ∈ mj_W := mj_t3 (List.mem_of_getElem? (i := 20) rfl) rfl
theorem e_X10_text : Cond.selects RX10 yX10_text yX10_text ∈ mj_W := mj_t3 (List.mem_of_getElem? (i := 21) rfl) rfl
theorem c_X10_fault : Cond.code yX10_fault cX10_fault 2 (some .int) ∈ mj_W := mj_t4 (List.mem_of_getElem? (i := 109) rfl) rfl
theorem i_X10_fault : Cond.instanceMethod yX10_fault ∈ mj_W := mj_t4 (List.mem_of_getElem? (i := 107) rfl) rfl
theorem e_X10_fault : Cond.selects RX10 yX10_fault yX10_fault ∈ mj_W := mj_t4 (List.mem_of_getElem? (i := 108) rfl) rfl
theorem c_X10_named : Cond.code yX10_named cX10_named 2 (some .int) ∈ mj_W := mj_t4 (List.mem_of_getElem? (i := 113) rfl) rfl
theorem i_X10_named : Cond.instanceMethod yX10_named ∈ mj_W := mj_t4 (List.mem_of_getElem? (i := 111) rfl) rfl
theorem e_X10_named : Cond.selects RX10 yX10_named yX10_named ∈ mj_W := mj_t4 (List.mem_of_getElem? (i := 112) rfl) rfl
theorem c_X10_isPond : Cond.code yX10_isPond cX10_isPond 2 (some .boolean) ∈ mj_W := mj_t4 (List.mem_of_getElem? (i := 122) rfl) rfl
theorem i_X10_isPond : Cond.instanceMethod yX10_isPond ∈ mj_W := mj_t4 (List.mem_of_getElem? (i := 121) rfl) rfl
theorem e_X10_isPond : Cond.selects RX10 yX10_isPond yX10_isPond ∈ mj_W := mj_p2 (List.mem_of_getElem? (i := 7) rfl)
theorem c_X10_orWithout : Cond.code yX10_orWithout cX10_orWithout 1 (some .int) ∈ mj_W := mj_t4 (List.mem_of_getElem? (i := 172) rfl) rfl
theorem s_X10_orWithout : Cond.static yX10_orWithout ∈ mj_W := mj_t4 (List.mem_of_getElem? (i := 171) rfl) rfl
theorem c_X10_pond : Cond.code yX10_pond cX10_pond 3 (some .int) ∈ mj_W := mj_t6 (List.mem_of_getElem? (i := 135) rfl) rfl
theorem i_X10_pond : Cond.instanceMethod yX10_pond ∈ mj_W := mj_t6 (List.mem_of_getElem? (i := 133) rfl) rfl
theorem e_X10_pond : Cond.selects RX10 yX10_pond yX10_pond ∈ mj_W := mj_t6 (List.mem_of_getElem? (i := 134) rfl) rfl
theorem c_X10_isHalf : Cond.code yX10_isHalf cX10_isHalf 1 (some .boolean) ∈ mj_W := mj_t4 (List.mem_of_getElem? (i := 125) rfl) rfl
theorem s_X10_isHalf : Cond.static yX10_isHalf ∈ mj_W := mj_t4 (List.mem_of_getElem? (i := 124) rfl) rfl
theorem c_X10_inLeastTerms : Cond.code yX10_inLeastTerms cX10_inLeastTerms 12 (some .long) ∈ mj_W := mj_t4 (List.mem_of_getElem? (i := 132) rfl) rfl
theorem s_X10_inLeastTerms : Cond.static yX10_inLeastTerms ∈ mj_W := mj_t4 (List.mem_of_getElem? (i := 131) rfl) rfl
theorem c_X10_level : Cond.code yX10_level cX10_level 3 (some .int) ∈ mj_W := mj_t4 (List.mem_of_getElem? (i := 118) rfl) rfl
theorem i_X10_level : Cond.instanceMethod yX10_level ∈ mj_W := mj_t4 (List.mem_of_getElem? (i := 116) rfl) rfl
theorem e_X10_level : Cond.selects RX10 yX10_level yX10_level ∈ mj_W := mj_t4 (List.mem_of_getElem? (i := 117) rfl) rfl
theorem c_X10_isPipe : Cond.code yX10_isPipe cX10_isPipe 2 (some .boolean) ∈ mj_W := mj_t4 (List.mem_of_getElem? (i := 141) rfl) rfl
theorem i_X10_isPipe : Cond.instanceMethod yX10_isPipe ∈ mj_W := mj_t4 (List.mem_of_getElem? (i := 140) rfl) rfl
theorem e_X10_isPipe : Cond.selects RX10 yX10_isPipe yX10_isPipe ∈ mj_W := mj_p2 (List.mem_of_getElem? (i := 8) rfl)
theorem c_X10_pipe : Cond.code yX10_pipe cX10_pipe 3 (some .int) ∈ mj_W := mj_t4 (List.mem_of_getElem? (i := 137) rfl) rfl
theorem i_X10_pipe : Cond.instanceMethod yX10_pipe ∈ mj_W := mj_t4 (List.mem_of_getElem? (i := 135) rfl) rfl
theorem e_X10_pipe : Cond.selects RX10 yX10_pipe yX10_pipe ∈ mj_W := mj_t4 (List.mem_of_getElem? (i := 136) rfl) rfl
theorem c_X10_isLock : Cond.code yX10_isLock cX10_isLock 2 (some .boolean) ∈ mj_W := mj_t4 (List.mem_of_getElem? (i := 165) rfl) rfl
theorem i_X10_isLock : Cond.instanceMethod yX10_isLock ∈ mj_W := mj_t4 (List.mem_of_getElem? (i := 164) rfl) rfl
theorem e_X10_isLock : Cond.selects RX10 yX10_isLock yX10_isLock ∈ mj_W := mj_p2 (List.mem_of_getElem? (i := 9) rfl)
theorem c_X10_lock : Cond.code yX10_lock cX10_lock 3 (some .int) ∈ mj_W := mj_t4 (List.mem_of_getElem? (i := 161) rfl) rfl
theorem i_X10_lock : Cond.instanceMethod yX10_lock ∈ mj_W := mj_t4 (List.mem_of_getElem? (i := 159) rfl) rfl
theorem e_X10_lock : Cond.selects RX10 yX10_lock yX10_lock ∈ mj_W := mj_t4 (List.mem_of_getElem? (i := 160) rfl) rfl
theorem c_X10_isBoat : Cond.code yX10_isBoat cX10_isBoat 2 (some .boolean) ∈ mj_W := mj_t4 (List.mem_of_getElem? (i := 180) rfl) rfl
theorem i_X10_isBoat : Cond.instanceMethod yX10_isBoat ∈ mj_W := mj_t4 (List.mem_of_getElem? (i := 179) rfl) rfl
theorem e_X10_isBoat : Cond.selects RX10 yX10_isBoat yX10_isBoat ∈ mj_W := mj_p2 (List.mem_of_getElem? (i := 10) rfl)
theorem c_X10_boat : Cond.code yX10_boat cX10_boat 3 (some .int) ∈ mj_W := mj_t4 (List.mem_of_getElem? (i := 176) rfl) rfl
theorem i_X10_boat : Cond.instanceMethod yX10_boat ∈ mj_W := mj_t4 (List.mem_of_getElem? (i := 174) rfl) rfl
theorem e_X10_boat : Cond.selects RX10 yX10_boat yX10_boat ∈ mj_W := mj_t4 (List.mem_of_getElem? (i := 175) rfl) rfl
theorem c_X10_law : Cond.code yX10_law cX10_law 3 (some .long) ∈ mj_W := mj_t4 (List.mem_of_getElem? (i := 184) rfl) rfl
theorem i_X10_law : Cond.instanceMethod yX10_law ∈ mj_W := mj_t4 (List.mem_of_getElem? (i := 182) rfl) rfl
theorem e_X10_law : Cond.selects RX10 yX10_law yX10_law ∈ mj_W := mj_t4 (List.mem_of_getElem? (i := 183) rfl) rfl
theorem c_X10_runs : Cond.code yX10_runs cX10_runs 3 (some .int) ∈ mj_W := mj_t4 (List.mem_of_getElem? (i := 237) rfl) rfl
theorem i_X10_runs : Cond.instanceMethod yX10_runs ∈ mj_W := mj_t4 (List.mem_of_getElem? (i := 235) rfl) rfl
theorem e_X10_runs : Cond.selects RX10 yX10_runs yX10_runs ∈ mj_W := mj_t4 (List.mem_of_getElem? (i := 236) rfl) rfl
theorem c_X10_draw : Cond.code yX10_draw cX10_draw 3 (some .int) ∈ mj_W := mj_t5 (List.mem_of_getElem? (i := 7) rfl) rfl
theorem i_X10_draw : Cond.instanceMethod yX10_draw ∈ mj_W := mj_t5 (List.mem_of_getElem? (i := 5) rfl) rfl
theorem e_X10_draw : Cond.selects RX10 yX10_draw yX10_draw ∈ mj_W := mj_t5 (List.mem_of_getElem? (i := 6) rfl) rfl
theorem c_X10_isBucket : Cond.code yX10_isBucket cX10_isBucket 1 (some .boolean) ∈ mj_W := mj_t5 (List.mem_of_getElem? (i := 32) rfl) rfl
theorem s_X10_isBucket : Cond.static yX10_isBucket ∈ mj_W := mj_t5 (List.mem_of_getElem? (i := 31) rfl) rfl
theorem c_X10_fill : Cond.code yX10_fill cX10_fill 3 (some .int) ∈ mj_W := mj_t5 (List.mem_of_getElem? (i := 29) rfl) rfl
theorem i_X10_fill : Cond.instanceMethod yX10_fill ∈ mj_W := mj_t5 (List.mem_of_getElem? (i := 27) rfl) rfl
theorem e_X10_fill : Cond.selects RX10 yX10_fill yX10_fill ∈ mj_W := mj_t5 (List.mem_of_getElem? (i := 28) rfl) rfl
theorem c_X10_spill : Cond.code yX10_spill cX10_spill 3 (some .int) ∈ mj_W := mj_t5 (List.mem_of_getElem? (i := 40) rfl) rfl
theorem i_X10_spill : Cond.instanceMethod yX10_spill ∈ mj_W := mj_t5 (List.mem_of_getElem? (i := 38) rfl) rfl
theorem e_X10_spill : Cond.selects RX10 yX10_spill yX10_spill ∈ mj_W := mj_t5 (List.mem_of_getElem? (i := 39) rfl) rfl
theorem c_X10_mend : Cond.code yX10_mend cX10_mend 2 (some .boolean) ∈ mj_W := mj_t5 (List.mem_of_getElem? (i := 49) rfl) rfl
theorem i_X10_mend : Cond.instanceMethod yX10_mend ∈ mj_W := mj_t5 (List.mem_of_getElem? (i := 47) rfl) rfl
theorem e_X10_mend : Cond.selects RX10 yX10_mend yX10_mend ∈ mj_W := mj_t5 (List.mem_of_getElem? (i := 48) rfl) rfl
theorem c_X10_go : Cond.code yX10_go cX10_go 2 (some .int) ∈ mj_W := mj_t5 (List.mem_of_getElem? (i := 53) rfl) rfl
theorem i_X10_go : Cond.instanceMethod yX10_go ∈ mj_W := mj_t5 (List.mem_of_getElem? (i := 51) rfl) rfl
theorem e_X10_go : Cond.selects RX10 yX10_go yX10_go ∈ mj_W := mj_t5 (List.mem_of_getElem? (i := 52) rfl) rfl
theorem c_X10_ahead : Cond.code yX10_ahead cX10_ahead 4 (some .int) ∈ mj_W := mj_t5 (List.mem_of_getElem? (i := 124) rfl) rfl
theorem i_X10_ahead : Cond.instanceMethod yX10_ahead ∈ mj_W := mj_t5 (List.mem_of_getElem? (i := 122) rfl) rfl
theorem e_X10_ahead : Cond.selects RX10 yX10_ahead yX10_ahead ∈ mj_W := mj_t5 (List.mem_of_getElem? (i := 123) rfl) rfl
theorem c_X10_upWhen : Cond.code yX10_upWhen cX10_upWhen 3 (some .int) ∈ mj_W := mj_t5 (List.mem_of_getElem? (i := 138) rfl) rfl
theorem i_X10_upWhen : Cond.instanceMethod yX10_upWhen ∈ mj_W := mj_t5 (List.mem_of_getElem? (i := 136) rfl) rfl
theorem e_X10_upWhen : Cond.selects RX10 yX10_upWhen yX10_upWhen ∈ mj_W := mj_t5 (List.mem_of_getElem? (i := 137) rfl) rfl
theorem c_X10_joined : Cond.code yX10_joined cX10_joined 12 (some .int) ∈ mj_W := mj_t5 (List.mem_of_getElem? (i := 143) rfl) rfl
theorem i_X10_joined : Cond.instanceMethod yX10_joined ∈ mj_W := mj_t5 (List.mem_of_getElem? (i := 141) rfl) rfl
theorem e_X10_joined : Cond.selects RX10 yX10_joined yX10_joined ∈ mj_W := mj_t5 (List.mem_of_getElem? (i := 142) rfl) rfl
theorem c_X10_isHeight : Cond.code yX10_isHeight cX10_isHeight 1 (some .boolean) ∈ mj_W := mj_t5 (List.mem_of_getElem? (i := 162) rfl) rfl
theorem s_X10_isHeight : Cond.static yX10_isHeight ∈ mj_W := mj_t5 (List.mem_of_getElem? (i := 161) rfl) rfl
theorem c_X10_needs : Cond.code yX10_needs cX10_needs 3 (some .int) ∈ mj_W := mj_t5 (List.mem_of_getElem? (i := 159) rfl) rfl
theorem i_X10_needs : Cond.instanceMethod yX10_needs ∈ mj_W := mj_t5 (List.mem_of_getElem? (i := 157) rfl) rfl
theorem e_X10_needs : Cond.selects RX10 yX10_needs yX10_needs ∈ mj_W := mj_t5 (List.mem_of_getElem? (i := 158) rfl) rfl
theorem c_X10_spare : Cond.code yX10_spare cX10_spare 3 (some .int) ∈ mj_W := mj_t5 (List.mem_of_getElem? (i := 172) rfl) rfl
theorem i_X10_spare : Cond.instanceMethod yX10_spare ∈ mj_W := mj_t5 (List.mem_of_getElem? (i := 170) rfl) rfl
theorem e_X10_spare : Cond.selects RX10 yX10_spare yX10_spare ∈ mj_W := mj_t5 (List.mem_of_getElem? (i := 171) rfl) rfl
theorem c_X10_lift : Cond.code yX10_lift cX10_lift 2 (some .int) ∈ mj_W := mj_t5 (List.mem_of_getElem? (i := 176) rfl) rfl
theorem i_X10_lift : Cond.instanceMethod yX10_lift ∈ mj_W := mj_t5 (List.mem_of_getElem? (i := 174) rfl) rfl
theorem e_X10_lift : Cond.selects RX10 yX10_lift yX10_lift ∈ mj_W := mj_t5 (List.mem_of_getElem? (i := 175) rfl) rfl
theorem c_X10_fewest : Cond.code yX10_fewest cX10_fewest 4 (some .int) ∈ mj_W := mj_t5 (List.mem_of_getElem? (i := 184) rfl) rfl
theorem i_X10_fewest : Cond.instanceMethod yX10_fewest ∈ mj_W := mj_t5 (List.mem_of_getElem? (i := 182) rfl) rfl
theorem e_X10_fewest : Cond.selects RX10 yX10_fewest yX10_fewest ∈ mj_W := mj_t5 (List.mem_of_getElem? (i := 183) rfl) rfl
theorem c_X10_draws : Cond.code yX10_draws cX10_draws 4 (some .int) ∈ mj_W := mj_t5 (List.mem_of_getElem? (i := 206) rfl) rfl
theorem i_X10_draws : Cond.instanceMethod yX10_draws ∈ mj_W := mj_t5 (List.mem_of_getElem? (i := 204) rfl) rfl
theorem e_X10_draws : Cond.selects RX10 yX10_draws yX10_draws ∈ mj_W := mj_t5 (List.mem_of_getElem? (i := 205) rfl) rfl
theorem c_X10_highest : Cond.code yX10_highest cX10_highest 5 (some .int) ∈ mj_W := mj_t5 (List.mem_of_getElem? (i := 210) rfl) rfl
theorem i_X10_highest : Cond.instanceMethod yX10_highest ∈ mj_W := mj_t5 (List.mem_of_getElem? (i := 208) rfl) rfl
theorem e_X10_highest : Cond.selects RX10 yX10_highest yX10_highest ∈ mj_W := mj_t5 (List.mem_of_getElem? (i := 209) rfl) rfl
theorem c_Mabs : Cond.code Lib.Math.abs.name Lib.Math.abs.code 1 (some .int) ∈ mj_W := mj_t5 (List.mem_of_getElem? (i := 218) rfl) rfl
theorem s_Mabs : Cond.static Lib.Math.abs.name ∈ mj_W := mj_t5 (List.mem_of_getElem? (i := 217) rfl) rfl
theorem c_X10_apart : Cond.code yX10_apart cX10_apart 4 (some .int) ∈ mj_W := mj_t5 (List.mem_of_getElem? (i := 215) rfl) rfl
theorem i_X10_apart : Cond.instanceMethod yX10_apart ∈ mj_W := mj_t5 (List.mem_of_getElem? (i := 213) rfl) rfl
theorem e_X10_apart : Cond.selects RX10 yX10_apart yX10_apart ∈ mj_W := mj_t5 (List.mem_of_getElem? (i := 214) rfl) rfl
theorem c_X10_still : Cond.code yX10_still cX10_still 4 (some .int) ∈ mj_W := mj_t5 (List.mem_of_getElem? (i := 222) rfl) rfl
theorem i_X10_still : Cond.instanceMethod yX10_still ∈ mj_W := mj_t5 (List.mem_of_getElem? (i := 220) rfl) rfl
theorem e_X10_still : Cond.selects RX10 yX10_still yX10_still ∈ mj_W := mj_t5 (List.mem_of_getElem? (i := 221) rfl) rfl
theorem c_X10_reach : Cond.code yX10_reach cX10_reach 4 (some .int) ∈ mj_W := mj_t5 (List.mem_of_getElem? (i := 233) rfl) rfl
theorem i_X10_reach : Cond.instanceMethod yX10_reach ∈ mj_W := mj_t5 (List.mem_of_getElem? (i := 231) rfl) rfl
theorem e_X10_reach : Cond.selects RX10 yX10_reach yX10_reach ∈ mj_W := mj_t5 (List.mem_of_getElem? (i := 232) rfl) rfl
theorem c_X10_pass : Cond.code yX10_pass cX10_pass 5 (some .int) ∈ mj_W := mj_t6 (List.mem_of_getElem? (i := 1) rfl) rfl
theorem i_X10_pass : Cond.instanceMethod yX10_pass ∈ mj_W := mj_t5 (List.mem_of_getElem? (i := 239) rfl) rfl
theorem e_X10_pass : Cond.selects RX10 yX10_pass yX10_pass ∈ mj_W := mj_t6 (List.mem_of_getElem? (i := 0) rfl) rfl
theorem c_X10_lockfuls : Cond.code yX10_lockfuls cX10_lockfuls 4 (some .int) ∈ mj_W := mj_t6 (List.mem_of_getElem? (i := 11) rfl) rfl
theorem i_X10_lockfuls : Cond.instanceMethod yX10_lockfuls ∈ mj_W := mj_t6 (List.mem_of_getElem? (i := 9) rfl) rfl
theorem e_X10_lockfuls : Cond.selects RX10 yX10_lockfuls yX10_lockfuls ∈ mj_W := mj_t6 (List.mem_of_getElem? (i := 10) rfl) rfl
theorem c_X10_game : Cond.code yX10_game cX10_game 6 (some .int) ∈ mj_W := mj_t6 (List.mem_of_getElem? (i := 15) rfl) rfl
theorem i_X10_game : Cond.instanceMethod yX10_game ∈ mj_W := mj_t6 (List.mem_of_getElem? (i := 13) rfl) rfl
theorem e_X10_game : Cond.selects RX10 yX10_game yX10_game ∈ mj_W := mj_t6 (List.mem_of_getElem? (i := 14) rfl) rfl
theorem c_X10_keeperHas : Cond.code yX10_keeperHas cX10_keeperHas 4 (some .int) ∈ mj_W := mj_t6 (List.mem_of_getElem? (i := 26) rfl) rfl
theorem s_X10_keeperHas : Cond.static yX10_keeperHas ∈ mj_W := mj_t6 (List.mem_of_getElem? (i := 25) rfl) rfl
theorem c_X10_isRest : Cond.code yX10_isRest cX10_isRest 8 (some .boolean) ∈ mj_W := mj_t6 (List.mem_of_getElem? (i := 23) rfl) rfl
theorem i_X10_isRest : Cond.instanceMethod yX10_isRest ∈ mj_W := mj_t6 (List.mem_of_getElem? (i := 22) rfl) rfl
theorem e_X10_isRest : Cond.selects RX10 yX10_isRest yX10_isRest ∈ mj_W := mj_p3 (List.mem_of_getElem? (i := 2) rfl)
theorem c_X10_rests : Cond.code yX10_rests cX10_rests 5 (some .int) ∈ mj_W := mj_t6 (List.mem_of_getElem? (i := 19) rfl) rfl
theorem i_X10_rests : Cond.instanceMethod yX10_rests ∈ mj_W := mj_t6 (List.mem_of_getElem? (i := 17) rfl) rfl
theorem e_X10_rests : Cond.selects RX10 yX10_rests yX10_rests ∈ mj_W := mj_t6 (List.mem_of_getElem? (i := 18) rfl) rfl
theorem c_X10_rest : Cond.code yX10_rest cX10_rest 6 (some .int) ∈ mj_W := mj_t6 (List.mem_of_getElem? (i := 30) rfl) rfl
theorem i_X10_rest : Cond.instanceMethod yX10_rest ∈ mj_W := mj_t6 (List.mem_of_getElem? (i := 28) rfl) rfl
theorem e_X10_rest : Cond.selects RX10 yX10_rest yX10_rest ∈ mj_W := mj_t6 (List.mem_of_getElem? (i := 29) rfl) rfl
theorem c_X10_holds : Cond.code yX10_holds cX10_holds 8 (some .long) ∈ mj_W := mj_t6 (List.mem_of_getElem? (i := 34) rfl) rfl
theorem i_X10_holds : Cond.instanceMethod yX10_holds ∈ mj_W := mj_t6 (List.mem_of_getElem? (i := 32) rfl) rfl
theorem e_X10_holds : Cond.selects RX10 yX10_holds yX10_holds ∈ mj_W := mj_t6 (List.mem_of_getElem? (i := 33) rfl) rfl
theorem c_X10_see : Cond.code yX10_see cX10_see 5 (some .int) ∈ mj_W := mj_t6 (List.mem_of_getElem? (i := 39) rfl) rfl
theorem i_X10_see : Cond.instanceMethod yX10_see ∈ mj_W := mj_t6 (List.mem_of_getElem? (i := 37) rfl) rfl
theorem e_X10_see : Cond.selects RX10 yX10_see yX10_see ∈ mj_W := mj_t6 (List.mem_of_getElem? (i := 38) rfl) rfl
theorem c_X10_strike : Cond.code yX10_strike cX10_strike 2 (some .int) ∈ mj_W := mj_t6 (List.mem_of_getElem? (i := 52) rfl) rfl
theorem i_X10_strike : Cond.instanceMethod yX10_strike ∈ mj_W := mj_t6 (List.mem_of_getElem? (i := 50) rfl) rfl
theorem e_X10_strike : Cond.selects RX10 yX10_strike yX10_strike ∈ mj_W := mj_t6 (List.mem_of_getElem? (i := 51) rfl) rfl
theorem c_X10_known : Cond.code yX10_known cX10_known 2 (some .boolean) ∈ mj_W := mj_t6 (List.mem_of_getElem? (i := 56) rfl) rfl
theorem i_X10_known : Cond.instanceMethod yX10_known ∈ mj_W := mj_t6 (List.mem_of_getElem? (i := 54) rfl) rfl
theorem e_X10_known : Cond.selects RX10 yX10_known yX10_known ∈ mj_W := mj_t6 (List.mem_of_getElem? (i := 55) rfl) rfl
theorem c_X10_weigh : Cond.code yX10_weigh cX10_weigh 7 (some .int) ∈ mj_W := mj_t6 (List.mem_of_getElem? (i := 81) rfl) rfl
theorem i_X10_weigh : Cond.instanceMethod yX10_weigh ∈ mj_W := mj_t6 (List.mem_of_getElem? (i := 80) rfl) rfl
theorem e_X10_weigh : Cond.selects RX10 yX10_weigh yX10_weigh ∈ mj_W := mj_p3 (List.mem_of_getElem? (i := 4) rfl)
theorem c_X10_leaks : Cond.code yX10_leaks cX10_leaks 2 (some .int) ∈ mj_W := mj_t6 (List.mem_of_getElem? (i := 60) rfl) rfl
theorem i_X10_leaks : Cond.instanceMethod yX10_leaks ∈ mj_W := mj_t6 (List.mem_of_getElem? (i := 58) rfl) rfl
theorem e_X10_leaks : Cond.selects RX10 yX10_leaks yX10_leaks ∈ mj_W := mj_t6 (List.mem_of_getElem? (i := 59) rfl) rfl
theorem c_X10_leftAtWorst : Cond.code yX10_leftAtWorst cX10_leftAtWorst 7 (some .int) ∈ mj_W := mj_t6 (List.mem_of_getElem? (i := 93) rfl) rfl
theorem i_X10_leftAtWorst : Cond.instanceMethod yX10_leftAtWorst ∈ mj_W := mj_t6 (List.mem_of_getElem? (i := 92) rfl) rfl
theorem e_X10_leftAtWorst : Cond.selects RX10 yX10_leftAtWorst yX10_leftAtWorst ∈ mj_W := mj_p3 (List.mem_of_getElem? (i := 5) rfl)
theorem c_X10_ask : Cond.code yX10_ask cX10_ask 8 (some .int) ∈ mj_W := mj_t6 (List.mem_of_getElem? (i := 89) rfl) rfl
theorem i_X10_ask : Cond.instanceMethod yX10_ask ∈ mj_W := mj_t6 (List.mem_of_getElem? (i := 87) rfl) rfl
theorem e_X10_ask : Cond.selects RX10 yX10_ask yX10_ask ∈ mj_W := mj_t6 (List.mem_of_getElem? (i := 88) rfl) rfl
theorem c_X10_chance : Cond.code yX10_chance cX10_chance 7 (some .int) ∈ mj_W := mj_t6 (List.mem_of_getElem? (i := 97) rfl) rfl
theorem i_X10_chance : Cond.instanceMethod yX10_chance ∈ mj_W := mj_t6 (List.mem_of_getElem? (i := 95) rfl) rfl
theorem e_X10_chance : Cond.selects RX10 yX10_chance yX10_chance ∈ mj_W := mj_t6 (List.mem_of_getElem? (i := 96) rfl) rfl
theorem c_X10_tried : Cond.code yX10_tried cX10_tried 5 (some .int) ∈ mj_W := mj_t6 (List.mem_of_getElem? (i := 101) rfl) rfl
theorem i_X10_tried : Cond.instanceMethod yX10_tried ∈ mj_W := mj_t6 (List.mem_of_getElem? (i := 99) rfl) rfl
theorem e_X10_tried : Cond.selects RX10 yX10_tried yX10_tried ∈ mj_W := mj_t6 (List.mem_of_getElem? (i := 100) rfl) rfl
theorem c_X10_undo : Cond.code yX10_undo cX10_undo 1 (some .int) ∈ mj_W := mj_t6 (List.mem_of_getElem? (i := 105) rfl) rfl
theorem i_X10_undo : Cond.instanceMethod yX10_undo ∈ mj_W := mj_t6 (List.mem_of_getElem? (i := 103) rfl) rfl
theorem e_X10_undo : Cond.selects RX10 yX10_undo yX10_undo ∈ mj_W := mj_t6 (List.mem_of_getElem? (i := 104) rfl) rfl
theorem c_X10_keep : Cond.code yX10_keep cX10_keep 1 (some .int) ∈ mj_W := mj_t6 (List.mem_of_getElem? (i := 113) rfl) rfl
theorem i_X10_keep : Cond.instanceMethod yX10_keep ∈ mj_W := mj_t6 (List.mem_of_getElem? (i := 111) rfl) rfl
theorem e_X10_keep : Cond.selects RX10 yX10_keep yX10_keep ∈ mj_W := mj_t6 (List.mem_of_getElem? (i := 112) rfl) rfl
theorem c_X10_back : Cond.code yX10_back cX10_back 1 (some .int) ∈ mj_W := mj_t6 (List.mem_of_getElem? (i := 117) rfl) rfl
theorem i_X10_back : Cond.instanceMethod yX10_back ∈ mj_W := mj_t6 (List.mem_of_getElem? (i := 115) rfl) rfl
theorem e_X10_back : Cond.selects RX10 yX10_back yX10_back ∈ mj_W := mj_t6 (List.mem_of_getElem? (i := 116) rfl) rfl
theorem c_X10_count : Cond.code yX10_count cX10_count 2 (some .int) ∈ mj_W := mj_t6 (List.mem_of_getElem? (i := 121) rfl) rfl
theorem i_X10_count : Cond.instanceMethod yX10_count ∈ mj_W := mj_t6 (List.mem_of_getElem? (i := 119) rfl) rfl
theorem e_X10_count : Cond.selects RX10 yX10_count yX10_count ∈ mj_W := mj_t6 (List.mem_of_getElem? (i := 120) rfl) rfl
theorem c_X11_starts : Cond.code yX11_starts cX11_starts 3 none ∈ mj_W := mj_t6 (List.mem_of_getElem? (i := 232) rfl) rfl
theorem i_X11_starts : Cond.instanceMethod yX11_starts ∈ mj_W := mj_t6 (List.mem_of_getElem? (i := 231) rfl) rfl
theorem e_X11_starts : Cond.selects RX11 yX11_starts yX11_starts ∈ mj_W := mj_p3 (List.mem_of_getElem? (i := 8) rfl)
theorem c_X11_begins : Cond.code yX11_begins cX11_begins 1 none ∈ mj_W := mj_t6 (List.mem_of_getElem? (i := 228) rfl) rfl
theorem i_X11_begins : Cond.instanceMethod yX11_begins ∈ mj_W := mj_t6 (List.mem_of_getElem? (i := 227) rfl) rfl
theorem e_X11_begins : Cond.selects RX11 yX11_begins yX11_begins ∈ mj_W := mj_p3 (List.mem_of_getElem? (i := 7) rfl)
theorem c_X11_init : Cond.code yX11_init cX11_init 1 none ∈ mj_W := mj_t6 (List.mem_of_getElem? (i := 223) rfl) rfl
theorem i_X11_init : Cond.instanceMethod yX11_init ∈ mj_W := mj_t6 (List.mem_of_getElem? (i := 222) rfl) rfl
theorem c_X11_thrown : Cond.code yX11_thrown cX11_thrown 1 (some .int) ∈ mj_W := mj_t7 (List.mem_of_getElem? (i := 207) rfl) rfl
theorem i_X11_thrown : Cond.instanceMethod yX11_thrown ∈ mj_W := mj_t7 (List.mem_of_getElem? (i := 205) rfl) rfl
theorem e_X11_thrown : Cond.selects RX11 yX11_thrown yX11_thrown ∈ mj_W := mj_t7 (List.mem_of_getElem? (i := 206) rfl) rfl
theorem c_X11_feed : Cond.code yX11_feed cX11_feed 8 (some .int) ∈ mj_W := mj_t7 (List.mem_of_getElem? (i := 211) rfl) rfl
theorem i_X11_feed : Cond.instanceMethod yX11_feed ∈ mj_W := mj_t7 (List.mem_of_getElem? (i := 209) rfl) rfl
theorem e_X11_feed : Cond.selects RX11 yX11_feed yX11_feed ∈ mj_W := mj_t7 (List.mem_of_getElem? (i := 210) rfl) rfl
theorem c_X11_here : Cond.code yX11_here cX11_here 1 (some .int) ∈ mj_W := mj_t7 (List.mem_of_getElem? (i := 227) rfl) rfl
theorem i_X11_here : Cond.instanceMethod yX11_here ∈ mj_W := mj_t7 (List.mem_of_getElem? (i := 226) rfl) rfl
theorem e_X11_here : Cond.selects RX11 yX11_here yX11_here ∈ mj_W := mj_p3 (List.mem_of_getElem? (i := 11) rfl)
theorem c_X11_isSmall : Cond.code yX11_isSmall cX11_isSmall 1 (some .boolean) ∈ mj_W := mj_t7 (List.mem_of_getElem? (i := 230) rfl) rfl
theorem s_X11_isSmall : Cond.static yX11_isSmall ∈ mj_W := mj_t7 (List.mem_of_getElem? (i := 229) rfl) rfl
theorem c_X11_isDigit : Cond.code yX11_isDigit cX11_isDigit 1 (some .boolean) ∈ mj_W := mj_t8 (List.mem_of_getElem? (i := 4) rfl) rfl
theorem s_X11_isDigit : Cond.static yX11_isDigit ∈ mj_W := mj_t8 (List.mem_of_getElem? (i := 3) rfl) rfl
theorem c_X11_word : Cond.code yX11_word cX11_word 4 (some .int) ∈ mj_W := mj_t7 (List.mem_of_getElem? (i := 234) rfl) rfl
theorem i_X11_word : Cond.instanceMethod yX11_word ∈ mj_W := mj_t7 (List.mem_of_getElem? (i := 233) rfl) rfl
theorem e_X11_word : Cond.selects RX11 yX11_word yX11_word ∈ mj_W := mj_p3 (List.mem_of_getElem? (i := 12) rfl)
theorem c_X11_name : Cond.code yX11_name cX11_name 2 none ∈ mj_W := mj_t8 (List.mem_of_getElem? (i := 1) rfl) rfl
theorem i_X11_name : Cond.instanceMethod yX11_name ∈ mj_W := mj_t8 (List.mem_of_getElem? (i := 0) rfl) rfl
theorem e_X11_name : Cond.selects RX11 yX11_name yX11_name ∈ mj_W := mj_p3 (List.mem_of_getElem? (i := 13) rfl)
theorem c_X11_sign : Cond.code yX11_sign cX11_sign 2 none ∈ mj_W := mj_t8 (List.mem_of_getElem? (i := 9) rfl) rfl
theorem i_X11_sign : Cond.instanceMethod yX11_sign ∈ mj_W := mj_t8 (List.mem_of_getElem? (i := 8) rfl) rfl
theorem e_X11_sign : Cond.selects RX11 yX11_sign yX11_sign ∈ mj_W := mj_p3 (List.mem_of_getElem? (i := 14) rfl)
theorem c_X11_token : Cond.code yX11_token cX11_token 2 none ∈ mj_W := mj_t7 (List.mem_of_getElem? (i := 223) rfl) rfl
theorem i_X11_token : Cond.instanceMethod yX11_token ∈ mj_W := mj_t7 (List.mem_of_getElem? (i := 222) rfl) rfl
theorem e_X11_token : Cond.selects RX11 yX11_token yX11_token ∈ mj_W := mj_p3 (List.mem_of_getElem? (i := 10) rfl)
theorem c_X11_wrong : Cond.code yX11_wrong cX11_wrong 2 none ∈ mj_W := mj_t8 (List.mem_of_getElem? (i := 17) rfl) rfl
theorem i_X11_wrong : Cond.instanceMethod yX11_wrong ∈ mj_W := mj_t8 (List.mem_of_getElem? (i := 16) rfl) rfl
theorem e_X11_wrong : Cond.selects RX11 yX11_wrong yX11_wrong ∈ mj_W := mj_p4 (List.mem_of_getElem? (i := 0) rfl)
theorem c_X11_isWord : Cond.code yX11_isWord cX11_isWord 2 (some .boolean) ∈ mj_W := mj_t8 (List.mem_of_getElem? (i := 80) rfl) rfl
theorem i_X11_isWord : Cond.instanceMethod yX11_isWord ∈ mj_W := mj_t8 (List.mem_of_getElem? (i := 79) rfl) rfl
theorem e_X11_isWord : Cond.selects RX11 yX11_isWord yX11_isWord ∈ mj_W := mj_p4 (List.mem_of_getElem? (i := 15) rfl)
theorem c_X11_isSign : Cond.code yX11_isSign cX11_isSign 2 (some .boolean) ∈ mj_W := mj_t8 (List.mem_of_getElem? (i := 104) rfl) rfl
theorem i_X11_isSign : Cond.instanceMethod yX11_isSign ∈ mj_W := mj_t8 (List.mem_of_getElem? (i := 103) rfl) rfl
theorem e_X11_isSign : Cond.selects RX11 yX11_isSign yX11_isSign ∈ mj_W := mj_p5 (List.mem_of_getElem? (i := 5) rfl)
theorem c_X11_goOn : Cond.code yX11_goOn cX11_goOn 1 none ∈ mj_W := mj_t8 (List.mem_of_getElem? (i := 52) rfl) rfl
theorem i_X11_goOn : Cond.instanceMethod yX11_goOn ∈ mj_W := mj_t8 (List.mem_of_getElem? (i := 51) rfl) rfl
theorem e_X11_goOn : Cond.selects RX11 yX11_goOn yX11_goOn ∈ mj_W := mj_p4 (List.mem_of_getElem? (i := 8) rfl)
theorem c_X11_numeral : Cond.code yX11_numeral cX11_numeral 4 (some .int) ∈ mj_W := mj_t8 (List.mem_of_getElem? (i := 36) rfl) rfl
theorem i_X11_numeral : Cond.instanceMethod yX11_numeral ∈ mj_W := mj_t8 (List.mem_of_getElem? (i := 35) rfl) rfl
theorem e_X11_numeral : Cond.selects RX11 yX11_numeral yX11_numeral ∈ mj_W := mj_p4 (List.mem_of_getElem? (i := 4) rfl)
theorem c_X11_found : Cond.code yX11_found cX11_found 5 (some .int) ∈ mj_W := mj_t8 (List.mem_of_getElem? (i := 32) rfl) rfl
theorem s_X11_found : Cond.static yX11_found ∈ mj_W := mj_t8 (List.mem_of_getElem? (i := 31) rfl) rfl
theorem c_X11_fresh : Cond.code yX11_fresh cX11_fresh 5 (some .int) ∈ mj_W := mj_t8 (List.mem_of_getElem? (i := 29) rfl) rfl
theorem i_X11_fresh : Cond.instanceMethod yX11_fresh ∈ mj_W := mj_t8 (List.mem_of_getElem? (i := 28) rfl) rfl
theorem e_X11_fresh : Cond.selects RX11 yX11_fresh yX11_fresh ∈ mj_W := mj_p4 (List.mem_of_getElem? (i := 3) rfl)
theorem c_X11_fresher : Cond.code yX11_fresher cX11_fresher 2 (some .int) ∈ mj_W := mj_t8 (List.mem_of_getElem? (i := 25) rfl) rfl
theorem i_X11_fresher : Cond.instanceMethod yX11_fresher ∈ mj_W := mj_t8 (List.mem_of_getElem? (i := 24) rfl) rfl
theorem e_X11_fresher : Cond.selects RX11 yX11_fresher yX11_fresher ∈ mj_W := mj_p4 (List.mem_of_getElem? (i := 2) rfl)
theorem c_X11_reads : Cond.code yX11_reads cX11_reads 3 none ∈ mj_W := mj_t7 (List.mem_of_getElem? (i := 219) rfl) rfl
theorem i_X11_reads : Cond.instanceMethod yX11_reads ∈ mj_W := mj_t7 (List.mem_of_getElem? (i := 218) rfl) rfl
theorem e_X11_reads : Cond.selects RX11 yX11_reads yX11_reads ∈ mj_W := mj_p3 (List.mem_of_getElem? (i := 9) rfl)
theorem c_X11_pondAtHand : Cond.code yX11_pondAtHand cX11_pondAtHand 2 (some .int) ∈ mj_W := mj_t8 (List.mem_of_getElem? (i := 44) rfl) rfl
theorem i_X11_pondAtHand : Cond.instanceMethod yX11_pondAtHand ∈ mj_W := mj_t8 (List.mem_of_getElem? (i := 43) rfl) rfl
theorem e_X11_pondAtHand : Cond.selects RX11 yX11_pondAtHand yX11_pondAtHand ∈ mj_W := mj_p4 (List.mem_of_getElem? (i := 6) rfl)
theorem c_X11_lockWith : Cond.code yX11_lockWith cX11_lockWith 3 (some .int) ∈ mj_W := mj_t8 (List.mem_of_getElem? (i := 48) rfl) rfl
theorem i_X11_lockWith : Cond.instanceMethod yX11_lockWith ∈ mj_W := mj_t8 (List.mem_of_getElem? (i := 47) rfl) rfl
theorem e_X11_lockWith : Cond.selects RX11 yX11_lockWith yX11_lockWith ∈ mj_W := mj_p4 (List.mem_of_getElem? (i := 7) rfl)
theorem c_X11_isFull : Cond.code yX11_isFull cX11_isFull 2 (some .boolean) ∈ mj_W := mj_t8 (List.mem_of_getElem? (i := 21) rfl) rfl
theorem i_X11_isFull : Cond.instanceMethod yX11_isFull ∈ mj_W := mj_t8 (List.mem_of_getElem? (i := 20) rfl) rfl
theorem e_X11_isFull : Cond.selects RX11 yX11_isFull yX11_isFull ∈ mj_W := mj_p4 (List.mem_of_getElem? (i := 1) rfl)
theorem c_X11_lockLine : Cond.code yX11_lockLine cX11_lockLine 2 none ∈ mj_W := mj_t8 (List.mem_of_getElem? (i := 40) rfl) rfl
theorem i_X11_lockLine : Cond.instanceMethod yX11_lockLine ∈ mj_W := mj_t8 (List.mem_of_getElem? (i := 39) rfl) rfl
theorem e_X11_lockLine : Cond.selects RX11 yX11_lockLine yX11_lockLine ∈ mj_W := mj_p4 (List.mem_of_getElem? (i := 5) rfl)
theorem c_X11_pipeLine : Cond.code yX11_pipeLine cX11_pipeLine 3 none ∈ mj_W := mj_t8 (List.mem_of_getElem? (i := 56) rfl) rfl
theorem i_X11_pipeLine : Cond.instanceMethod yX11_pipeLine ∈ mj_W := mj_t8 (List.mem_of_getElem? (i := 55) rfl) rfl
theorem e_X11_pipeLine : Cond.selects RX11 yX11_pipeLine yX11_pipeLine ∈ mj_W := mj_p4 (List.mem_of_getElem? (i := 9) rfl)
theorem c_X11_turnLine : Cond.code yX11_turnLine cX11_turnLine 2 none ∈ mj_W := mj_t8 (List.mem_of_getElem? (i := 60) rfl) rfl
theorem i_X11_turnLine : Cond.instanceMethod yX11_turnLine ∈ mj_W := mj_t8 (List.mem_of_getElem? (i := 59) rfl) rfl
theorem e_X11_turnLine : Cond.selects RX11 yX11_turnLine yX11_turnLine ∈ mj_W := mj_p4 (List.mem_of_getElem? (i := 10) rfl)
theorem c_X11_knot : Cond.code yX11_knot cX11_knot 1 none ∈ mj_W := mj_t8 (List.mem_of_getElem? (i := 84) rfl) rfl
theorem i_X11_knot : Cond.instanceMethod yX11_knot ∈ mj_W := mj_t8 (List.mem_of_getElem? (i := 83) rfl) rfl
theorem e_X11_knot : Cond.selects RX11 yX11_knot yX11_knot ∈ mj_W := mj_p5 (List.mem_of_getElem? (i := 0) rfl)
theorem c_X11_puts : Cond.code yX11_puts cX11_puts 3 none ∈ mj_W := mj_t8 (List.mem_of_getElem? (i := 88) rfl) rfl
theorem i_X11_puts : Cond.instanceMethod yX11_puts ∈ mj_W := mj_t8 (List.mem_of_getElem? (i := 87) rfl) rfl
theorem e_X11_puts : Cond.selects RX11 yX11_puts yX11_puts ∈ mj_W := mj_p5 (List.mem_of_getElem? (i := 1) rfl)
theorem c_X11_expression : Cond.code yX11_expression cX11_expression 1 none ∈ mj_W := mj_t8 (List.mem_of_getElem? (i := 68) rfl) rfl
theorem i_X11_expression : Cond.instanceMethod yX11_expression ∈ mj_W := mj_t8 (List.mem_of_getElem? (i := 67) rfl) rfl
theorem e_X11_expression : Cond.selects RX11 yX11_expression yX11_expression ∈ mj_W := mj_p4 (List.mem_of_getElem? (i := 12) rfl)
theorem c_X11_negation : Cond.code yX11_negation cX11_negation 2 none ∈ mj_W := mj_t8 (List.mem_of_getElem? (i := 76) rfl) rfl
theorem i_X11_negation : Cond.instanceMethod yX11_negation ∈ mj_W := mj_t8 (List.mem_of_getElem? (i := 75) rfl) rfl
theorem e_X11_negation : Cond.selects RX11 yX11_negation yX11_negation ∈ mj_W := mj_p4 (List.mem_of_getElem? (i := 14) rfl)
theorem c_X11_primary : Cond.code yX11_primary cX11_primary 2 none ∈ mj_W := mj_t8 (List.mem_of_getElem? (i := 100) rfl) rfl
theorem i_X11_primary : Cond.instanceMethod yX11_primary ∈ mj_W := mj_t8 (List.mem_of_getElem? (i := 99) rfl) rfl
theorem e_X11_primary : Cond.selects RX11 yX11_primary yX11_primary ∈ mj_W := mj_p5 (List.mem_of_getElem? (i := 4) rfl)
theorem c_X11_product : Cond.code yX11_product cX11_product 2 none ∈ mj_W := mj_t8 (List.mem_of_getElem? (i := 96) rfl) rfl
theorem i_X11_product : Cond.instanceMethod yX11_product ∈ mj_W := mj_t8 (List.mem_of_getElem? (i := 95) rfl) rfl
theorem e_X11_product : Cond.selects RX11 yX11_product yX11_product ∈ mj_W := mj_p5 (List.mem_of_getElem? (i := 3) rfl)
theorem c_X11_sum : Cond.code yX11_sum cX11_sum 2 none ∈ mj_W := mj_t8 (List.mem_of_getElem? (i := 92) rfl) rfl
theorem i_X11_sum : Cond.instanceMethod yX11_sum ∈ mj_W := mj_t8 (List.mem_of_getElem? (i := 91) rfl) rfl
theorem e_X11_sum : Cond.selects RX11 yX11_sum yX11_sum ∈ mj_W := mj_p5 (List.mem_of_getElem? (i := 2) rfl)
theorem c_X11_conjunction : Cond.code yX11_conjunction cX11_conjunction 1 none ∈ mj_W := mj_t8 (List.mem_of_getElem? (i := 72) rfl) rfl
theorem i_X11_conjunction : Cond.instanceMethod yX11_conjunction ∈ mj_W := mj_t8 (List.mem_of_getElem? (i := 71) rfl) rfl
theorem e_X11_conjunction : Cond.selects RX11 yX11_conjunction yX11_conjunction ∈ mj_W := mj_p4 (List.mem_of_getElem? (i := 13) rfl)
theorem c_X11_lawLine : Cond.code yX11_lawLine cX11_lawLine 2 none ∈ mj_W := mj_t8 (List.mem_of_getElem? (i := 64) rfl) rfl
theorem i_X11_lawLine : Cond.instanceMethod yX11_lawLine ∈ mj_W := mj_t8 (List.mem_of_getElem? (i := 63) rfl) rfl
theorem e_X11_lawLine : Cond.selects RX11 yX11_lawLine yX11_lawLine ∈ mj_W := mj_p4 (List.mem_of_getElem? (i := 11) rfl)
theorem c_X11_line : Cond.code yX11_line cX11_line 5 none ∈ mj_W := mj_t8 (List.mem_of_getElem? (i := 13) rfl) rfl
theorem i_X11_line : Cond.instanceMethod yX11_line ∈ mj_W := mj_t8 (List.mem_of_getElem? (i := 12) rfl) rfl
theorem e_X11_line : Cond.selects RX11 yX11_line yX11_line ∈ mj_W := mj_p3 (List.mem_of_getElem? (i := 15) rfl)
theorem c_X11_half : Cond.code yX11_half cX11_half 3 none ∈ mj_W := mj_t8 (List.mem_of_getElem? (i := 107) rfl) rfl
theorem s_X11_half : Cond.static yX11_half ∈ mj_W := mj_t8 (List.mem_of_getElem? (i := 106) rfl) rfl
theorem c_X11_text : Cond.code yX11_text cX11_text 3 (some .int) ∈ mj_W := mj_t7 (List.mem_of_getElem? (i := 215) rfl) rfl
theorem i_X11_text : Cond.instanceMethod yX11_text ∈ mj_W := mj_t7 (List.mem_of_getElem? (i := 213) rfl) rfl
theorem e_X11_text : Cond.selects RX11 yX11_text yX11_text ∈ mj_W := mj_t7 (List.mem_of_getElem? (i := 214) rfl) rfl
theorem c_X11_fault : Cond.code yX11_fault cX11_fault 2 (some .int) ∈ mj_W := mj_t8 (List.mem_of_getElem? (i := 111) rfl) rfl
theorem i_X11_fault : Cond.instanceMethod yX11_fault ∈ mj_W := mj_t8 (List.mem_of_getElem? (i := 109) rfl) rfl
theorem e_X11_fault : Cond.selects RX11 yX11_fault yX11_fault ∈ mj_W := mj_t8 (List.mem_of_getElem? (i := 110) rfl) rfl
theorem c_X11_named : Cond.code yX11_named cX11_named 2 (some .int) ∈ mj_W := mj_t8 (List.mem_of_getElem? (i := 115) rfl) rfl
theorem i_X11_named : Cond.instanceMethod yX11_named ∈ mj_W := mj_t8 (List.mem_of_getElem? (i := 113) rfl) rfl
theorem e_X11_named : Cond.selects RX11 yX11_named yX11_named ∈ mj_W := mj_t8 (List.mem_of_getElem? (i := 114) rfl) rfl
theorem c_X11_is : Cond.code yX11_is cX11_is 1 (some .long) ∈ mj_W := mj_t8 (List.mem_of_getElem? (i := 227) rfl) rfl
theorem s_X11_is : Cond.static yX11_is ∈ mj_W := mj_t8 (List.mem_of_getElem? (i := 226) rfl) rfl
theorem c_X11_works : Cond.code yX11_works cX11_works 8 (some .boolean) ∈ mj_W := mj_t8 (List.mem_of_getElem? (i := 224) rfl) rfl
theorem i_X11_works : Cond.instanceMethod yX11_works ∈ mj_W := mj_t8 (List.mem_of_getElem? (i := 223) rfl) rfl
theorem e_X11_works : Cond.selects RX11 yX11_works yX11_works ∈ mj_W := mj_p6 (List.mem_of_getElem? (i := 7) rfl)
theorem c_Mabsl : Cond.code Lib.MathLoose.abs_long.x Lib.MathLoose.abs_long.code 2 (some .long) ∈ mj_W := mj_t8 (List.mem_of_getElem? (i := 230) rfl) rfl
theorem s_Mabsl : Cond.static Lib.MathLoose.abs_long.x ∈ mj_W := mj_t8 (List.mem_of_getElem? (i := 229) rfl) rfl
theorem c_X11_goes : Cond.code yX11_goes cX11_goes 3 (some .boolean) ∈ mj_W := mj_t8 (List.mem_of_getElem? (i := 220) rfl) rfl
theorem i_X11_goes : Cond.instanceMethod yX11_goes ∈ mj_W := mj_t8 (List.mem_of_getElem? (i := 219) rfl) rfl
theorem e_X11_goes : Cond.selects RX11 yX11_goes yX11_goes ∈ mj_W := mj_p6 (List.mem_of_getElem? (i := 6) rfl)
theorem c_X11_hasLaw : Cond.code yX11_hasLaw cX11_hasLaw 2 (some .boolean) ∈ mj_W := mj_t8 (List.mem_of_getElem? (i := 195) rfl) rfl
theorem i_X11_hasLaw : Cond.instanceMethod yX11_hasLaw ∈ mj_W := mj_t8 (List.mem_of_getElem? (i := 194) rfl) rfl
theorem e_X11_hasLaw : Cond.selects RX11 yX11_hasLaw yX11_hasLaw ∈ mj_W := mj_p6 (List.mem_of_getElem? (i := 0) rfl)
theorem c_X11_copies : Cond.code yX11_copies cX11_copies 4 none ∈ mj_W := mj_t9 (List.mem_of_getElem? (i := 17) rfl) rfl
theorem i_X11_copies : Cond.instanceMethod yX11_copies ∈ mj_W := mj_t9 (List.mem_of_getElem? (i := 16) rfl) rfl
theorem e_X11_copies : Cond.selects RX11 yX11_copies yX11_copies ∈ mj_W := mj_p6 (List.mem_of_getElem? (i := 11) rfl)
theorem c_X11_isPond : Cond.code yX11_isPond cX11_isPond 2 (some .boolean) ∈ mj_W := mj_t8 (List.mem_of_getElem? (i := 123) rfl) rfl
theorem i_X11_isPond : Cond.instanceMethod yX11_isPond ∈ mj_W := mj_t8 (List.mem_of_getElem? (i := 122) rfl) rfl
theorem e_X11_isPond : Cond.selects RX11 yX11_isPond yX11_isPond ∈ mj_W := mj_p5 (List.mem_of_getElem? (i := 6) rfl)
theorem c_X11_isPipe : Cond.code yX11_isPipe cX11_isPipe 2 (some .boolean) ∈ mj_W := mj_t8 (List.mem_of_getElem? (i := 155) rfl) rfl
theorem i_X11_isPipe : Cond.instanceMethod yX11_isPipe ∈ mj_W := mj_t8 (List.mem_of_getElem? (i := 154) rfl) rfl
theorem e_X11_isPipe : Cond.selects RX11 yX11_isPipe yX11_isPipe ∈ mj_W := mj_p5 (List.mem_of_getElem? (i := 9) rfl)
theorem c_X11_isLock : Cond.code yX11_isLock cX11_isLock 2 (some .boolean) ∈ mj_W := mj_t8 (List.mem_of_getElem? (i := 175) rfl) rfl
theorem i_X11_isLock : Cond.instanceMethod yX11_isLock ∈ mj_W := mj_t8 (List.mem_of_getElem? (i := 174) rfl) rfl
theorem e_X11_isLock : Cond.selects RX11 yX11_isLock yX11_isLock ∈ mj_W := mj_p5 (List.mem_of_getElem? (i := 13) rfl)
theorem c_X11_isBoat : Cond.code yX11_isBoat cX11_isBoat 2 (some .boolean) ∈ mj_W := mj_t8 (List.mem_of_getElem? (i := 187) rfl) rfl
theorem i_X11_isBoat : Cond.instanceMethod yX11_isBoat ∈ mj_W := mj_t8 (List.mem_of_getElem? (i := 186) rfl) rfl
theorem e_X11_isBoat : Cond.selects RX11 yX11_isBoat yX11_isBoat ∈ mj_W := mj_p5 (List.mem_of_getElem? (i := 15) rfl)
theorem c_X11_bitsOf : Cond.code yX11_bitsOf cX11_bitsOf 3 (some .int) ∈ mj_W := mj_t9 (List.mem_of_getElem? (i := 89) rfl) rfl
theorem s_X11_bitsOf : Cond.static yX11_bitsOf ∈ mj_W := mj_t9 (List.mem_of_getElem? (i := 88) rfl) rfl
theorem c_X11_fullOf : Cond.code yX11_fullOf cX11_fullOf 3 (some .int) ∈ mj_W := mj_t8 (List.mem_of_getElem? (i := 141) rfl) rfl
theorem i_X11_fullOf : Cond.instanceMethod yX11_fullOf ∈ mj_W := mj_t8 (List.mem_of_getElem? (i := 140) rfl) rfl
theorem e_X11_fullOf : Cond.selects RX11 yX11_fullOf yX11_fullOf ∈ mj_W := mj_p5 (List.mem_of_getElem? (i := 8) rfl)
theorem c_X11_higherBy : Cond.code yX11_higherBy cX11_higherBy 4 (some .int) ∈ mj_W := mj_t8 (List.mem_of_getElem? (i := 204) rfl) rfl
theorem i_X11_higherBy : Cond.instanceMethod yX11_higherBy ∈ mj_W := mj_t8 (List.mem_of_getElem? (i := 203) rfl) rfl
theorem e_X11_higherBy : Cond.selects RX11 yX11_higherBy yX11_higherBy ∈ mj_W := mj_p6 (List.mem_of_getElem? (i := 2) rfl)
theorem c_X11_isHigh : Cond.code yX11_isHigh cX11_isHigh 4 (some .boolean) ∈ mj_W := mj_t9 (List.mem_of_getElem? (i := 74) rfl) rfl
theorem i_X11_isHigh : Cond.instanceMethod yX11_isHigh ∈ mj_W := mj_t9 (List.mem_of_getElem? (i := 73) rfl) rfl
theorem e_X11_isHigh : Cond.selects RX11 yX11_isHigh yX11_isHigh ∈ mj_W := mj_p7 (List.mem_of_getElem? (i := 4) rfl)
theorem c_X11_sourceOf : Cond.code yX11_sourceOf cX11_sourceOf 3 (some .int) ∈ mj_W := mj_t8 (List.mem_of_getElem? (i := 200) rfl) rfl
theorem i_X11_sourceOf : Cond.instanceMethod yX11_sourceOf ∈ mj_W := mj_t8 (List.mem_of_getElem? (i := 199) rfl) rfl
theorem e_X11_sourceOf : Cond.selects RX11 yX11_sourceOf yX11_sourceOf ∈ mj_W := mj_p6 (List.mem_of_getElem? (i := 1) rfl)
theorem c_X11_sinkOf : Cond.code yX11_sinkOf cX11_sinkOf 3 (some .int) ∈ mj_W := mj_t9 (List.mem_of_getElem? (i := 4) rfl) rfl
theorem i_X11_sinkOf : Cond.instanceMethod yX11_sinkOf ∈ mj_W := mj_t9 (List.mem_of_getElem? (i := 3) rfl) rfl
theorem e_X11_sinkOf : Cond.selects RX11 yX11_sinkOf yX11_sinkOf ∈ mj_W := mj_p6 (List.mem_of_getElem? (i := 9) rfl)
theorem c_X11_runOf : Cond.code yX11_runOf cX11_runOf 5 (some .int) ∈ mj_W := mj_t9 (List.mem_of_getElem? (i := 0) rfl) rfl
theorem i_X11_runOf : Cond.instanceMethod yX11_runOf ∈ mj_W := mj_t8 (List.mem_of_getElem? (i := 239) rfl) rfl
theorem e_X11_runOf : Cond.selects RX11 yX11_runOf yX11_runOf ∈ mj_W := mj_p6 (List.mem_of_getElem? (i := 8) rfl)
theorem c_X11_flows : Cond.code yX11_flows cX11_flows 7 (some .int) ∈ mj_W := mj_t9 (List.mem_of_getElem? (i := 21) rfl) rfl
theorem i_X11_flows : Cond.instanceMethod yX11_flows ∈ mj_W := mj_t9 (List.mem_of_getElem? (i := 20) rfl) rfl
theorem e_X11_flows : Cond.selects RX11 yX11_flows yX11_flows ∈ mj_W := mj_p6 (List.mem_of_getElem? (i := 12) rfl)
theorem c_X11_isJammed : Cond.code yX11_isJammed cX11_isJammed 3 (some .boolean) ∈ mj_W := mj_t8 (List.mem_of_getElem? (i := 163) rfl) rfl
theorem i_X11_isJammed : Cond.instanceMethod yX11_isJammed ∈ mj_W := mj_t8 (List.mem_of_getElem? (i := 162) rfl) rfl
theorem e_X11_isJammed : Cond.selects RX11 yX11_isJammed yX11_isJammed ∈ mj_W := mj_p5 (List.mem_of_getElem? (i := 11) rfl)
theorem c_X11_isTurned : Cond.code yX11_isTurned cX11_isTurned 4 (some .boolean) ∈ mj_W := mj_t8 (List.mem_of_getElem? (i := 167) rfl) rfl
theorem i_X11_isTurned : Cond.instanceMethod yX11_isTurned ∈ mj_W := mj_t8 (List.mem_of_getElem? (i := 166) rfl) rfl
theorem e_X11_isTurned : Cond.selects RX11 yX11_isTurned yX11_isTurned ∈ mj_W := mj_p5 (List.mem_of_getElem? (i := 12) rfl)
theorem c_X11_isOpen : Cond.code yX11_isOpen cX11_isOpen 3 (some .boolean) ∈ mj_W := mj_t8 (List.mem_of_getElem? (i := 159) rfl) rfl
theorem i_X11_isOpen : Cond.instanceMethod yX11_isOpen ∈ mj_W := mj_t8 (List.mem_of_getElem? (i := 158) rfl) rfl
theorem e_X11_isOpen : Cond.selects RX11 yX11_isOpen yX11_isOpen ∈ mj_W := mj_p5 (List.mem_of_getElem? (i := 10) rfl)
theorem c_X11_openMany : Cond.code yX11_openMany cX11_openMany 4 (some .int) ∈ mj_W := mj_t8 (List.mem_of_getElem? (i := 212) rfl) rfl
theorem i_X11_openMany : Cond.instanceMethod yX11_openMany ∈ mj_W := mj_t8 (List.mem_of_getElem? (i := 211) rfl) rfl
theorem e_X11_openMany : Cond.selects RX11 yX11_openMany yX11_openMany ∈ mj_W := mj_p6 (List.mem_of_getElem? (i := 4) rfl)
theorem c_X11_boatsOf : Cond.code yX11_boatsOf cX11_boatsOf 5 (some .int) ∈ mj_W := mj_t8 (List.mem_of_getElem? (i := 216) rfl) rfl
theorem i_X11_boatsOf : Cond.instanceMethod yX11_boatsOf ∈ mj_W := mj_t8 (List.mem_of_getElem? (i := 215) rfl) rfl
theorem e_X11_boatsOf : Cond.selects RX11 yX11_boatsOf yX11_boatsOf ∈ mj_W := mj_p6 (List.mem_of_getElem? (i := 5) rfl)
theorem c_X11_calls : Cond.code yX11_calls cX11_calls 4 none ∈ mj_W := mj_t8 (List.mem_of_getElem? (i := 208) rfl) rfl
theorem i_X11_calls : Cond.instanceMethod yX11_calls ∈ mj_W := mj_t8 (List.mem_of_getElem? (i := 207) rfl) rfl
theorem e_X11_calls : Cond.selects RX11 yX11_calls yX11_calls ∈ mj_W := mj_p6 (List.mem_of_getElem? (i := 3) rfl)
theorem c_X11_within : Cond.code yX11_within cX11_within 4 (some .int) ∈ mj_W := mj_t9 (List.mem_of_getElem? (i := 54) rfl) rfl
theorem i_X11_within : Cond.instanceMethod yX11_within ∈ mj_W := mj_t9 (List.mem_of_getElem? (i := 53) rfl) rfl
theorem e_X11_within : Cond.selects RX11 yX11_within yX11_within ∈ mj_W := mj_p7 (List.mem_of_getElem? (i := 0) rfl)
theorem c_X11_doesJam : Cond.code yX11_doesJam cX11_doesJam 4 (some .boolean) ∈ mj_W := mj_t9 (List.mem_of_getElem? (i := 60) rfl) rfl
theorem i_X11_doesJam : Cond.instanceMethod yX11_doesJam ∈ mj_W := mj_t9 (List.mem_of_getElem? (i := 59) rfl) rfl
theorem e_X11_doesJam : Cond.selects RX11 yX11_doesJam yX11_doesJam ∈ mj_W := mj_p7 (List.mem_of_getElem? (i := 1) rfl)
theorem c_X11_opens : Cond.code yX11_opens cX11_opens 4 none ∈ mj_W := mj_t9 (List.mem_of_getElem? (i := 50) rfl) rfl
theorem i_X11_opens : Cond.instanceMethod yX11_opens ∈ mj_W := mj_t9 (List.mem_of_getElem? (i := 49) rfl) rfl
theorem e_X11_opens : Cond.selects RX11 yX11_opens yX11_opens ∈ mj_W := mj_p6 (List.mem_of_getElem? (i := 15) rfl)
theorem c_X11_more : Cond.code yX11_more cX11_more 3 (some .int) ∈ mj_W := mj_t9 (List.mem_of_getElem? (i := 29) rfl) rfl
theorem i_X11_more : Cond.instanceMethod yX11_more ∈ mj_W := mj_t9 (List.mem_of_getElem? (i := 28) rfl) rfl
theorem e_X11_more : Cond.selects RX11 yX11_more yX11_more ∈ mj_W := mj_p6 (List.mem_of_getElem? (i := 13) rfl)
theorem c_X11_loses : Cond.code yX11_loses cX11_loses 5 none ∈ mj_W := mj_t9 (List.mem_of_getElem? (i := 66) rfl) rfl
theorem i_X11_loses : Cond.instanceMethod yX11_loses ∈ mj_W := mj_t9 (List.mem_of_getElem? (i := 65) rfl) rfl
theorem e_X11_loses : Cond.selects RX11 yX11_loses yX11_loses ∈ mj_W := mj_p7 (List.mem_of_getElem? (i := 2) rfl)
theorem c_X11_boatIn : Cond.code yX11_boatIn cX11_boatIn 4 (some .int) ∈ mj_W := mj_t8 (List.mem_of_getElem? (i := 179) rfl) rfl
theorem i_X11_boatIn : Cond.instanceMethod yX11_boatIn ∈ mj_W := mj_t8 (List.mem_of_getElem? (i := 178) rfl) rfl
theorem e_X11_boatIn : Cond.selects RX11 yX11_boatIn yX11_boatIn ∈ mj_W := mj_p5 (List.mem_of_getElem? (i := 14) rfl)
theorem c_X11_moves : Cond.code yX11_moves cX11_moves 7 none ∈ mj_W := mj_t9 (List.mem_of_getElem? (i := 70) rfl) rfl
theorem i_X11_moves : Cond.instanceMethod yX11_moves ∈ mj_W := mj_t9 (List.mem_of_getElem? (i := 69) rfl) rfl
theorem e_X11_moves : Cond.selects RX11 yX11_moves yX11_moves ∈ mj_W := mj_p7 (List.mem_of_getElem? (i := 3) rfl)
theorem c_X11_passes : Cond.code yX11_passes cX11_passes 4 none ∈ mj_W := mj_t9 (List.mem_of_getElem? (i := 46) rfl) rfl
theorem i_X11_passes : Cond.instanceMethod yX11_passes ∈ mj_W := mj_t9 (List.mem_of_getElem? (i := 45) rfl) rfl
theorem e_X11_passes : Cond.selects RX11 yX11_passes yX11_passes ∈ mj_W := mj_p6 (List.mem_of_getElem? (i := 14) rfl)
theorem c_X11_goesOn : Cond.code yX11_goesOn cX11_goesOn 3 none ∈ mj_W := mj_t9 (List.mem_of_getElem? (i := 82) rfl) rfl
theorem i_X11_goesOn : Cond.instanceMethod yX11_goesOn ∈ mj_W := mj_t9 (List.mem_of_getElem? (i := 81) rfl) rfl
theorem e_X11_goesOn : Cond.selects RX11 yX11_goesOn yX11_goesOn ∈ mj_W := mj_p7 (List.mem_of_getElem? (i := 5) rfl)
theorem c_X11_sumOf : Cond.code yX11_sumOf cX11_sumOf 6 (some .int) ∈ mj_W := mj_t9 (List.mem_of_getElem? (i := 86) rfl) rfl
theorem i_X11_sumOf : Cond.instanceMethod yX11_sumOf ∈ mj_W := mj_t9 (List.mem_of_getElem? (i := 85) rfl) rfl
theorem e_X11_sumOf : Cond.selects RX11 yX11_sumOf yX11_sumOf ∈ mj_W := mj_p7 (List.mem_of_getElem? (i := 6) rfl)
theorem c_X11_common : Cond.code yX11_common cX11_common 5 (some .int) ∈ mj_W := mj_t8 (List.mem_of_getElem? (i := 147) rfl) rfl
theorem s_X11_common : Cond.static yX11_common ∈ mj_W := mj_t8 (List.mem_of_getElem? (i := 146) rfl) rfl
theorem c_X11_part : Cond.code yX11_part cX11_part 4 (some .int) ∈ mj_W := mj_t8 (List.mem_of_getElem? (i := 144) rfl) rfl
theorem s_X11_part : Cond.static yX11_part ∈ mj_W := mj_t8 (List.mem_of_getElem? (i := 143) rfl) rfl
theorem c_X11_isPart : Cond.code yX11_isPart cX11_isPart 1 (some .boolean) ∈ mj_W := mj_t8 (List.mem_of_getElem? (i := 137) rfl) rfl
theorem s_X11_isPart : Cond.static yX11_isPart ∈ mj_W := mj_t8 (List.mem_of_getElem? (i := 136) rfl) rfl
theorem c_X11_orNone : Cond.code yX11_orNone cX11_orNone 1 (some .int) ∈ mj_W := mj_t8 (List.mem_of_getElem? (i := 130) rfl) rfl
theorem s_X11_orNone : Cond.static yX11_orNone ∈ mj_W := mj_t8 (List.mem_of_getElem? (i := 129) rfl) rfl
theorem c_X11_lockOf : Cond.code yX11_lockOf cX11_lockOf 3 (some .int) ∈ mj_W := mj_t8 (List.mem_of_getElem? (i := 127) rfl) rfl
theorem i_X11_lockOf : Cond.instanceMethod yX11_lockOf ∈ mj_W := mj_t8 (List.mem_of_getElem? (i := 126) rfl) rfl
theorem e_X11_lockOf : Cond.selects RX11 yX11_lockOf yX11_lockOf ∈ mj_W := mj_p5 (List.mem_of_getElem? (i := 7) rfl)
theorem c_X11_pond : Cond.code yX11_pond cX11_pond 3 (some .int) ∈ mj_W := mj_t8 (List.mem_of_getElem? (i := 119) rfl) rfl
theorem i_X11_pond : Cond.instanceMethod yX11_pond ∈ mj_W := mj_t8 (List.mem_of_getElem? (i := 117) rfl) rfl
theorem e_X11_pond : Cond.selects RX11 yX11_pond yX11_pond ∈ mj_W := mj_t8 (List.mem_of_getElem? (i := 118) rfl) rfl
theorem c_X11_level : Cond.code yX11_level cX11_level 3 (some .int) ∈ mj_W := mj_t8 (List.mem_of_getElem? (i := 134) rfl) rfl
theorem i_X11_level : Cond.instanceMethod yX11_level ∈ mj_W := mj_t8 (List.mem_of_getElem? (i := 132) rfl) rfl
theorem e_X11_level : Cond.selects RX11 yX11_level yX11_level ∈ mj_W := mj_t8 (List.mem_of_getElem? (i := 133) rfl) rfl
theorem c_X11_pipe : Cond.code yX11_pipe cX11_pipe 3 (some .int) ∈ mj_W := mj_t8 (List.mem_of_getElem? (i := 151) rfl) rfl
theorem i_X11_pipe : Cond.instanceMethod yX11_pipe ∈ mj_W := mj_t8 (List.mem_of_getElem? (i := 149) rfl) rfl
theorem e_X11_pipe : Cond.selects RX11 yX11_pipe yX11_pipe ∈ mj_W := mj_t8 (List.mem_of_getElem? (i := 150) rfl) rfl
theorem c_X11_lock : Cond.code yX11_lock cX11_lock 3 (some .int) ∈ mj_W := mj_t8 (List.mem_of_getElem? (i := 171) rfl) rfl
theorem i_X11_lock : Cond.instanceMethod yX11_lock ∈ mj_W := mj_t8 (List.mem_of_getElem? (i := 169) rfl) rfl
theorem e_X11_lock : Cond.selects RX11 yX11_lock yX11_lock ∈ mj_W := mj_t8 (List.mem_of_getElem? (i := 170) rfl) rfl
theorem c_X11_boat : Cond.code yX11_boat cX11_boat 3 (some .int) ∈ mj_W := mj_t8 (List.mem_of_getElem? (i := 183) rfl) rfl
theorem i_X11_boat : Cond.instanceMethod yX11_boat ∈ mj_W := mj_t8 (List.mem_of_getElem? (i := 181) rfl) rfl
theorem e_X11_boat : Cond.selects RX11 yX11_boat yX11_boat ∈ mj_W := mj_t8 (List.mem_of_getElem? (i := 182) rfl) rfl
theorem c_X11_law : Cond.code yX11_law cX11_law 4 (some .long) ∈ mj_W := mj_t8 (List.mem_of_getElem? (i := 191) rfl) rfl
theorem i_X11_law : Cond.instanceMethod yX11_law ∈ mj_W := mj_t8 (List.mem_of_getElem? (i := 189) rfl) rfl
theorem e_X11_law : Cond.selects RX11 yX11_law yX11_law ∈ mj_W := mj_t8 (List.mem_of_getElem? (i := 190) rfl) rfl
theorem c_X11_runs : Cond.code yX11_runs cX11_runs 3 (some .int) ∈ mj_W := mj_t8 (List.mem_of_getElem? (i := 236) rfl) rfl
theorem i_X11_runs : Cond.instanceMethod yX11_runs ∈ mj_W := mj_t8 (List.mem_of_getElem? (i := 234) rfl) rfl
theorem e_X11_runs : Cond.selects RX11 yX11_runs yX11_runs ∈ mj_W := mj_t8 (List.mem_of_getElem? (i := 235) rfl) rfl
theorem c_X11_keepNow : Cond.code yX11_keepNow cX11_keepNow 2 none ∈ mj_W := mj_t9 (List.mem_of_getElem? (i := 13) rfl) rfl
theorem i_X11_keepNow : Cond.instanceMethod yX11_keepNow ∈ mj_W := mj_t9 (List.mem_of_getElem? (i := 12) rfl) rfl
theorem e_X11_keepNow : Cond.selects RX11 yX11_keepNow yX11_keepNow ∈ mj_W := mj_p6 (List.mem_of_getElem? (i := 10) rfl)
theorem c_X11_draw : Cond.code yX11_draw cX11_draw 3 (some .int) ∈ mj_W := mj_t9 (List.mem_of_getElem? (i := 9) rfl) rfl
theorem i_X11_draw : Cond.instanceMethod yX11_draw ∈ mj_W := mj_t9 (List.mem_of_getElem? (i := 7) rfl) rfl
theorem e_X11_draw : Cond.selects RX11 yX11_draw yX11_draw ∈ mj_W := mj_t9 (List.mem_of_getElem? (i := 8) rfl) rfl
theorem c_X11_fill : Cond.code yX11_fill cX11_fill 3 (some .int) ∈ mj_W := mj_t9 (List.mem_of_getElem? (i := 25) rfl) rfl
theorem i_X11_fill : Cond.instanceMethod yX11_fill ∈ mj_W := mj_t9 (List.mem_of_getElem? (i := 23) rfl) rfl
theorem e_X11_fill : Cond.selects RX11 yX11_fill yX11_fill ∈ mj_W := mj_t9 (List.mem_of_getElem? (i := 24) rfl) rfl
theorem c_X11_spill : Cond.code yX11_spill cX11_spill 3 (some .int) ∈ mj_W := mj_t9 (List.mem_of_getElem? (i := 34) rfl) rfl
theorem i_X11_spill : Cond.instanceMethod yX11_spill ∈ mj_W := mj_t9 (List.mem_of_getElem? (i := 32) rfl) rfl
theorem e_X11_spill : Cond.selects RX11 yX11_spill yX11_spill ∈ mj_W := mj_t9 (List.mem_of_getElem? (i := 33) rfl) rfl
theorem c_X11_mend : Cond.code yX11_mend cX11_mend 2 (some .boolean) ∈ mj_W := mj_t9 (List.mem_of_getElem? (i := 38) rfl) rfl
theorem i_X11_mend : Cond.instanceMethod yX11_mend ∈ mj_W := mj_t9 (List.mem_of_getElem? (i := 36) rfl) rfl
theorem e_X11_mend : Cond.selects RX11 yX11_mend yX11_mend ∈ mj_W := mj_t9 (List.mem_of_getElem? (i := 37) rfl) rfl
theorem c_X11_go : Cond.code yX11_go cX11_go 3 (some .int) ∈ mj_W := mj_t9 (List.mem_of_getElem? (i := 42) rfl) rfl
theorem i_X11_go : Cond.instanceMethod yX11_go ∈ mj_W := mj_t9 (List.mem_of_getElem? (i := 40) rfl) rfl
theorem e_X11_go : Cond.selects RX11 yX11_go yX11_go ∈ mj_W := mj_t9 (List.mem_of_getElem? (i := 41) rfl) rfl
theorem c_X11_ahead : Cond.code yX11_ahead cX11_ahead 4 (some .int) ∈ mj_W := mj_t9 (List.mem_of_getElem? (i := 78) rfl) rfl
theorem i_X11_ahead : Cond.instanceMethod yX11_ahead ∈ mj_W := mj_t9 (List.mem_of_getElem? (i := 76) rfl) rfl
theorem e_X11_ahead : Cond.selects RX11 yX11_ahead yX11_ahead ∈ mj_W := mj_t9 (List.mem_of_getElem? (i := 77) rfl) rfl
theorem c_X11_upWhen : Cond.code yX11_upWhen cX11_upWhen 3 (some .int) ∈ mj_W := mj_t9 (List.mem_of_getElem? (i := 93) rfl) rfl
theorem i_X11_upWhen : Cond.instanceMethod yX11_upWhen ∈ mj_W := mj_t9 (List.mem_of_getElem? (i := 91) rfl) rfl
theorem e_X11_upWhen : Cond.selects RX11 yX11_upWhen yX11_upWhen ∈ mj_W := mj_t9 (List.mem_of_getElem? (i := 92) rfl) rfl
theorem c_X11_joinedBy : Cond.code yX11_joinedBy cX11_joinedBy 10 (some .int) ∈ mj_W := mj_t9 (List.mem_of_getElem? (i := 101) rfl) rfl
theorem i_X11_joinedBy : Cond.instanceMethod yX11_joinedBy ∈ mj_W := mj_t9 (List.mem_of_getElem? (i := 100) rfl) rfl
theorem e_X11_joinedBy : Cond.selects RX11 yX11_joinedBy yX11_joinedBy ∈ mj_W := mj_p7 (List.mem_of_getElem? (i := 7) rfl)
theorem c_X11_joined : Cond.code yX11_joined cX11_joined 3 (some .int) ∈ mj_W := mj_t9 (List.mem_of_getElem? (i := 97) rfl) rfl
theorem i_X11_joined : Cond.instanceMethod yX11_joined ∈ mj_W := mj_t9 (List.mem_of_getElem? (i := 95) rfl) rfl
theorem e_X11_joined : Cond.selects RX11 yX11_joined yX11_joined ∈ mj_W := mj_t9 (List.mem_of_getElem? (i := 96) rfl) rfl
theorem c_X11_isHeight : Cond.code yX11_isHeight cX11_isHeight 1 (some .boolean) ∈ mj_W := mj_t9 (List.mem_of_getElem? (i := 108) rfl) rfl
theorem s_X11_isHeight : Cond.static yX11_isHeight ∈ mj_W := mj_t9 (List.mem_of_getElem? (i := 107) rfl) rfl
theorem c_X11_overOf : Cond.code yX11_overOf cX11_overOf 3 (some .int) ∈ mj_W := mj_t9 (List.mem_of_getElem? (i := 112) rfl) rfl
theorem i_X11_overOf : Cond.instanceMethod yX11_overOf ∈ mj_W := mj_t9 (List.mem_of_getElem? (i := 111) rfl) rfl
theorem e_X11_overOf : Cond.selects RX11 yX11_overOf yX11_overOf ∈ mj_W := mj_p7 (List.mem_of_getElem? (i := 8) rfl)
theorem c_X11_needs : Cond.code yX11_needs cX11_needs 3 (some .int) ∈ mj_W := mj_t9 (List.mem_of_getElem? (i := 105) rfl) rfl
theorem i_X11_needs : Cond.instanceMethod yX11_needs ∈ mj_W := mj_t9 (List.mem_of_getElem? (i := 103) rfl) rfl
theorem e_X11_needs : Cond.selects RX11 yX11_needs yX11_needs ∈ mj_W := mj_t9 (List.mem_of_getElem? (i := 104) rfl) rfl
theorem c_X11_spareOf : Cond.code yX11_spareOf cX11_spareOf 3 (some .int) ∈ mj_W := mj_t9 (List.mem_of_getElem? (i := 120) rfl) rfl
theorem i_X11_spareOf : Cond.instanceMethod yX11_spareOf ∈ mj_W := mj_t9 (List.mem_of_getElem? (i := 119) rfl) rfl
theorem e_X11_spareOf : Cond.selects RX11 yX11_spareOf yX11_spareOf ∈ mj_W := mj_p7 (List.mem_of_getElem? (i := 9) rfl)
theorem c_X11_spare : Cond.code yX11_spare cX11_spare 3 (some .int) ∈ mj_W := mj_t9 (List.mem_of_getElem? (i := 116) rfl) rfl
theorem i_X11_spare : Cond.instanceMethod yX11_spare ∈ mj_W := mj_t9 (List.mem_of_getElem? (i := 114) rfl) rfl
theorem e_X11_spare : Cond.selects RX11 yX11_spare yX11_spare ∈ mj_W := mj_t9 (List.mem_of_getElem? (i := 115) rfl) rfl
theorem c_X11_liftOf : Cond.code yX11_liftOf cX11_liftOf 2 (some .int) ∈ mj_W := mj_t9 (List.mem_of_getElem? (i := 128) rfl) rfl
theorem i_X11_liftOf : Cond.instanceMethod yX11_liftOf ∈ mj_W := mj_t9 (List.mem_of_getElem? (i := 127) rfl) rfl
theorem e_X11_liftOf : Cond.selects RX11 yX11_liftOf yX11_liftOf ∈ mj_W := mj_p7 (List.mem_of_getElem? (i := 10) rfl)
theorem c_X11_lift : Cond.code yX11_lift cX11_lift 2 (some .int) ∈ mj_W := mj_t9 (List.mem_of_getElem? (i := 124) rfl) rfl
theorem i_X11_lift : Cond.instanceMethod yX11_lift ∈ mj_W := mj_t9 (List.mem_of_getElem? (i := 122) rfl) rfl
theorem e_X11_lift : Cond.selects RX11 yX11_lift yX11_lift ∈ mj_W := mj_t9 (List.mem_of_getElem? (i := 123) rfl) rfl
theorem c_X11_laysWater : Cond.code yX11_laysWater cX11_laysWater 3 none ∈ mj_W := mj_t9 (List.mem_of_getElem? (i := 148) rfl) rfl
theorem i_X11_laysWater : Cond.instanceMethod yX11_laysWater ∈ mj_W := mj_t9 (List.mem_of_getElem? (i := 147) rfl) rfl
theorem e_X11_laysWater : Cond.selects RX11 yX11_laysWater yX11_laysWater ∈ mj_W := mj_p7 (List.mem_of_getElem? (i := 14) rfl)
theorem c_X11_takes : Cond.code yX11_takes cX11_takes 3 none ∈ mj_W := mj_t9 (List.mem_of_getElem? (i := 144) rfl) rfl
theorem i_X11_takes : Cond.instanceMethod yX11_takes ∈ mj_W := mj_t9 (List.mem_of_getElem? (i := 143) rfl) rfl
theorem e_X11_takes : Cond.selects RX11 yX11_takes yX11_takes ∈ mj_W := mj_p7 (List.mem_of_getElem? (i := 13) rfl)
theorem c_X11_opensTo : Cond.code yX11_opensTo cX11_opensTo 4 (some .boolean) ∈ mj_W := mj_t9 (List.mem_of_getElem? (i := 152) rfl) rfl
theorem i_X11_opensTo : Cond.instanceMethod yX11_opensTo ∈ mj_W := mj_t9 (List.mem_of_getElem? (i := 151) rfl) rfl
theorem e_X11_opensTo : Cond.selects RX11 yX11_opensTo yX11_opensTo ∈ mj_W := mj_p7 (List.mem_of_getElem? (i := 15) rfl)
theorem c_X11_seeks : Cond.code yX11_seeks cX11_seeks 3 none ∈ mj_W := mj_t9 (List.mem_of_getElem? (i := 140) rfl) rfl
theorem i_X11_seeks : Cond.instanceMethod yX11_seeks ∈ mj_W := mj_t9 (List.mem_of_getElem? (i := 139) rfl) rfl
theorem e_X11_seeks : Cond.selects RX11 yX11_seeks yX11_seeks ∈ mj_W := mj_p7 (List.mem_of_getElem? (i := 12) rfl)
theorem c_X11_fewestBy : Cond.code yX11_fewestBy cX11_fewestBy 4 (some .int) ∈ mj_W := mj_t9 (List.mem_of_getElem? (i := 136) rfl) rfl
theorem i_X11_fewestBy : Cond.instanceMethod yX11_fewestBy ∈ mj_W := mj_t9 (List.mem_of_getElem? (i := 135) rfl) rfl
theorem e_X11_fewestBy : Cond.selects RX11 yX11_fewestBy yX11_fewestBy ∈ mj_W := mj_p7 (List.mem_of_getElem? (i := 11) rfl)
theorem c_X11_fewest : Cond.code yX11_fewest cX11_fewest 5 (some .int) ∈ mj_W := mj_t9 (List.mem_of_getElem? (i := 132) rfl) rfl
theorem i_X11_fewest : Cond.instanceMethod yX11_fewest ∈ mj_W := mj_t9 (List.mem_of_getElem? (i := 130) rfl) rfl
theorem e_X11_fewest : Cond.selects RX11 yX11_fewest yX11_fewest ∈ mj_W := mj_t9 (List.mem_of_getElem? (i := 131) rfl) rfl
theorem c_X11_drawsBy : Cond.code yX11_drawsBy cX11_drawsBy 3 none ∈ mj_W := mj_t9 (List.mem_of_getElem? (i := 160) rfl) rfl
theorem i_X11_drawsBy : Cond.instanceMethod yX11_drawsBy ∈ mj_W := mj_t9 (List.mem_of_getElem? (i := 159) rfl) rfl
theorem e_X11_drawsBy : Cond.selects RX11 yX11_drawsBy yX11_drawsBy ∈ mj_W := mj_p8 (List.mem_of_getElem? (i := 0) rfl)
theorem c_X11_draws : Cond.code yX11_draws cX11_draws 4 (some .int) ∈ mj_W := mj_t9 (List.mem_of_getElem? (i := 156) rfl) rfl
theorem i_X11_draws : Cond.instanceMethod yX11_draws ∈ mj_W := mj_t9 (List.mem_of_getElem? (i := 154) rfl) rfl
theorem e_X11_draws : Cond.selects RX11 yX11_draws yX11_draws ∈ mj_W := mj_t9 (List.mem_of_getElem? (i := 155) rfl) rfl
theorem c_X11_highest : Cond.code yX11_highest cX11_highest 5 (some .int) ∈ mj_W := mj_t9 (List.mem_of_getElem? (i := 164) rfl) rfl
theorem i_X11_highest : Cond.instanceMethod yX11_highest ∈ mj_W := mj_t9 (List.mem_of_getElem? (i := 162) rfl) rfl
theorem e_X11_highest : Cond.selects RX11 yX11_highest yX11_highest ∈ mj_W := mj_t9 (List.mem_of_getElem? (i := 163) rfl) rfl
theorem c_X11_apart : Cond.code yX11_apart cX11_apart 4 (some .int) ∈ mj_W := mj_t9 (List.mem_of_getElem? (i := 168) rfl) rfl
theorem i_X11_apart : Cond.instanceMethod yX11_apart ∈ mj_W := mj_t9 (List.mem_of_getElem? (i := 166) rfl) rfl
theorem e_X11_apart : Cond.selects RX11 yX11_apart yX11_apart ∈ mj_W := mj_t9 (List.mem_of_getElem? (i := 167) rfl) rfl
theorem c_X11_runsAll : Cond.code yX11_runsAll cX11_runsAll 3 (some .int) ∈ mj_W := mj_t9 (List.mem_of_getElem? (i := 177) rfl) rfl
theorem i_X11_runsAll : Cond.instanceMethod yX11_runsAll ∈ mj_W := mj_t9 (List.mem_of_getElem? (i := 176) rfl) rfl
theorem e_X11_runsAll : Cond.selects RX11 yX11_runsAll yX11_runsAll ∈ mj_W := mj_p8 (List.mem_of_getElem? (i := 1) rfl)
theorem c_X11_still : Cond.code yX11_still cX11_still 4 (some .int) ∈ mj_W := mj_t9 (List.mem_of_getElem? (i := 173) rfl) rfl
theorem i_X11_still : Cond.instanceMethod yX11_still ∈ mj_W := mj_t9 (List.mem_of_getElem? (i := 171) rfl) rfl
theorem e_X11_still : Cond.selects RX11 yX11_still yX11_still ∈ mj_W := mj_t9 (List.mem_of_getElem? (i := 172) rfl) rfl
theorem c_X11_nextTo : Cond.code yX11_nextTo cX11_nextTo 4 (some .int) ∈ mj_W := mj_t9 (List.mem_of_getElem? (i := 185) rfl) rfl
theorem i_X11_nextTo : Cond.instanceMethod yX11_nextTo ∈ mj_W := mj_t9 (List.mem_of_getElem? (i := 184) rfl) rfl
theorem e_X11_nextTo : Cond.selects RX11 yX11_nextTo yX11_nextTo ∈ mj_W := mj_p8 (List.mem_of_getElem? (i := 2) rfl)
theorem c_X11_reach : Cond.code yX11_reach cX11_reach 5 (some .int) ∈ mj_W := mj_t9 (List.mem_of_getElem? (i := 181) rfl) rfl
theorem i_X11_reach : Cond.instanceMethod yX11_reach ∈ mj_W := mj_t9 (List.mem_of_getElem? (i := 179) rfl) rfl
theorem e_X11_reach : Cond.selects RX11 yX11_reach yX11_reach ∈ mj_W := mj_t9 (List.mem_of_getElem? (i := 180) rfl) rfl
theorem c_X11_roomFrom : Cond.code yX11_roomFrom cX11_roomFrom 3 (some .int) ∈ mj_W := mj_t9 (List.mem_of_getElem? (i := 201) rfl) rfl
theorem i_X11_roomFrom : Cond.instanceMethod yX11_roomFrom ∈ mj_W := mj_t9 (List.mem_of_getElem? (i := 200) rfl) rfl
theorem e_X11_roomFrom : Cond.selects RX11 yX11_roomFrom yX11_roomFrom ∈ mj_W := mj_p8 (List.mem_of_getElem? (i := 5) rfl)
theorem c_X11_otherOf : Cond.code yX11_otherOf cX11_otherOf 3 (some .int) ∈ mj_W := mj_t9 (List.mem_of_getElem? (i := 197) rfl) rfl
theorem i_X11_otherOf : Cond.instanceMethod yX11_otherOf ∈ mj_W := mj_t9 (List.mem_of_getElem? (i := 196) rfl) rfl
theorem e_X11_otherOf : Cond.selects RX11 yX11_otherOf yX11_otherOf ∈ mj_W := mj_p8 (List.mem_of_getElem? (i := 4) rfl)
theorem c_X11_findsOne : Cond.code yX11_findsOne cX11_findsOne 8 (some .boolean) ∈ mj_W := mj_t9 (List.mem_of_getElem? (i := 193) rfl) rfl
theorem i_X11_findsOne : Cond.instanceMethod yX11_findsOne ∈ mj_W := mj_t9 (List.mem_of_getElem? (i := 192) rfl) rfl
theorem e_X11_findsOne : Cond.selects RX11 yX11_findsOne yX11_findsOne ∈ mj_W := mj_p8 (List.mem_of_getElem? (i := 3) rfl)
theorem c_X11_sends : Cond.code yX11_sends cX11_sends 5 (some .int) ∈ mj_W := mj_t9 (List.mem_of_getElem? (i := 205) rfl) rfl
theorem i_X11_sends : Cond.instanceMethod yX11_sends ∈ mj_W := mj_t9 (List.mem_of_getElem? (i := 204) rfl) rfl
theorem e_X11_sends : Cond.selects RX11 yX11_sends yX11_sends ∈ mj_W := mj_p8 (List.mem_of_getElem? (i := 6) rfl)
theorem c_X11_pass : Cond.code yX11_pass cX11_pass 4 (some .int) ∈ mj_W := mj_t9 (List.mem_of_getElem? (i := 189) rfl) rfl
theorem i_X11_pass : Cond.instanceMethod yX11_pass ∈ mj_W := mj_t9 (List.mem_of_getElem? (i := 187) rfl) rfl
theorem e_X11_pass : Cond.selects RX11 yX11_pass yX11_pass ∈ mj_W := mj_t9 (List.mem_of_getElem? (i := 188) rfl) rfl
theorem c_X11_lockfuls : Cond.code yX11_lockfuls cX11_lockfuls 4 (some .int) ∈ mj_W := mj_t9 (List.mem_of_getElem? (i := 209) rfl) rfl
theorem i_X11_lockfuls : Cond.instanceMethod yX11_lockfuls ∈ mj_W := mj_t9 (List.mem_of_getElem? (i := 207) rfl) rfl
theorem e_X11_lockfuls : Cond.selects RX11 yX11_lockfuls yX11_lockfuls ∈ mj_W := mj_t9 (List.mem_of_getElem? (i := 208) rfl) rfl
theorem c_X11_game : Cond.code yX11_game cX11_game 5 (some .int) ∈ mj_W := mj_t9 (List.mem_of_getElem? (i := 213) rfl) rfl
theorem i_X11_game : Cond.instanceMethod yX11_game ∈ mj_W := mj_t9 (List.mem_of_getElem? (i := 211) rfl) rfl
theorem e_X11_game : Cond.selects RX11 yX11_game yX11_game ∈ mj_W := mj_t9 (List.mem_of_getElem? (i := 212) rfl) rfl
theorem c_X11_hasOf : Cond.code yX11_hasOf cX11_hasOf 5 (some .int) ∈ mj_W := mj_t9 (List.mem_of_getElem? (i := 233) rfl) rfl
theorem i_X11_hasOf : Cond.instanceMethod yX11_hasOf ∈ mj_W := mj_t9 (List.mem_of_getElem? (i := 232) rfl) rfl
theorem e_X11_hasOf : Cond.selects RX11 yX11_hasOf yX11_hasOf ∈ mj_W := mj_p8 (List.mem_of_getElem? (i := 10) rfl)
theorem c_X11_isRest : Cond.code yX11_isRest cX11_isRest 6 (some .boolean) ∈ mj_W := mj_t9 (List.mem_of_getElem? (i := 229) rfl) rfl
theorem i_X11_isRest : Cond.instanceMethod yX11_isRest ∈ mj_W := mj_t9 (List.mem_of_getElem? (i := 228) rfl) rfl
theorem e_X11_isRest : Cond.selects RX11 yX11_isRest yX11_isRest ∈ mj_W := mj_p8 (List.mem_of_getElem? (i := 9) rfl)
theorem c_X11_restOf : Cond.code yX11_restOf cX11_restOf 6 (some .int) ∈ mj_W := mj_t9 (List.mem_of_getElem? (i := 225) rfl) rfl
theorem i_X11_restOf : Cond.instanceMethod yX11_restOf ∈ mj_W := mj_t9 (List.mem_of_getElem? (i := 224) rfl) rfl
theorem e_X11_restOf : Cond.selects RX11 yX11_restOf yX11_restOf ∈ mj_W := mj_p8 (List.mem_of_getElem? (i := 8) rfl)
theorem c_X11_areTwo : Cond.code yX11_areTwo cX11_areTwo 3 (some .boolean) ∈ mj_W := mj_t9 (List.mem_of_getElem? (i := 221) rfl) rfl
theorem i_X11_areTwo : Cond.instanceMethod yX11_areTwo ∈ mj_W := mj_t9 (List.mem_of_getElem? (i := 220) rfl) rfl
theorem e_X11_areTwo : Cond.selects RX11 yX11_areTwo yX11_areTwo ∈ mj_W := mj_p8 (List.mem_of_getElem? (i := 7) rfl)
theorem c_X11_rests : Cond.code yX11_rests cX11_rests 3 (some .int) ∈ mj_W := mj_t9 (List.mem_of_getElem? (i := 217) rfl) rfl
theorem i_X11_rests : Cond.instanceMethod yX11_rests ∈ mj_W := mj_t9 (List.mem_of_getElem? (i := 215) rfl) rfl
theorem e_X11_rests : Cond.selects RX11 yX11_rests yX11_rests ∈ mj_W := mj_t9 (List.mem_of_getElem? (i := 216) rfl) rfl
theorem c_X11_rest : Cond.code yX11_rest cX11_rest 4 (some .int) ∈ mj_W := mj_t9 (List.mem_of_getElem? (i := 237) rfl) rfl
theorem i_X11_rest : Cond.instanceMethod yX11_rest ∈ mj_W := mj_t9 (List.mem_of_getElem? (i := 235) rfl) rfl
theorem e_X11_rest : Cond.selects RX11 yX11_rest yX11_rest ∈ mj_W := mj_t9 (List.mem_of_getElem? (i := 236) rfl) rfl
theorem c_X11_holds : Cond.code yX11_holds cX11_holds 13 (some .long) ∈ mj_W := mj_t10 (List.mem_of_getElem? (i := 1) rfl) rfl
theorem i_X11_holds : Cond.instanceMethod yX11_holds ∈ mj_W := mj_t9 (List.mem_of_getElem? (i := 239) rfl) rfl
theorem e_X11_holds : Cond.selects RX11 yX11_holds yX11_holds ∈ mj_W := mj_t10 (List.mem_of_getElem? (i := 0) rfl) rfl
theorem c_X11_see : Cond.code yX11_see cX11_see 5 (some .int) ∈ mj_W := mj_t10 (List.mem_of_getElem? (i := 7) rfl) rfl
theorem i_X11_see : Cond.instanceMethod yX11_see ∈ mj_W := mj_t10 (List.mem_of_getElem? (i := 5) rfl) rfl
theorem e_X11_see : Cond.selects RX11 yX11_see yX11_see ∈ mj_W := mj_t10 (List.mem_of_getElem? (i := 6) rfl) rfl
theorem c_X11_strike : Cond.code yX11_strike cX11_strike 2 (some .int) ∈ mj_W := mj_t10 (List.mem_of_getElem? (i := 11) rfl) rfl
theorem i_X11_strike : Cond.instanceMethod yX11_strike ∈ mj_W := mj_t10 (List.mem_of_getElem? (i := 9) rfl) rfl
theorem e_X11_strike : Cond.selects RX11 yX11_strike yX11_strike ∈ mj_W := mj_t10 (List.mem_of_getElem? (i := 10) rfl) rfl
theorem c_X11_known : Cond.code yX11_known cX11_known 2 (some .boolean) ∈ mj_W := mj_t10 (List.mem_of_getElem? (i := 15) rfl) rfl
theorem i_X11_known : Cond.instanceMethod yX11_known ∈ mj_W := mj_t10 (List.mem_of_getElem? (i := 13) rfl) rfl
theorem e_X11_known : Cond.selects RX11 yX11_known yX11_known ∈ mj_W := mj_t10 (List.mem_of_getElem? (i := 14) rfl) rfl
theorem c_X11_knownMany : Cond.code yX11_knownMany cX11_knownMany 1 (some .int) ∈ mj_W := mj_t10 (List.mem_of_getElem? (i := 27) rfl) rfl
theorem i_X11_knownMany : Cond.instanceMethod yX11_knownMany ∈ mj_W := mj_t10 (List.mem_of_getElem? (i := 26) rfl) rfl
theorem e_X11_knownMany : Cond.selects RX11 yX11_knownMany yX11_knownMany ∈ mj_W := mj_p8 (List.mem_of_getElem? (i := 12) rfl)
theorem c_X11_isSo : Cond.code yX11_isSo cX11_isSo 3 (some .boolean) ∈ mj_W := mj_t10 (List.mem_of_getElem? (i := 35) rfl) rfl
theorem i_X11_isSo : Cond.instanceMethod yX11_isSo ∈ mj_W := mj_t10 (List.mem_of_getElem? (i := 34) rfl) rfl
theorem e_X11_isSo : Cond.selects RX11 yX11_isSo yX11_isSo ∈ mj_W := mj_p8 (List.mem_of_getElem? (i := 14) rfl)
theorem c_X11_fitsLeak : Cond.code yX11_fitsLeak cX11_fitsLeak 3 (some .boolean) ∈ mj_W := mj_t10 (List.mem_of_getElem? (i := 31) rfl) rfl
theorem i_X11_fitsLeak : Cond.instanceMethod yX11_fitsLeak ∈ mj_W := mj_t10 (List.mem_of_getElem? (i := 30) rfl) rfl
theorem e_X11_fitsLeak : Cond.selects RX11 yX11_fitsLeak yX11_fitsLeak ∈ mj_W := mj_p8 (List.mem_of_getElem? (i := 13) rfl)
theorem c_X11_leaksOf : Cond.code yX11_leaksOf cX11_leaksOf 5 (some .int) ∈ mj_W := mj_t10 (List.mem_of_getElem? (i := 23) rfl) rfl
theorem i_X11_leaksOf : Cond.instanceMethod yX11_leaksOf ∈ mj_W := mj_t10 (List.mem_of_getElem? (i := 22) rfl) rfl
theorem e_X11_leaksOf : Cond.selects RX11 yX11_leaksOf yX11_leaksOf ∈ mj_W := mj_p8 (List.mem_of_getElem? (i := 11) rfl)
theorem c_X11_leaks : Cond.code yX11_leaks cX11_leaks 2 (some .int) ∈ mj_W := mj_t10 (List.mem_of_getElem? (i := 19) rfl) rfl
theorem i_X11_leaks : Cond.instanceMethod yX11_leaks ∈ mj_W := mj_t10 (List.mem_of_getElem? (i := 17) rfl) rfl
theorem e_X11_leaks : Cond.selects RX11 yX11_leaks yX11_leaks ∈ mj_W := mj_t10 (List.mem_of_getElem? (i := 18) rfl) rfl
theorem c_X11_worstAt : Cond.code yX11_worstAt cX11_worstAt 7 (some .int) ∈ mj_W := mj_t10 (List.mem_of_getElem? (i := 43) rfl) rfl
theorem i_X11_worstAt : Cond.instanceMethod yX11_worstAt ∈ mj_W := mj_t10 (List.mem_of_getElem? (i := 42) rfl) rfl
theorem e_X11_worstAt : Cond.selects RX11 yX11_worstAt yX11_worstAt ∈ mj_W := mj_p8 (List.mem_of_getElem? (i := 15) rfl)
theorem c_X11_ask : Cond.code yX11_ask cX11_ask 6 (some .int) ∈ mj_W := mj_t10 (List.mem_of_getElem? (i := 39) rfl) rfl
theorem i_X11_ask : Cond.instanceMethod yX11_ask ∈ mj_W := mj_t10 (List.mem_of_getElem? (i := 37) rfl) rfl
theorem e_X11_ask : Cond.selects RX11 yX11_ask yX11_ask ∈ mj_W := mj_t10 (List.mem_of_getElem? (i := 38) rfl) rfl
theorem c_X11_chance : Cond.code yX11_chance cX11_chance 8 (some .int) ∈ mj_W := mj_t10 (List.mem_of_getElem? (i := 47) rfl) rfl
theorem i_X11_chance : Cond.instanceMethod yX11_chance ∈ mj_W := mj_t10 (List.mem_of_getElem? (i := 45) rfl) rfl
theorem e_X11_chance : Cond.selects RX11 yX11_chance yX11_chance ∈ mj_W := mj_t10 (List.mem_of_getElem? (i := 46) rfl) rfl
theorem c_X11_tried : Cond.code yX11_tried cX11_tried 5 (some .int) ∈ mj_W := mj_t10 (List.mem_of_getElem? (i := 51) rfl) rfl
theorem i_X11_tried : Cond.instanceMethod yX11_tried ∈ mj_W := mj_t10 (List.mem_of_getElem? (i := 49) rfl) rfl
theorem e_X11_tried : Cond.selects RX11 yX11_tried yX11_tried ∈ mj_W := mj_t10 (List.mem_of_getElem? (i := 50) rfl) rfl
theorem c_X11_undo : Cond.code yX11_undo cX11_undo 1 (some .int) ∈ mj_W := mj_t10 (List.mem_of_getElem? (i := 55) rfl) rfl
theorem i_X11_undo : Cond.instanceMethod yX11_undo ∈ mj_W := mj_t10 (List.mem_of_getElem? (i := 53) rfl) rfl
theorem e_X11_undo : Cond.selects RX11 yX11_undo yX11_undo ∈ mj_W := mj_t10 (List.mem_of_getElem? (i := 54) rfl) rfl
theorem c_X11_keep : Cond.code yX11_keep cX11_keep 1 (some .int) ∈ mj_W := mj_t10 (List.mem_of_getElem? (i := 59) rfl) rfl
theorem i_X11_keep : Cond.instanceMethod yX11_keep ∈ mj_W := mj_t10 (List.mem_of_getElem? (i := 57) rfl) rfl
theorem e_X11_keep : Cond.selects RX11 yX11_keep yX11_keep ∈ mj_W := mj_t10 (List.mem_of_getElem? (i := 58) rfl) rfl
theorem c_X11_back : Cond.code yX11_back cX11_back 1 (some .int) ∈ mj_W := mj_t10 (List.mem_of_getElem? (i := 63) rfl) rfl
theorem i_X11_back : Cond.instanceMethod yX11_back ∈ mj_W := mj_t10 (List.mem_of_getElem? (i := 61) rfl) rfl
theorem e_X11_back : Cond.selects RX11 yX11_back yX11_back ∈ mj_W := mj_t10 (List.mem_of_getElem? (i := 62) rfl) rfl
theorem c_X11_count : Cond.code yX11_count cX11_count 2 (some .int) ∈ mj_W := mj_t10 (List.mem_of_getElem? (i := 67) rfl) rfl
theorem i_X11_count : Cond.instanceMethod yX11_count ∈ mj_W := mj_t10 (List.mem_of_getElem? (i := 65) rfl) rfl
theorem e_X11_count : Cond.selects RX11 yX11_count yX11_count ∈ mj_W := mj_t10 (List.mem_of_getElem? (i := 66) rfl) rfl
theorem c_J9_abs_0f7a4 : Cond.code yJ9_abs_0f7a4 cJ9_abs_0f7a4 1 (some .int) ∈ mj_W := mj_t5 (List.mem_of_getElem? (i := 218) rfl) rfl
theorem c_J9_abs_067f4 : Cond.code yJ9_abs_067f4 cJ9_abs_067f4 2 (some .long) ∈ mj_W := mj_t8 (List.mem_of_getElem? (i := 230) rfl) rfl
theorem c_J9_max_7cf53 : Cond.code yJ9_max_7cf53 cJ9_max_7cf53 2 (some .int) ∈ mj_W := mj_t3 (List.mem_of_getElem? (i := 142) rfl) rfl
theorem c_J9_max_f86c9 : Cond.code yJ9_max_f86c9 cJ9_max_f86c9 4 (some .long) ∈ mj_W := mj_t5 (List.mem_of_getElem? (i := 81) rfl) rfl
theorem c_J9_min_7cf53 : Cond.code yJ9_min_7cf53 cJ9_min_7cf53 2 (some .int) ∈ mj_W := mj_t3 (List.mem_of_getElem? (i := 45) rfl) rfl
theorem c_J9_min_f86c9 : Cond.code yJ9_min_f86c9 cJ9_min_f86c9 4 (some .long) ∈ mj_W := mj_t5 (List.mem_of_getElem? (i := 78) rfl) rfl
theorem n_java_lang_IndexOutOfBoundsException : Cond.initialized "java/lang/IndexOutOfBoundsException" ∈ mj_W := mj_t1 (List.mem_of_getElem? (i := 22) rfl) rfl
theorem n_java_lang_Math : Cond.initialized "java/lang/Math" ∈ mj_W := mj_t1 (List.mem_of_getElem? (i := 13) rfl) rfl
theorem n_java_util_NoSuchElementException : Cond.initialized "java/util/NoSuchElementException" ∈ mj_W := mj_t1 (List.mem_of_getElem? (i := 23) rfl) rfl
theorem n_RJ0 : Cond.initialized RJ0 ∈ mj_W := mj_t1 (List.mem_of_getElem? (i := 14) rfl) rfl
theorem n_RJ1 : Cond.initialized RJ1 ∈ mj_W := mj_t1 (List.mem_of_getElem? (i := 15) rfl) rfl
theorem n_RJ11 : Cond.initialized RJ11 ∈ mj_W := mj_t1 (List.mem_of_getElem? (i := 18) rfl) rfl
theorem n_RJ2 : Cond.initialized RJ2 ∈ mj_W := mj_t1 (List.mem_of_getElem? (i := 17) rfl) rfl
theorem n_RJ3 : Cond.initialized RJ3 ∈ mj_W := mj_t1 (List.mem_of_getElem? (i := 16) rfl) rfl
theorem n_RJ6 : Cond.initialized RJ6 ∈ mj_W := mj_t1 (List.mem_of_getElem? (i := 24) rfl) rfl
theorem n_RL : Cond.initialized RL ∈ mj_W := mj_t1 (List.mem_of_getElem? (i := 0) rfl) rfl
theorem n_RX0 : Cond.initialized RX0 ∈ mj_W := mj_t1 (List.mem_of_getElem? (i := 4) rfl) rfl
theorem n_RX1 : Cond.initialized RX1 ∈ mj_W := mj_t1 (List.mem_of_getElem? (i := 10) rfl) rfl
theorem n_RX10 : Cond.initialized RX10 ∈ mj_W := mj_t1 (List.mem_of_getElem? (i := 1) rfl) rfl
theorem n_RX11 : Cond.initialized RX11 ∈ mj_W := mj_t1 (List.mem_of_getElem? (i := 12) rfl) rfl
theorem n_RX2 : Cond.initialized RX2 ∈ mj_W := mj_t1 (List.mem_of_getElem? (i := 11) rfl) rfl
theorem n_RX3 : Cond.initialized RX3 ∈ mj_W := mj_t1 (List.mem_of_getElem? (i := 6) rfl) rfl
theorem n_RX4 : Cond.initialized RX4 ∈ mj_W := mj_t1 (List.mem_of_getElem? (i := 5) rfl) rfl
theorem n_RX5 : Cond.initialized RX5 ∈ mj_W := mj_t1 (List.mem_of_getElem? (i := 8) rfl) rfl
theorem n_RX6 : Cond.initialized RX6 ∈ mj_W := mj_t1 (List.mem_of_getElem? (i := 9) rfl) rfl
theorem n_RX7 : Cond.initialized RX7 ∈ mj_W := mj_t1 (List.mem_of_getElem? (i := 2) rfl) rfl
theorem n_RX8 : Cond.initialized RX8 ∈ mj_W := mj_t1 (List.mem_of_getElem? (i := 7) rfl) rfl
theorem n_RX9 : Cond.initialized RX9 ∈ mj_W := mj_t1 (List.mem_of_getElem? (i := 3) rfl) rfl
abbrev mX4_clear : MethodName × ByteArray × Nat × Option FieldType := (yX4_clear, cX4_clear, 1, none)
abbrev mX3_clear : MethodName × ByteArray × Nat × Option FieldType := (yX3_clear, cX3_clear, 2, none)
abbrev mX0_clear : MethodName × ByteArray × Nat × Option FieldType := (yX0_clear, cX0_clear, 2, none)
abbrev mX0_hasAllOf : MethodName × ByteArray × Nat × Option FieldType := (yX0_hasAllOf, cX0_hasAllOf, 2, (some .boolean))
abbrev mX0_addPond : MethodName × ByteArray × Nat × Option FieldType := (yX0_addPond, cX0_addPond, 5, none)
abbrev mX0_addPipe : MethodName × ByteArray × Nat × Option FieldType := (yX0_addPipe, cX0_addPipe, 4, none)
abbrev mX0_addTurn : MethodName × ByteArray × Nat × Option FieldType := (yX0_addTurn, cX0_addTurn, 5, none)
abbrev mX0_pondNamed : MethodName × ByteArray × Nat × Option FieldType := (yX0_pondNamed, cX0_pondNamed, 3, (some .int))
abbrev mX0_hasPipe : MethodName × ByteArray × Nat × Option FieldType := (yX0_hasPipe, cX0_hasPipe, 4, (some .boolean))
abbrev mX0_turnedIn : MethodName × ByteArray × Nat × Option FieldType := (yX0_turnedIn, cX0_turnedIn, 2, (some .int))
abbrev mX0_allPonds : MethodName × ByteArray × Nat × Option FieldType := (yX0_allPonds, cX0_allPonds, 1, (some .int))
abbrev mX0_allPipes : MethodName × ByteArray × Nat × Option FieldType := (yX0_allPipes, cX0_allPipes, 1, (some .int))
abbrev mX0_waterFor : MethodName × ByteArray × Nat × Option FieldType := (yX0_waterFor, cX0_waterFor, 3, (some .int))
abbrev mX0_liftOf : MethodName × ByteArray × Nat × Option FieldType := (yX0_liftOf, cX0_liftOf, 2, (some .int))
abbrev mX0_areaUpTo : MethodName × ByteArray × Nat × Option FieldType := (yX0_areaUpTo, cX0_areaUpTo, 6, (some .long))
abbrev mX0_bedUpTo : MethodName × ByteArray × Nat × Option FieldType := (yX0_bedUpTo, cX0_bedUpTo, 6, (some .long))
abbrev mX0_nextTo : MethodName × ByteArray × Nat × Option FieldType := (yX0_nextTo, cX0_nextTo, 6, (some .int))
abbrev mX0_wideAcross : MethodName × ByteArray × Nat × Option FieldType := (yX0_wideAcross, cX0_wideAcross, 5, (some .int))
abbrev mX1_clear : MethodName × ByteArray × Nat × Option FieldType := (yX1_clear, cX1_clear, 1, none)
abbrev mX1_isFull : MethodName × ByteArray × Nat × Option FieldType := (yX1_isFull, cX1_isFull, 1, (some .boolean))
abbrev mX1_add : MethodName × ByteArray × Nat × Option FieldType := (yX1_add, cX1_add, 5, (some .int))
abbrev mX1_knownCount : MethodName × ByteArray × Nat × Option FieldType := (yX1_knownCount, cX1_knownCount, 1, (some .int))
abbrev mX1_settle : MethodName × ByteArray × Nat × Option FieldType := (yX1_settle, cX1_settle, 2, none)
abbrev mX1_counts : MethodName × ByteArray × Nat × Option FieldType := (yX1_counts, cX1_counts, 2, (some .boolean))
abbrev mX1_lastKnownMinute : MethodName × ByteArray × Nat × Option FieldType := (yX1_lastKnownMinute, cX1_lastKnownMinute, 3, (some .int))
abbrev mX1_hold : MethodName × ByteArray × Nat × Option FieldType := (yX1_hold, cX1_hold, 4, (some .boolean))
abbrev mX2_clear : MethodName × ByteArray × Nat × Option FieldType := (yX2_clear, cX2_clear, 1, none)
abbrev mX2_note : MethodName × ByteArray × Nat × Option FieldType := (yX2_note, cX2_note, 3, none)
abbrev mX2_takeBack : MethodName × ByteArray × Nat × Option FieldType := (yX2_takeBack, cX2_takeBack, 3, (some .boolean))
abbrev mX3_begin : MethodName × ByteArray × Nat × Option FieldType := (yX3_begin, cX3_begin, 2, none)
abbrev mX3_end : MethodName × ByteArray × Nat × Option FieldType := (yX3_end, cX3_end, 2, none)
abbrev mX3_add : MethodName × ByteArray × Nat × Option FieldType := (yX3_add, cX3_add, 3, none)
abbrev mX3_isTold : MethodName × ByteArray × Nat × Option FieldType := (yX3_isTold, cX3_isTold, 2, (some .boolean))
abbrev mX3_truth : MethodName × ByteArray × Nat × Option FieldType := (yX3_truth, cX3_truth, 1, (some .long))
abbrev mX3_inBounds : MethodName × ByteArray × Nat × Option FieldType := (yX3_inBounds, cX3_inBounds, 2, (some .long))
abbrev mX3_product : MethodName × ByteArray × Nat × Option FieldType := (yX3_product, cX3_product, 6, (some .long))
abbrev mX3_valueOf : MethodName × ByteArray × Nat × Option FieldType := (yX3_valueOf, cX3_valueOf, 5, (some .long))
abbrev mX3_worth : MethodName × ByteArray × Nat × Option FieldType := (yX3_worth, cX3_worth, 6, (some .long))
abbrev mX4_add : MethodName × ByteArray × Nat × Option FieldType := (yX4_add, cX4_add, 4, none)
abbrev mX4_addBoat : MethodName × ByteArray × Nat × Option FieldType := (yX4_addBoat, cX4_addBoat, 3, none)
abbrev mX4_ofPond : MethodName × ByteArray × Nat × Option FieldType := (yX4_ofPond, cX4_ofPond, 3, (some .int))
abbrev mX4_pondOfBoat : MethodName × ByteArray × Nat × Option FieldType := (yX4_pondOfBoat, cX4_pondOfBoat, 2, (some .int))
abbrev mX5_asItGoes : MethodName × ByteArray × Nat × Option FieldType := (yX5_asItGoes, cX5_asItGoes, 1, none)
abbrev mX8_pour : MethodName × ByteArray × Nat × Option FieldType := (yX8_pour, cX8_pour, 3, none)
abbrev mX5_letSprings : MethodName × ByteArray × Nat × Option FieldType := (yX5_letSprings, cX5_letSprings, 3, none)
abbrev mX5_openNow : MethodName × ByteArray × Nat × Option FieldType := (yX5_openNow, cX5_openNow, 3, (some .int))
abbrev mX8_higherBy : MethodName × ByteArray × Nat × Option FieldType := (yX8_higherBy, cX8_higherBy, 5, (some .int))
abbrev mX8_giver : MethodName × ByteArray × Nat × Option FieldType := (yX8_giver, cX8_giver, 4, (some .int))
abbrev mJ6_bitCount_0f7a4 : MethodName × ByteArray × Nat × Option FieldType := (yJ6_bitCount_0f7a4, cJ6_bitCount_0f7a4, 1, (some .int))
abbrev mX8_boatsThatAre : MethodName × ByteArray × Nat × Option FieldType := (yX8_boatsThatAre, cX8_boatsThatAre, 4, (some .int))
abbrev mX5_worth : MethodName × ByteArray × Nat × Option FieldType := (yX5_worth, cX5_worth, 5, (some .long))
abbrev mX5_put : MethodName × ByteArray × Nat × Option FieldType := (yX5_put, cX5_put, 4, (some .int))
abbrev mX8_movable : MethodName × ByteArray × Nat × Option FieldType := (yX8_movable, cX8_movable, 5, (some .int))
abbrev mX8_move : MethodName × ByteArray × Nat × Option FieldType := (yX8_move, cX8_move, 4, none)
abbrev mX8_run : MethodName × ByteArray × Nat × Option FieldType := (yX8_run, cX8_run, 5, (some .int))
abbrev mX8_nextNumber : MethodName × ByteArray × Nat × Option FieldType := (yX8_nextNumber, cX8_nextNumber, 1, (some .int))
abbrev mX5_jamsNow : MethodName × ByteArray × Nat × Option FieldType := (yX5_jamsNow, cX5_jamsNow, 3, (some .boolean))
abbrev mX5_letPipes : MethodName × ByteArray × Nat × Option FieldType := (yX5_letPipes, cX5_letPipes, 4, none)
abbrev mX8_lose : MethodName × ByteArray × Nat × Option FieldType := (yX8_lose, cX8_lose, 3, none)
abbrev mX5_letLeaks : MethodName × ByteArray × Nat × Option FieldType := (yX5_letLeaks, cX5_letLeaks, 4, none)
abbrev mX8_boatIn : MethodName × ByteArray × Nat × Option FieldType := (yX8_boatIn, cX8_boatIn, 3, (some .int))
abbrev mX8_raised : MethodName × ByteArray × Nat × Option FieldType := (yX8_raised, cX8_raised, 2, (some .int))
abbrev mX8_isAtMost : MethodName × ByteArray × Nat × Option FieldType := (yX8_isAtMost, cX8_isAtMost, 3, (some .boolean))
abbrev mX8_letIn : MethodName × ByteArray × Nat × Option FieldType := (yX8_letIn, cX8_letIn, 3, none)
abbrev mX8_isAtLeast : MethodName × ByteArray × Nat × Option FieldType := (yX8_isAtLeast, cX8_isAtLeast, 3, (some .boolean))
abbrev mX8_canGoUp : MethodName × ByteArray × Nat × Option FieldType := (yX8_canGoUp, cX8_canGoUp, 3, (some .boolean))
abbrev mX5_letBoats : MethodName × ByteArray × Nat × Option FieldType := (yX5_letBoats, cX5_letBoats, 5, none)
abbrev mX5_oneMinute : MethodName × ByteArray × Nat × Option FieldType := (yX5_oneMinute, cX5_oneMinute, 2, none)
abbrev mX5_advance : MethodName × ByteArray × Nat × Option FieldType := (yX5_advance, cX5_advance, 4, none)
abbrev mX6_note : MethodName × ByteArray × Nat × Option FieldType := (yX6_note, cX6_note, 5, none)
abbrev mX8_isJammed : MethodName × ByteArray × Nat × Option FieldType := (yX8_isJammed, cX8_isJammed, 2, (some .boolean))
abbrev mX6_open : MethodName × ByteArray × Nat × Option FieldType := (yX6_open, cX6_open, 8, none)
abbrev mX6_seek : MethodName × ByteArray × Nat × Option FieldType := (yX6_seek, cX6_seek, 5, none)
abbrev mX9_isLetter : MethodName × ByteArray × Nat × Option FieldType := (yX9_isLetter, cX9_isLetter, 1, (some .boolean))
abbrev mX9_packed : MethodName × ByteArray × Nat × Option FieldType := (yX9_packed, cX9_packed, 3, (some .int))
abbrev mJ0_coder_7d493 : MethodName × ByteArray × Nat × Option FieldType := (yJ0_coder_7d493, cJ0_coder_7d493, 1, (some .byte))
abbrev mJ0_length_8abf5 : MethodName × ByteArray × Nat × Option FieldType := (yJ0_length_8abf5, cJ0_length_8abf5, 1, (some .int))
abbrev mJ0_isLatin1_aae02 : MethodName × ByteArray × Nat × Option FieldType := (yJ0_isLatin1_aae02, cJ0_isLatin1_aae02, 1, (some .boolean))
abbrev mJ3_checkIndex_8e157 : MethodName × ByteArray × Nat × Option FieldType := (yJ3_checkIndex_8e157, cJ3_checkIndex_8e157, 3, (some .int))
abbrev mJ0_checkIndex_df160 : MethodName × ByteArray × Nat × Option FieldType := (yJ0_checkIndex_df160, cJ0_checkIndex_df160, 2, none)
abbrev mJ1_charAt_3b067 : MethodName × ByteArray × Nat × Option FieldType := (yJ1_charAt_3b067, cJ1_charAt_3b067, 2, (some .char))
abbrev mJ2_length_9d52b : MethodName × ByteArray × Nat × Option FieldType := (yJ2_length_9d52b, cJ2_length_9d52b, 1, (some .int))
abbrev mJ2_checkIndex_2214a : MethodName × ByteArray × Nat × Option FieldType := (yJ2_checkIndex_2214a, cJ2_checkIndex_2214a, 2, none)
abbrev mJ2_getChar_3b067 : MethodName × ByteArray × Nat × Option FieldType := (yJ2_getChar_3b067, cJ2_getChar_3b067, 2, (some .char))
abbrev mJ2_charAt_3b067 : MethodName × ByteArray × Nat × Option FieldType := (yJ2_charAt_3b067, cJ2_charAt_3b067, 2, (some .char))
abbrev mJ0_charAt_5068e : MethodName × ByteArray × Nat × Option FieldType := (yJ0_charAt_5068e, cJ0_charAt_5068e, 2, (some .char))
abbrev mX9_kindOfWord : MethodName × ByteArray × Nat × Option FieldType := (yX9_kindOfWord, cX9_kindOfWord, 5, (some .int))
abbrev mX9_add : MethodName × ByteArray × Nat × Option FieldType := (yX9_add, cX9_add, 4, none)
abbrev mX9_addWord : MethodName × ByteArray × Nat × Option FieldType := (yX9_addWord, cX9_addWord, 5, (some .int))
abbrev mX9_isDigit : MethodName × ByteArray × Nat × Option FieldType := (yX9_isDigit, cX9_isDigit, 1, (some .boolean))
abbrev mX9_addNumber : MethodName × ByteArray × Nat × Option FieldType := (yX9_addNumber, cX9_addNumber, 5, (some .int))
abbrev mJ1_canEncode_9a6ad : MethodName × ByteArray × Nat × Option FieldType := (yJ1_canEncode_9a6ad, cJ1_canEncode_9a6ad, 1, (some .boolean))
abbrev mJ1_indexOfChar_4cfef : MethodName × ByteArray × Nat × Option FieldType := (yJ1_indexOfChar_4cfef, cJ1_indexOfChar_4cfef, 6, (some .int))
abbrev mJ1_indexOf_4cfef : MethodName × ByteArray × Nat × Option FieldType := (yJ1_indexOf_4cfef, cJ1_indexOf_4cfef, 4, (some .int))
abbrev mJ3_checkFromToIndex_8c36e : MethodName × ByteArray × Nat × Option FieldType := (yJ3_checkFromToIndex_8c36e, cJ3_checkFromToIndex_8c36e, 4, (some .int))
abbrev mJ0_checkBoundsBeginEnd_23922 : MethodName × ByteArray × Nat × Option FieldType := (yJ0_checkBoundsBeginEnd_23922, cJ0_checkBoundsBeginEnd_23922, 3, none)
abbrev mJ2_checkBoundsBeginEnd_d044e : MethodName × ByteArray × Nat × Option FieldType := (yJ2_checkBoundsBeginEnd_d044e, cJ2_checkBoundsBeginEnd_d044e, 3, none)
abbrev mJ2_indexOfCharUnsafe_4cfef : MethodName × ByteArray × Nat × Option FieldType := (yJ2_indexOfCharUnsafe_4cfef, cJ2_indexOfCharUnsafe_4cfef, 5, (some .int))
abbrev mJ2_indexOfChar_4cfef : MethodName × ByteArray × Nat × Option FieldType := (yJ2_indexOfChar_4cfef, cJ2_indexOfChar_4cfef, 4, (some .int))
abbrev mJ11_isValidCodePoint_9a6ad : MethodName × ByteArray × Nat × Option FieldType := (yJ11_isValidCodePoint_9a6ad, cJ11_isValidCodePoint_9a6ad, 2, (some .boolean))
abbrev mJ11_highSurrogate_5068e : MethodName × ByteArray × Nat × Option FieldType := (yJ11_highSurrogate_5068e, cJ11_highSurrogate_5068e, 1, (some .char))
abbrev mJ11_lowSurrogate_5068e : MethodName × ByteArray × Nat × Option FieldType := (yJ11_lowSurrogate_5068e, cJ11_lowSurrogate_5068e, 1, (some .char))
abbrev mJ2_indexOfSupplementary_4cfef : MethodName × ByteArray × Nat × Option FieldType := (yJ2_indexOfSupplementary_4cfef, cJ2_indexOfSupplementary_4cfef, 7, (some .int))
abbrev mJ2_indexOf_4cfef : MethodName × ByteArray × Nat × Option FieldType := (yJ2_indexOf_4cfef, cJ2_indexOf_4cfef, 4, (some .int))
abbrev mJ0_indexOf_7cf53 : MethodName × ByteArray × Nat × Option FieldType := (yJ0_indexOf_7cf53, cJ0_indexOf_7cf53, 3, (some .int))
abbrev mJ0_indexOf_0f7a4 : MethodName × ByteArray × Nat × Option FieldType := (yJ0_indexOf_0f7a4, cJ0_indexOf_0f7a4, 2, (some .int))
abbrev mX9_withSecond : MethodName × ByteArray × Nat × Option FieldType := (yX9_withSecond, cX9_withSecond, 2, (some .int))
abbrev mX9_addSign : MethodName × ByteArray × Nat × Option FieldType := (yX9_addSign, cX9_addSign, 6, (some .int))
abbrev mX9_open : MethodName × ByteArray × Nat × Option FieldType := (yX9_open, cX9_open, 6, none)
abbrev mX9_kind : MethodName × ByteArray × Nat × Option FieldType := (yX9_kind, cX9_kind, 1, (some .int))
abbrev mX9_place : MethodName × ByteArray × Nat × Option FieldType := (yX9_place, cX9_place, 1, (some .int))
abbrev mX7_fail : MethodName × ByteArray × Nat × Option FieldType := (yX7_fail, cX7_fail, 3, none)
abbrev mX9_advance : MethodName × ByteArray × Nat × Option FieldType := (yX9_advance, cX9_advance, 1, none)
abbrev mX9_value : MethodName × ByteArray × Nat × Option FieldType := (yX9_value, cX9_value, 1, (some .int))
abbrev mX7_take : MethodName × ByteArray × Nat × Option FieldType := (yX7_take, cX7_take, 2, none)
abbrev mX7_ownWord : MethodName × ByteArray × Nat × Option FieldType := (yX7_ownWord, cX7_ownWord, 2, (some .int))
abbrev mX7_number : MethodName × ByteArray × Nat × Option FieldType := (yX7_number, cX7_number, 5, (some .int))
abbrev mX7_readPond : MethodName × ByteArray × Nat × Option FieldType := (yX7_readPond, cX7_readPond, 6, none)
abbrev mX7_toldPond : MethodName × ByteArray × Nat × Option FieldType := (yX7_toldPond, cX7_toldPond, 3, (some .int))
abbrev mX7_readLock : MethodName × ByteArray × Nat × Option FieldType := (yX7_readLock, cX7_readLock, 5, none)
abbrev mX7_readPipe : MethodName × ByteArray × Nat × Option FieldType := (yX7_readPipe, cX7_readPipe, 5, none)
abbrev mX7_readTurn : MethodName × ByteArray × Nat × Option FieldType := (yX7_readTurn, cX7_readTurn, 5, none)
abbrev mX7_readBoat : MethodName × ByteArray × Nat × Option FieldType := (yX7_readBoat, cX7_readBoat, 5, none)
abbrev mX7_readSpring : MethodName × ByteArray × Nat × Option FieldType := (yX7_readSpring, cX7_readSpring, 4, none)
abbrev mX7_readJam : MethodName × ByteArray × Nat × Option FieldType := (yX7_readJam, cX7_readJam, 1, none)
abbrev mX7_readSeed : MethodName × ByteArray × Nat × Option FieldType := (yX7_readSeed, cX7_readSeed, 1, none)
abbrev mX7_takeKnot : MethodName × ByteArray × Nat × Option FieldType := (yX7_takeKnot, cX7_takeKnot, 1, none)
abbrev mX7_rankOf : MethodName × ByteArray × Nat × Option FieldType := (yX7_rankOf, cX7_rankOf, 1, (some .int))
abbrev mX7_readPart : MethodName × ByteArray × Nat × Option FieldType := (yX7_readPart, cX7_readPart, 3, none)
abbrev mX7_readRanked : MethodName × ByteArray × Nat × Option FieldType := (yX7_readRanked, cX7_readRanked, 5, none)
abbrev mX7_readDenied : MethodName × ByteArray × Nat × Option FieldType := (yX7_readDenied, cX7_readDenied, 3, none)
abbrev mX7_readLaw : MethodName × ByteArray × Nat × Option FieldType := (yX7_readLaw, cX7_readLaw, 2, none)
abbrev mX7_readLine : MethodName × ByteArray × Nat × Option FieldType := (yX7_readLine, cX7_readLine, 2, none)
abbrev mX7_read : MethodName × ByteArray × Nat × Option FieldType := (yX7_read, cX7_read, 3, none)
abbrev mX8_begin : MethodName × ByteArray × Nat × Option FieldType := (yX8_begin, cX8_begin, 3, none)
abbrev mX8_become : MethodName × ByteArray × Nat × Option FieldType := (yX8_become, cX8_become, 3, none)
abbrev mX8_runAll : MethodName × ByteArray × Nat × Option FieldType := (yX8_runAll, cX8_runAll, 3, (some .int))
abbrev mX8_waterOf : MethodName × ByteArray × Nat × Option FieldType := (yX8_waterOf, cX8_waterOf, 4, (some .int))
abbrev mX8_waitedByAll : MethodName × ByteArray × Nat × Option FieldType := (yX8_waitedByAll, cX8_waitedByAll, 3, (some .int))
abbrev mX9_hasRoom : MethodName × ByteArray × Nat × Option FieldType := (yX9_hasRoom, cX9_hasRoom, 1, (some .boolean))
abbrev mX9_append : MethodName × ByteArray × Nat × Option FieldType := (yX9_append, cX9_append, 3, none)
abbrev mX10_feed : MethodName × ByteArray × Nat × Option FieldType := (yX10_feed, cX10_feed, 7, (some .int))
abbrev mX10_text : MethodName × ByteArray × Nat × Option FieldType := (yX10_text, cX10_text, 3, (some .int))
abbrev mX10_fault : MethodName × ByteArray × Nat × Option FieldType := (yX10_fault, cX10_fault, 2, (some .int))
abbrev mX10_named : MethodName × ByteArray × Nat × Option FieldType := (yX10_named, cX10_named, 2, (some .int))
abbrev mX10_isPond : MethodName × ByteArray × Nat × Option FieldType := (yX10_isPond, cX10_isPond, 2, (some .boolean))
abbrev mX10_orWithout : MethodName × ByteArray × Nat × Option FieldType := (yX10_orWithout, cX10_orWithout, 1, (some .int))
abbrev mX10_pond : MethodName × ByteArray × Nat × Option FieldType := (yX10_pond, cX10_pond, 3, (some .int))
abbrev mX10_isHalf : MethodName × ByteArray × Nat × Option FieldType := (yX10_isHalf, cX10_isHalf, 1, (some .boolean))
abbrev mX10_inLeastTerms : MethodName × ByteArray × Nat × Option FieldType := (yX10_inLeastTerms, cX10_inLeastTerms, 12, (some .long))
abbrev mX10_level : MethodName × ByteArray × Nat × Option FieldType := (yX10_level, cX10_level, 3, (some .int))
abbrev mX10_isPipe : MethodName × ByteArray × Nat × Option FieldType := (yX10_isPipe, cX10_isPipe, 2, (some .boolean))
abbrev mX10_pipe : MethodName × ByteArray × Nat × Option FieldType := (yX10_pipe, cX10_pipe, 3, (some .int))
abbrev mX10_isLock : MethodName × ByteArray × Nat × Option FieldType := (yX10_isLock, cX10_isLock, 2, (some .boolean))
abbrev mX10_lock : MethodName × ByteArray × Nat × Option FieldType := (yX10_lock, cX10_lock, 3, (some .int))
abbrev mX10_isBoat : MethodName × ByteArray × Nat × Option FieldType := (yX10_isBoat, cX10_isBoat, 2, (some .boolean))
abbrev mX10_boat : MethodName × ByteArray × Nat × Option FieldType := (yX10_boat, cX10_boat, 3, (some .int))
abbrev mX10_law : MethodName × ByteArray × Nat × Option FieldType := (yX10_law, cX10_law, 3, (some .long))
abbrev mX10_runs : MethodName × ByteArray × Nat × Option FieldType := (yX10_runs, cX10_runs, 3, (some .int))
abbrev mX10_draw : MethodName × ByteArray × Nat × Option FieldType := (yX10_draw, cX10_draw, 3, (some .int))
abbrev mX10_isBucket : MethodName × ByteArray × Nat × Option FieldType := (yX10_isBucket, cX10_isBucket, 1, (some .boolean))
abbrev mX10_fill : MethodName × ByteArray × Nat × Option FieldType := (yX10_fill, cX10_fill, 3, (some .int))
abbrev mX10_spill : MethodName × ByteArray × Nat × Option FieldType := (yX10_spill, cX10_spill, 3, (some .int))
abbrev mX10_mend : MethodName × ByteArray × Nat × Option FieldType := (yX10_mend, cX10_mend, 2, (some .boolean))
abbrev mX10_go : MethodName × ByteArray × Nat × Option FieldType := (yX10_go, cX10_go, 2, (some .int))
abbrev mX10_ahead : MethodName × ByteArray × Nat × Option FieldType := (yX10_ahead, cX10_ahead, 4, (some .int))
abbrev mX10_upWhen : MethodName × ByteArray × Nat × Option FieldType := (yX10_upWhen, cX10_upWhen, 3, (some .int))
abbrev mX10_joined : MethodName × ByteArray × Nat × Option FieldType := (yX10_joined, cX10_joined, 12, (some .int))
abbrev mX10_isHeight : MethodName × ByteArray × Nat × Option FieldType := (yX10_isHeight, cX10_isHeight, 1, (some .boolean))
abbrev mX10_needs : MethodName × ByteArray × Nat × Option FieldType := (yX10_needs, cX10_needs, 3, (some .int))
abbrev mX10_spare : MethodName × ByteArray × Nat × Option FieldType := (yX10_spare, cX10_spare, 3, (some .int))
abbrev mX10_lift : MethodName × ByteArray × Nat × Option FieldType := (yX10_lift, cX10_lift, 2, (some .int))
abbrev mX10_fewest : MethodName × ByteArray × Nat × Option FieldType := (yX10_fewest, cX10_fewest, 4, (some .int))
abbrev mX10_draws : MethodName × ByteArray × Nat × Option FieldType := (yX10_draws, cX10_draws, 4, (some .int))
abbrev mX10_highest : MethodName × ByteArray × Nat × Option FieldType := (yX10_highest, cX10_highest, 5, (some .int))
abbrev mX10_apart : MethodName × ByteArray × Nat × Option FieldType := (yX10_apart, cX10_apart, 4, (some .int))
abbrev mX10_still : MethodName × ByteArray × Nat × Option FieldType := (yX10_still, cX10_still, 4, (some .int))
abbrev mX10_reach : MethodName × ByteArray × Nat × Option FieldType := (yX10_reach, cX10_reach, 4, (some .int))
abbrev mX10_pass : MethodName × ByteArray × Nat × Option FieldType := (yX10_pass, cX10_pass, 5, (some .int))
abbrev mX10_lockfuls : MethodName × ByteArray × Nat × Option FieldType := (yX10_lockfuls, cX10_lockfuls, 4, (some .int))
abbrev mX10_game : MethodName × ByteArray × Nat × Option FieldType := (yX10_game, cX10_game, 6, (some .int))
abbrev mX10_keeperHas : MethodName × ByteArray × Nat × Option FieldType := (yX10_keeperHas, cX10_keeperHas, 4, (some .int))
abbrev mX10_isRest : MethodName × ByteArray × Nat × Option FieldType := (yX10_isRest, cX10_isRest, 8, (some .boolean))
abbrev mX10_rests : MethodName × ByteArray × Nat × Option FieldType := (yX10_rests, cX10_rests, 5, (some .int))
abbrev mX10_rest : MethodName × ByteArray × Nat × Option FieldType := (yX10_rest, cX10_rest, 6, (some .int))
abbrev mX10_holds : MethodName × ByteArray × Nat × Option FieldType := (yX10_holds, cX10_holds, 8, (some .long))
abbrev mX10_see : MethodName × ByteArray × Nat × Option FieldType := (yX10_see, cX10_see, 5, (some .int))
abbrev mX10_strike : MethodName × ByteArray × Nat × Option FieldType := (yX10_strike, cX10_strike, 2, (some .int))
abbrev mX10_known : MethodName × ByteArray × Nat × Option FieldType := (yX10_known, cX10_known, 2, (some .boolean))
abbrev mX10_weigh : MethodName × ByteArray × Nat × Option FieldType := (yX10_weigh, cX10_weigh, 7, (some .int))
abbrev mX10_leaks : MethodName × ByteArray × Nat × Option FieldType := (yX10_leaks, cX10_leaks, 2, (some .int))
abbrev mX10_leftAtWorst : MethodName × ByteArray × Nat × Option FieldType := (yX10_leftAtWorst, cX10_leftAtWorst, 7, (some .int))
abbrev mX10_ask : MethodName × ByteArray × Nat × Option FieldType := (yX10_ask, cX10_ask, 8, (some .int))
abbrev mX10_chance : MethodName × ByteArray × Nat × Option FieldType := (yX10_chance, cX10_chance, 7, (some .int))
abbrev mX10_tried : MethodName × ByteArray × Nat × Option FieldType := (yX10_tried, cX10_tried, 5, (some .int))
abbrev mX10_undo : MethodName × ByteArray × Nat × Option FieldType := (yX10_undo, cX10_undo, 1, (some .int))
abbrev mX10_keep : MethodName × ByteArray × Nat × Option FieldType := (yX10_keep, cX10_keep, 1, (some .int))
abbrev mX10_back : MethodName × ByteArray × Nat × Option FieldType := (yX10_back, cX10_back, 1, (some .int))
abbrev mX10_count : MethodName × ByteArray × Nat × Option FieldType := (yX10_count, cX10_count, 2, (some .int))
abbrev mX11_starts : MethodName × ByteArray × Nat × Option FieldType := (yX11_starts, cX11_starts, 3, none)
abbrev mX11_begins : MethodName × ByteArray × Nat × Option FieldType := (yX11_begins, cX11_begins, 1, none)
abbrev mX11_thrown : MethodName × ByteArray × Nat × Option FieldType := (yX11_thrown, cX11_thrown, 1, (some .int))
abbrev mX11_feed : MethodName × ByteArray × Nat × Option FieldType := (yX11_feed, cX11_feed, 8, (some .int))
abbrev mX11_here : MethodName × ByteArray × Nat × Option FieldType := (yX11_here, cX11_here, 1, (some .int))
abbrev mX11_isSmall : MethodName × ByteArray × Nat × Option FieldType := (yX11_isSmall, cX11_isSmall, 1, (some .boolean))
abbrev mX11_isDigit : MethodName × ByteArray × Nat × Option FieldType := (yX11_isDigit, cX11_isDigit, 1, (some .boolean))
abbrev mX11_word : MethodName × ByteArray × Nat × Option FieldType := (yX11_word, cX11_word, 4, (some .int))
abbrev mX11_name : MethodName × ByteArray × Nat × Option FieldType := (yX11_name, cX11_name, 2, none)
abbrev mX11_sign : MethodName × ByteArray × Nat × Option FieldType := (yX11_sign, cX11_sign, 2, none)
abbrev mX11_token : MethodName × ByteArray × Nat × Option FieldType := (yX11_token, cX11_token, 2, none)
abbrev mX11_wrong : MethodName × ByteArray × Nat × Option FieldType := (yX11_wrong, cX11_wrong, 2, none)
abbrev mX11_isWord : MethodName × ByteArray × Nat × Option FieldType := (yX11_isWord, cX11_isWord, 2, (some .boolean))
abbrev mX11_isSign : MethodName × ByteArray × Nat × Option FieldType := (yX11_isSign, cX11_isSign, 2, (some .boolean))
abbrev mX11_goOn : MethodName × ByteArray × Nat × Option FieldType := (yX11_goOn, cX11_goOn, 1, none)
abbrev mX11_numeral : MethodName × ByteArray × Nat × Option FieldType := (yX11_numeral, cX11_numeral, 4, (some .int))
abbrev mX11_found : MethodName × ByteArray × Nat × Option FieldType := (yX11_found, cX11_found, 5, (some .int))
abbrev mX11_fresh : MethodName × ByteArray × Nat × Option FieldType := (yX11_fresh, cX11_fresh, 5, (some .int))
abbrev mX11_fresher : MethodName × ByteArray × Nat × Option FieldType := (yX11_fresher, cX11_fresher, 2, (some .int))
abbrev mX11_reads : MethodName × ByteArray × Nat × Option FieldType := (yX11_reads, cX11_reads, 3, none)
abbrev mX11_pondAtHand : MethodName × ByteArray × Nat × Option FieldType := (yX11_pondAtHand, cX11_pondAtHand, 2, (some .int))
abbrev mX11_lockWith : MethodName × ByteArray × Nat × Option FieldType := (yX11_lockWith, cX11_lockWith, 3, (some .int))
abbrev mX11_isFull : MethodName × ByteArray × Nat × Option FieldType := (yX11_isFull, cX11_isFull, 2, (some .boolean))
abbrev mX11_lockLine : MethodName × ByteArray × Nat × Option FieldType := (yX11_lockLine, cX11_lockLine, 2, none)
abbrev mX11_pipeLine : MethodName × ByteArray × Nat × Option FieldType := (yX11_pipeLine, cX11_pipeLine, 3, none)
abbrev mX11_turnLine : MethodName × ByteArray × Nat × Option FieldType := (yX11_turnLine, cX11_turnLine, 2, none)
abbrev mX11_knot : MethodName × ByteArray × Nat × Option FieldType := (yX11_knot, cX11_knot, 1, none)
abbrev mX11_puts : MethodName × ByteArray × Nat × Option FieldType := (yX11_puts, cX11_puts, 3, none)
abbrev mX11_expression : MethodName × ByteArray × Nat × Option FieldType := (yX11_expression, cX11_expression, 1, none)
abbrev mX11_negation : MethodName × ByteArray × Nat × Option FieldType := (yX11_negation, cX11_negation, 2, none)
abbrev mX11_primary : MethodName × ByteArray × Nat × Option FieldType := (yX11_primary, cX11_primary, 2, none)
abbrev mX11_product : MethodName × ByteArray × Nat × Option FieldType := (yX11_product, cX11_product, 2, none)
abbrev mX11_sum : MethodName × ByteArray × Nat × Option FieldType := (yX11_sum, cX11_sum, 2, none)
abbrev mX11_conjunction : MethodName × ByteArray × Nat × Option FieldType := (yX11_conjunction, cX11_conjunction, 1, none)
abbrev mX11_lawLine : MethodName × ByteArray × Nat × Option FieldType := (yX11_lawLine, cX11_lawLine, 2, none)
abbrev mX11_line : MethodName × ByteArray × Nat × Option FieldType := (yX11_line, cX11_line, 5, none)
abbrev mX11_half : MethodName × ByteArray × Nat × Option FieldType := (yX11_half, cX11_half, 3, none)
abbrev mX11_text : MethodName × ByteArray × Nat × Option FieldType := (yX11_text, cX11_text, 3, (some .int))
abbrev mX11_fault : MethodName × ByteArray × Nat × Option FieldType := (yX11_fault, cX11_fault, 2, (some .int))
abbrev mX11_named : MethodName × ByteArray × Nat × Option FieldType := (yX11_named, cX11_named, 2, (some .int))
abbrev mX11_is : MethodName × ByteArray × Nat × Option FieldType := (yX11_is, cX11_is, 1, (some .long))
abbrev mX11_works : MethodName × ByteArray × Nat × Option FieldType := (yX11_works, cX11_works, 8, (some .boolean))
abbrev mX11_goes : MethodName × ByteArray × Nat × Option FieldType := (yX11_goes, cX11_goes, 3, (some .boolean))
abbrev mX11_hasLaw : MethodName × ByteArray × Nat × Option FieldType := (yX11_hasLaw, cX11_hasLaw, 2, (some .boolean))
abbrev mX11_copies : MethodName × ByteArray × Nat × Option FieldType := (yX11_copies, cX11_copies, 4, none)
abbrev mX11_isPond : MethodName × ByteArray × Nat × Option FieldType := (yX11_isPond, cX11_isPond, 2, (some .boolean))
abbrev mX11_isPipe : MethodName × ByteArray × Nat × Option FieldType := (yX11_isPipe, cX11_isPipe, 2, (some .boolean))
abbrev mX11_isLock : MethodName × ByteArray × Nat × Option FieldType := (yX11_isLock, cX11_isLock, 2, (some .boolean))
abbrev mX11_isBoat : MethodName × ByteArray × Nat × Option FieldType := (yX11_isBoat, cX11_isBoat, 2, (some .boolean))
abbrev mX11_bitsOf : MethodName × ByteArray × Nat × Option FieldType := (yX11_bitsOf, cX11_bitsOf, 3, (some .int))
abbrev mX11_fullOf : MethodName × ByteArray × Nat × Option FieldType := (yX11_fullOf, cX11_fullOf, 3, (some .int))
abbrev mX11_higherBy : MethodName × ByteArray × Nat × Option FieldType := (yX11_higherBy, cX11_higherBy, 4, (some .int))
abbrev mX11_isHigh : MethodName × ByteArray × Nat × Option FieldType := (yX11_isHigh, cX11_isHigh, 4, (some .boolean))
abbrev mX11_sourceOf : MethodName × ByteArray × Nat × Option FieldType := (yX11_sourceOf, cX11_sourceOf, 3, (some .int))
abbrev mX11_sinkOf : MethodName × ByteArray × Nat × Option FieldType := (yX11_sinkOf, cX11_sinkOf, 3, (some .int))
abbrev mX11_runOf : MethodName × ByteArray × Nat × Option FieldType := (yX11_runOf, cX11_runOf, 5, (some .int))
abbrev mX11_flows : MethodName × ByteArray × Nat × Option FieldType := (yX11_flows, cX11_flows, 7, (some .int))
abbrev mX11_isJammed : MethodName × ByteArray × Nat × Option FieldType := (yX11_isJammed, cX11_isJammed, 3, (some .boolean))
abbrev mX11_isTurned : MethodName × ByteArray × Nat × Option FieldType := (yX11_isTurned, cX11_isTurned, 4, (some .boolean))
abbrev mX11_isOpen : MethodName × ByteArray × Nat × Option FieldType := (yX11_isOpen, cX11_isOpen, 3, (some .boolean))
abbrev mX11_openMany : MethodName × ByteArray × Nat × Option FieldType := (yX11_openMany, cX11_openMany, 4, (some .int))
abbrev mX11_boatsOf : MethodName × ByteArray × Nat × Option FieldType := (yX11_boatsOf, cX11_boatsOf, 5, (some .int))
abbrev mX11_calls : MethodName × ByteArray × Nat × Option FieldType := (yX11_calls, cX11_calls, 4, none)
abbrev mX11_within : MethodName × ByteArray × Nat × Option FieldType := (yX11_within, cX11_within, 4, (some .int))
abbrev mX11_doesJam : MethodName × ByteArray × Nat × Option FieldType := (yX11_doesJam, cX11_doesJam, 4, (some .boolean))
abbrev mX11_opens : MethodName × ByteArray × Nat × Option FieldType := (yX11_opens, cX11_opens, 4, none)
abbrev mX11_more : MethodName × ByteArray × Nat × Option FieldType := (yX11_more, cX11_more, 3, (some .int))
abbrev mX11_loses : MethodName × ByteArray × Nat × Option FieldType := (yX11_loses, cX11_loses, 5, none)
abbrev mX11_boatIn : MethodName × ByteArray × Nat × Option FieldType := (yX11_boatIn, cX11_boatIn, 4, (some .int))
abbrev mX11_moves : MethodName × ByteArray × Nat × Option FieldType := (yX11_moves, cX11_moves, 7, none)
abbrev mX11_passes : MethodName × ByteArray × Nat × Option FieldType := (yX11_passes, cX11_passes, 4, none)
abbrev mX11_goesOn : MethodName × ByteArray × Nat × Option FieldType := (yX11_goesOn, cX11_goesOn, 3, none)
abbrev mX11_sumOf : MethodName × ByteArray × Nat × Option FieldType := (yX11_sumOf, cX11_sumOf, 6, (some .int))
abbrev mX11_common : MethodName × ByteArray × Nat × Option FieldType := (yX11_common, cX11_common, 5, (some .int))
abbrev mX11_part : MethodName × ByteArray × Nat × Option FieldType := (yX11_part, cX11_part, 4, (some .int))
abbrev mX11_isPart : MethodName × ByteArray × Nat × Option FieldType := (yX11_isPart, cX11_isPart, 1, (some .boolean))
abbrev mX11_orNone : MethodName × ByteArray × Nat × Option FieldType := (yX11_orNone, cX11_orNone, 1, (some .int))
abbrev mX11_lockOf : MethodName × ByteArray × Nat × Option FieldType := (yX11_lockOf, cX11_lockOf, 3, (some .int))
abbrev mX11_pond : MethodName × ByteArray × Nat × Option FieldType := (yX11_pond, cX11_pond, 3, (some .int))
abbrev mX11_level : MethodName × ByteArray × Nat × Option FieldType := (yX11_level, cX11_level, 3, (some .int))
abbrev mX11_pipe : MethodName × ByteArray × Nat × Option FieldType := (yX11_pipe, cX11_pipe, 3, (some .int))
abbrev mX11_lock : MethodName × ByteArray × Nat × Option FieldType := (yX11_lock, cX11_lock, 3, (some .int))
abbrev mX11_boat : MethodName × ByteArray × Nat × Option FieldType := (yX11_boat, cX11_boat, 3, (some .int))
abbrev mX11_law : MethodName × ByteArray × Nat × Option FieldType := (yX11_law, cX11_law, 4, (some .long))
abbrev mX11_runs : MethodName × ByteArray × Nat × Option FieldType := (yX11_runs, cX11_runs, 3, (some .int))
abbrev mX11_keepNow : MethodName × ByteArray × Nat × Option FieldType := (yX11_keepNow, cX11_keepNow, 2, none)
abbrev mX11_draw : MethodName × ByteArray × Nat × Option FieldType := (yX11_draw, cX11_draw, 3, (some .int))
abbrev mX11_fill : MethodName × ByteArray × Nat × Option FieldType := (yX11_fill, cX11_fill, 3, (some .int))
abbrev mX11_spill : MethodName × ByteArray × Nat × Option FieldType := (yX11_spill, cX11_spill, 3, (some .int))
abbrev mX11_mend : MethodName × ByteArray × Nat × Option FieldType := (yX11_mend, cX11_mend, 2, (some .boolean))
abbrev mX11_go : MethodName × ByteArray × Nat × Option FieldType := (yX11_go, cX11_go, 3, (some .int))
abbrev mX11_ahead : MethodName × ByteArray × Nat × Option FieldType := (yX11_ahead, cX11_ahead, 4, (some .int))
abbrev mX11_upWhen : MethodName × ByteArray × Nat × Option FieldType := (yX11_upWhen, cX11_upWhen, 3, (some .int))
abbrev mX11_joinedBy : MethodName × ByteArray × Nat × Option FieldType := (yX11_joinedBy, cX11_joinedBy, 10, (some .int))
abbrev mX11_joined : MethodName × ByteArray × Nat × Option FieldType := (yX11_joined, cX11_joined, 3, (some .int))
abbrev mX11_isHeight : MethodName × ByteArray × Nat × Option FieldType := (yX11_isHeight, cX11_isHeight, 1, (some .boolean))
abbrev mX11_overOf : MethodName × ByteArray × Nat × Option FieldType := (yX11_overOf, cX11_overOf, 3, (some .int))
abbrev mX11_needs : MethodName × ByteArray × Nat × Option FieldType := (yX11_needs, cX11_needs, 3, (some .int))
abbrev mX11_spareOf : MethodName × ByteArray × Nat × Option FieldType := (yX11_spareOf, cX11_spareOf, 3, (some .int))
abbrev mX11_spare : MethodName × ByteArray × Nat × Option FieldType := (yX11_spare, cX11_spare, 3, (some .int))
abbrev mX11_liftOf : MethodName × ByteArray × Nat × Option FieldType := (yX11_liftOf, cX11_liftOf, 2, (some .int))
abbrev mX11_lift : MethodName × ByteArray × Nat × Option FieldType := (yX11_lift, cX11_lift, 2, (some .int))
abbrev mX11_laysWater : MethodName × ByteArray × Nat × Option FieldType := (yX11_laysWater, cX11_laysWater, 3, none)
abbrev mX11_takes : MethodName × ByteArray × Nat × Option FieldType := (yX11_takes, cX11_takes, 3, none)
abbrev mX11_opensTo : MethodName × ByteArray × Nat × Option FieldType := (yX11_opensTo, cX11_opensTo, 4, (some .boolean))
abbrev mX11_seeks : MethodName × ByteArray × Nat × Option FieldType := (yX11_seeks, cX11_seeks, 3, none)
abbrev mX11_fewestBy : MethodName × ByteArray × Nat × Option FieldType := (yX11_fewestBy, cX11_fewestBy, 4, (some .int))
abbrev mX11_fewest : MethodName × ByteArray × Nat × Option FieldType := (yX11_fewest, cX11_fewest, 5, (some .int))
abbrev mX11_drawsBy : MethodName × ByteArray × Nat × Option FieldType := (yX11_drawsBy, cX11_drawsBy, 3, none)
abbrev mX11_draws : MethodName × ByteArray × Nat × Option FieldType := (yX11_draws, cX11_draws, 4, (some .int))
abbrev mX11_highest : MethodName × ByteArray × Nat × Option FieldType := (yX11_highest, cX11_highest, 5, (some .int))
abbrev mX11_apart : MethodName × ByteArray × Nat × Option FieldType := (yX11_apart, cX11_apart, 4, (some .int))
abbrev mX11_runsAll : MethodName × ByteArray × Nat × Option FieldType := (yX11_runsAll, cX11_runsAll, 3, (some .int))
abbrev mX11_still : MethodName × ByteArray × Nat × Option FieldType := (yX11_still, cX11_still, 4, (some .int))
abbrev mX11_nextTo : MethodName × ByteArray × Nat × Option FieldType := (yX11_nextTo, cX11_nextTo, 4, (some .int))
abbrev mX11_reach : MethodName × ByteArray × Nat × Option FieldType := (yX11_reach, cX11_reach, 5, (some .int))
abbrev mX11_roomFrom : MethodName × ByteArray × Nat × Option FieldType := (yX11_roomFrom, cX11_roomFrom, 3, (some .int))
abbrev mX11_otherOf : MethodName × ByteArray × Nat × Option FieldType := (yX11_otherOf, cX11_otherOf, 3, (some .int))
abbrev mX11_findsOne : MethodName × ByteArray × Nat × Option FieldType := (yX11_findsOne, cX11_findsOne, 8, (some .boolean))
abbrev mX11_sends : MethodName × ByteArray × Nat × Option FieldType := (yX11_sends, cX11_sends, 5, (some .int))
abbrev mX11_pass : MethodName × ByteArray × Nat × Option FieldType := (yX11_pass, cX11_pass, 4, (some .int))
abbrev mX11_lockfuls : MethodName × ByteArray × Nat × Option FieldType := (yX11_lockfuls, cX11_lockfuls, 4, (some .int))
abbrev mX11_game : MethodName × ByteArray × Nat × Option FieldType := (yX11_game, cX11_game, 5, (some .int))
abbrev mX11_hasOf : MethodName × ByteArray × Nat × Option FieldType := (yX11_hasOf, cX11_hasOf, 5, (some .int))
abbrev mX11_isRest : MethodName × ByteArray × Nat × Option FieldType := (yX11_isRest, cX11_isRest, 6, (some .boolean))
abbrev mX11_restOf : MethodName × ByteArray × Nat × Option FieldType := (yX11_restOf, cX11_restOf, 6, (some .int))
abbrev mX11_areTwo : MethodName × ByteArray × Nat × Option FieldType := (yX11_areTwo, cX11_areTwo, 3, (some .boolean))
abbrev mX11_rests : MethodName × ByteArray × Nat × Option FieldType := (yX11_rests, cX11_rests, 3, (some .int))
abbrev mX11_rest : MethodName × ByteArray × Nat × Option FieldType := (yX11_rest, cX11_rest, 4, (some .int))
abbrev mX11_holds : MethodName × ByteArray × Nat × Option FieldType := (yX11_holds, cX11_holds, 13, (some .long))
abbrev mX11_see : MethodName × ByteArray × Nat × Option FieldType := (yX11_see, cX11_see, 5, (some .int))
abbrev mX11_strike : MethodName × ByteArray × Nat × Option FieldType := (yX11_strike, cX11_strike, 2, (some .int))
abbrev mX11_known : MethodName × ByteArray × Nat × Option FieldType := (yX11_known, cX11_known, 2, (some .boolean))
abbrev mX11_knownMany : MethodName × ByteArray × Nat × Option FieldType := (yX11_knownMany, cX11_knownMany, 1, (some .int))
abbrev mX11_isSo : MethodName × ByteArray × Nat × Option FieldType := (yX11_isSo, cX11_isSo, 3, (some .boolean))
abbrev mX11_fitsLeak : MethodName × ByteArray × Nat × Option FieldType := (yX11_fitsLeak, cX11_fitsLeak, 3, (some .boolean))
abbrev mX11_leaksOf : MethodName × ByteArray × Nat × Option FieldType := (yX11_leaksOf, cX11_leaksOf, 5, (some .int))
abbrev mX11_leaks : MethodName × ByteArray × Nat × Option FieldType := (yX11_leaks, cX11_leaks, 2, (some .int))
abbrev mX11_worstAt : MethodName × ByteArray × Nat × Option FieldType := (yX11_worstAt, cX11_worstAt, 7, (some .int))
abbrev mX11_ask : MethodName × ByteArray × Nat × Option FieldType := (yX11_ask, cX11_ask, 6, (some .int))
abbrev mX11_chance : MethodName × ByteArray × Nat × Option FieldType := (yX11_chance, cX11_chance, 8, (some .int))
abbrev mX11_tried : MethodName × ByteArray × Nat × Option FieldType := (yX11_tried, cX11_tried, 5, (some .int))
abbrev mX11_undo : MethodName × ByteArray × Nat × Option FieldType := (yX11_undo, cX11_undo, 1, (some .int))
abbrev mX11_keep : MethodName × ByteArray × Nat × Option FieldType := (yX11_keep, cX11_keep, 1, (some .int))
abbrev mX11_back : MethodName × ByteArray × Nat × Option FieldType := (yX11_back, cX11_back, 1, (some .int))
abbrev mX11_count : MethodName × ByteArray × Nat × Option FieldType := (yX11_count, cX11_count, 2, (some .int))
abbrev mJ9_abs_0f7a4 : MethodName × ByteArray × Nat × Option FieldType := (yJ9_abs_0f7a4, cJ9_abs_0f7a4, 1, (some .int))
abbrev mJ9_abs_067f4 : MethodName × ByteArray × Nat × Option FieldType := (yJ9_abs_067f4, cJ9_abs_067f4, 2, (some .long))
abbrev mJ9_max_7cf53 : MethodName × ByteArray × Nat × Option FieldType := (yJ9_max_7cf53, cJ9_max_7cf53, 2, (some .int))
abbrev mJ9_max_f86c9 : MethodName × ByteArray × Nat × Option FieldType := (yJ9_max_f86c9, cJ9_max_f86c9, 4, (some .long))
abbrev mJ9_min_7cf53 : MethodName × ByteArray × Nat × Option FieldType := (yJ9_min_7cf53, cJ9_min_7cf53, 2, (some .int))
abbrev mJ9_min_f86c9 : MethodName × ByteArray × Nat × Option FieldType := (yJ9_min_f86c9, cJ9_min_f86c9, 4, (some .long))
