theorem lt_t1 {w : Cond} {i : Nat} (h : tables_1_1[i]? = some w) : w ∈ lw_tbl := List.mem_append_right _ (show w ∈ tables_1_1 ++ (tables_1_2 ++ (tables_1_3 ++ (tables_1_4 ++ tables_1_5))) from List.mem_append_left _ (List.mem_of_getElem? h))
theorem lt_t2 {w : Cond} {i : Nat} (h : tables_1_2[i]? = some w) : w ∈ lw_tbl := List.mem_append_right _ (show w ∈ tables_1_1 ++ (tables_1_2 ++ (tables_1_3 ++ (tables_1_4 ++ tables_1_5))) from List.mem_append_right _ (List.mem_append_left _ (List.mem_of_getElem? h)))
theorem lt_t3 {w : Cond} {i : Nat} (h : tables_1_3[i]? = some w) : w ∈ lw_tbl := List.mem_append_right _ (show w ∈ tables_1_1 ++ (tables_1_2 ++ (tables_1_3 ++ (tables_1_4 ++ tables_1_5))) from List.mem_append_right _ (List.mem_append_right _ (List.mem_append_left _ (List.mem_of_getElem? h))))
theorem lt_t4 {w : Cond} {i : Nat} (h : tables_1_4[i]? = some w) : w ∈ lw_tbl := List.mem_append_right _ (show w ∈ tables_1_1 ++ (tables_1_2 ++ (tables_1_3 ++ (tables_1_4 ++ tables_1_5))) from List.mem_append_right _ (List.mem_append_right _ (List.mem_append_right _ (List.mem_append_left _ (List.mem_of_getElem? h)))))
theorem lt_t5 {w : Cond} {i : Nat} (h : tables_1_5[i]? = some w) : w ∈ lw_tbl := List.mem_append_right _ (show w ∈ tables_1_1 ++ (tables_1_2 ++ (tables_1_3 ++ (tables_1_4 ++ tables_1_5))) from List.mem_append_right _ (List.mem_append_right _ (List.mem_append_right _ (List.mem_append_right _ (List.mem_of_getElem? h)))))
theorem lt_p {w : Cond} {i : Nat} (h : (k2_sels lw_privs)[i]? = some w) : w ∈ lw_tbl := List.mem_append_left _ (List.mem_of_getElem? h)
set_option maxRecDepth 100000 in
theorem lt_r1 : ∀ w ∈ wsL_law0_r1, w ∈ lw_tbl := List.forall_mem_cons.mpr ⟨lt_t1 (i := 16) rfl, List.forall_mem_cons.mpr ⟨lt_t1 (i := 17) rfl, List.forall_mem_cons.mpr ⟨lt_t1 (i := 1) rfl, List.forall_mem_cons.mpr ⟨lt_t3 (i := 130) rfl, List.forall_mem_cons.mpr ⟨lt_t3 (i := 131) rfl, List.forall_mem_cons.mpr ⟨lt_t1 (i := 9) rfl, List.forall_mem_cons.mpr ⟨lt_t4 (i := 65) rfl, List.forall_mem_cons.mpr ⟨lt_t1 (i := 18) rfl, List.forall_mem_cons.mpr ⟨lt_t1 (i := 19) rfl, List.forall_mem_cons.mpr ⟨lt_t1 (i := 20) rfl, List.forall_mem_cons.mpr ⟨lt_t1 (i := 21) rfl, List.forall_mem_cons.mpr ⟨lt_t1 (i := 22) rfl, List.forall_mem_cons.mpr ⟨lt_t1 (i := 23) rfl, List.forall_mem_cons.mpr ⟨lt_t1 (i := 24) rfl, List.forall_mem_cons.mpr ⟨lt_t1 (i := 25) rfl, List.forall_mem_cons.mpr ⟨lt_t1 (i := 2) rfl, List.forall_mem_cons.mpr ⟨lt_t2 (i := 21) rfl, List.forall_mem_cons.mpr ⟨lt_t1 (i := 63) rfl, List.forall_mem_cons.mpr ⟨lt_t1 (i := 64) rfl, List.forall_mem_cons.mpr ⟨lt_t1 (i := 3) rfl, List.forall_mem_cons.mpr ⟨lt_t1 (i := 119) rfl, List.forall_mem_cons.mpr ⟨lt_t1 (i := 120) rfl, List.forall_mem_cons.mpr ⟨lt_t1 (i := 5) rfl, List.forall_mem_cons.mpr ⟨lt_t2 (i := 22) rfl, fun _ h => absurd h List.not_mem_nil⟩⟩⟩⟩⟩⟩⟩⟩⟩⟩⟩⟩⟩⟩⟩⟩⟩⟩⟩⟩⟩⟩⟩⟩
set_option maxRecDepth 100000 in
theorem lt_r2 : ∀ w ∈ wsL_law0_r2, w ∈ lw_tbl := List.forall_mem_cons.mpr ⟨lt_t1 (i := 198) rfl, List.forall_mem_cons.mpr ⟨lt_t1 (i := 199) rfl, List.forall_mem_cons.mpr ⟨lt_t1 (i := 6) rfl, List.forall_mem_cons.mpr ⟨lt_t2 (i := 23) rfl, List.forall_mem_cons.mpr ⟨lt_t1 (i := 219) rfl, List.forall_mem_cons.mpr ⟨lt_t1 (i := 220) rfl, List.forall_mem_cons.mpr ⟨lt_t1 (i := 7) rfl, List.forall_mem_cons.mpr ⟨lt_t2 (i := 24) rfl, List.forall_mem_cons.mpr ⟨lt_t2 (i := 5) rfl, List.forall_mem_cons.mpr ⟨lt_t2 (i := 6) rfl, List.forall_mem_cons.mpr ⟨lt_t1 (i := 8) rfl, List.forall_mem_cons.mpr ⟨lt_t2 (i := 25) rfl, List.forall_mem_cons.mpr ⟨lt_t1 (i := 27) rfl, List.forall_mem_cons.mpr ⟨lt_t1 (i := 28) rfl, List.forall_mem_cons.mpr ⟨lt_t1 (i := 29) rfl, List.forall_mem_cons.mpr ⟨lt_t1 (i := 62) rfl, List.forall_mem_cons.mpr ⟨lt_t1 (i := 30) rfl, List.forall_mem_cons.mpr ⟨lt_t1 (i := 34) rfl, List.forall_mem_cons.mpr ⟨lt_t1 (i := 38) rfl, List.forall_mem_cons.mpr ⟨lt_t1 (i := 42) rfl, List.forall_mem_cons.mpr ⟨lt_t1 (i := 65) rfl, List.forall_mem_cons.mpr ⟨lt_t1 (i := 66) rfl, List.forall_mem_cons.mpr ⟨lt_t1 (i := 67) rfl, List.forall_mem_cons.mpr ⟨lt_t1 (i := 68) rfl, fun _ h => absurd h List.not_mem_nil⟩⟩⟩⟩⟩⟩⟩⟩⟩⟩⟩⟩⟩⟩⟩⟩⟩⟩⟩⟩⟩⟩⟩⟩
set_option maxRecDepth 100000 in
theorem lt_r3 : ∀ w ∈ wsL_law0_r3, w ∈ lw_tbl := List.forall_mem_cons.mpr ⟨lt_t1 (i := 69) rfl, List.forall_mem_cons.mpr ⟨lt_t1 (i := 70) rfl, List.forall_mem_cons.mpr ⟨lt_t1 (i := 4) rfl, List.forall_mem_cons.mpr ⟨lt_t1 (i := 110) rfl, List.forall_mem_cons.mpr ⟨lt_t1 (i := 113) rfl, List.forall_mem_cons.mpr ⟨lt_t1 (i := 72) rfl, List.forall_mem_cons.mpr ⟨lt_t1 (i := 73) rfl, List.forall_mem_cons.mpr ⟨lt_t1 (i := 74) rfl, List.forall_mem_cons.mpr ⟨lt_t1 (i := 75) rfl, List.forall_mem_cons.mpr ⟨lt_t1 (i := 80) rfl, List.forall_mem_cons.mpr ⟨lt_t1 (i := 83) rfl, List.forall_mem_cons.mpr ⟨lt_t1 (i := 86) rfl, List.forall_mem_cons.mpr ⟨lt_t1 (i := 89) rfl, List.forall_mem_cons.mpr ⟨lt_t1 (i := 121) rfl, List.forall_mem_cons.mpr ⟨lt_t1 (i := 122) rfl, List.forall_mem_cons.mpr ⟨lt_t1 (i := 123) rfl, List.forall_mem_cons.mpr ⟨lt_t1 (i := 124) rfl, List.forall_mem_cons.mpr ⟨lt_t1 (i := 127) rfl, List.forall_mem_cons.mpr ⟨lt_t1 (i := 130) rfl, List.forall_mem_cons.mpr ⟨lt_t1 (i := 133) rfl, List.forall_mem_cons.mpr ⟨lt_t1 (i := 136) rfl, List.forall_mem_cons.mpr ⟨lt_t1 (i := 139) rfl, List.forall_mem_cons.mpr ⟨lt_t1 (i := 142) rfl, List.forall_mem_cons.mpr ⟨lt_t1 (i := 125) rfl, fun _ h => absurd h List.not_mem_nil⟩⟩⟩⟩⟩⟩⟩⟩⟩⟩⟩⟩⟩⟩⟩⟩⟩⟩⟩⟩⟩⟩⟩⟩
set_option maxRecDepth 100000 in
theorem lt_r4 : ∀ w ∈ wsL_law0_r4, w ∈ lw_tbl := List.forall_mem_cons.mpr ⟨lt_t1 (i := 144) rfl, List.forall_mem_cons.mpr ⟨lt_t1 (i := 146) rfl, List.forall_mem_cons.mpr ⟨lt_t1 (i := 159) rfl, List.forall_mem_cons.mpr ⟨lt_t1 (i := 160) rfl, List.forall_mem_cons.mpr ⟨lt_t1 (i := 200) rfl, List.forall_mem_cons.mpr ⟨lt_t1 (i := 201) rfl, List.forall_mem_cons.mpr ⟨lt_t1 (i := 202) rfl, List.forall_mem_cons.mpr ⟨lt_t1 (i := 203) rfl, List.forall_mem_cons.mpr ⟨lt_t1 (i := 204) rfl, List.forall_mem_cons.mpr ⟨lt_t1 (i := 208) rfl, List.forall_mem_cons.mpr ⟨lt_t1 (i := 209) rfl, List.forall_mem_cons.mpr ⟨lt_t1 (i := 221) rfl, List.forall_mem_cons.mpr ⟨lt_t1 (i := 222) rfl, List.forall_mem_cons.mpr ⟨lt_t1 (i := 223) rfl, List.forall_mem_cons.mpr ⟨lt_t1 (i := 224) rfl, List.forall_mem_cons.mpr ⟨lt_t1 (i := 225) rfl, List.forall_mem_cons.mpr ⟨lt_t1 (i := 227) rfl, List.forall_mem_cons.mpr ⟨lt_t1 (i := 229) rfl, List.forall_mem_cons.mpr ⟨lt_t1 (i := 233) rfl, List.forall_mem_cons.mpr ⟨lt_t2 (i := 7) rfl, List.forall_mem_cons.mpr ⟨lt_t2 (i := 8) rfl, List.forall_mem_cons.mpr ⟨lt_t2 (i := 9) rfl, List.forall_mem_cons.mpr ⟨lt_t2 (i := 10) rfl, List.forall_mem_cons.mpr ⟨lt_t2 (i := 13) rfl, fun _ h => absurd h List.not_mem_nil⟩⟩⟩⟩⟩⟩⟩⟩⟩⟩⟩⟩⟩⟩⟩⟩⟩⟩⟩⟩⟩⟩⟩⟩
set_option maxRecDepth 100000 in
theorem lt_r5 : ∀ w ∈ wsL_law0_r5, w ∈ lw_tbl := List.forall_mem_cons.mpr ⟨lt_t2 (i := 11) rfl, List.forall_mem_cons.mpr ⟨lt_t2 (i := 12) rfl, List.forall_mem_cons.mpr ⟨lt_t3 (i := 132) rfl, List.forall_mem_cons.mpr ⟨lt_t3 (i := 133) rfl, List.forall_mem_cons.mpr ⟨lt_t3 (i := 134) rfl, List.forall_mem_cons.mpr ⟨lt_t3 (i := 135) rfl, List.forall_mem_cons.mpr ⟨lt_t3 (i := 137) rfl, List.forall_mem_cons.mpr ⟨lt_t3 (i := 138) rfl, List.forall_mem_cons.mpr ⟨lt_t3 (i := 139) rfl, List.forall_mem_cons.mpr ⟨lt_t3 (i := 140) rfl, List.forall_mem_cons.mpr ⟨lt_t3 (i := 142) rfl, List.forall_mem_cons.mpr ⟨lt_t3 (i := 143) rfl, List.forall_mem_cons.mpr ⟨lt_t3 (i := 144) rfl, List.forall_mem_cons.mpr ⟨lt_t3 (i := 145) rfl, List.forall_mem_cons.mpr ⟨lt_t3 (i := 146) rfl, List.forall_mem_cons.mpr ⟨lt_t3 (i := 148) rfl, List.forall_mem_cons.mpr ⟨lt_t3 (i := 149) rfl, List.forall_mem_cons.mpr ⟨lt_t4 (i := 66) rfl, List.forall_mem_cons.mpr ⟨lt_t3 (i := 150) rfl, List.forall_mem_cons.mpr ⟨lt_t3 (i := 152) rfl, List.forall_mem_cons.mpr ⟨lt_t3 (i := 153) rfl, List.forall_mem_cons.mpr ⟨lt_t3 (i := 154) rfl, List.forall_mem_cons.mpr ⟨lt_t3 (i := 155) rfl, List.forall_mem_cons.mpr ⟨lt_t3 (i := 156) rfl, fun _ h => absurd h List.not_mem_nil⟩⟩⟩⟩⟩⟩⟩⟩⟩⟩⟩⟩⟩⟩⟩⟩⟩⟩⟩⟩⟩⟩⟩⟩
set_option maxRecDepth 100000 in
theorem lt_r6 : ∀ w ∈ wsL_law0_r6, w ∈ lw_tbl := List.forall_mem_cons.mpr ⟨lt_t3 (i := 161) rfl, List.forall_mem_cons.mpr ⟨lt_t3 (i := 162) rfl, List.forall_mem_cons.mpr ⟨lt_t3 (i := 163) rfl, List.forall_mem_cons.mpr ⟨lt_t3 (i := 164) rfl, List.forall_mem_cons.mpr ⟨lt_t3 (i := 165) rfl, List.forall_mem_cons.mpr ⟨lt_t3 (i := 166) rfl, List.forall_mem_cons.mpr ⟨lt_t3 (i := 168) rfl, List.forall_mem_cons.mpr ⟨lt_t3 (i := 169) rfl, List.forall_mem_cons.mpr ⟨lt_t3 (i := 170) rfl, List.forall_mem_cons.mpr ⟨lt_t3 (i := 171) rfl, List.forall_mem_cons.mpr ⟨lt_t3 (i := 172) rfl, List.forall_mem_cons.mpr ⟨lt_t3 (i := 173) rfl, List.forall_mem_cons.mpr ⟨lt_t3 (i := 176) rfl, List.forall_mem_cons.mpr ⟨lt_t3 (i := 177) rfl, List.forall_mem_cons.mpr ⟨lt_t3 (i := 179) rfl, List.forall_mem_cons.mpr ⟨lt_t3 (i := 180) rfl, List.forall_mem_cons.mpr ⟨lt_t3 (i := 181) rfl, List.forall_mem_cons.mpr ⟨lt_t3 (i := 182) rfl, List.forall_mem_cons.mpr ⟨lt_t3 (i := 183) rfl, List.forall_mem_cons.mpr ⟨lt_t3 (i := 187) rfl, List.forall_mem_cons.mpr ⟨lt_t2 (i := 37) rfl, List.forall_mem_cons.mpr ⟨lt_t2 (i := 38) rfl, List.forall_mem_cons.mpr ⟨lt_t2 (i := 39) rfl, List.forall_mem_cons.mpr ⟨lt_t2 (i := 40) rfl, fun _ h => absurd h List.not_mem_nil⟩⟩⟩⟩⟩⟩⟩⟩⟩⟩⟩⟩⟩⟩⟩⟩⟩⟩⟩⟩⟩⟩⟩⟩
set_option maxRecDepth 100000 in
theorem lt_r7 : ∀ w ∈ wsL_law0_r7, w ∈ lw_tbl := List.forall_mem_cons.mpr ⟨lt_t1 (i := 49) rfl, List.forall_mem_cons.mpr ⟨lt_t2 (i := 41) rfl, List.forall_mem_cons.mpr ⟨lt_t2 (i := 42) rfl, List.forall_mem_cons.mpr ⟨lt_t2 (i := 43) rfl, List.forall_mem_cons.mpr ⟨lt_t2 (i := 44) rfl, List.forall_mem_cons.mpr ⟨lt_t2 (i := 46) rfl, List.forall_mem_cons.mpr ⟨lt_p (i := 0) rfl, List.forall_mem_cons.mpr ⟨lt_t2 (i := 47) rfl, List.forall_mem_cons.mpr ⟨lt_t1 (i := 207) rfl, List.forall_mem_cons.mpr ⟨lt_t2 (i := 48) rfl, List.forall_mem_cons.mpr ⟨lt_t2 (i := 49) rfl, List.forall_mem_cons.mpr ⟨lt_t2 (i := 50) rfl, List.forall_mem_cons.mpr ⟨lt_t2 (i := 51) rfl, List.forall_mem_cons.mpr ⟨lt_t1 (i := 148) rfl, List.forall_mem_cons.mpr ⟨lt_t1 (i := 152) rfl, List.forall_mem_cons.mpr ⟨lt_t1 (i := 155) rfl, List.forall_mem_cons.mpr ⟨lt_t1 (i := 157) rfl, List.forall_mem_cons.mpr ⟨lt_t1 (i := 94) rfl, List.forall_mem_cons.mpr ⟨lt_t2 (i := 52) rfl, List.forall_mem_cons.mpr ⟨lt_t2 (i := 53) rfl, List.forall_mem_cons.mpr ⟨lt_t2 (i := 54) rfl, List.forall_mem_cons.mpr ⟨lt_t2 (i := 55) rfl, List.forall_mem_cons.mpr ⟨lt_t1 (i := 46) rfl, List.forall_mem_cons.mpr ⟨lt_t4 (i := 71) rfl, fun _ h => absurd h List.not_mem_nil⟩⟩⟩⟩⟩⟩⟩⟩⟩⟩⟩⟩⟩⟩⟩⟩⟩⟩⟩⟩⟩⟩⟩⟩
set_option maxRecDepth 100000 in
theorem lt_r8 : ∀ w ∈ wsL_law0_r8, w ∈ lw_tbl := List.forall_mem_cons.mpr ⟨lt_t4 (i := 72) rfl, List.forall_mem_cons.mpr ⟨lt_t4 (i := 73) rfl, List.forall_mem_cons.mpr ⟨lt_t4 (i := 74) rfl, List.forall_mem_cons.mpr ⟨lt_t3 (i := 141) rfl, List.forall_mem_cons.mpr ⟨lt_t3 (i := 136) rfl, List.forall_mem_cons.mpr ⟨lt_t4 (i := 75) rfl, List.forall_mem_cons.mpr ⟨lt_t4 (i := 76) rfl, List.forall_mem_cons.mpr ⟨lt_t4 (i := 77) rfl, List.forall_mem_cons.mpr ⟨lt_t4 (i := 78) rfl, List.forall_mem_cons.mpr ⟨lt_t4 (i := 80) rfl, List.forall_mem_cons.mpr ⟨lt_p (i := 15) rfl, List.forall_mem_cons.mpr ⟨lt_t4 (i := 81) rfl, List.forall_mem_cons.mpr ⟨lt_t3 (i := 157) rfl, List.forall_mem_cons.mpr ⟨lt_t3 (i := 158) rfl, List.forall_mem_cons.mpr ⟨lt_t3 (i := 159) rfl, List.forall_mem_cons.mpr ⟨lt_t3 (i := 160) rfl, List.forall_mem_cons.mpr ⟨lt_t3 (i := 178) rfl, List.forall_mem_cons.mpr ⟨lt_t2 (i := 56) rfl, List.forall_mem_cons.mpr ⟨lt_t2 (i := 57) rfl, List.forall_mem_cons.mpr ⟨lt_t2 (i := 58) rfl, List.forall_mem_cons.mpr ⟨lt_t2 (i := 59) rfl, List.forall_mem_cons.mpr ⟨lt_t4 (i := 82) rfl, List.forall_mem_cons.mpr ⟨lt_t4 (i := 83) rfl, List.forall_mem_cons.mpr ⟨lt_t4 (i := 84) rfl, fun _ h => absurd h List.not_mem_nil⟩⟩⟩⟩⟩⟩⟩⟩⟩⟩⟩⟩⟩⟩⟩⟩⟩⟩⟩⟩⟩⟩⟩⟩
set_option maxRecDepth 100000 in
theorem lt_r9 : ∀ w ∈ wsL_law0_r9, w ∈ lw_tbl := List.forall_mem_cons.mpr ⟨lt_t4 (i := 85) rfl, List.forall_mem_cons.mpr ⟨lt_t3 (i := 13) rfl, List.forall_mem_cons.mpr ⟨lt_t3 (i := 14) rfl, List.forall_mem_cons.mpr ⟨lt_t1 (i := 0) rfl, List.forall_mem_cons.mpr ⟨lt_t3 (i := 15) rfl, List.forall_mem_cons.mpr ⟨lt_t3 (i := 16) rfl, List.forall_mem_cons.mpr ⟨lt_t3 (i := 17) rfl, List.forall_mem_cons.mpr ⟨lt_t3 (i := 18) rfl, List.forall_mem_cons.mpr ⟨lt_t3 (i := 19) rfl, List.forall_mem_cons.mpr ⟨lt_t3 (i := 20) rfl, List.forall_mem_cons.mpr ⟨lt_t3 (i := 21) rfl, List.forall_mem_cons.mpr ⟨lt_t3 (i := 22) rfl, List.forall_mem_cons.mpr ⟨lt_t1 (i := 13) rfl, List.forall_mem_cons.mpr ⟨lt_t3 (i := 93) rfl, List.forall_mem_cons.mpr ⟨lt_t1 (i := 14) rfl, List.forall_mem_cons.mpr ⟨lt_t1 (i := 33) rfl, List.forall_mem_cons.mpr ⟨lt_t1 (i := 37) rfl, List.forall_mem_cons.mpr ⟨lt_t1 (i := 41) rfl, List.forall_mem_cons.mpr ⟨lt_t1 (i := 45) rfl, List.forall_mem_cons.mpr ⟨lt_t1 (i := 145) rfl, List.forall_mem_cons.mpr ⟨lt_t3 (i := 89) rfl, List.forall_mem_cons.mpr ⟨lt_t3 (i := 90) rfl, List.forall_mem_cons.mpr ⟨lt_t3 (i := 91) rfl, List.forall_mem_cons.mpr ⟨lt_t3 (i := 92) rfl, fun _ h => absurd h List.not_mem_nil⟩⟩⟩⟩⟩⟩⟩⟩⟩⟩⟩⟩⟩⟩⟩⟩⟩⟩⟩⟩⟩⟩⟩⟩
set_option maxRecDepth 100000 in
theorem lt_r10 : ∀ w ∈ wsL_law0_r10, w ∈ lw_tbl := List.forall_mem_cons.mpr ⟨lt_t1 (i := 95) rfl, List.forall_mem_cons.mpr ⟨lt_t4 (i := 135) rfl, List.forall_mem_cons.mpr ⟨lt_t4 (i := 136) rfl, List.forall_mem_cons.mpr ⟨lt_t4 (i := 137) rfl, List.forall_mem_cons.mpr ⟨lt_t4 (i := 138) rfl, List.forall_mem_cons.mpr ⟨lt_t4 (i := 139) rfl, List.forall_mem_cons.mpr ⟨lt_t4 (i := 141) rfl, List.forall_mem_cons.mpr ⟨lt_p (i := 27) rfl, List.forall_mem_cons.mpr ⟨lt_t4 (i := 142) rfl, List.forall_mem_cons.mpr ⟨lt_t4 (i := 67) rfl, List.forall_mem_cons.mpr ⟨lt_t4 (i := 68) rfl, List.forall_mem_cons.mpr ⟨lt_t4 (i := 69) rfl, List.forall_mem_cons.mpr ⟨lt_t4 (i := 70) rfl, List.forall_mem_cons.mpr ⟨lt_t2 (i := 60) rfl, List.forall_mem_cons.mpr ⟨lt_t2 (i := 61) rfl, List.forall_mem_cons.mpr ⟨lt_t2 (i := 62) rfl, List.forall_mem_cons.mpr ⟨lt_t2 (i := 63) rfl, List.forall_mem_cons.mpr ⟨lt_t1 (i := 154) rfl, List.forall_mem_cons.mpr ⟨lt_t2 (i := 64) rfl, List.forall_mem_cons.mpr ⟨lt_t2 (i := 65) rfl, List.forall_mem_cons.mpr ⟨lt_t2 (i := 66) rfl, List.forall_mem_cons.mpr ⟨lt_t2 (i := 67) rfl, List.forall_mem_cons.mpr ⟨lt_t1 (i := 161) rfl, List.forall_mem_cons.mpr ⟨lt_t1 (i := 162) rfl, fun _ h => absurd h List.not_mem_nil⟩⟩⟩⟩⟩⟩⟩⟩⟩⟩⟩⟩⟩⟩⟩⟩⟩⟩⟩⟩⟩⟩⟩⟩
set_option maxRecDepth 100000 in
theorem lt_r11 : ∀ w ∈ wsL_law0_r11, w ∈ lw_tbl := List.forall_mem_cons.mpr ⟨lt_t1 (i := 112) rfl, List.forall_mem_cons.mpr ⟨lt_t1 (i := 151) rfl, List.forall_mem_cons.mpr ⟨lt_t2 (i := 68) rfl, List.forall_mem_cons.mpr ⟨lt_t2 (i := 69) rfl, List.forall_mem_cons.mpr ⟨lt_t2 (i := 70) rfl, List.forall_mem_cons.mpr ⟨lt_t2 (i := 71) rfl, List.forall_mem_cons.mpr ⟨lt_t2 (i := 72) rfl, List.forall_mem_cons.mpr ⟨lt_t1 (i := 92) rfl, List.forall_mem_cons.mpr ⟨lt_t1 (i := 48) rfl, List.forall_mem_cons.mpr ⟨lt_t2 (i := 73) rfl, List.forall_mem_cons.mpr ⟨lt_t2 (i := 74) rfl, List.forall_mem_cons.mpr ⟨lt_t2 (i := 75) rfl, List.forall_mem_cons.mpr ⟨lt_t2 (i := 76) rfl, List.forall_mem_cons.mpr ⟨lt_t2 (i := 77) rfl, List.forall_mem_cons.mpr ⟨lt_t2 (i := 78) rfl, List.forall_mem_cons.mpr ⟨lt_t2 (i := 79) rfl, List.forall_mem_cons.mpr ⟨lt_t2 (i := 80) rfl, List.forall_mem_cons.mpr ⟨lt_t2 (i := 81) rfl, List.forall_mem_cons.mpr ⟨lt_t2 (i := 83) rfl, List.forall_mem_cons.mpr ⟨lt_p (i := 1) rfl, List.forall_mem_cons.mpr ⟨lt_t2 (i := 84) rfl, List.forall_mem_cons.mpr ⟨lt_t2 (i := 85) rfl, List.forall_mem_cons.mpr ⟨lt_t2 (i := 86) rfl, List.forall_mem_cons.mpr ⟨lt_t1 (i := 15) rfl, fun _ h => absurd h List.not_mem_nil⟩⟩⟩⟩⟩⟩⟩⟩⟩⟩⟩⟩⟩⟩⟩⟩⟩⟩⟩⟩⟩⟩⟩⟩
set_option maxRecDepth 100000 in
theorem lt_r12 : ∀ w ∈ wsL_law0_r12, w ∈ lw_tbl := List.forall_mem_cons.mpr ⟨lt_t2 (i := 87) rfl, List.forall_mem_cons.mpr ⟨lt_t1 (i := 77) rfl, List.forall_mem_cons.mpr ⟨lt_t2 (i := 88) rfl, List.forall_mem_cons.mpr ⟨lt_t2 (i := 90) rfl, List.forall_mem_cons.mpr ⟨lt_p (i := 2) rfl, List.forall_mem_cons.mpr ⟨lt_t2 (i := 91) rfl, List.forall_mem_cons.mpr ⟨lt_t2 (i := 92) rfl, List.forall_mem_cons.mpr ⟨lt_t2 (i := 93) rfl, List.forall_mem_cons.mpr ⟨lt_t2 (i := 95) rfl, List.forall_mem_cons.mpr ⟨lt_p (i := 3) rfl, List.forall_mem_cons.mpr ⟨lt_t2 (i := 96) rfl, List.forall_mem_cons.mpr ⟨lt_t2 (i := 108) rfl, List.forall_mem_cons.mpr ⟨lt_t2 (i := 109) rfl, List.forall_mem_cons.mpr ⟨lt_t2 (i := 110) rfl, List.forall_mem_cons.mpr ⟨lt_t2 (i := 97) rfl, List.forall_mem_cons.mpr ⟨lt_t2 (i := 98) rfl, List.forall_mem_cons.mpr ⟨lt_t2 (i := 99) rfl, List.forall_mem_cons.mpr ⟨lt_t2 (i := 100) rfl, List.forall_mem_cons.mpr ⟨lt_t1 (i := 76) rfl, List.forall_mem_cons.mpr ⟨lt_t1 (i := 32) rfl, List.forall_mem_cons.mpr ⟨lt_t1 (i := 35) rfl, List.forall_mem_cons.mpr ⟨lt_t1 (i := 40) rfl, List.forall_mem_cons.mpr ⟨lt_t1 (i := 44) rfl, List.forall_mem_cons.mpr ⟨lt_t1 (i := 81) rfl, fun _ h => absurd h List.not_mem_nil⟩⟩⟩⟩⟩⟩⟩⟩⟩⟩⟩⟩⟩⟩⟩⟩⟩⟩⟩⟩⟩⟩⟩⟩
set_option maxRecDepth 100000 in
theorem lt_r13 : ∀ w ∈ wsL_law0_r13, w ∈ lw_tbl := List.forall_mem_cons.mpr ⟨lt_t1 (i := 84) rfl, List.forall_mem_cons.mpr ⟨lt_t1 (i := 87) rfl, List.forall_mem_cons.mpr ⟨lt_t1 (i := 90) rfl, List.forall_mem_cons.mpr ⟨lt_t2 (i := 101) rfl, List.forall_mem_cons.mpr ⟨lt_t2 (i := 102) rfl, List.forall_mem_cons.mpr ⟨lt_t2 (i := 103) rfl, List.forall_mem_cons.mpr ⟨lt_t2 (i := 104) rfl, List.forall_mem_cons.mpr ⟨lt_t2 (i := 105) rfl, List.forall_mem_cons.mpr ⟨lt_t2 (i := 106) rfl, List.forall_mem_cons.mpr ⟨lt_t2 (i := 107) rfl, List.forall_mem_cons.mpr ⟨lt_t2 (i := 111) rfl, List.forall_mem_cons.mpr ⟨lt_t2 (i := 113) rfl, List.forall_mem_cons.mpr ⟨lt_p (i := 4) rfl, List.forall_mem_cons.mpr ⟨lt_t2 (i := 114) rfl, List.forall_mem_cons.mpr ⟨lt_t2 (i := 115) rfl, List.forall_mem_cons.mpr ⟨lt_t2 (i := 116) rfl, List.forall_mem_cons.mpr ⟨lt_t2 (i := 117) rfl, List.forall_mem_cons.mpr ⟨lt_t2 (i := 118) rfl, List.forall_mem_cons.mpr ⟨lt_t2 (i := 119) rfl, List.forall_mem_cons.mpr ⟨lt_t2 (i := 121) rfl, List.forall_mem_cons.mpr ⟨lt_p (i := 5) rfl, List.forall_mem_cons.mpr ⟨lt_t2 (i := 122) rfl, List.forall_mem_cons.mpr ⟨lt_t2 (i := 123) rfl, List.forall_mem_cons.mpr ⟨lt_t2 (i := 124) rfl, fun _ h => absurd h List.not_mem_nil⟩⟩⟩⟩⟩⟩⟩⟩⟩⟩⟩⟩⟩⟩⟩⟩⟩⟩⟩⟩⟩⟩⟩⟩
set_option maxRecDepth 100000 in
theorem lt_r14 : ∀ w ∈ wsL_law0_r14, w ∈ lw_tbl := List.forall_mem_cons.mpr ⟨lt_t2 (i := 125) rfl, List.forall_mem_cons.mpr ⟨lt_t2 (i := 126) rfl, List.forall_mem_cons.mpr ⟨lt_t2 (i := 127) rfl, List.forall_mem_cons.mpr ⟨lt_t2 (i := 128) rfl, List.forall_mem_cons.mpr ⟨lt_t2 (i := 130) rfl, List.forall_mem_cons.mpr ⟨lt_p (i := 6) rfl, List.forall_mem_cons.mpr ⟨lt_t2 (i := 131) rfl, List.forall_mem_cons.mpr ⟨lt_t2 (i := 132) rfl, List.forall_mem_cons.mpr ⟨lt_t2 (i := 133) rfl, List.forall_mem_cons.mpr ⟨lt_t2 (i := 134) rfl, List.forall_mem_cons.mpr ⟨lt_t4 (i := 86) rfl, List.forall_mem_cons.mpr ⟨lt_t4 (i := 87) rfl, List.forall_mem_cons.mpr ⟨lt_t4 (i := 88) rfl, List.forall_mem_cons.mpr ⟨lt_t4 (i := 89) rfl, List.forall_mem_cons.mpr ⟨lt_t3 (i := 174) rfl, List.forall_mem_cons.mpr ⟨lt_t4 (i := 90) rfl, List.forall_mem_cons.mpr ⟨lt_t4 (i := 92) rfl, List.forall_mem_cons.mpr ⟨lt_p (i := 16) rfl, List.forall_mem_cons.mpr ⟨lt_t4 (i := 93) rfl, List.forall_mem_cons.mpr ⟨lt_t3 (i := 147) rfl, List.forall_mem_cons.mpr ⟨lt_t3 (i := 151) rfl, List.forall_mem_cons.mpr ⟨lt_t3 (i := 175) rfl, List.forall_mem_cons.mpr ⟨lt_t3 (i := 167) rfl, List.forall_mem_cons.mpr ⟨lt_t4 (i := 94) rfl, fun _ h => absurd h List.not_mem_nil⟩⟩⟩⟩⟩⟩⟩⟩⟩⟩⟩⟩⟩⟩⟩⟩⟩⟩⟩⟩⟩⟩⟩⟩
set_option maxRecDepth 100000 in
theorem lt_r15 : ∀ w ∈ wsL_law0_r15, w ∈ lw_tbl := List.forall_mem_cons.mpr ⟨lt_t4 (i := 96) rfl, List.forall_mem_cons.mpr ⟨lt_p (i := 17) rfl, List.forall_mem_cons.mpr ⟨lt_t4 (i := 97) rfl, List.forall_mem_cons.mpr ⟨lt_t4 (i := 98) rfl, List.forall_mem_cons.mpr ⟨lt_t4 (i := 100) rfl, List.forall_mem_cons.mpr ⟨lt_p (i := 18) rfl, List.forall_mem_cons.mpr ⟨lt_t4 (i := 101) rfl, List.forall_mem_cons.mpr ⟨lt_t4 (i := 102) rfl, List.forall_mem_cons.mpr ⟨lt_t4 (i := 104) rfl, List.forall_mem_cons.mpr ⟨lt_p (i := 19) rfl, List.forall_mem_cons.mpr ⟨lt_t4 (i := 105) rfl, List.forall_mem_cons.mpr ⟨lt_t4 (i := 106) rfl, List.forall_mem_cons.mpr ⟨lt_t4 (i := 108) rfl, List.forall_mem_cons.mpr ⟨lt_p (i := 20) rfl, List.forall_mem_cons.mpr ⟨lt_t4 (i := 109) rfl, List.forall_mem_cons.mpr ⟨lt_t4 (i := 110) rfl, List.forall_mem_cons.mpr ⟨lt_t4 (i := 111) rfl, List.forall_mem_cons.mpr ⟨lt_t4 (i := 113) rfl, List.forall_mem_cons.mpr ⟨lt_p (i := 21) rfl, List.forall_mem_cons.mpr ⟨lt_t4 (i := 114) rfl, List.forall_mem_cons.mpr ⟨lt_t4 (i := 115) rfl, List.forall_mem_cons.mpr ⟨lt_t4 (i := 117) rfl, List.forall_mem_cons.mpr ⟨lt_p (i := 22) rfl, List.forall_mem_cons.mpr ⟨lt_t4 (i := 118) rfl, fun _ h => absurd h List.not_mem_nil⟩⟩⟩⟩⟩⟩⟩⟩⟩⟩⟩⟩⟩⟩⟩⟩⟩⟩⟩⟩⟩⟩⟩⟩
set_option maxRecDepth 100000 in
theorem lt_r16 : ∀ w ∈ wsL_law0_r16, w ∈ lw_tbl := List.forall_mem_cons.mpr ⟨lt_t4 (i := 119) rfl, List.forall_mem_cons.mpr ⟨lt_t4 (i := 121) rfl, List.forall_mem_cons.mpr ⟨lt_p (i := 23) rfl, List.forall_mem_cons.mpr ⟨lt_t4 (i := 122) rfl, List.forall_mem_cons.mpr ⟨lt_t4 (i := 123) rfl, List.forall_mem_cons.mpr ⟨lt_t4 (i := 125) rfl, List.forall_mem_cons.mpr ⟨lt_p (i := 24) rfl, List.forall_mem_cons.mpr ⟨lt_t4 (i := 126) rfl, List.forall_mem_cons.mpr ⟨lt_t4 (i := 127) rfl, List.forall_mem_cons.mpr ⟨lt_t4 (i := 129) rfl, List.forall_mem_cons.mpr ⟨lt_p (i := 25) rfl, List.forall_mem_cons.mpr ⟨lt_t4 (i := 130) rfl, List.forall_mem_cons.mpr ⟨lt_t4 (i := 131) rfl, List.forall_mem_cons.mpr ⟨lt_t4 (i := 133) rfl, List.forall_mem_cons.mpr ⟨lt_p (i := 26) rfl, List.forall_mem_cons.mpr ⟨lt_t4 (i := 134) rfl, List.forall_mem_cons.mpr ⟨lt_t2 (i := 135) rfl, List.forall_mem_cons.mpr ⟨lt_t2 (i := 136) rfl, List.forall_mem_cons.mpr ⟨lt_t2 (i := 137) rfl, List.forall_mem_cons.mpr ⟨lt_t2 (i := 138) rfl, List.forall_mem_cons.mpr ⟨lt_t1 (i := 96) rfl, List.forall_mem_cons.mpr ⟨lt_t1 (i := 156) rfl, List.forall_mem_cons.mpr ⟨lt_t1 (i := 158) rfl, List.forall_mem_cons.mpr ⟨lt_t1 (i := 149) rfl, fun _ h => absurd h List.not_mem_nil⟩⟩⟩⟩⟩⟩⟩⟩⟩⟩⟩⟩⟩⟩⟩⟩⟩⟩⟩⟩⟩⟩⟩⟩
set_option maxRecDepth 100000 in
theorem lt_r17 : ∀ w ∈ wsL_law0_r17, w ∈ lw_tbl := List.forall_mem_cons.mpr ⟨lt_t4 (i := 143) rfl, List.forall_mem_cons.mpr ⟨lt_t4 (i := 144) rfl, List.forall_mem_cons.mpr ⟨lt_t4 (i := 145) rfl, List.forall_mem_cons.mpr ⟨lt_t4 (i := 146) rfl, List.forall_mem_cons.mpr ⟨lt_t4 (i := 147) rfl, List.forall_mem_cons.mpr ⟨lt_t4 (i := 149) rfl, List.forall_mem_cons.mpr ⟨lt_p (i := 28) rfl, List.forall_mem_cons.mpr ⟨lt_t4 (i := 150) rfl, List.forall_mem_cons.mpr ⟨lt_t3 (i := 109) rfl, List.forall_mem_cons.mpr ⟨lt_t3 (i := 110) rfl, List.forall_mem_cons.mpr ⟨lt_t3 (i := 111) rfl, List.forall_mem_cons.mpr ⟨lt_t3 (i := 112) rfl, List.forall_mem_cons.mpr ⟨lt_t3 (i := 113) rfl, List.forall_mem_cons.mpr ⟨lt_t3 (i := 114) rfl, List.forall_mem_cons.mpr ⟨lt_t3 (i := 115) rfl, List.forall_mem_cons.mpr ⟨lt_t1 (i := 129) rfl, List.forall_mem_cons.mpr ⟨lt_t1 (i := 132) rfl, List.forall_mem_cons.mpr ⟨lt_t1 (i := 135) rfl, List.forall_mem_cons.mpr ⟨lt_t1 (i := 138) rfl, List.forall_mem_cons.mpr ⟨lt_t1 (i := 141) rfl, List.forall_mem_cons.mpr ⟨lt_t1 (i := 143) rfl, List.forall_mem_cons.mpr ⟨lt_t4 (i := 151) rfl, List.forall_mem_cons.mpr ⟨lt_t4 (i := 152) rfl, List.forall_mem_cons.mpr ⟨lt_t4 (i := 153) rfl, fun _ h => absurd h List.not_mem_nil⟩⟩⟩⟩⟩⟩⟩⟩⟩⟩⟩⟩⟩⟩⟩⟩⟩⟩⟩⟩⟩⟩⟩⟩
set_option maxRecDepth 100000 in
theorem lt_r18 : ∀ w ∈ wsL_law0_r18, w ∈ lw_tbl := List.forall_mem_cons.mpr ⟨lt_t4 (i := 154) rfl, List.forall_mem_cons.mpr ⟨lt_t3 (i := 117) rfl, List.forall_mem_cons.mpr ⟨lt_t3 (i := 118) rfl, List.forall_mem_cons.mpr ⟨lt_t3 (i := 119) rfl, List.forall_mem_cons.mpr ⟨lt_t3 (i := 120) rfl, List.forall_mem_cons.mpr ⟨lt_t3 (i := 121) rfl, List.forall_mem_cons.mpr ⟨lt_t3 (i := 122) rfl, List.forall_mem_cons.mpr ⟨lt_t3 (i := 123) rfl, List.forall_mem_cons.mpr ⟨lt_t1 (i := 79) rfl, List.forall_mem_cons.mpr ⟨lt_t1 (i := 82) rfl, List.forall_mem_cons.mpr ⟨lt_t1 (i := 85) rfl, List.forall_mem_cons.mpr ⟨lt_t1 (i := 88) rfl, List.forall_mem_cons.mpr ⟨lt_t1 (i := 91) rfl, List.forall_mem_cons.mpr ⟨lt_t1 (i := 147) rfl, List.forall_mem_cons.mpr ⟨lt_t3 (i := 125) rfl, List.forall_mem_cons.mpr ⟨lt_t3 (i := 126) rfl, List.forall_mem_cons.mpr ⟨lt_t3 (i := 127) rfl, List.forall_mem_cons.mpr ⟨lt_t3 (i := 128) rfl, List.forall_mem_cons.mpr ⟨lt_t2 (i := 209) rfl, List.forall_mem_cons.mpr ⟨lt_t2 (i := 210) rfl, List.forall_mem_cons.mpr ⟨lt_t2 (i := 211) rfl, List.forall_mem_cons.mpr ⟨lt_t2 (i := 212) rfl, List.forall_mem_cons.mpr ⟨lt_t2 (i := 213) rfl, List.forall_mem_cons.mpr ⟨lt_t4 (i := 155) rfl, fun _ h => absurd h List.not_mem_nil⟩⟩⟩⟩⟩⟩⟩⟩⟩⟩⟩⟩⟩⟩⟩⟩⟩⟩⟩⟩⟩⟩⟩⟩
set_option maxRecDepth 100000 in
theorem lt_r19 : ∀ w ∈ wsL_law0_r19, w ∈ lw_tbl := List.forall_mem_cons.mpr ⟨lt_t4 (i := 156) rfl, List.forall_mem_cons.mpr ⟨lt_t4 (i := 157) rfl, List.forall_mem_cons.mpr ⟨lt_t4 (i := 158) rfl, List.forall_mem_cons.mpr ⟨lt_t4 (i := 159) rfl, List.forall_mem_cons.mpr ⟨lt_t4 (i := 161) rfl, List.forall_mem_cons.mpr ⟨lt_p (i := 29) rfl, List.forall_mem_cons.mpr ⟨lt_t4 (i := 162) rfl, List.forall_mem_cons.mpr ⟨lt_t4 (i := 163) rfl, List.forall_mem_cons.mpr ⟨lt_t4 (i := 164) rfl, List.forall_mem_cons.mpr ⟨lt_t4 (i := 165) rfl, List.forall_mem_cons.mpr ⟨lt_t2 (i := 139) rfl, List.forall_mem_cons.mpr ⟨lt_t2 (i := 140) rfl, List.forall_mem_cons.mpr ⟨lt_t2 (i := 141) rfl, List.forall_mem_cons.mpr ⟨lt_t2 (i := 142) rfl, List.forall_mem_cons.mpr ⟨lt_t2 (i := 143) rfl, List.forall_mem_cons.mpr ⟨lt_t2 (i := 144) rfl, List.forall_mem_cons.mpr ⟨lt_t2 (i := 145) rfl, List.forall_mem_cons.mpr ⟨lt_t2 (i := 146) rfl, List.forall_mem_cons.mpr ⟨lt_t2 (i := 147) rfl, List.forall_mem_cons.mpr ⟨lt_t4 (i := 166) rfl, List.forall_mem_cons.mpr ⟨lt_t4 (i := 167) rfl, List.forall_mem_cons.mpr ⟨lt_t4 (i := 168) rfl, List.forall_mem_cons.mpr ⟨lt_t4 (i := 169) rfl, List.forall_mem_cons.mpr ⟨lt_t2 (i := 148) rfl, fun _ h => absurd h List.not_mem_nil⟩⟩⟩⟩⟩⟩⟩⟩⟩⟩⟩⟩⟩⟩⟩⟩⟩⟩⟩⟩⟩⟩⟩⟩
set_option maxRecDepth 100000 in
theorem lt_r20 : ∀ w ∈ wsL_law0_r20, w ∈ lw_tbl := List.forall_mem_cons.mpr ⟨lt_t2 (i := 149) rfl, List.forall_mem_cons.mpr ⟨lt_t2 (i := 150) rfl, List.forall_mem_cons.mpr ⟨lt_t2 (i := 151) rfl, List.forall_mem_cons.mpr ⟨lt_t2 (i := 152) rfl, List.forall_mem_cons.mpr ⟨lt_t2 (i := 153) rfl, List.forall_mem_cons.mpr ⟨lt_t2 (i := 154) rfl, List.forall_mem_cons.mpr ⟨lt_t2 (i := 155) rfl, List.forall_mem_cons.mpr ⟨lt_t1 (i := 206) rfl, List.forall_mem_cons.mpr ⟨lt_t1 (i := 150) rfl, List.forall_mem_cons.mpr ⟨lt_t2 (i := 156) rfl, List.forall_mem_cons.mpr ⟨lt_t2 (i := 158) rfl, List.forall_mem_cons.mpr ⟨lt_p (i := 7) rfl, List.forall_mem_cons.mpr ⟨lt_t2 (i := 159) rfl, List.forall_mem_cons.mpr ⟨lt_t1 (i := 153) rfl, List.forall_mem_cons.mpr ⟨lt_t1 (i := 128) rfl, List.forall_mem_cons.mpr ⟨lt_t1 (i := 140) rfl, List.forall_mem_cons.mpr ⟨lt_t1 (i := 137) rfl, List.forall_mem_cons.mpr ⟨lt_t1 (i := 131) rfl, List.forall_mem_cons.mpr ⟨lt_t1 (i := 134) rfl, List.forall_mem_cons.mpr ⟨lt_t2 (i := 160) rfl, List.forall_mem_cons.mpr ⟨lt_t4 (i := 170) rfl, List.forall_mem_cons.mpr ⟨lt_t4 (i := 171) rfl, List.forall_mem_cons.mpr ⟨lt_t4 (i := 172) rfl, List.forall_mem_cons.mpr ⟨lt_t4 (i := 173) rfl, fun _ h => absurd h List.not_mem_nil⟩⟩⟩⟩⟩⟩⟩⟩⟩⟩⟩⟩⟩⟩⟩⟩⟩⟩⟩⟩⟩⟩⟩⟩
set_option maxRecDepth 100000 in
theorem lt_r21 : ∀ w ∈ wsL_law0_r21, w ∈ lw_tbl := List.forall_mem_cons.mpr ⟨lt_t2 (i := 161) rfl, List.forall_mem_cons.mpr ⟨lt_t2 (i := 162) rfl, List.forall_mem_cons.mpr ⟨lt_t2 (i := 163) rfl, List.forall_mem_cons.mpr ⟨lt_t2 (i := 164) rfl, List.forall_mem_cons.mpr ⟨lt_t1 (i := 205) rfl, List.forall_mem_cons.mpr ⟨lt_t4 (i := 174) rfl, List.forall_mem_cons.mpr ⟨lt_t4 (i := 175) rfl, List.forall_mem_cons.mpr ⟨lt_t4 (i := 176) rfl, List.forall_mem_cons.mpr ⟨lt_t4 (i := 177) rfl, List.forall_mem_cons.mpr ⟨lt_t2 (i := 165) rfl, List.forall_mem_cons.mpr ⟨lt_t2 (i := 166) rfl, List.forall_mem_cons.mpr ⟨lt_t2 (i := 167) rfl, List.forall_mem_cons.mpr ⟨lt_t2 (i := 168) rfl, List.forall_mem_cons.mpr ⟨lt_t2 (i := 169) rfl, List.forall_mem_cons.mpr ⟨lt_t2 (i := 170) rfl, List.forall_mem_cons.mpr ⟨lt_t2 (i := 171) rfl, List.forall_mem_cons.mpr ⟨lt_t2 (i := 172) rfl, List.forall_mem_cons.mpr ⟨lt_t2 (i := 173) rfl, List.forall_mem_cons.mpr ⟨lt_t2 (i := 174) rfl, List.forall_mem_cons.mpr ⟨lt_t2 (i := 175) rfl, List.forall_mem_cons.mpr ⟨lt_t2 (i := 176) rfl, List.forall_mem_cons.mpr ⟨lt_t2 (i := 177) rfl, List.forall_mem_cons.mpr ⟨lt_t2 (i := 178) rfl, List.forall_mem_cons.mpr ⟨lt_t2 (i := 179) rfl, fun _ h => absurd h List.not_mem_nil⟩⟩⟩⟩⟩⟩⟩⟩⟩⟩⟩⟩⟩⟩⟩⟩⟩⟩⟩⟩⟩⟩⟩⟩
set_option maxRecDepth 100000 in
theorem lt_r22 : ∀ w ∈ wsL_law0_r22, w ∈ lw_tbl := List.forall_mem_cons.mpr ⟨lt_t2 (i := 180) rfl, List.forall_mem_cons.mpr ⟨lt_t2 (i := 181) rfl, List.forall_mem_cons.mpr ⟨lt_t2 (i := 182) rfl, List.forall_mem_cons.mpr ⟨lt_t2 (i := 183) rfl, List.forall_mem_cons.mpr ⟨lt_t2 (i := 184) rfl, List.forall_mem_cons.mpr ⟨lt_t2 (i := 185) rfl, List.forall_mem_cons.mpr ⟨lt_t2 (i := 186) rfl, List.forall_mem_cons.mpr ⟨lt_t4 (i := 178) rfl, List.forall_mem_cons.mpr ⟨lt_t4 (i := 179) rfl, List.forall_mem_cons.mpr ⟨lt_t4 (i := 180) rfl, List.forall_mem_cons.mpr ⟨lt_t4 (i := 181) rfl, List.forall_mem_cons.mpr ⟨lt_t4 (i := 182) rfl, List.forall_mem_cons.mpr ⟨lt_t4 (i := 184) rfl, List.forall_mem_cons.mpr ⟨lt_p (i := 30) rfl, List.forall_mem_cons.mpr ⟨lt_t4 (i := 185) rfl, List.forall_mem_cons.mpr ⟨lt_t4 (i := 186) rfl, List.forall_mem_cons.mpr ⟨lt_t4 (i := 187) rfl, List.forall_mem_cons.mpr ⟨lt_t4 (i := 188) rfl, List.forall_mem_cons.mpr ⟨lt_t4 (i := 189) rfl, List.forall_mem_cons.mpr ⟨lt_t4 (i := 190) rfl, List.forall_mem_cons.mpr ⟨lt_t4 (i := 191) rfl, List.forall_mem_cons.mpr ⟨lt_t4 (i := 192) rfl, List.forall_mem_cons.mpr ⟨lt_t4 (i := 194) rfl, List.forall_mem_cons.mpr ⟨lt_p (i := 31) rfl, fun _ h => absurd h List.not_mem_nil⟩⟩⟩⟩⟩⟩⟩⟩⟩⟩⟩⟩⟩⟩⟩⟩⟩⟩⟩⟩⟩⟩⟩⟩
set_option maxRecDepth 100000 in
theorem lt_r23 : ∀ w ∈ wsL_law0_r23, w ∈ lw_tbl := List.forall_mem_cons.mpr ⟨lt_t4 (i := 195) rfl, List.forall_mem_cons.mpr ⟨lt_t4 (i := 196) rfl, List.forall_mem_cons.mpr ⟨lt_t4 (i := 197) rfl, List.forall_mem_cons.mpr ⟨lt_t4 (i := 198) rfl, List.forall_mem_cons.mpr ⟨lt_t2 (i := 187) rfl, List.forall_mem_cons.mpr ⟨lt_t2 (i := 188) rfl, List.forall_mem_cons.mpr ⟨lt_t2 (i := 189) rfl, List.forall_mem_cons.mpr ⟨lt_t2 (i := 190) rfl, List.forall_mem_cons.mpr ⟨lt_t1 (i := 232) rfl, List.forall_mem_cons.mpr ⟨lt_t2 (i := 191) rfl, List.forall_mem_cons.mpr ⟨lt_t2 (i := 192) rfl, List.forall_mem_cons.mpr ⟨lt_t2 (i := 193) rfl, List.forall_mem_cons.mpr ⟨lt_t2 (i := 194) rfl, List.forall_mem_cons.mpr ⟨lt_t1 (i := 231) rfl, List.forall_mem_cons.mpr ⟨lt_t1 (i := 47) rfl, List.forall_mem_cons.mpr ⟨lt_t2 (i := 195) rfl, List.forall_mem_cons.mpr ⟨lt_t2 (i := 197) rfl, List.forall_mem_cons.mpr ⟨lt_p (i := 8) rfl, List.forall_mem_cons.mpr ⟨lt_t2 (i := 198) rfl, List.forall_mem_cons.mpr ⟨lt_t1 (i := 39) rfl, List.forall_mem_cons.mpr ⟨lt_t1 (i := 31) rfl, List.forall_mem_cons.mpr ⟨lt_t1 (i := 43) rfl, List.forall_mem_cons.mpr ⟨lt_t1 (i := 36) rfl, List.forall_mem_cons.mpr ⟨lt_t2 (i := 214) rfl, fun _ h => absurd h List.not_mem_nil⟩⟩⟩⟩⟩⟩⟩⟩⟩⟩⟩⟩⟩⟩⟩⟩⟩⟩⟩⟩⟩⟩⟩⟩
set_option maxRecDepth 100000 in
theorem lt_r24 : ∀ w ∈ wsL_law0_r24, w ∈ lw_tbl := List.forall_mem_cons.mpr ⟨lt_t2 (i := 215) rfl, List.forall_mem_cons.mpr ⟨lt_t2 (i := 199) rfl, List.forall_mem_cons.mpr ⟨lt_t2 (i := 200) rfl, List.forall_mem_cons.mpr ⟨lt_t2 (i := 202) rfl, List.forall_mem_cons.mpr ⟨lt_p (i := 9) rfl, List.forall_mem_cons.mpr ⟨lt_t2 (i := 203) rfl, List.forall_mem_cons.mpr ⟨lt_t2 (i := 204) rfl, List.forall_mem_cons.mpr ⟨lt_t2 (i := 206) rfl, List.forall_mem_cons.mpr ⟨lt_p (i := 10) rfl, List.forall_mem_cons.mpr ⟨lt_t2 (i := 207) rfl, List.forall_mem_cons.mpr ⟨lt_t4 (i := 199) rfl, List.forall_mem_cons.mpr ⟨lt_t4 (i := 200) rfl, List.forall_mem_cons.mpr ⟨lt_t4 (i := 201) rfl, List.forall_mem_cons.mpr ⟨lt_t4 (i := 202) rfl, List.forall_mem_cons.mpr ⟨lt_t3 (i := 184) rfl, List.forall_mem_cons.mpr ⟨lt_t3 (i := 185) rfl, List.forall_mem_cons.mpr ⟨lt_t3 (i := 186) rfl, List.forall_mem_cons.mpr ⟨lt_t4 (i := 203) rfl, List.forall_mem_cons.mpr ⟨lt_t4 (i := 205) rfl, List.forall_mem_cons.mpr ⟨lt_p (i := 32) rfl, List.forall_mem_cons.mpr ⟨lt_t4 (i := 206) rfl, List.forall_mem_cons.mpr ⟨lt_t2 (i := 216) rfl, List.forall_mem_cons.mpr ⟨lt_t2 (i := 217) rfl, List.forall_mem_cons.mpr ⟨lt_t2 (i := 218) rfl, fun _ h => absurd h List.not_mem_nil⟩⟩⟩⟩⟩⟩⟩⟩⟩⟩⟩⟩⟩⟩⟩⟩⟩⟩⟩⟩⟩⟩⟩⟩
set_option maxRecDepth 100000 in
theorem lt_r25 : ∀ w ∈ wsL_law0_r25, w ∈ lw_tbl := List.forall_mem_cons.mpr ⟨lt_t2 (i := 219) rfl, List.forall_mem_cons.mpr ⟨lt_t1 (i := 226) rfl, List.forall_mem_cons.mpr ⟨lt_t1 (i := 228) rfl, List.forall_mem_cons.mpr ⟨lt_t1 (i := 230) rfl, List.forall_mem_cons.mpr ⟨lt_t4 (i := 207) rfl, List.forall_mem_cons.mpr ⟨lt_t4 (i := 208) rfl, List.forall_mem_cons.mpr ⟨lt_t4 (i := 209) rfl, List.forall_mem_cons.mpr ⟨lt_t4 (i := 210) rfl, List.forall_mem_cons.mpr ⟨lt_t2 (i := 220) rfl, List.forall_mem_cons.mpr ⟨lt_t2 (i := 221) rfl, List.forall_mem_cons.mpr ⟨lt_t2 (i := 222) rfl, List.forall_mem_cons.mpr ⟨lt_t2 (i := 223) rfl, List.forall_mem_cons.mpr ⟨lt_t2 (i := 224) rfl, List.forall_mem_cons.mpr ⟨lt_t2 (i := 225) rfl, List.forall_mem_cons.mpr ⟨lt_t2 (i := 226) rfl, List.forall_mem_cons.mpr ⟨lt_t2 (i := 227) rfl, List.forall_mem_cons.mpr ⟨lt_t1 (i := 111) rfl, List.forall_mem_cons.mpr ⟨lt_t1 (i := 93) rfl, List.forall_mem_cons.mpr ⟨lt_t2 (i := 228) rfl, List.forall_mem_cons.mpr ⟨lt_t2 (i := 229) rfl, List.forall_mem_cons.mpr ⟨lt_t2 (i := 231) rfl, List.forall_mem_cons.mpr ⟨lt_p (i := 11) rfl, List.forall_mem_cons.mpr ⟨lt_t2 (i := 232) rfl, List.forall_mem_cons.mpr ⟨lt_t1 (i := 78) rfl, fun _ h => absurd h List.not_mem_nil⟩⟩⟩⟩⟩⟩⟩⟩⟩⟩⟩⟩⟩⟩⟩⟩⟩⟩⟩⟩⟩⟩⟩⟩
set_option maxRecDepth 100000 in
theorem lt_r26 : ∀ w ∈ wsL_law0_r26, w ∈ lw_tbl := List.forall_mem_cons.mpr ⟨lt_t2 (i := 239) rfl, List.forall_mem_cons.mpr ⟨lt_t2 (i := 233) rfl, List.forall_mem_cons.mpr ⟨lt_t2 (i := 235) rfl, List.forall_mem_cons.mpr ⟨lt_p (i := 12) rfl, List.forall_mem_cons.mpr ⟨lt_t2 (i := 236) rfl, List.forall_mem_cons.mpr ⟨lt_t2 (i := 237) rfl, List.forall_mem_cons.mpr ⟨lt_t2 (i := 238) rfl, List.forall_mem_cons.mpr ⟨lt_t4 (i := 211) rfl, List.forall_mem_cons.mpr ⟨lt_t4 (i := 212) rfl, List.forall_mem_cons.mpr ⟨lt_t4 (i := 213) rfl, List.forall_mem_cons.mpr ⟨lt_t4 (i := 214) rfl, List.forall_mem_cons.mpr ⟨lt_t3 (i := 188) rfl, List.forall_mem_cons.mpr ⟨lt_t3 (i := 189) rfl, List.forall_mem_cons.mpr ⟨lt_t3 (i := 190) rfl, List.forall_mem_cons.mpr ⟨lt_t3 (i := 191) rfl, List.forall_mem_cons.mpr ⟨lt_t4 (i := 215) rfl, List.forall_mem_cons.mpr ⟨lt_t4 (i := 216) rfl, List.forall_mem_cons.mpr ⟨lt_t4 (i := 217) rfl, List.forall_mem_cons.mpr ⟨lt_t4 (i := 218) rfl, List.forall_mem_cons.mpr ⟨lt_t4 (i := 220) rfl, List.forall_mem_cons.mpr ⟨lt_p (i := 33) rfl, List.forall_mem_cons.mpr ⟨lt_t4 (i := 221) rfl, List.forall_mem_cons.mpr ⟨lt_t3 (i := 0) rfl, List.forall_mem_cons.mpr ⟨lt_t3 (i := 1) rfl, fun _ h => absurd h List.not_mem_nil⟩⟩⟩⟩⟩⟩⟩⟩⟩⟩⟩⟩⟩⟩⟩⟩⟩⟩⟩⟩⟩⟩⟩⟩
set_option maxRecDepth 100000 in
theorem lt_r27 : ∀ w ∈ wsL_law0_r27, w ∈ lw_tbl := List.forall_mem_cons.mpr ⟨lt_t3 (i := 2) rfl, List.forall_mem_cons.mpr ⟨lt_t3 (i := 3) rfl, List.forall_mem_cons.mpr ⟨lt_t3 (i := 4) rfl, List.forall_mem_cons.mpr ⟨lt_t3 (i := 5) rfl, List.forall_mem_cons.mpr ⟨lt_t3 (i := 6) rfl, List.forall_mem_cons.mpr ⟨lt_t3 (i := 7) rfl, List.forall_mem_cons.mpr ⟨lt_t1 (i := 50) rfl, List.forall_mem_cons.mpr ⟨lt_t3 (i := 8) rfl, List.forall_mem_cons.mpr ⟨lt_t3 (i := 10) rfl, List.forall_mem_cons.mpr ⟨lt_p (i := 13) rfl, List.forall_mem_cons.mpr ⟨lt_t3 (i := 11) rfl, List.forall_mem_cons.mpr ⟨lt_t3 (i := 12) rfl, List.forall_mem_cons.mpr ⟨lt_t4 (i := 222) rfl, List.forall_mem_cons.mpr ⟨lt_t4 (i := 223) rfl, List.forall_mem_cons.mpr ⟨lt_t4 (i := 224) rfl, List.forall_mem_cons.mpr ⟨lt_t4 (i := 225) rfl, List.forall_mem_cons.mpr ⟨lt_t4 (i := 226) rfl, List.forall_mem_cons.mpr ⟨lt_t4 (i := 228) rfl, List.forall_mem_cons.mpr ⟨lt_p (i := 34) rfl, List.forall_mem_cons.mpr ⟨lt_t4 (i := 229) rfl, fun _ h => absurd h List.not_mem_nil⟩⟩⟩⟩⟩⟩⟩⟩⟩⟩⟩⟩⟩⟩⟩⟩⟩⟩⟩⟩
set_option maxRecDepth 100000 in
theorem lt_w0 : ∀ w ∈ wsX00, w ∈ lw_tbl := by
  intro w hw
  obtain ⟨k, hk, rfl⟩ := List.mem_map.mp hw
  rw [List.mem_range] at hk
  match k, hk with
  | 0, _ => exact lt_t1 (i := 114) rfl
  | 1, _ => exact lt_t1 (i := 116) rfl
  | k + 2, h => exact absurd h (by omega)
set_option maxRecDepth 100000 in
theorem lt_w1 : ∀ w ∈ wsX10, w ∈ lw_tbl := by
  intro w hw
  obtain ⟨k, hk, rfl⟩ := List.mem_map.mp hw
  rw [List.mem_range] at hk
  match k, hk with
  | 0, _ => exact lt_t1 (i := 234) rfl
  | 1, _ => exact lt_t1 (i := 236) rfl
  | 2, _ => exact lt_t1 (i := 238) rfl
  | 3, _ => exact lt_t2 (i := 0) rfl
  | 4, _ => exact lt_t2 (i := 2) rfl
  | k + 5, h => exact absurd h (by omega)
set_option maxRecDepth 100000 in
theorem lt_w2 : ∀ w ∈ wsX20, w ∈ lw_tbl := by
  intro w hw
  obtain ⟨k, hk, rfl⟩ := List.mem_map.mp hw
  rw [List.mem_range] at hk
  match k, hk with
  | 0, _ => exact lt_t1 (i := 97) rfl
  | 1, _ => exact lt_t1 (i := 99) rfl
  | 2, _ => exact lt_t1 (i := 101) rfl
  | 3, _ => exact lt_t1 (i := 103) rfl
  | 4, _ => exact lt_t1 (i := 105) rfl
  | 5, _ => exact lt_t1 (i := 107) rfl
  | k + 6, h => exact absurd h (by omega)
set_option maxRecDepth 100000 in
theorem lt_w3 : ∀ w ∈ wsX30, w ∈ lw_tbl := by
  intro w hw
  obtain ⟨k, hk, rfl⟩ := List.mem_map.mp hw
  rw [List.mem_range] at hk
  match k, hk with
  | 0, _ => exact lt_t1 (i := 51) rfl
  | 1, _ => exact lt_t1 (i := 53) rfl
  | 2, _ => exact lt_t1 (i := 55) rfl
  | 3, _ => exact lt_t1 (i := 57) rfl
  | 4, _ => exact lt_t1 (i := 59) rfl
  | k + 5, h => exact absurd h (by omega)
set_option maxRecDepth 100000 in
theorem lt_w4 : ∀ w ∈ wsX40, w ∈ lw_tbl := by
  intro w hw
  obtain ⟨k, hk, rfl⟩ := List.mem_map.mp hw
  rw [List.mem_range] at hk
  match k, hk with
  | 0, _ => exact lt_t2 (i := 14) rfl
  | 1, _ => exact lt_t2 (i := 16) rfl
  | 2, _ => exact lt_t2 (i := 18) rfl
  | k + 3, h => exact absurd h (by omega)
set_option maxRecDepth 100000 in
theorem lt_w5 : ∀ w ∈ wsX50, w ∈ lw_tbl := by
  intro w hw
  obtain ⟨k, hk, rfl⟩ := List.mem_map.mp hw
  rw [List.mem_range] at hk
  match k, hk with
  | 0, _ => exact lt_t1 (i := 210) rfl
  | 1, _ => exact lt_t1 (i := 212) rfl
  | 2, _ => exact lt_t1 (i := 214) rfl
  | 3, _ => exact lt_t1 (i := 216) rfl
  | k + 4, h => exact absurd h (by omega)
set_option maxRecDepth 100000 in
theorem lt_w6 : ∀ w ∈ wsX60, w ∈ lw_tbl := by
  intro w hw
  obtain ⟨k, hk, rfl⟩ := List.mem_map.mp hw
  rw [List.mem_range] at hk
  match k, hk with
  | 0, _ => exact lt_t1 (i := 163) rfl
  | 1, _ => exact lt_t1 (i := 165) rfl
  | 2, _ => exact lt_t1 (i := 167) rfl
  | 3, _ => exact lt_t1 (i := 169) rfl
  | 4, _ => exact lt_t1 (i := 171) rfl
  | 5, _ => exact lt_t1 (i := 173) rfl
  | 6, _ => exact lt_t1 (i := 175) rfl
  | 7, _ => exact lt_t1 (i := 177) rfl
  | 8, _ => exact lt_t1 (i := 179) rfl
  | 9, _ => exact lt_t1 (i := 181) rfl
  | 10, _ => exact lt_t1 (i := 183) rfl
  | 11, _ => exact lt_t1 (i := 185) rfl
  | 12, _ => exact lt_t1 (i := 187) rfl
  | 13, _ => exact lt_t1 (i := 189) rfl
  | 14, _ => exact lt_t1 (i := 191) rfl
  | 15, _ => exact lt_t1 (i := 193) rfl
  | 16, _ => exact lt_t1 (i := 195) rfl
  | k + 17, h => exact absurd h (by omega)
set_option maxRecDepth 100000 in
theorem lt_w7 : ∀ w ∈ wsX70, w ∈ lw_tbl := by
  intro w hw
  obtain ⟨k, hk, rfl⟩ := List.mem_map.mp hw
  rw [List.mem_range] at hk
  match k, hk with
  | 0, _ => exact lt_t2 (i := 26) rfl
  | 1, _ => exact lt_t2 (i := 28) rfl
  | 2, _ => exact lt_t2 (i := 30) rfl
  | 3, _ => exact lt_t2 (i := 32) rfl
  | 4, _ => exact lt_t2 (i := 34) rfl
  | k + 5, h => exact absurd h (by omega)
set_option maxRecDepth 100000 in
theorem lt_w8 : ∀ w ∈ wsX80, w ∈ lw_tbl := by
  intro w hw
  obtain ⟨k, hk, rfl⟩ := List.mem_map.mp hw
  rw [List.mem_range] at hk
  match k, hk with
  | 0, _ => exact lt_t3 (i := 192) rfl
  | 1, _ => exact lt_t3 (i := 194) rfl
  | 2, _ => exact lt_t3 (i := 196) rfl
  | 3, _ => exact lt_t3 (i := 198) rfl
  | 4, _ => exact lt_t3 (i := 200) rfl
  | 5, _ => exact lt_t3 (i := 202) rfl
  | 6, _ => exact lt_t3 (i := 204) rfl
  | 7, _ => exact lt_t3 (i := 206) rfl
  | 8, _ => exact lt_t3 (i := 208) rfl
  | 9, _ => exact lt_t3 (i := 210) rfl
  | 10, _ => exact lt_t3 (i := 212) rfl
  | 11, _ => exact lt_t3 (i := 214) rfl
  | 12, _ => exact lt_t3 (i := 216) rfl
  | 13, _ => exact lt_t3 (i := 218) rfl
  | 14, _ => exact lt_t3 (i := 220) rfl
  | 15, _ => exact lt_t3 (i := 222) rfl
  | 16, _ => exact lt_t3 (i := 224) rfl
  | 17, _ => exact lt_t3 (i := 226) rfl
  | 18, _ => exact lt_t3 (i := 228) rfl
  | 19, _ => exact lt_t3 (i := 230) rfl
  | 20, _ => exact lt_t3 (i := 232) rfl
  | 21, _ => exact lt_t3 (i := 234) rfl
  | 22, _ => exact lt_t3 (i := 236) rfl
  | 23, _ => exact lt_t3 (i := 238) rfl
  | 24, _ => exact lt_t4 (i := 0) rfl
  | 25, _ => exact lt_t4 (i := 2) rfl
  | 26, _ => exact lt_t4 (i := 4) rfl
  | 27, _ => exact lt_t4 (i := 6) rfl
  | 28, _ => exact lt_t4 (i := 8) rfl
  | 29, _ => exact lt_t4 (i := 10) rfl
  | 30, _ => exact lt_t4 (i := 12) rfl
  | 31, _ => exact lt_t4 (i := 14) rfl
  | 32, _ => exact lt_t4 (i := 16) rfl
  | 33, _ => exact lt_t4 (i := 18) rfl
  | 34, _ => exact lt_t4 (i := 20) rfl
  | 35, _ => exact lt_t4 (i := 22) rfl
  | 36, _ => exact lt_t4 (i := 24) rfl
  | 37, _ => exact lt_t4 (i := 26) rfl
  | 38, _ => exact lt_t4 (i := 28) rfl
  | 39, _ => exact lt_t4 (i := 30) rfl
  | 40, _ => exact lt_t4 (i := 32) rfl
  | 41, _ => exact lt_t4 (i := 34) rfl
  | 42, _ => exact lt_t4 (i := 36) rfl
  | 43, _ => exact lt_t4 (i := 38) rfl
  | 44, _ => exact lt_t4 (i := 40) rfl
  | 45, _ => exact lt_t4 (i := 42) rfl
  | 46, _ => exact lt_t4 (i := 44) rfl
  | 47, _ => exact lt_t4 (i := 46) rfl
  | 48, _ => exact lt_t4 (i := 48) rfl
  | 49, _ => exact lt_t4 (i := 50) rfl
  | 50, _ => exact lt_t4 (i := 52) rfl
  | 51, _ => exact lt_t4 (i := 54) rfl
  | 52, _ => exact lt_t4 (i := 56) rfl
  | 53, _ => exact lt_t4 (i := 58) rfl
  | 54, _ => exact lt_t4 (i := 60) rfl
  | 55, _ => exact lt_t4 (i := 62) rfl
  | k + 56, h => exact absurd h (by omega)
theorem wsL_law_in0 : ∀ w ∈ wsL_law0, w ∈ lw_tbl := by
  intro w h
  rcases List.mem_append.mp h with h | h
  case inr => exact absurd h List.not_mem_nil
  rcases List.mem_append.mp h with h | h
  case inr => exact lt_w2 w h
  rcases List.mem_append.mp h with h | h
  case inr => exact lt_w4 w h
  rcases List.mem_append.mp h with h | h
  case inr => exact lt_w1 w h
  rcases List.mem_append.mp h with h | h
  case inr => exact lt_w5 w h
  rcases List.mem_append.mp h with h | h
  case inr => exact lt_w6 w h
  rcases List.mem_append.mp h with h | h
  case inr => exact lt_w0 w h
  rcases List.mem_append.mp h with h | h
  case inr => exact lt_w3 w h
  rcases List.mem_append.mp h with h | h
  case inr => exact lt_w8 w h
  rcases List.mem_append.mp h with h | h
  case inr => exact lt_w7 w h
  rcases List.mem_append.mp h with h | h
  case inl => exact lt_r1 w h
  rcases List.mem_append.mp h with h | h
  case inl => exact lt_r2 w h
  rcases List.mem_append.mp h with h | h
  case inl => exact lt_r3 w h
  rcases List.mem_append.mp h with h | h
  case inl => exact lt_r4 w h
  rcases List.mem_append.mp h with h | h
  case inl => exact lt_r5 w h
  rcases List.mem_append.mp h with h | h
  case inl => exact lt_r6 w h
  rcases List.mem_append.mp h with h | h
  case inl => exact lt_r7 w h
  rcases List.mem_append.mp h with h | h
  case inl => exact lt_r8 w h
  rcases List.mem_append.mp h with h | h
  case inl => exact lt_r9 w h
  rcases List.mem_append.mp h with h | h
  case inl => exact lt_r10 w h
  rcases List.mem_append.mp h with h | h
  case inl => exact lt_r11 w h
  rcases List.mem_append.mp h with h | h
  case inl => exact lt_r12 w h
  rcases List.mem_append.mp h with h | h
  case inl => exact lt_r13 w h
  rcases List.mem_append.mp h with h | h
  case inl => exact lt_r14 w h
  rcases List.mem_append.mp h with h | h
  case inl => exact lt_r15 w h
  rcases List.mem_append.mp h with h | h
  case inl => exact lt_r16 w h
  rcases List.mem_append.mp h with h | h
  case inl => exact lt_r17 w h
  rcases List.mem_append.mp h with h | h
  case inl => exact lt_r18 w h
  rcases List.mem_append.mp h with h | h
  case inl => exact lt_r19 w h
  rcases List.mem_append.mp h with h | h
  case inl => exact lt_r20 w h
  rcases List.mem_append.mp h with h | h
  case inl => exact lt_r21 w h
  rcases List.mem_append.mp h with h | h
  case inl => exact lt_r22 w h
  rcases List.mem_append.mp h with h | h
  case inl => exact lt_r23 w h
  rcases List.mem_append.mp h with h | h
  case inl => exact lt_r24 w h
  rcases List.mem_append.mp h with h | h
  case inl => exact lt_r25 w h
  rcases List.mem_append.mp h with h | h
  case inl => exact lt_r26 w h
  exact lt_r27 w h
theorem lt_n1 : (.methodLinkNest RX1 69 yX7_commonDivisor RX7 : Cond) ∈ lw_tbl := lt_t2 (i := 208) rfl
theorem lt_n2 : (.methodLinkNest RX3 28 yX7_commonDivisor RX7 : Cond) ∈ lw_tbl := lt_t3 (i := 129) rfl
theorem lt_n3 : (.methodLinkNest RX7 11 yX3_init RX7 : Cond) ∈ lw_tbl := lt_t1 (i := 26) rfl
theorem lt_n4 : (.methodLinkNest RX0 11 yX2_init RX7 : Cond) ∈ lw_tbl := lt_t1 (i := 71) rfl
theorem lt_n5 : (.methodLinkNest RX6 32 yX2_init RX7 : Cond) ∈ lw_tbl := lt_t1 (i := 126) rfl
theorem lt_x1 : (.castable IO IO : Cond) ∈ lw_tbl := lt_t3 (i := 24) rfl
theorem lt_x2 : (.castable NS NS : Cond) ∈ lw_tbl := lt_t3 (i := 95) rfl
theorem lt_s1 : (.stringRef RX7 70 "no such piece" : Cond) ∈ lw_tbl := lt_t3 (i := 62) rfl
theorem lt_s2 : (.stringRef RX7 100 "no such what" : Cond) ∈ lw_tbl := lt_t3 (i := 102) rfl
theorem lt_s3 : (.stringRef RX7 121 "no such knot" : Cond) ∈ lw_tbl := lt_t3 (i := 116) rfl
theorem lt_s4 : (.stringRef RX7 141 "no such part" : Cond) ∈ lw_tbl := lt_t3 (i := 124) rfl
theorem lt_d1 : (.declares (Bundle.initS "java/lang/RuntimeException") : Cond) ∈ lw_tbl := lt_t3 (i := 26) rfl
theorem lt_d2 : (.declares (Bundle.initS "java/lang/Exception") : Cond) ∈ lw_tbl := lt_t3 (i := 28) rfl
theorem lt_d3 : (.declares (Bundle.initS Bundle.tN) : Cond) ∈ lw_tbl := lt_t3 (i := 30) rfl
theorem lt_l1 : (.laysStatic Bundle.tN "UNASSIGNED_STACK" Bundle.steD : Cond) ∈ lw_tbl := lt_t3 (i := 49) rfl
theorem lt_l2 : (.laysStatic Bundle.tN "SUPPRESSED_SENTINEL" Bundle.listD : Cond) ∈ lw_tbl := lt_t3 (i := 51) rfl
theorem lt_i1 : (.initialized Bundle.tN : Cond) ∈ lw_tbl := lt_t1 (i := 10) rfl
theorem lt_g1 : (.not (.castable NS IO) : Cond) ∈ flatC (Jvm.Cond.and given_1 narrow_1) := by decide +kernel
theorem lt_g2 : (.exactly (.string RX7 70) "java/lang/String" : Cond) ∈ flatC (Jvm.Cond.and given_1 narrow_1) := by decide +kernel
theorem lt_g3 : (.exactly (.string RX7 100) "java/lang/String" : Cond) ∈ flatC (Jvm.Cond.and given_1 narrow_1) := by decide +kernel
theorem lt_g4 : (.exactly (.string RX7 121) "java/lang/String" : Cond) ∈ flatC (Jvm.Cond.and given_1 narrow_1) := by decide +kernel
theorem lt_g5 : (.exactly (.string RX7 141) "java/lang/String" : Cond) ∈ flatC (Jvm.Cond.and given_1 narrow_1) := by decide +kernel
theorem lt_g6 : (.isRef (.static Bundle.tN "UNASSIGNED_STACK" Bundle.steD) : Cond) ∈ flatC (Jvm.Cond.and given_1 narrow_1) := by decide +kernel
theorem lt_g7 : (.isRef (.static Bundle.tN "SUPPRESSED_SENTINEL" Bundle.listD) : Cond) ∈ flatC (Jvm.Cond.and given_1 narrow_1) := by decide +kernel
