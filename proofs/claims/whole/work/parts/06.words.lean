/-- the words that stay words when a method is called -/
def lwT : List Cond := lw_tbl.filter goodWord
theorem tm_1 {w : Cond} (h : w ∈ tables_1_1) (g : goodWord w = true) : w ∈ lwT := List.mem_filter.mpr ⟨List.mem_append_right _ (show w ∈ tables_1_1 ++ (tables_1_2 ++ (tables_1_3 ++ (tables_1_4 ++ (tables_1_5 ++ (tables_1_6))))) from List.mem_append_left _ h), g⟩
theorem tn_1 {w : Cond} (h : w ∈ tables_1_1) : w ∈ lw_tbl := List.mem_append_right _ (show w ∈ tables_1_1 ++ (tables_1_2 ++ (tables_1_3 ++ (tables_1_4 ++ (tables_1_5 ++ (tables_1_6))))) from List.mem_append_left _ h)
theorem tm_2 {w : Cond} (h : w ∈ tables_1_2) (g : goodWord w = true) : w ∈ lwT := List.mem_filter.mpr ⟨List.mem_append_right _ (show w ∈ tables_1_1 ++ (tables_1_2 ++ (tables_1_3 ++ (tables_1_4 ++ (tables_1_5 ++ (tables_1_6))))) from List.mem_append_right _ (List.mem_append_left _ h)), g⟩
theorem tn_2 {w : Cond} (h : w ∈ tables_1_2) : w ∈ lw_tbl := List.mem_append_right _ (show w ∈ tables_1_1 ++ (tables_1_2 ++ (tables_1_3 ++ (tables_1_4 ++ (tables_1_5 ++ (tables_1_6))))) from List.mem_append_right _ (List.mem_append_left _ h))
theorem tm_3 {w : Cond} (h : w ∈ tables_1_3) (g : goodWord w = true) : w ∈ lwT := List.mem_filter.mpr ⟨List.mem_append_right _ (show w ∈ tables_1_1 ++ (tables_1_2 ++ (tables_1_3 ++ (tables_1_4 ++ (tables_1_5 ++ (tables_1_6))))) from List.mem_append_right _ (List.mem_append_right _ (List.mem_append_left _ h))), g⟩
theorem tn_3 {w : Cond} (h : w ∈ tables_1_3) : w ∈ lw_tbl := List.mem_append_right _ (show w ∈ tables_1_1 ++ (tables_1_2 ++ (tables_1_3 ++ (tables_1_4 ++ (tables_1_5 ++ (tables_1_6))))) from List.mem_append_right _ (List.mem_append_right _ (List.mem_append_left _ h)))
theorem tm_4 {w : Cond} (h : w ∈ tables_1_4) (g : goodWord w = true) : w ∈ lwT := List.mem_filter.mpr ⟨List.mem_append_right _ (show w ∈ tables_1_1 ++ (tables_1_2 ++ (tables_1_3 ++ (tables_1_4 ++ (tables_1_5 ++ (tables_1_6))))) from List.mem_append_right _ (List.mem_append_right _ (List.mem_append_right _ (List.mem_append_left _ h)))), g⟩
theorem tn_4 {w : Cond} (h : w ∈ tables_1_4) : w ∈ lw_tbl := List.mem_append_right _ (show w ∈ tables_1_1 ++ (tables_1_2 ++ (tables_1_3 ++ (tables_1_4 ++ (tables_1_5 ++ (tables_1_6))))) from List.mem_append_right _ (List.mem_append_right _ (List.mem_append_right _ (List.mem_append_left _ h))))
theorem tm_5 {w : Cond} (h : w ∈ tables_1_5) (g : goodWord w = true) : w ∈ lwT := List.mem_filter.mpr ⟨List.mem_append_right _ (show w ∈ tables_1_1 ++ (tables_1_2 ++ (tables_1_3 ++ (tables_1_4 ++ (tables_1_5 ++ (tables_1_6))))) from List.mem_append_right _ (List.mem_append_right _ (List.mem_append_right _ (List.mem_append_right _ (List.mem_append_left _ h))))), g⟩
theorem tn_5 {w : Cond} (h : w ∈ tables_1_5) : w ∈ lw_tbl := List.mem_append_right _ (show w ∈ tables_1_1 ++ (tables_1_2 ++ (tables_1_3 ++ (tables_1_4 ++ (tables_1_5 ++ (tables_1_6))))) from List.mem_append_right _ (List.mem_append_right _ (List.mem_append_right _ (List.mem_append_right _ (List.mem_append_left _ h)))))
theorem tm_6 {w : Cond} (h : w ∈ tables_1_6) (g : goodWord w = true) : w ∈ lwT := List.mem_filter.mpr ⟨List.mem_append_right _ (show w ∈ tables_1_1 ++ (tables_1_2 ++ (tables_1_3 ++ (tables_1_4 ++ (tables_1_5 ++ (tables_1_6))))) from List.mem_append_right _ (List.mem_append_right _ (List.mem_append_right _ (List.mem_append_right _ (List.mem_append_right _ (h)))))), g⟩
theorem tn_6 {w : Cond} (h : w ∈ tables_1_6) : w ∈ lw_tbl := List.mem_append_right _ (show w ∈ tables_1_1 ++ (tables_1_2 ++ (tables_1_3 ++ (tables_1_4 ++ (tables_1_5 ++ (tables_1_6))))) from List.mem_append_right _ (List.mem_append_right _ (List.mem_append_right _ (List.mem_append_right _ (List.mem_append_right _ (h))))))
theorem ts_0 {w : Cond} {i : Nat} (h : (k2_sels lw_privs)[i]? = some w) (g : goodWord w = true) : w ∈ lwT := List.mem_filter.mpr ⟨List.mem_append_left _ (List.mem_of_getElem? h), g⟩
theorem gT {y : MethodName} {b : ByteArray} {n : Nat} {r : Option FieldType} (h : Cond.code y b n r ∈ lwT) : GoodIn lwT (Cond.code y b n r :: lwT) := by
  intro w hw
  have hm : w ∈ lwT := by
    rcases List.mem_cons.mp hw with e | e
    · rw [e]; exact h
    · exact e
  exact ⟨hm, good_of_word (List.mem_filter.mp hm).2⟩
theorem tw_in_L : (Cond.initialized RL : Cond) ∈ lwT := tm_1 (List.mem_of_getElem? (i := 0) (by decide +kernel)) rfl
theorem tw_in_X7 : (Cond.initialized RX7 : Cond) ∈ lwT := tm_1 (List.mem_of_getElem? (i := 1) (by decide +kernel)) rfl
theorem tw_in_X4 : (Cond.initialized RX4 : Cond) ∈ lwT := tm_1 (List.mem_of_getElem? (i := 2) (by decide +kernel)) rfl
theorem tw_in_X6 : (Cond.initialized RX6 : Cond) ∈ lwT := tm_1 (List.mem_of_getElem? (i := 3) (by decide +kernel)) rfl
theorem tw_in_X1 : (Cond.initialized RX1 : Cond) ∈ lwT := tm_1 (List.mem_of_getElem? (i := 4) (by decide +kernel)) rfl
theorem tw_in_X3 : (Cond.initialized RX3 : Cond) ∈ lwT := tm_1 (List.mem_of_getElem? (i := 5) (by decide +kernel)) rfl
theorem tw_in_X2 : (Cond.initialized RX2 : Cond) ∈ lwT := tm_1 (List.mem_of_getElem? (i := 6) (by decide +kernel)) rfl
theorem tw_in_X5 : (Cond.initialized RX5 : Cond) ∈ lwT := tm_1 (List.mem_of_getElem? (i := 7) (by decide +kernel)) rfl
theorem tw_in_X0 : (Cond.initialized RX0 : Cond) ∈ lwT := tm_1 (List.mem_of_getElem? (i := 8) (by decide +kernel)) rfl
theorem tw_in_X8 : (Cond.initialized RX8 : Cond) ∈ lwT := tm_1 (List.mem_of_getElem? (i := 9) (by decide +kernel)) rfl
theorem tw_in_J10 : (Cond.initialized RJ10 : Cond) ∈ lwT := tm_1 (List.mem_of_getElem? (i := 10) (by decide +kernel)) rfl
theorem tw_in_J9 : (Cond.initialized RJ9 : Cond) ∈ lwT := tm_1 (List.mem_of_getElem? (i := 11) (by decide +kernel)) rfl
theorem tw_in_J6 : (Cond.initialized RJ6 : Cond) ∈ lwT := tm_1 (List.mem_of_getElem? (i := 12) (by decide +kernel)) rfl
theorem tw_cl_L_7 : (Cond.classLink RL 7 RX7 : Cond) ∈ lwT := tm_1 (List.mem_of_getElem? (i := 13) (by decide +kernel)) rfl
theorem tw_ib_X7 : (Cond.instantiable RX7 9 : Cond) ∈ lwT := tm_1 (List.mem_of_getElem? (i := 14) (by decide +kernel)) rfl
theorem tw_ml_L_9 : (Cond.methodLink RL 9 yX7_init : Cond) ∈ lwT := tm_1 (List.mem_of_getElem? (i := 15) (by decide +kernel)) rfl
theorem tw_im_X7_init : (Cond.instanceMethod yX7_init : Cond) ∈ lwT := tm_1 (List.mem_of_getElem? (i := 16) (by decide +kernel)) rfl
theorem tw_c_X7_init : (Cond.code yX7_init cX7_init 1 none : Cond) ∈ lwT := tm_1 (List.mem_of_getElem? (i := 17) (by decide +kernel)) rfl
theorem tw_ml_X7_1 : (Cond.methodLink RX7 1 objectInit : Cond) ∈ lwT := tm_1 (List.mem_of_getElem? (i := 18) (by decide +kernel)) rfl
theorem tw_im_objectInit : (Cond.instanceMethod objectInit : Cond) ∈ lwT := tm_1 (List.mem_of_getElem? (i := 19) (by decide +kernel)) rfl
theorem tw_c_objinit : (Cond.code objectInit ⟨#[0xb1]⟩ 1 none : Cond) ∈ lwT := tm_1 (List.mem_of_getElem? (i := 20) (by decide +kernel)) rfl
theorem tw_cl_X7_7 : (Cond.classLink RX7 7 RX4 : Cond) ∈ lwT := tm_1 (List.mem_of_getElem? (i := 21) (by decide +kernel)) rfl
theorem tw_ib_X4 : (Cond.instantiable RX4 3 : Cond) ∈ lwT := tm_1 (List.mem_of_getElem? (i := 22) (by decide +kernel)) rfl
theorem tw_im_X4_init : (Cond.instanceMethod yX4_init : Cond) ∈ lwT := tm_1 (List.mem_of_getElem? (i := 24) (by decide +kernel)) rfl
theorem tw_c_X4_init : (Cond.code yX4_init cX4_init 1 none : Cond) ∈ lwT := tm_1 (List.mem_of_getElem? (i := 25) (by decide +kernel)) rfl
theorem tw_ml_X4_3 : (Cond.methodLink RX4 3 objectInit : Cond) ∈ lwT := tm_1 (List.mem_of_getElem? (i := 26) (by decide +kernel)) rfl
theorem tw_k_X4_9 : (Cond.constant RX4 9 (-1000000) : Cond) ∈ lwT := tm_1 (List.mem_of_getElem? (i := 27) (by decide +kernel)) rfl
theorem tw_fl_X4_10 : (Cond.fieldLink RX4 10 "TellerDays$Rows" "lane" "[I" : Cond) ∈ lwT := tm_1 (List.mem_of_getElem? (i := 28) (by decide +kernel)) rfl
theorem tw_fl_X4_16 : (Cond.fieldLink RX4 16 "TellerDays$Rows" "size" "[I" : Cond) ∈ lwT := tm_1 (List.mem_of_getElem? (i := 29) (by decide +kernel)) rfl
theorem tw_fl_X4_19 : (Cond.fieldLink RX4 19 "TellerDays$Rows" "items" "[I" : Cond) ∈ lwT := tm_1 (List.mem_of_getElem? (i := 30) (by decide +kernel)) rfl
theorem tw_ac_int : (Cond.arrayClass .int : Cond) ∈ lwT := tm_1 (List.mem_of_getElem? (i := 38) (by decide +kernel)) rfl
theorem tw_cl_X7_16 : (Cond.classLink RX7 16 RX6 : Cond) ∈ lwT := tm_1 (List.mem_of_getElem? (i := 39) (by decide +kernel)) rfl
theorem tw_ib_X6 : (Cond.instantiable RX6 6 : Cond) ∈ lwT := tm_1 (List.mem_of_getElem? (i := 40) (by decide +kernel)) rfl
theorem tw_im_X6_init : (Cond.instanceMethod yX6_init : Cond) ∈ lwT := tm_1 (List.mem_of_getElem? (i := 42) (by decide +kernel)) rfl
theorem tw_c_X6_init : (Cond.code yX6_init cX6_init 1 none : Cond) ∈ lwT := tm_1 (List.mem_of_getElem? (i := 43) (by decide +kernel)) rfl
theorem tw_ml_X6_3 : (Cond.methodLink RX6 3 objectInit : Cond) ∈ lwT := tm_1 (List.mem_of_getElem? (i := 44) (by decide +kernel)) rfl
theorem tw_cl_X6_15 : (Cond.classLink RX6 15 RX1 : Cond) ∈ lwT := tm_1 (List.mem_of_getElem? (i := 45) (by decide +kernel)) rfl
theorem tw_ib_X1 : (Cond.instantiable RX1 17 : Cond) ∈ lwT := tm_1 (List.mem_of_getElem? (i := 46) (by decide +kernel)) rfl
theorem tw_im_X1_init : (Cond.instanceMethod yX1_init : Cond) ∈ lwT := tm_1 (List.mem_of_getElem? (i := 48) (by decide +kernel)) rfl
theorem tw_c_X1_init : (Cond.code yX1_init cX1_init 1 none : Cond) ∈ lwT := tm_1 (List.mem_of_getElem? (i := 49) (by decide +kernel)) rfl
theorem tw_ml_X1_3 : (Cond.methodLink RX1 3 objectInit : Cond) ∈ lwT := tm_1 (List.mem_of_getElem? (i := 50) (by decide +kernel)) rfl
theorem tw_fl_X1_58 : (Cond.fieldLink RX1 58 "TellerDays$Bank" "infancy" "I" : Cond) ∈ lwT := tm_1 (List.mem_of_getElem? (i := 51) (by decide +kernel)) rfl
theorem tw_fl_X1_61 : (Cond.fieldLink RX1 61 "TellerDays$Bank" "week" "I" : Cond) ∈ lwT := tm_1 (List.mem_of_getElem? (i := 53) (by decide +kernel)) rfl
theorem tw_fl_X1_33 : (Cond.fieldLink RX1 33 "TellerDays$Bank" "tellers" "I" : Cond) ∈ lwT := tm_1 (List.mem_of_getElem? (i := 55) (by decide +kernel)) rfl
theorem tw_fl_X1_37 : (Cond.fieldLink RX1 37 "TellerDays$Bank" "open" "I" : Cond) ∈ lwT := tm_1 (List.mem_of_getElem? (i := 59) (by decide +kernel)) rfl
theorem tw_fl_X1_40 : (Cond.fieldLink RX1 40 "TellerDays$Bank" "turn" "I" : Cond) ∈ lwT := tm_1 (List.mem_of_getElem? (i := 62) (by decide +kernel)) rfl
theorem tw_fl_X1_43 : (Cond.fieldLink RX1 43 "TellerDays$Bank" "paid" "I" : Cond) ∈ lwT := tm_1 (List.mem_of_getElem? (i := 64) (by decide +kernel)) rfl
theorem tw_fl_X1_46 : (Cond.fieldLink RX1 46 "TellerDays$Bank" "unpaid" "I" : Cond) ∈ lwT := tm_1 (List.mem_of_getElem? (i := 67) (by decide +kernel)) rfl
theorem tw_fl_X1_49 : (Cond.fieldLink RX1 49 "TellerDays$Bank" "waiting" "I" : Cond) ∈ lwT := tm_1 (List.mem_of_getElem? (i := 69) (by decide +kernel)) rfl
theorem tw_fl_X1_52 : (Cond.fieldLink RX1 52 "TellerDays$Bank" "drawings" "I" : Cond) ∈ lwT := tm_1 (List.mem_of_getElem? (i := 73) (by decide +kernel)) rfl
theorem tw_fl_X1_55 : (Cond.fieldLink RX1 55 "TellerDays$Bank" "known" "I" : Cond) ∈ lwT := tm_1 (List.mem_of_getElem? (i := 74) (by decide +kernel)) rfl
theorem tw_fl_X1_9 : (Cond.fieldLink RX1 9 "TellerDays$Bank" "kind" "[I" : Cond) ∈ lwT := tm_1 (List.mem_of_getElem? (i := 75) (by decide +kernel)) rfl
theorem tw_fl_X1_15 : (Cond.fieldLink RX1 15 "TellerDays$Bank" "days" "[I" : Cond) ∈ lwT := tm_1 (List.mem_of_getElem? (i := 79) (by decide +kernel)) rfl
theorem tw_fl_X1_18 : (Cond.fieldLink RX1 18 "TellerDays$Bank" "care" "[I" : Cond) ∈ lwT := tm_1 (List.mem_of_getElem? (i := 81) (by decide +kernel)) rfl
theorem tw_fl_X1_21 : (Cond.fieldLink RX1 21 "TellerDays$Bank" "left" "[I" : Cond) ∈ lwT := tm_1 (List.mem_of_getElem? (i := 85) (by decide +kernel)) rfl
theorem tw_fl_X1_24 : (Cond.fieldLink RX1 24 "TellerDays$Bank" "served" "[I" : Cond) ∈ lwT := tm_1 (List.mem_of_getElem? (i := 89) (by decide +kernel)) rfl
theorem tw_fl_X1_27 : (Cond.fieldLink RX1 27 "TellerDays$Bank" "sum" "[I" : Cond) ∈ lwT := tm_1 (List.mem_of_getElem? (i := 91) (by decide +kernel)) rfl
theorem tw_fl_X1_30 : (Cond.fieldLink RX1 30 "TellerDays$Bank" "queue" "[I" : Cond) ∈ lwT := tm_1 (List.mem_of_getElem? (i := 93) (by decide +kernel)) rfl
theorem tw_fl_X6_9 : (Cond.fieldLink RX6 9 "TellerDays$Tape" "bytes" "[I" : Cond) ∈ lwT := tm_1 (List.mem_of_getElem? (i := 130) (by decide +kernel)) rfl
theorem tw_fl_X6_18 : (Cond.fieldLink RX6 18 "TellerDays$Tape" "draft" "LTellerDays$Bank;" : Cond) ∈ lwT := tm_1 (List.mem_of_getElem? (i := 131) (by decide +kernel)) rfl
theorem tw_fl_X6_22 : (Cond.fieldLink RX6 22 "TellerDays$Tape" "size" "I" : Cond) ∈ lwT := tm_1 (List.mem_of_getElem? (i := 133) (by decide +kernel)) rfl
theorem tw_fl_X6_26 : (Cond.fieldLink RX6 26 "TellerDays$Tape" "place" "I" : Cond) ∈ lwT := tm_1 (List.mem_of_getElem? (i := 135) (by decide +kernel)) rfl
theorem tw_fl_X6_29 : (Cond.fieldLink RX6 29 "TellerDays$Tape" "fault" "I" : Cond) ∈ lwT := tm_1 (List.mem_of_getElem? (i := 137) (by decide +kernel)) rfl
theorem tw_fl_X6_44 : (Cond.fieldLink RX6 44 "TellerDays$Tape" "latestFault" "I" : Cond) ∈ lwT := tm_1 (List.mem_of_getElem? (i := 138) (by decide +kernel)) rfl
theorem tw_cl_X7_23 : (Cond.classLink RX7 23 RX1 : Cond) ∈ lwT := tm_1 (List.mem_of_getElem? (i := 153) (by decide +kernel)) rfl
theorem tw_cl_X7_30 : (Cond.classLink RX7 30 RX3 : Cond) ∈ lwT := tm_1 (List.mem_of_getElem? (i := 155) (by decide +kernel)) rfl
theorem tw_ib_X3 : (Cond.instantiable RX3 3 : Cond) ∈ lwT := tm_1 (List.mem_of_getElem? (i := 156) (by decide +kernel)) rfl
theorem tw_ml_X7_32 : (Cond.methodLink RX7 32 yX3_init : Cond) ∈ lwT := tm_1 (List.mem_of_getElem? (i := 157) (by decide +kernel)) rfl
theorem tw_im_X3_init : (Cond.instanceMethod yX3_init : Cond) ∈ lwT := tm_1 (List.mem_of_getElem? (i := 158) (by decide +kernel)) rfl
theorem tw_c_X3_init : (Cond.code yX3_init cX3_init 2 none : Cond) ∈ lwT := tm_1 (List.mem_of_getElem? (i := 159) (by decide +kernel)) rfl
theorem tw_ml_X3_3 : (Cond.methodLink RX3 3 objectInit : Cond) ∈ lwT := tm_1 (List.mem_of_getElem? (i := 160) (by decide +kernel)) rfl
theorem tw_cl_X3_9 : (Cond.classLink RX3 9 RX1 : Cond) ∈ lwT := tm_1 (List.mem_of_getElem? (i := 161) (by decide +kernel)) rfl
theorem tw_fl_X3_11 : (Cond.fieldLink RX3 11 "TellerDays$History" "kept" "[LTellerDays$Bank;" : Cond) ∈ lwT := tm_1 (List.mem_of_getElem? (i := 164) (by decide +kernel)) rfl
theorem tw_fl_X3_18 : (Cond.fieldLink RX3 18 "TellerDays$History" "latest" "I" : Cond) ∈ lwT := tm_1 (List.mem_of_getElem? (i := 165) (by decide +kernel)) rfl
theorem tw_fl_X3_26 : (Cond.fieldLink RX3 26 "TellerDays$History" "size" "I" : Cond) ∈ lwT := tm_1 (List.mem_of_getElem? (i := 166) (by decide +kernel)) rfl
theorem tw_cl_X7_41 : (Cond.classLink RX7 41 RX2 : Cond) ∈ lwT := tm_1 (List.mem_of_getElem? (i := 175) (by decide +kernel)) rfl
theorem tw_ib_X2 : (Cond.instantiable RX2 4 : Cond) ∈ lwT := tm_1 (List.mem_of_getElem? (i := 176) (by decide +kernel)) rfl
theorem tw_im_X2_init : (Cond.instanceMethod yX2_init : Cond) ∈ lwT := tm_1 (List.mem_of_getElem? (i := 178) (by decide +kernel)) rfl
theorem tw_c_X2_init : (Cond.code yX2_init cX2_init 1 none : Cond) ∈ lwT := tm_1 (List.mem_of_getElem? (i := 179) (by decide +kernel)) rfl
theorem tw_ml_X2_3 : (Cond.methodLink RX2 3 objectInit : Cond) ∈ lwT := tm_1 (List.mem_of_getElem? (i := 180) (by decide +kernel)) rfl
theorem tw_cl_X2_9 : (Cond.classLink RX2 9 RX1 : Cond) ∈ lwT := tm_1 (List.mem_of_getElem? (i := 181) (by decide +kernel)) rfl
theorem tw_fl_X2_12 : (Cond.fieldLink RX2 12 "TellerDays$Foresight" "ghost" "LTellerDays$Bank;" : Cond) ∈ lwT := tm_1 (List.mem_of_getElem? (i := 183) (by decide +kernel)) rfl
theorem tw_fl_X2_18 : (Cond.fieldLink RX2 18 "TellerDays$Foresight" "told" "[I" : Cond) ∈ lwT := tm_1 (List.mem_of_getElem? (i := 184) (by decide +kernel)) rfl
theorem tw_fl_X2_65 : (Cond.fieldLink RX2 65 "TellerDays$Foresight" "turnsTold" "I" : Cond) ∈ lwT := tm_1 (List.mem_of_getElem? (i := 185) (by decide +kernel)) rfl
theorem tw_fl_X2_56 : (Cond.fieldLink RX2 56 "TellerDays$Foresight" "watched" "I" : Cond) ∈ lwT := tm_1 (List.mem_of_getElem? (i := 186) (by decide +kernel)) rfl
theorem tw_cl_X7_48 : (Cond.classLink RX7 48 RX5 : Cond) ∈ lwT := tm_1 (List.mem_of_getElem? (i := 196) (by decide +kernel)) rfl
theorem tw_ib_X5 : (Cond.instantiable RX5 11 : Cond) ∈ lwT := tm_1 (List.mem_of_getElem? (i := 197) (by decide +kernel)) rfl
theorem tw_ml_X7_50 : (Cond.methodLink RX7 50 yX5_init : Cond) ∈ lwT := tm_1 (List.mem_of_getElem? (i := 198) (by decide +kernel)) rfl
theorem tw_im_X5_init : (Cond.instanceMethod yX5_init : Cond) ∈ lwT := tm_1 (List.mem_of_getElem? (i := 199) (by decide +kernel)) rfl
theorem tw_c_X5_init : (Cond.code yX5_init cX5_init 2 none : Cond) ∈ lwT := tm_1 (List.mem_of_getElem? (i := 200) (by decide +kernel)) rfl
theorem tw_ml_X5_3 : (Cond.methodLink RX5 3 objectInit : Cond) ∈ lwT := tm_1 (List.mem_of_getElem? (i := 201) (by decide +kernel)) rfl
theorem tw_cl_X5_9 : (Cond.classLink RX5 9 RX1 : Cond) ∈ lwT := tm_1 (List.mem_of_getElem? (i := 202) (by decide +kernel)) rfl
theorem tw_fl_X5_11 : (Cond.fieldLink RX5 11 "TellerDays$Search" "levels" "[LTellerDays$Bank;" : Cond) ∈ lwT := tm_1 (List.mem_of_getElem? (i := 204) (by decide +kernel)) rfl
theorem tw_fl_X5_17 : (Cond.fieldLink RX5 17 "TellerDays$Search" "path" "[I" : Cond) ∈ lwT := tm_1 (List.mem_of_getElem? (i := 205) (by decide +kernel)) rfl
theorem tw_fl_X5_21 : (Cond.fieldLink RX5 21 "TellerDays$Search" "bestOrder" "[I" : Cond) ∈ lwT := tm_1 (List.mem_of_getElem? (i := 206) (by decide +kernel)) rfl
theorem tw_fl_X5_24 : (Cond.fieldLink RX5 24 "TellerDays$Search" "bestShare" "[I" : Cond) ∈ lwT := tm_1 (List.mem_of_getElem? (i := 207) (by decide +kernel)) rfl
theorem tw_fl_X5_45 : (Cond.fieldLink RX5 45 "TellerDays$Search" "papers" "I" : Cond) ∈ lwT := tm_1 (List.mem_of_getElem? (i := 208) (by decide +kernel)) rfl
theorem tw_fl_X5_51 : (Cond.fieldLink RX5 51 "TellerDays$Search" "paidBefore" "I" : Cond) ∈ lwT := tm_1 (List.mem_of_getElem? (i := 209) (by decide +kernel)) rfl
theorem tw_fl_X5_61 : (Cond.fieldLink RX5 61 "TellerDays$Search" "mostPaid" "I" : Cond) ∈ lwT := tm_1 (List.mem_of_getElem? (i := 210) (by decide +kernel)) rfl
theorem tw_fl_X5_64 : (Cond.fieldLink RX5 64 "TellerDays$Search" "mostLeft" "I" : Cond) ∈ lwT := tm_1 (List.mem_of_getElem? (i := 212) (by decide +kernel)) rfl
theorem tw_fl_X5_98 : (Cond.fieldLink RX5 98 "TellerDays$Search" "poorest" "I" : Cond) ∈ lwT := tm_1 (List.mem_of_getElem? (i := 214) (by decide +kernel)) rfl
theorem tw_fl_X5_28 : (Cond.fieldLink RX5 28 "TellerDays$Search" "orderKnown" "Z" : Cond) ∈ lwT := tm_1 (List.mem_of_getElem? (i := 216) (by decide +kernel)) rfl
theorem tw_fl_X5_32 : (Cond.fieldLink RX5 32 "TellerDays$Search" "shareKnown" "Z" : Cond) ∈ lwT := tm_1 (List.mem_of_getElem? (i := 217) (by decide +kernel)) rfl
theorem tw_cl_X7_55 : (Cond.classLink RX7 55 RX0 : Cond) ∈ lwT := tm_2 (List.mem_of_getElem? (i := 1) (by decide +kernel)) rfl
theorem tw_ib_X0 : (Cond.instantiable RX0 2 : Cond) ∈ lwT := tm_2 (List.mem_of_getElem? (i := 2) (by decide +kernel)) rfl
theorem tw_im_X0_init : (Cond.instanceMethod yX0_init : Cond) ∈ lwT := tm_2 (List.mem_of_getElem? (i := 4) (by decide +kernel)) rfl
theorem tw_c_X0_init : (Cond.code yX0_init cX0_init 1 none : Cond) ∈ lwT := tm_2 (List.mem_of_getElem? (i := 5) (by decide +kernel)) rfl
theorem tw_ml_X0_3 : (Cond.methodLink RX0 3 objectInit : Cond) ∈ lwT := tm_2 (List.mem_of_getElem? (i := 6) (by decide +kernel)) rfl
theorem tw_fl_X0_9 : (Cond.fieldLink RX0 9 "TellerDays$Asker" "numbers" "[I" : Cond) ∈ lwT := tm_2 (List.mem_of_getElem? (i := 7) (by decide +kernel)) rfl
theorem tw_fl_X0_15 : (Cond.fieldLink RX0 15 "TellerDays$Asker" "traced" "I" : Cond) ∈ lwT := tm_2 (List.mem_of_getElem? (i := 8) (by decide +kernel)) rfl
theorem tw_fl_X7_10 : (Cond.fieldLink RX7 10 "TellerDays" "rows" "LTellerDays$Rows;" : Cond) ∈ lwT := tm_2 (List.mem_of_getElem? (i := 14) (by decide +kernel)) rfl
theorem tw_fl_X7_19 : (Cond.fieldLink RX7 19 "TellerDays" "tape" "LTellerDays$Tape;" : Cond) ∈ lwT := tm_2 (List.mem_of_getElem? (i := 15) (by decide +kernel)) rfl
theorem tw_fl_X7_26 : (Cond.fieldLink RX7 26 "TellerDays" "now" "LTellerDays$Bank;" : Cond) ∈ lwT := tm_2 (List.mem_of_getElem? (i := 16) (by decide +kernel)) rfl
theorem tw_fl_X7_33 : (Cond.fieldLink RX7 33 "TellerDays" "history" "LTellerDays$History;" : Cond) ∈ lwT := tm_2 (List.mem_of_getElem? (i := 17) (by decide +kernel)) rfl
theorem tw_fl_X7_37 : (Cond.fieldLink RX7 37 "TellerDays" "images" "[LTellerDays$Bank;" : Cond) ∈ lwT := tm_2 (List.mem_of_getElem? (i := 18) (by decide +kernel)) rfl
theorem tw_fl_X7_44 : (Cond.fieldLink RX7 44 "TellerDays" "foresight" "LTellerDays$Foresight;" : Cond) ∈ lwT := tm_2 (List.mem_of_getElem? (i := 19) (by decide +kernel)) rfl
theorem tw_fl_X7_51 : (Cond.fieldLink RX7 51 "TellerDays" "search" "LTellerDays$Search;" : Cond) ∈ lwT := tm_2 (List.mem_of_getElem? (i := 20) (by decide +kernel)) rfl
theorem tw_fl_X7_58 : (Cond.fieldLink RX7 58 "TellerDays" "asker" "LTellerDays$Asker;" : Cond) ∈ lwT := tm_2 (List.mem_of_getElem? (i := 21) (by decide +kernel)) rfl
theorem tw_fl_X7_349 : (Cond.fieldLink RX7 349 "TellerDays" "finding" "I" : Cond) ∈ lwT := tm_2 (List.mem_of_getElem? (i := 22) (by decide +kernel)) rfl
theorem tw_ml_L_13 : (Cond.methodLink RL 13 yX7_row : Cond) ∈ lwT := tm_2 (List.mem_of_getElem? (i := 42) (by decide +kernel)) rfl
theorem tw_im_X7_row : (Cond.instanceMethod yX7_row : Cond) ∈ lwT := tm_2 (List.mem_of_getElem? (i := 43) (by decide +kernel)) rfl
theorem tw_se_X7_row : (Cond.selects RX7 yX7_row yX7_row : Cond) ∈ lwT := tm_2 (List.mem_of_getElem? (i := 44) (by decide +kernel)) rfl
theorem tw_c_X7_row : (Cond.code yX7_row cX7_row 4 (some .int) : Cond) ∈ lwT := tm_2 (List.mem_of_getElem? (i := 45) (by decide +kernel)) rfl
theorem tw_ml_X7_62 : (Cond.methodLink RX7 62 yX7_isRow : Cond) ∈ lwT := tm_2 (List.mem_of_getElem? (i := 46) (by decide +kernel)) rfl
theorem tw_st_X7_isRow : (Cond.static yX7_isRow : Cond) ∈ lwT := tm_2 (List.mem_of_getElem? (i := 47) (by decide +kernel)) rfl
theorem tw_c_X7_isRow : (Cond.code yX7_isRow cX7_isRow 1 (some .boolean) : Cond) ∈ lwT := tm_2 (List.mem_of_getElem? (i := 48) (by decide +kernel)) rfl
theorem tw_k_X7_66 : (Cond.constant RX7 66 (-1000001) : Cond) ∈ lwT := tm_2 (List.mem_of_getElem? (i := 49) (by decide +kernel)) rfl
theorem tw_ml_X7_67 : (Cond.methodLink RX7 67 yX7_found : Cond) ∈ lwT := tm_2 (List.mem_of_getElem? (i := 50) (by decide +kernel)) rfl
theorem tw_im_X7_found : (Cond.instanceMethod yX7_found : Cond) ∈ lwT := tm_2 (List.mem_of_getElem? (i := 52) (by decide +kernel)) rfl
theorem tw_c_X7_found : (Cond.code yX7_found cX7_found 2 (some .int) : Cond) ∈ lwT := tm_2 (List.mem_of_getElem? (i := 53) (by decide +kernel)) rfl
theorem tw_k_X7_352 : (Cond.constant RX7 352 (-1000010) : Cond) ∈ lwT := tm_2 (List.mem_of_getElem? (i := 54) (by decide +kernel)) rfl
theorem tw_ml_X7_71 : (Cond.methodLink RX7 71 yX4_make : Cond) ∈ lwT := tm_2 (List.mem_of_getElem? (i := 55) (by decide +kernel)) rfl
theorem tw_im_X4_make : (Cond.instanceMethod yX4_make : Cond) ∈ lwT := tm_2 (List.mem_of_getElem? (i := 56) (by decide +kernel)) rfl
theorem tw_se_X4_make : (Cond.selects RX4 yX4_make yX4_make : Cond) ∈ lwT := tm_2 (List.mem_of_getElem? (i := 57) (by decide +kernel)) rfl
theorem tw_c_X4_make : (Cond.code yX4_make cX4_make 5 none : Cond) ∈ lwT := tm_2 (List.mem_of_getElem? (i := 58) (by decide +kernel)) rfl
theorem tw_ml_X7_75 : (Cond.methodLink RX7 75 yX7_fine : Cond) ∈ lwT := tm_2 (List.mem_of_getElem? (i := 60) (by decide +kernel)) rfl
theorem tw_im_X7_fine : (Cond.instanceMethod yX7_fine : Cond) ∈ lwT := tm_2 (List.mem_of_getElem? (i := 62) (by decide +kernel)) rfl
theorem tw_c_X7_fine : (Cond.code yX7_fine cX7_fine 2 (some .int) : Cond) ∈ lwT := tm_2 (List.mem_of_getElem? (i := 63) (by decide +kernel)) rfl
theorem tw_ml_L_18 : (Cond.methodLink RL 18 yX7_set : Cond) ∈ lwT := tm_2 (List.mem_of_getElem? (i := 64) (by decide +kernel)) rfl
theorem tw_im_X7_set : (Cond.instanceMethod yX7_set : Cond) ∈ lwT := tm_2 (List.mem_of_getElem? (i := 65) (by decide +kernel)) rfl
theorem tw_se_X7_set : (Cond.selects RX7 yX7_set yX7_set : Cond) ∈ lwT := tm_2 (List.mem_of_getElem? (i := 66) (by decide +kernel)) rfl
theorem tw_c_X7_set : (Cond.code yX7_set cX7_set 5 (some .int) : Cond) ∈ lwT := tm_2 (List.mem_of_getElem? (i := 67) (by decide +kernel)) rfl
theorem tw_ml_X7_78 : (Cond.methodLink RX7 78 yX4_findingOf : Cond) ∈ lwT := tm_2 (List.mem_of_getElem? (i := 68) (by decide +kernel)) rfl
theorem tw_im_X4_findingOf : (Cond.instanceMethod yX4_findingOf : Cond) ∈ lwT := tm_2 (List.mem_of_getElem? (i := 69) (by decide +kernel)) rfl
theorem tw_se_X4_findingOf : (Cond.selects RX4 yX4_findingOf yX4_findingOf : Cond) ∈ lwT := tm_2 (List.mem_of_getElem? (i := 70) (by decide +kernel)) rfl
theorem tw_c_X4_findingOf : (Cond.code yX4_findingOf cX4_findingOf 4 (some .int) : Cond) ∈ lwT := tm_2 (List.mem_of_getElem? (i := 71) (by decide +kernel)) rfl
theorem tw_ml_X4_26 : (Cond.methodLink RX4 26 yX4_isMissing : Cond) ∈ lwT := tm_2 (List.mem_of_getElem? (i := 72) (by decide +kernel)) rfl
theorem tw_im_X4_isMissing : (Cond.instanceMethod yX4_isMissing : Cond) ∈ lwT := tm_2 (List.mem_of_getElem? (i := 73) (by decide +kernel)) rfl
theorem tw_se_X4_isMissing : (Cond.selects RX4 yX4_isMissing yX4_isMissing : Cond) ∈ lwT := tm_2 (List.mem_of_getElem? (i := 74) (by decide +kernel)) rfl
theorem tw_c_X4_isMissing : (Cond.code yX4_isMissing cX4_isMissing 2 (some .boolean) : Cond) ∈ lwT := tm_2 (List.mem_of_getElem? (i := 75) (by decide +kernel)) rfl
theorem tw_ml_X4_29 : (Cond.methodLink RX4 29 yX4_hasSpan : Cond) ∈ lwT := tm_2 (List.mem_of_getElem? (i := 76) (by decide +kernel)) rfl
theorem tw_im_X4_hasSpan : (Cond.instanceMethod yX4_hasSpan : Cond) ∈ lwT := tm_2 (List.mem_of_getElem? (i := 77) (by decide +kernel)) rfl
theorem tw_se_X4_hasSpan : (Cond.selects RX4 yX4_hasSpan yX4_hasSpan : Cond) ∈ lwT := tm_2 (List.mem_of_getElem? (i := 78) (by decide +kernel)) rfl
theorem tw_c_X4_hasSpan : (Cond.code yX4_hasSpan cX4_hasSpan 4 (some .boolean) : Cond) ∈ lwT := tm_2 (List.mem_of_getElem? (i := 79) (by decide +kernel)) rfl
theorem tw_ml_X7_82 : (Cond.methodLink RX7 82 yX4_put : Cond) ∈ lwT := tm_2 (List.mem_of_getElem? (i := 80) (by decide +kernel)) rfl
theorem tw_im_X4_put : (Cond.instanceMethod yX4_put : Cond) ∈ lwT := tm_2 (List.mem_of_getElem? (i := 81) (by decide +kernel)) rfl
theorem tw_se_X4_put : (Cond.selects RX4 yX4_put yX4_put : Cond) ∈ lwT := tm_2 (List.mem_of_getElem? (i := 82) (by decide +kernel)) rfl
theorem tw_c_X4_put : (Cond.code yX4_put cX4_put 5 (some .int) : Cond) ∈ lwT := tm_2 (List.mem_of_getElem? (i := 83) (by decide +kernel)) rfl
theorem tw_ml_L_22 : (Cond.methodLink RL 22 yX7_copy : Cond) ∈ lwT := tm_2 (List.mem_of_getElem? (i := 84) (by decide +kernel)) rfl
theorem tw_im_X7_copy : (Cond.instanceMethod yX7_copy : Cond) ∈ lwT := tm_2 (List.mem_of_getElem? (i := 85) (by decide +kernel)) rfl
theorem tw_se_X7_copy : (Cond.selects RX7 yX7_copy yX7_copy : Cond) ∈ lwT := tm_2 (List.mem_of_getElem? (i := 86) (by decide +kernel)) rfl
theorem tw_c_X7_copy : (Cond.code yX7_copy cX7_copy 6 (some .int) : Cond) ∈ lwT := tm_2 (List.mem_of_getElem? (i := 87) (by decide +kernel)) rfl
theorem tw_ml_X7_85 : (Cond.methodLink RX7 85 yX4_isMissing : Cond) ∈ lwT := tm_2 (List.mem_of_getElem? (i := 88) (by decide +kernel)) rfl
theorem tw_ml_X7_88 : (Cond.methodLink RX7 88 yX4_laneOf : Cond) ∈ lwT := tm_2 (List.mem_of_getElem? (i := 89) (by decide +kernel)) rfl
theorem tw_im_X4_laneOf : (Cond.instanceMethod yX4_laneOf : Cond) ∈ lwT := tm_2 (List.mem_of_getElem? (i := 90) (by decide +kernel)) rfl
theorem tw_se_X4_laneOf : (Cond.selects RX4 yX4_laneOf yX4_laneOf : Cond) ∈ lwT := tm_2 (List.mem_of_getElem? (i := 91) (by decide +kernel)) rfl
theorem tw_c_X4_laneOf : (Cond.code yX4_laneOf cX4_laneOf 2 (some .int) : Cond) ∈ lwT := tm_2 (List.mem_of_getElem? (i := 92) (by decide +kernel)) rfl
theorem tw_ml_X7_91 : (Cond.methodLink RX7 91 yX4_hasSpan : Cond) ∈ lwT := tm_2 (List.mem_of_getElem? (i := 93) (by decide +kernel)) rfl
theorem tw_ml_X7_95 : (Cond.methodLink RX7 95 yX4_move : Cond) ∈ lwT := tm_2 (List.mem_of_getElem? (i := 94) (by decide +kernel)) rfl
theorem tw_im_X4_move : (Cond.instanceMethod yX4_move : Cond) ∈ lwT := tm_2 (List.mem_of_getElem? (i := 95) (by decide +kernel)) rfl
theorem tw_se_X4_move : (Cond.selects RX4 yX4_move yX4_move : Cond) ∈ lwT := tm_2 (List.mem_of_getElem? (i := 96) (by decide +kernel)) rfl
theorem tw_c_X4_move : (Cond.code yX4_move cX4_move 6 none : Cond) ∈ lwT := tm_2 (List.mem_of_getElem? (i := 97) (by decide +kernel)) rfl
theorem tw_ml_X4_33 : (Cond.methodLink RX4 33 arraycopyName : Cond) ∈ lwT := tm_2 (List.mem_of_getElem? (i := 98) (by decide +kernel)) rfl
theorem tw_st_arraycopyName : (Cond.static arraycopyName : Cond) ∈ lwT := tm_2 (List.mem_of_getElem? (i := 99) (by decide +kernel)) rfl
theorem tw_na_arraycopyName : (Cond.native arraycopyName : Cond) ∈ lwT := tm_2 (List.mem_of_getElem? (i := 100) (by decide +kernel)) rfl
theorem tw_ml_L_27 : (Cond.methodLink RL 27 yX7_drop : Cond) ∈ lwT := tm_2 (List.mem_of_getElem? (i := 101) (by decide +kernel)) rfl
theorem tw_im_X7_drop : (Cond.instanceMethod yX7_drop : Cond) ∈ lwT := tm_2 (List.mem_of_getElem? (i := 102) (by decide +kernel)) rfl
theorem tw_se_X7_drop : (Cond.selects RX7 yX7_drop yX7_drop : Cond) ∈ lwT := tm_2 (List.mem_of_getElem? (i := 103) (by decide +kernel)) rfl
theorem tw_c_X7_drop : (Cond.code yX7_drop cX7_drop 2 (some .int) : Cond) ∈ lwT := tm_2 (List.mem_of_getElem? (i := 104) (by decide +kernel)) rfl
theorem tw_ml_X7_99 : (Cond.methodLink RX7 99 yX4_remove : Cond) ∈ lwT := tm_2 (List.mem_of_getElem? (i := 105) (by decide +kernel)) rfl
theorem tw_im_X4_remove : (Cond.instanceMethod yX4_remove : Cond) ∈ lwT := tm_2 (List.mem_of_getElem? (i := 106) (by decide +kernel)) rfl
theorem tw_se_X4_remove : (Cond.selects RX4 yX4_remove yX4_remove : Cond) ∈ lwT := tm_2 (List.mem_of_getElem? (i := 107) (by decide +kernel)) rfl
theorem tw_c_X4_remove : (Cond.code yX4_remove cX4_remove 3 (some .int) : Cond) ∈ lwT := tm_2 (List.mem_of_getElem? (i := 108) (by decide +kernel)) rfl
theorem tw_ml_L_32 : (Cond.methodLink RL 32 yX7_feed : Cond) ∈ lwT := tm_2 (List.mem_of_getElem? (i := 109) (by decide +kernel)) rfl
theorem tw_im_X7_feed : (Cond.instanceMethod yX7_feed : Cond) ∈ lwT := tm_2 (List.mem_of_getElem? (i := 110) (by decide +kernel)) rfl
theorem tw_se_X7_feed : (Cond.selects RX7 yX7_feed yX7_feed : Cond) ∈ lwT := tm_2 (List.mem_of_getElem? (i := 111) (by decide +kernel)) rfl
theorem tw_c_X7_feed : (Cond.code yX7_feed cX7_feed 2 (some .int) : Cond) ∈ lwT := tm_2 (List.mem_of_getElem? (i := 112) (by decide +kernel)) rfl
theorem tw_ml_X7_102 : (Cond.methodLink RX7 102 yX6_add : Cond) ∈ lwT := tm_2 (List.mem_of_getElem? (i := 113) (by decide +kernel)) rfl
theorem tw_im_X6_add : (Cond.instanceMethod yX6_add : Cond) ∈ lwT := tm_2 (List.mem_of_getElem? (i := 114) (by decide +kernel)) rfl
theorem tw_se_X6_add : (Cond.selects RX6 yX6_add yX6_add : Cond) ∈ lwT := tm_2 (List.mem_of_getElem? (i := 115) (by decide +kernel)) rfl
theorem tw_c_X6_add : (Cond.code yX6_add cX6_add 2 (some .boolean) : Cond) ∈ lwT := tm_2 (List.mem_of_getElem? (i := 116) (by decide +kernel)) rfl
theorem tw_k_X7_109 : (Cond.constant RX7 109 (-1000003) : Cond) ∈ lwT := tm_2 (List.mem_of_getElem? (i := 117) (by decide +kernel)) rfl
theorem tw_ml_L_36 : (Cond.methodLink RL 36 yX7_bank : Cond) ∈ lwT := tm_2 (List.mem_of_getElem? (i := 118) (by decide +kernel)) rfl
theorem tw_im_X7_bank : (Cond.instanceMethod yX7_bank : Cond) ∈ lwT := tm_2 (List.mem_of_getElem? (i := 119) (by decide +kernel)) rfl
theorem tw_se_X7_bank : (Cond.selects RX7 yX7_bank yX7_bank : Cond) ∈ lwT := tm_2 (List.mem_of_getElem? (i := 120) (by decide +kernel)) rfl
theorem tw_c_X7_bank : (Cond.code yX7_bank cX7_bank 1 (some .int) : Cond) ∈ lwT := tm_2 (List.mem_of_getElem? (i := 121) (by decide +kernel)) rfl
theorem tw_ml_X7_110 : (Cond.methodLink RX7 110 yX6_readAll : Cond) ∈ lwT := tm_2 (List.mem_of_getElem? (i := 122) (by decide +kernel)) rfl
theorem tw_im_X6_readAll : (Cond.instanceMethod yX6_readAll : Cond) ∈ lwT := tm_2 (List.mem_of_getElem? (i := 123) (by decide +kernel)) rfl
theorem tw_se_X6_readAll : (Cond.selects RX6 yX6_readAll yX6_readAll : Cond) ∈ lwT := tm_2 (List.mem_of_getElem? (i := 124) (by decide +kernel)) rfl
theorem tw_c_X6_readAll : (Cond.code yX6_readAll cX6_readAll 1 (some .boolean) : Cond) ∈ lwT := tm_2 (List.mem_of_getElem? (i := 125) (by decide +kernel)) rfl
theorem tw_ml_X6_32 : (Cond.methodLink RX6 32 yX1_clear : Cond) ∈ lwT := tm_2 (List.mem_of_getElem? (i := 126) (by decide +kernel)) rfl
theorem tw_im_X1_clear : (Cond.instanceMethod yX1_clear : Cond) ∈ lwT := tm_2 (List.mem_of_getElem? (i := 127) (by decide +kernel)) rfl
theorem tw_se_X1_clear : (Cond.selects RX1 yX1_clear yX1_clear : Cond) ∈ lwT := tm_2 (List.mem_of_getElem? (i := 128) (by decide +kernel)) rfl
theorem tw_c_X1_clear : (Cond.code yX1_clear cX1_clear 1 none : Cond) ∈ lwT := tm_2 (List.mem_of_getElem? (i := 129) (by decide +kernel)) rfl
theorem tw_ml_X6_35 : (Cond.methodLink RX6 35 yX6_readLaw : Cond) ∈ lwT := tm_2 (List.mem_of_getElem? (i := 130) (by decide +kernel)) rfl
theorem tw_im_X6_readLaw : (Cond.instanceMethod yX6_readLaw : Cond) ∈ lwT := tm_2 (List.mem_of_getElem? (i := 132) (by decide +kernel)) rfl
theorem tw_c_X6_readLaw : (Cond.code yX6_readLaw cX6_readLaw 1 none : Cond) ∈ lwT := tm_2 (List.mem_of_getElem? (i := 133) (by decide +kernel)) rfl
theorem tw_ml_X6_47 : (Cond.methodLink RX6 47 yX6_takeByte : Cond) ∈ lwT := tm_2 (List.mem_of_getElem? (i := 134) (by decide +kernel)) rfl
theorem tw_im_X6_takeByte : (Cond.instanceMethod yX6_takeByte : Cond) ∈ lwT := tm_2 (List.mem_of_getElem? (i := 136) (by decide +kernel)) rfl
theorem tw_c_X6_takeByte : (Cond.code yX6_takeByte cX6_takeByte 2 none : Cond) ∈ lwT := tm_2 (List.mem_of_getElem? (i := 137) (by decide +kernel)) rfl
theorem tw_ml_X6_61 : (Cond.methodLink RX6 61 yX6_next : Cond) ∈ lwT := tm_2 (List.mem_of_getElem? (i := 138) (by decide +kernel)) rfl
theorem tw_im_X6_next : (Cond.instanceMethod yX6_next : Cond) ∈ lwT := tm_2 (List.mem_of_getElem? (i := 140) (by decide +kernel)) rfl
theorem tw_c_X6_next : (Cond.code yX6_next cX6_next 1 (some .int) : Cond) ∈ lwT := tm_2 (List.mem_of_getElem? (i := 141) (by decide +kernel)) rfl
theorem tw_ml_X6_78 : (Cond.methodLink RX6 78 yX6_byteAt : Cond) ∈ lwT := tm_2 (List.mem_of_getElem? (i := 142) (by decide +kernel)) rfl
theorem tw_im_X6_byteAt : (Cond.instanceMethod yX6_byteAt : Cond) ∈ lwT := tm_2 (List.mem_of_getElem? (i := 144) (by decide +kernel)) rfl
theorem tw_c_X6_byteAt : (Cond.code yX6_byteAt cX6_byteAt 2 (some .int) : Cond) ∈ lwT := tm_2 (List.mem_of_getElem? (i := 145) (by decide +kernel)) rfl
theorem tw_k_X6_69 : (Cond.constant RX6 69 (-1000000) : Cond) ∈ lwT := tm_2 (List.mem_of_getElem? (i := 146) (by decide +kernel)) rfl
theorem tw_ml_X6_51 : (Cond.methodLink RX6 51 yX6_takeNumber : Cond) ∈ lwT := tm_2 (List.mem_of_getElem? (i := 147) (by decide +kernel)) rfl
theorem tw_im_X6_takeNumber : (Cond.instanceMethod yX6_takeNumber : Cond) ∈ lwT := tm_2 (List.mem_of_getElem? (i := 149) (by decide +kernel)) rfl
theorem tw_c_X6_takeNumber : (Cond.code yX6_takeNumber cX6_takeNumber 5 (some .int) : Cond) ∈ lwT := tm_2 (List.mem_of_getElem? (i := 150) (by decide +kernel)) rfl
theorem tw_ml_X6_81 : (Cond.methodLink RX6 81 yX6_isFigure : Cond) ∈ lwT := tm_2 (List.mem_of_getElem? (i := 151) (by decide +kernel)) rfl
theorem tw_im_X6_isFigure : (Cond.instanceMethod yX6_isFigure : Cond) ∈ lwT := tm_2 (List.mem_of_getElem? (i := 153) (by decide +kernel)) rfl
theorem tw_c_X6_isFigure : (Cond.code yX6_isFigure cX6_isFigure 3 (some .boolean) : Cond) ∈ lwT := tm_2 (List.mem_of_getElem? (i := 154) (by decide +kernel)) rfl
theorem tw_ml_X6_38 : (Cond.methodLink RX6 38 yX6_readTellers : Cond) ∈ lwT := tm_2 (List.mem_of_getElem? (i := 155) (by decide +kernel)) rfl
theorem tw_im_X6_readTellers : (Cond.instanceMethod yX6_readTellers : Cond) ∈ lwT := tm_2 (List.mem_of_getElem? (i := 157) (by decide +kernel)) rfl
theorem tw_c_X6_readTellers : (Cond.code yX6_readTellers cX6_readTellers 5 none : Cond) ∈ lwT := tm_2 (List.mem_of_getElem? (i := 158) (by decide +kernel)) rfl
theorem tw_ml_X6_65 : (Cond.methodLink RX6 65 yX6_kindOfSort : Cond) ∈ lwT := tm_2 (List.mem_of_getElem? (i := 159) (by decide +kernel)) rfl
theorem tw_st_X6_kindOfSort : (Cond.static yX6_kindOfSort : Cond) ∈ lwT := tm_2 (List.mem_of_getElem? (i := 160) (by decide +kernel)) rfl
theorem tw_c_X6_kindOfSort : (Cond.code yX6_kindOfSort cX6_kindOfSort 1 (some .int) : Cond) ∈ lwT := tm_2 (List.mem_of_getElem? (i := 161) (by decide +kernel)) rfl
theorem tw_ml_X6_70 : (Cond.methodLink RX6 70 yX1_addTeller : Cond) ∈ lwT := tm_2 (List.mem_of_getElem? (i := 162) (by decide +kernel)) rfl
theorem tw_im_X1_addTeller : (Cond.instanceMethod yX1_addTeller : Cond) ∈ lwT := tm_2 (List.mem_of_getElem? (i := 163) (by decide +kernel)) rfl
theorem tw_se_X1_addTeller : (Cond.selects RX1 yX1_addTeller yX1_addTeller : Cond) ∈ lwT := tm_2 (List.mem_of_getElem? (i := 164) (by decide +kernel)) rfl
theorem tw_c_X1_addTeller : (Cond.code yX1_addTeller cX1_addTeller 4 none : Cond) ∈ lwT := tm_2 (List.mem_of_getElem? (i := 165) (by decide +kernel)) rfl
theorem tw_ml_X6_41 : (Cond.methodLink RX6 41 yX6_readPapers : Cond) ∈ lwT := tm_2 (List.mem_of_getElem? (i := 166) (by decide +kernel)) rfl
theorem tw_im_X6_readPapers : (Cond.instanceMethod yX6_readPapers : Cond) ∈ lwT := tm_2 (List.mem_of_getElem? (i := 168) (by decide +kernel)) rfl
theorem tw_c_X6_readPapers : (Cond.code yX6_readPapers cX6_readPapers 4 none : Cond) ∈ lwT := tm_2 (List.mem_of_getElem? (i := 169) (by decide +kernel)) rfl
theorem tw_ml_X6_74 : (Cond.methodLink RX6 74 yX1_join : Cond) ∈ lwT := tm_2 (List.mem_of_getElem? (i := 170) (by decide +kernel)) rfl
theorem tw_im_X1_join : (Cond.instanceMethod yX1_join : Cond) ∈ lwT := tm_2 (List.mem_of_getElem? (i := 171) (by decide +kernel)) rfl
theorem tw_se_X1_join : (Cond.selects RX1 yX1_join yX1_join : Cond) ∈ lwT := tm_2 (List.mem_of_getElem? (i := 172) (by decide +kernel)) rfl
theorem tw_c_X1_join : (Cond.code yX1_join cX1_join 6 (some .int) : Cond) ∈ lwT := tm_2 (List.mem_of_getElem? (i := 173) (by decide +kernel)) rfl
theorem tw_ml_X1_69 : (Cond.methodLink RX1 69 yX1_queuedBits : Cond) ∈ lwT := tm_2 (List.mem_of_getElem? (i := 174) (by decide +kernel)) rfl
theorem tw_im_X1_queuedBits : (Cond.instanceMethod yX1_queuedBits : Cond) ∈ lwT := tm_2 (List.mem_of_getElem? (i := 175) (by decide +kernel)) rfl
theorem tw_se_X1_queuedBits : (Cond.selects RX1 yX1_queuedBits yX1_queuedBits : Cond) ∈ lwT := tm_2 (List.mem_of_getElem? (i := 176) (by decide +kernel)) rfl
theorem tw_c_X1_queuedBits : (Cond.code yX1_queuedBits cX1_queuedBits 3 (some .int) : Cond) ∈ lwT := tm_2 (List.mem_of_getElem? (i := 177) (by decide +kernel)) rfl
theorem tw_k_X1_68 : (Cond.constant RX1 68 (-1000000) : Cond) ∈ lwT := tm_2 (List.mem_of_getElem? (i := 178) (by decide +kernel)) rfl
theorem tw_k_X7_114 : (Cond.constant RX7 114 (-1000100) : Cond) ∈ lwT := tm_2 (List.mem_of_getElem? (i := 179) (by decide +kernel)) rfl
theorem tw_ml_X7_121 : (Cond.methodLink RX7 121 yX7_standAs : Cond) ∈ lwT := tm_2 (List.mem_of_getElem? (i := 180) (by decide +kernel)) rfl
theorem tw_im_X7_standAs : (Cond.instanceMethod yX7_standAs : Cond) ∈ lwT := tm_2 (List.mem_of_getElem? (i := 182) (by decide +kernel)) rfl
theorem tw_c_X7_standAs : (Cond.code yX7_standAs cX7_standAs 2 none : Cond) ∈ lwT := tm_2 (List.mem_of_getElem? (i := 183) (by decide +kernel)) rfl
theorem tw_ml_X7_326 : (Cond.methodLink RX7 326 yX1_takeAll : Cond) ∈ lwT := tm_2 (List.mem_of_getElem? (i := 184) (by decide +kernel)) rfl
theorem tw_im_X1_takeAll : (Cond.instanceMethod yX1_takeAll : Cond) ∈ lwT := tm_2 (List.mem_of_getElem? (i := 185) (by decide +kernel)) rfl
theorem tw_se_X1_takeAll : (Cond.selects RX1 yX1_takeAll yX1_takeAll : Cond) ∈ lwT := tm_2 (List.mem_of_getElem? (i := 186) (by decide +kernel)) rfl
theorem tw_c_X1_takeAll : (Cond.code yX1_takeAll cX1_takeAll 3 none : Cond) ∈ lwT := tm_2 (List.mem_of_getElem? (i := 187) (by decide +kernel)) rfl
theorem tw_ml_X1_64 : (Cond.methodLink RX1 64 yX1_takeCourse : Cond) ∈ lwT := tm_2 (List.mem_of_getElem? (i := 188) (by decide +kernel)) rfl
theorem tw_im_X1_takeCourse : (Cond.instanceMethod yX1_takeCourse : Cond) ∈ lwT := tm_2 (List.mem_of_getElem? (i := 189) (by decide +kernel)) rfl
theorem tw_se_X1_takeCourse : (Cond.selects RX1 yX1_takeCourse yX1_takeCourse : Cond) ∈ lwT := tm_2 (List.mem_of_getElem? (i := 190) (by decide +kernel)) rfl
theorem tw_c_X1_takeCourse : (Cond.code yX1_takeCourse cX1_takeCourse 3 none : Cond) ∈ lwT := tm_2 (List.mem_of_getElem? (i := 191) (by decide +kernel)) rfl
theorem tw_ml_X7_356 : (Cond.methodLink RX7 356 yX3_clear : Cond) ∈ lwT := tm_2 (List.mem_of_getElem? (i := 192) (by decide +kernel)) rfl
theorem tw_im_X3_clear : (Cond.instanceMethod yX3_clear : Cond) ∈ lwT := tm_2 (List.mem_of_getElem? (i := 193) (by decide +kernel)) rfl
theorem tw_se_X3_clear : (Cond.selects RX3 yX3_clear yX3_clear : Cond) ∈ lwT := tm_2 (List.mem_of_getElem? (i := 194) (by decide +kernel)) rfl
theorem tw_c_X3_clear : (Cond.code yX3_clear cX3_clear 1 none : Cond) ∈ lwT := tm_2 (List.mem_of_getElem? (i := 195) (by decide +kernel)) rfl
theorem tw_ml_X7_136 : (Cond.methodLink RX7 136 yX5_forget : Cond) ∈ lwT := tm_2 (List.mem_of_getElem? (i := 196) (by decide +kernel)) rfl
theorem tw_im_X5_forget : (Cond.instanceMethod yX5_forget : Cond) ∈ lwT := tm_2 (List.mem_of_getElem? (i := 197) (by decide +kernel)) rfl
theorem tw_se_X5_forget : (Cond.selects RX5 yX5_forget yX5_forget : Cond) ∈ lwT := tm_2 (List.mem_of_getElem? (i := 198) (by decide +kernel)) rfl
theorem tw_c_X5_forget : (Cond.code yX5_forget cX5_forget 1 none : Cond) ∈ lwT := tm_2 (List.mem_of_getElem? (i := 199) (by decide +kernel)) rfl
theorem tw_ml_L_41 : (Cond.methodLink RL 41 yX7_fault : Cond) ∈ lwT := tm_2 (List.mem_of_getElem? (i := 200) (by decide +kernel)) rfl
theorem tw_im_X7_fault : (Cond.instanceMethod yX7_fault : Cond) ∈ lwT := tm_2 (List.mem_of_getElem? (i := 201) (by decide +kernel)) rfl
theorem tw_se_X7_fault : (Cond.selects RX7 yX7_fault yX7_fault : Cond) ∈ lwT := tm_2 (List.mem_of_getElem? (i := 202) (by decide +kernel)) rfl
theorem tw_c_X7_fault : (Cond.code yX7_fault cX7_fault 1 (some .int) : Cond) ∈ lwT := tm_2 (List.mem_of_getElem? (i := 203) (by decide +kernel)) rfl
theorem tw_ml_L_45 : (Cond.methodLink RL 45 yX7_undo : Cond) ∈ lwT := tm_2 (List.mem_of_getElem? (i := 204) (by decide +kernel)) rfl
theorem tw_im_X7_undo : (Cond.instanceMethod yX7_undo : Cond) ∈ lwT := tm_2 (List.mem_of_getElem? (i := 205) (by decide +kernel)) rfl
theorem tw_se_X7_undo : (Cond.selects RX7 yX7_undo yX7_undo : Cond) ∈ lwT := tm_2 (List.mem_of_getElem? (i := 206) (by decide +kernel)) rfl
theorem tw_c_X7_undo : (Cond.code yX7_undo cX7_undo 1 (some .int) : Cond) ∈ lwT := tm_2 (List.mem_of_getElem? (i := 207) (by decide +kernel)) rfl
theorem tw_k_X7_132 : (Cond.constant RX7 132 (-1000002) : Cond) ∈ lwT := tm_2 (List.mem_of_getElem? (i := 208) (by decide +kernel)) rfl
theorem tw_ml_X7_133 : (Cond.methodLink RX7 133 yX3_goBack : Cond) ∈ lwT := tm_2 (List.mem_of_getElem? (i := 209) (by decide +kernel)) rfl
theorem tw_im_X3_goBack : (Cond.instanceMethod yX3_goBack : Cond) ∈ lwT := tm_2 (List.mem_of_getElem? (i := 210) (by decide +kernel)) rfl
theorem tw_se_X3_goBack : (Cond.selects RX3 yX3_goBack yX3_goBack : Cond) ∈ lwT := tm_2 (List.mem_of_getElem? (i := 211) (by decide +kernel)) rfl
theorem tw_c_X3_goBack : (Cond.code yX3_goBack cX3_goBack 2 none : Cond) ∈ lwT := tm_2 (List.mem_of_getElem? (i := 212) (by decide +kernel)) rfl
theorem tw_ml_X3_22 : (Cond.methodLink RX3 22 yX1_takeAll : Cond) ∈ lwT := tm_2 (List.mem_of_getElem? (i := 213) (by decide +kernel)) rfl
theorem tw_ml_L_49 : (Cond.methodLink RL 49 yX7_serve : Cond) ∈ lwT := tm_2 (List.mem_of_getElem? (i := 214) (by decide +kernel)) rfl
theorem tw_im_X7_serve : (Cond.instanceMethod yX7_serve : Cond) ∈ lwT := tm_2 (List.mem_of_getElem? (i := 215) (by decide +kernel)) rfl
theorem tw_se_X7_serve : (Cond.selects RX7 yX7_serve yX7_serve : Cond) ∈ lwT := tm_2 (List.mem_of_getElem? (i := 216) (by decide +kernel)) rfl
theorem tw_c_X7_serve : (Cond.code yX7_serve cX7_serve 3 (some .int) : Cond) ∈ lwT := tm_2 (List.mem_of_getElem? (i := 217) (by decide +kernel)) rfl
theorem tw_ml_X7_139 : (Cond.methodLink RX7 139 yX1_isThere : Cond) ∈ lwT := tm_2 (List.mem_of_getElem? (i := 218) (by decide +kernel)) rfl
theorem tw_im_X1_isThere : (Cond.instanceMethod yX1_isThere : Cond) ∈ lwT := tm_2 (List.mem_of_getElem? (i := 219) (by decide +kernel)) rfl
theorem tw_se_X1_isThere : (Cond.selects RX1 yX1_isThere yX1_isThere : Cond) ∈ lwT := tm_2 (List.mem_of_getElem? (i := 220) (by decide +kernel)) rfl
theorem tw_c_X1_isThere : (Cond.code yX1_isThere cX1_isThere 1 (some .boolean) : Cond) ∈ lwT := tm_2 (List.mem_of_getElem? (i := 221) (by decide +kernel)) rfl
theorem tw_ml_X7_145 : (Cond.methodLink RX7 145 yX7_beginAct : Cond) ∈ lwT := tm_2 (List.mem_of_getElem? (i := 222) (by decide +kernel)) rfl
theorem tw_im_X7_beginAct : (Cond.instanceMethod yX7_beginAct : Cond) ∈ lwT := tm_2 (List.mem_of_getElem? (i := 224) (by decide +kernel)) rfl
theorem tw_c_X7_beginAct : (Cond.code yX7_beginAct cX7_beginAct 1 none : Cond) ∈ lwT := tm_2 (List.mem_of_getElem? (i := 225) (by decide +kernel)) rfl
theorem tw_ml_X7_353 : (Cond.methodLink RX7 353 yX3_keep : Cond) ∈ lwT := tm_2 (List.mem_of_getElem? (i := 226) (by decide +kernel)) rfl
theorem tw_im_X3_keep : (Cond.instanceMethod yX3_keep : Cond) ∈ lwT := tm_2 (List.mem_of_getElem? (i := 227) (by decide +kernel)) rfl
theorem tw_se_X3_keep : (Cond.selects RX3 yX3_keep yX3_keep : Cond) ∈ lwT := tm_2 (List.mem_of_getElem? (i := 228) (by decide +kernel)) rfl
theorem tw_c_X3_keep : (Cond.code yX3_keep cX3_keep 2 none : Cond) ∈ lwT := tm_2 (List.mem_of_getElem? (i := 229) (by decide +kernel)) rfl
theorem tw_ml_X3_29 : (Cond.methodLink RX3 29 Lib.Math.min.name : Cond) ∈ lwT := tm_2 (List.mem_of_getElem? (i := 230) (by decide +kernel)) rfl
theorem tw_st_Lib_Math_min_name : (Cond.static Lib.Math.min.name : Cond) ∈ lwT := tm_2 (List.mem_of_getElem? (i := 231) (by decide +kernel)) rfl
theorem tw_c_J9_min_7cf53 : (Cond.code yJ9_min_7cf53 cJ9_min_7cf53 2 (some .int) : Cond) ∈ lwT := tm_2 (List.mem_of_getElem? (i := 232) (by decide +kernel)) rfl
theorem tw_ml_X7_148 : (Cond.methodLink RX7 148 yX1_passTurn : Cond) ∈ lwT := tm_2 (List.mem_of_getElem? (i := 233) (by decide +kernel)) rfl
theorem tw_im_X1_passTurn : (Cond.instanceMethod yX1_passTurn : Cond) ∈ lwT := tm_2 (List.mem_of_getElem? (i := 234) (by decide +kernel)) rfl
theorem tw_se_X1_passTurn : (Cond.selects RX1 yX1_passTurn yX1_passTurn : Cond) ∈ lwT := tm_2 (List.mem_of_getElem? (i := 235) (by decide +kernel)) rfl
theorem tw_c_X1_passTurn : (Cond.code yX1_passTurn cX1_passTurn 2 (some .int) : Cond) ∈ lwT := tm_2 (List.mem_of_getElem? (i := 236) (by decide +kernel)) rfl
theorem tw_ml_X1_109 : (Cond.methodLink RX1 109 yX1_leave : Cond) ∈ lwT := tm_2 (List.mem_of_getElem? (i := 237) (by decide +kernel)) rfl
theorem tw_im_X1_leave : (Cond.instanceMethod yX1_leave : Cond) ∈ lwT := tm_2 (List.mem_of_getElem? (i := 238) (by decide +kernel)) rfl
theorem tw_se_X1_leave : (Cond.selects RX1 yX1_leave yX1_leave : Cond) ∈ lwT := tm_2 (List.mem_of_getElem? (i := 239) (by decide +kernel)) rfl
theorem tw_c_X1_leave : (Cond.code yX1_leave cX1_leave 4 (some .int) : Cond) ∈ lwT := tm_3 (List.mem_of_getElem? (i := 0) (by decide +kernel)) rfl
theorem tw_ml_X1_73 : (Cond.methodLink RX1 73 yX1_paperAt : Cond) ∈ lwT := tm_3 (List.mem_of_getElem? (i := 1) (by decide +kernel)) rfl
theorem tw_im_X1_paperAt : (Cond.instanceMethod yX1_paperAt : Cond) ∈ lwT := tm_3 (List.mem_of_getElem? (i := 2) (by decide +kernel)) rfl
theorem tw_se_X1_paperAt : (Cond.selects RX1 yX1_paperAt yX1_paperAt : Cond) ∈ lwT := tm_3 (List.mem_of_getElem? (i := 3) (by decide +kernel)) rfl
theorem tw_c_X1_paperAt : (Cond.code yX1_paperAt cX1_paperAt 2 (some .int) : Cond) ∈ lwT := tm_3 (List.mem_of_getElem? (i := 4) (by decide +kernel)) rfl
theorem tw_ml_X1_112 : (Cond.methodLink RX1 112 yX1_attend : Cond) ∈ lwT := tm_3 (List.mem_of_getElem? (i := 5) (by decide +kernel)) rfl
theorem tw_im_X1_attend : (Cond.instanceMethod yX1_attend : Cond) ∈ lwT := tm_3 (List.mem_of_getElem? (i := 6) (by decide +kernel)) rfl
theorem tw_se_X1_attend : (Cond.selects RX1 yX1_attend yX1_attend : Cond) ∈ lwT := tm_3 (List.mem_of_getElem? (i := 7) (by decide +kernel)) rfl
theorem tw_c_X1_attend : (Cond.code yX1_attend cX1_attend 3 (some .int) : Cond) ∈ lwT := tm_3 (List.mem_of_getElem? (i := 8) (by decide +kernel)) rfl
theorem tw_ml_X1_88 : (Cond.methodLink RX1 88 yX1_isDrawing : Cond) ∈ lwT := tm_3 (List.mem_of_getElem? (i := 9) (by decide +kernel)) rfl
theorem tw_im_X1_isDrawing : (Cond.instanceMethod yX1_isDrawing : Cond) ∈ lwT := tm_3 (List.mem_of_getElem? (i := 10) (by decide +kernel)) rfl
theorem tw_se_X1_isDrawing : (Cond.selects RX1 yX1_isDrawing yX1_isDrawing : Cond) ∈ lwT := tm_3 (List.mem_of_getElem? (i := 11) (by decide +kernel)) rfl
theorem tw_c_X1_isDrawing : (Cond.code yX1_isDrawing cX1_isDrawing 2 (some .boolean) : Cond) ∈ lwT := tm_3 (List.mem_of_getElem? (i := 12) (by decide +kernel)) rfl
theorem tw_ml_X1_91 : (Cond.methodLink RX1 91 yX1_sumOf : Cond) ∈ lwT := tm_3 (List.mem_of_getElem? (i := 13) (by decide +kernel)) rfl
theorem tw_im_X1_sumOf : (Cond.instanceMethod yX1_sumOf : Cond) ∈ lwT := tm_3 (List.mem_of_getElem? (i := 14) (by decide +kernel)) rfl
theorem tw_se_X1_sumOf : (Cond.selects RX1 yX1_sumOf yX1_sumOf : Cond) ∈ lwT := tm_3 (List.mem_of_getElem? (i := 15) (by decide +kernel)) rfl
theorem tw_c_X1_sumOf : (Cond.code yX1_sumOf cX1_sumOf 2 (some .int) : Cond) ∈ lwT := tm_3 (List.mem_of_getElem? (i := 16) (by decide +kernel)) rfl
theorem tw_ml_X1_94 : (Cond.methodLink RX1 94 yX1_drawerOf : Cond) ∈ lwT := tm_3 (List.mem_of_getElem? (i := 17) (by decide +kernel)) rfl
theorem tw_im_X1_drawerOf : (Cond.instanceMethod yX1_drawerOf : Cond) ∈ lwT := tm_3 (List.mem_of_getElem? (i := 19) (by decide +kernel)) rfl
theorem tw_c_X1_drawerOf : (Cond.code yX1_drawerOf cX1_drawerOf 5 (some .int) : Cond) ∈ lwT := tm_3 (List.mem_of_getElem? (i := 20) (by decide +kernel)) rfl
theorem tw_ml_X1_85 : (Cond.methodLink RX1 85 yX1_isOpen : Cond) ∈ lwT := tm_3 (List.mem_of_getElem? (i := 21) (by decide +kernel)) rfl
theorem tw_im_X1_isOpen : (Cond.instanceMethod yX1_isOpen : Cond) ∈ lwT := tm_3 (List.mem_of_getElem? (i := 22) (by decide +kernel)) rfl
theorem tw_se_X1_isOpen : (Cond.selects RX1 yX1_isOpen yX1_isOpen : Cond) ∈ lwT := tm_3 (List.mem_of_getElem? (i := 23) (by decide +kernel)) rfl
theorem tw_c_X1_isOpen : (Cond.code yX1_isOpen cX1_isOpen 2 (some .boolean) : Cond) ∈ lwT := tm_3 (List.mem_of_getElem? (i := 24) (by decide +kernel)) rfl
theorem tw_ml_X1_81 : (Cond.methodLink RX1 81 yX1_costTo : Cond) ∈ lwT := tm_3 (List.mem_of_getElem? (i := 25) (by decide +kernel)) rfl
theorem tw_im_X1_costTo : (Cond.instanceMethod yX1_costTo : Cond) ∈ lwT := tm_3 (List.mem_of_getElem? (i := 26) (by decide +kernel)) rfl
theorem tw_se_X1_costTo : (Cond.selects RX1 yX1_costTo yX1_costTo : Cond) ∈ lwT := tm_3 (List.mem_of_getElem? (i := 27) (by decide +kernel)) rfl
theorem tw_c_X1_costTo : (Cond.code yX1_costTo cX1_costTo 4 (some .int) : Cond) ∈ lwT := tm_3 (List.mem_of_getElem? (i := 28) (by decide +kernel)) rfl
theorem tw_ml_X1_97 : (Cond.methodLink RX1 97 yX1_poorestOpen : Cond) ∈ lwT := tm_3 (List.mem_of_getElem? (i := 29) (by decide +kernel)) rfl
theorem tw_im_X1_poorestOpen : (Cond.instanceMethod yX1_poorestOpen : Cond) ∈ lwT := tm_3 (List.mem_of_getElem? (i := 31) (by decide +kernel)) rfl
theorem tw_c_X1_poorestOpen : (Cond.code yX1_poorestOpen cX1_poorestOpen 3 (some .int) : Cond) ∈ lwT := tm_3 (List.mem_of_getElem? (i := 32) (by decide +kernel)) rfl
theorem tw_ml_X1_100 : (Cond.methodLink RX1 100 yX1_handOver : Cond) ∈ lwT := tm_3 (List.mem_of_getElem? (i := 33) (by decide +kernel)) rfl
theorem tw_im_X1_handOver : (Cond.instanceMethod yX1_handOver : Cond) ∈ lwT := tm_3 (List.mem_of_getElem? (i := 34) (by decide +kernel)) rfl
theorem tw_se_X1_handOver : (Cond.selects RX1 yX1_handOver yX1_handOver : Cond) ∈ lwT := tm_3 (List.mem_of_getElem? (i := 35) (by decide +kernel)) rfl
theorem tw_c_X1_handOver : (Cond.code yX1_handOver cX1_handOver 3 none : Cond) ∈ lwT := tm_3 (List.mem_of_getElem? (i := 36) (by decide +kernel)) rfl
theorem tw_ml_X1_77 : (Cond.methodLink RX1 77 yX1_hasTeller : Cond) ∈ lwT := tm_3 (List.mem_of_getElem? (i := 37) (by decide +kernel)) rfl
theorem tw_im_X1_hasTeller : (Cond.instanceMethod yX1_hasTeller : Cond) ∈ lwT := tm_3 (List.mem_of_getElem? (i := 38) (by decide +kernel)) rfl
theorem tw_se_X1_hasTeller : (Cond.selects RX1 yX1_hasTeller yX1_hasTeller : Cond) ∈ lwT := tm_3 (List.mem_of_getElem? (i := 39) (by decide +kernel)) rfl
theorem tw_c_X1_hasTeller : (Cond.code yX1_hasTeller cX1_hasTeller 2 (some .boolean) : Cond) ∈ lwT := tm_3 (List.mem_of_getElem? (i := 40) (by decide +kernel)) rfl
theorem tw_ml_X1_104 : (Cond.methodLink RX1 104 Lib.Math.min.name : Cond) ∈ lwT := tm_3 (List.mem_of_getElem? (i := 41) (by decide +kernel)) rfl
theorem tw_ml_X1_115 : (Cond.methodLink RX1 115 yX1_endTurn : Cond) ∈ lwT := tm_3 (List.mem_of_getElem? (i := 42) (by decide +kernel)) rfl
theorem tw_im_X1_endTurn : (Cond.instanceMethod yX1_endTurn : Cond) ∈ lwT := tm_3 (List.mem_of_getElem? (i := 43) (by decide +kernel)) rfl
theorem tw_se_X1_endTurn : (Cond.selects RX1 yX1_endTurn yX1_endTurn : Cond) ∈ lwT := tm_3 (List.mem_of_getElem? (i := 44) (by decide +kernel)) rfl
theorem tw_c_X1_endTurn : (Cond.code yX1_endTurn cX1_endTurn 2 none : Cond) ∈ lwT := tm_3 (List.mem_of_getElem? (i := 45) (by decide +kernel)) rfl
theorem tw_ml_L_53 : (Cond.methodLink RL 53 yX7_counter : Cond) ∈ lwT := tm_3 (List.mem_of_getElem? (i := 46) (by decide +kernel)) rfl
theorem tw_im_X7_counter : (Cond.instanceMethod yX7_counter : Cond) ∈ lwT := tm_3 (List.mem_of_getElem? (i := 47) (by decide +kernel)) rfl
theorem tw_se_X7_counter : (Cond.selects RX7 yX7_counter yX7_counter : Cond) ∈ lwT := tm_3 (List.mem_of_getElem? (i := 48) (by decide +kernel)) rfl
theorem tw_c_X7_counter : (Cond.code yX7_counter cX7_counter 3 (some .int) : Cond) ∈ lwT := tm_3 (List.mem_of_getElem? (i := 49) (by decide +kernel)) rfl
theorem tw_ml_X7_155 : (Cond.methodLink RX7 155 yX1_hasTeller : Cond) ∈ lwT := tm_3 (List.mem_of_getElem? (i := 50) (by decide +kernel)) rfl
theorem tw_ml_X7_158 : (Cond.methodLink RX7 158 yX7_isChoice : Cond) ∈ lwT := tm_3 (List.mem_of_getElem? (i := 51) (by decide +kernel)) rfl
theorem tw_st_X7_isChoice : (Cond.static yX7_isChoice : Cond) ∈ lwT := tm_3 (List.mem_of_getElem? (i := 52) (by decide +kernel)) rfl
theorem tw_c_X7_isChoice : (Cond.code yX7_isChoice cX7_isChoice 1 (some .boolean) : Cond) ∈ lwT := tm_3 (List.mem_of_getElem? (i := 53) (by decide +kernel)) rfl
theorem tw_ml_X7_161 : (Cond.methodLink RX7 161 yX1_isOpen : Cond) ∈ lwT := tm_3 (List.mem_of_getElem? (i := 54) (by decide +kernel)) rfl
theorem tw_ml_L_58 : (Cond.methodLink RL 58 yX7_come : Cond) ∈ lwT := tm_3 (List.mem_of_getElem? (i := 55) (by decide +kernel)) rfl
theorem tw_im_X7_come : (Cond.instanceMethod yX7_come : Cond) ∈ lwT := tm_3 (List.mem_of_getElem? (i := 56) (by decide +kernel)) rfl
theorem tw_se_X7_come : (Cond.selects RX7 yX7_come yX7_come : Cond) ∈ lwT := tm_3 (List.mem_of_getElem? (i := 57) (by decide +kernel)) rfl
theorem tw_c_X7_come : (Cond.code yX7_come cX7_come 3 (some .int) : Cond) ∈ lwT := tm_3 (List.mem_of_getElem? (i := 58) (by decide +kernel)) rfl
theorem tw_ml_X7_167 : (Cond.methodLink RX7 167 yX7_isSum : Cond) ∈ lwT := tm_3 (List.mem_of_getElem? (i := 59) (by decide +kernel)) rfl
theorem tw_st_X7_isSum : (Cond.static yX7_isSum : Cond) ∈ lwT := tm_3 (List.mem_of_getElem? (i := 60) (by decide +kernel)) rfl
theorem tw_c_X7_isSum : (Cond.code yX7_isSum cX7_isSum 1 (some .boolean) : Cond) ∈ lwT := tm_3 (List.mem_of_getElem? (i := 61) (by decide +kernel)) rfl
theorem tw_ml_X7_170 : (Cond.methodLink RX7 170 yX1_join : Cond) ∈ lwT := tm_3 (List.mem_of_getElem? (i := 62) (by decide +kernel)) rfl
theorem tw_ml_L_62 : (Cond.methodLink RL 62 yX7_dismiss : Cond) ∈ lwT := tm_3 (List.mem_of_getElem? (i := 63) (by decide +kernel)) rfl
theorem tw_im_X7_dismiss : (Cond.instanceMethod yX7_dismiss : Cond) ∈ lwT := tm_3 (List.mem_of_getElem? (i := 64) (by decide +kernel)) rfl
theorem tw_se_X7_dismiss : (Cond.selects RX7 yX7_dismiss yX7_dismiss : Cond) ∈ lwT := tm_3 (List.mem_of_getElem? (i := 65) (by decide +kernel)) rfl
theorem tw_c_X7_dismiss : (Cond.code yX7_dismiss cX7_dismiss 1 (some .int) : Cond) ∈ lwT := tm_3 (List.mem_of_getElem? (i := 66) (by decide +kernel)) rfl
theorem tw_ml_X7_177 : (Cond.methodLink RX7 177 yX1_leave : Cond) ∈ lwT := tm_3 (List.mem_of_getElem? (i := 67) (by decide +kernel)) rfl
theorem tw_ml_L_66 : (Cond.methodLink RL 66 yX7_swap : Cond) ∈ lwT := tm_3 (List.mem_of_getElem? (i := 68) (by decide +kernel)) rfl
theorem tw_im_X7_swap : (Cond.instanceMethod yX7_swap : Cond) ∈ lwT := tm_3 (List.mem_of_getElem? (i := 69) (by decide +kernel)) rfl
theorem tw_se_X7_swap : (Cond.selects RX7 yX7_swap yX7_swap : Cond) ∈ lwT := tm_3 (List.mem_of_getElem? (i := 70) (by decide +kernel)) rfl
theorem tw_c_X7_swap : (Cond.code yX7_swap cX7_swap 1 (some .int) : Cond) ∈ lwT := tm_3 (List.mem_of_getElem? (i := 71) (by decide +kernel)) rfl
theorem tw_ml_X7_180 : (Cond.methodLink RX7 180 yX1_swapFirst : Cond) ∈ lwT := tm_3 (List.mem_of_getElem? (i := 72) (by decide +kernel)) rfl
theorem tw_im_X1_swapFirst : (Cond.instanceMethod yX1_swapFirst : Cond) ∈ lwT := tm_3 (List.mem_of_getElem? (i := 73) (by decide +kernel)) rfl
theorem tw_se_X1_swapFirst : (Cond.selects RX1 yX1_swapFirst yX1_swapFirst : Cond) ∈ lwT := tm_3 (List.mem_of_getElem? (i := 74) (by decide +kernel)) rfl
theorem tw_c_X1_swapFirst : (Cond.code yX1_swapFirst cX1_swapFirst 2 none : Cond) ∈ lwT := tm_3 (List.mem_of_getElem? (i := 75) (by decide +kernel)) rfl
theorem tw_ml_L_70 : (Cond.methodLink RL 70 yX7_teller : Cond) ∈ lwT := tm_3 (List.mem_of_getElem? (i := 76) (by decide +kernel)) rfl
theorem tw_im_X7_teller : (Cond.instanceMethod yX7_teller : Cond) ∈ lwT := tm_3 (List.mem_of_getElem? (i := 77) (by decide +kernel)) rfl
theorem tw_se_X7_teller : (Cond.selects RX7 yX7_teller yX7_teller : Cond) ∈ lwT := tm_3 (List.mem_of_getElem? (i := 78) (by decide +kernel)) rfl
theorem tw_c_X7_teller : (Cond.code yX7_teller cX7_teller 3 (some .int) : Cond) ∈ lwT := tm_3 (List.mem_of_getElem? (i := 79) (by decide +kernel)) rfl
theorem tw_ml_L_74 : (Cond.methodLink RL 74 yX7_paper : Cond) ∈ lwT := tm_3 (List.mem_of_getElem? (i := 80) (by decide +kernel)) rfl
theorem tw_im_X7_paper : (Cond.instanceMethod yX7_paper : Cond) ∈ lwT := tm_3 (List.mem_of_getElem? (i := 81) (by decide +kernel)) rfl
theorem tw_se_X7_paper : (Cond.selects RX7 yX7_paper yX7_paper : Cond) ∈ lwT := tm_3 (List.mem_of_getElem? (i := 82) (by decide +kernel)) rfl
theorem tw_c_X7_paper : (Cond.code yX7_paper cX7_paper 3 (some .int) : Cond) ∈ lwT := tm_3 (List.mem_of_getElem? (i := 83) (by decide +kernel)) rfl
theorem tw_ml_X7_199 : (Cond.methodLink RX7 199 yX1_knowsPaper : Cond) ∈ lwT := tm_3 (List.mem_of_getElem? (i := 84) (by decide +kernel)) rfl
theorem tw_im_X1_knowsPaper : (Cond.instanceMethod yX1_knowsPaper : Cond) ∈ lwT := tm_3 (List.mem_of_getElem? (i := 85) (by decide +kernel)) rfl
theorem tw_se_X1_knowsPaper : (Cond.selects RX1 yX1_knowsPaper yX1_knowsPaper : Cond) ∈ lwT := tm_3 (List.mem_of_getElem? (i := 86) (by decide +kernel)) rfl
theorem tw_c_X1_knowsPaper : (Cond.code yX1_knowsPaper cX1_knowsPaper 2 (some .boolean) : Cond) ∈ lwT := tm_3 (List.mem_of_getElem? (i := 87) (by decide +kernel)) rfl
theorem tw_ml_X7_202 : (Cond.methodLink RX7 202 yX1_sumOf : Cond) ∈ lwT := tm_3 (List.mem_of_getElem? (i := 88) (by decide +kernel)) rfl
theorem tw_ml_X7_205 : (Cond.methodLink RX7 205 yX1_isDrawing : Cond) ∈ lwT := tm_3 (List.mem_of_getElem? (i := 89) (by decide +kernel)) rfl
theorem tw_ml_X7_208 : (Cond.methodLink RX7 208 yX1_placeOf : Cond) ∈ lwT := tm_3 (List.mem_of_getElem? (i := 90) (by decide +kernel)) rfl
theorem tw_im_X1_placeOf : (Cond.instanceMethod yX1_placeOf : Cond) ∈ lwT := tm_3 (List.mem_of_getElem? (i := 91) (by decide +kernel)) rfl
theorem tw_se_X1_placeOf : (Cond.selects RX1 yX1_placeOf yX1_placeOf : Cond) ∈ lwT := tm_3 (List.mem_of_getElem? (i := 92) (by decide +kernel)) rfl
theorem tw_c_X1_placeOf : (Cond.code yX1_placeOf cX1_placeOf 3 (some .int) : Cond) ∈ lwT := tm_3 (List.mem_of_getElem? (i := 93) (by decide +kernel)) rfl
theorem tw_ml_L_78 : (Cond.methodLink RL 78 yX7_cost : Cond) ∈ lwT := tm_3 (List.mem_of_getElem? (i := 94) (by decide +kernel)) rfl
theorem tw_im_X7_cost : (Cond.instanceMethod yX7_cost : Cond) ∈ lwT := tm_3 (List.mem_of_getElem? (i := 95) (by decide +kernel)) rfl
theorem tw_se_X7_cost : (Cond.selects RX7 yX7_cost yX7_cost : Cond) ∈ lwT := tm_3 (List.mem_of_getElem? (i := 96) (by decide +kernel)) rfl
theorem tw_c_X7_cost : (Cond.code yX7_cost cX7_cost 3 (some .int) : Cond) ∈ lwT := tm_3 (List.mem_of_getElem? (i := 97) (by decide +kernel)) rfl
theorem tw_ml_X7_211 : (Cond.methodLink RX7 211 yX1_costTo : Cond) ∈ lwT := tm_3 (List.mem_of_getElem? (i := 98) (by decide +kernel)) rfl
theorem tw_ml_L_82 : (Cond.methodLink RL 82 yX7_queue : Cond) ∈ lwT := tm_3 (List.mem_of_getElem? (i := 99) (by decide +kernel)) rfl
theorem tw_im_X7_queue : (Cond.instanceMethod yX7_queue : Cond) ∈ lwT := tm_3 (List.mem_of_getElem? (i := 100) (by decide +kernel)) rfl
theorem tw_se_X7_queue : (Cond.selects RX7 yX7_queue yX7_queue : Cond) ∈ lwT := tm_3 (List.mem_of_getElem? (i := 101) (by decide +kernel)) rfl
theorem tw_c_X7_queue : (Cond.code yX7_queue cX7_queue 2 (some .int) : Cond) ∈ lwT := tm_3 (List.mem_of_getElem? (i := 102) (by decide +kernel)) rfl
theorem tw_ml_X7_215 : (Cond.methodLink RX7 215 yX1_paperAt : Cond) ∈ lwT := tm_3 (List.mem_of_getElem? (i := 103) (by decide +kernel)) rfl
theorem tw_ml_L_86 : (Cond.methodLink RL 86 yX7_ahead : Cond) ∈ lwT := tm_3 (List.mem_of_getElem? (i := 104) (by decide +kernel)) rfl
theorem tw_im_X7_ahead : (Cond.instanceMethod yX7_ahead : Cond) ∈ lwT := tm_3 (List.mem_of_getElem? (i := 105) (by decide +kernel)) rfl
theorem tw_se_X7_ahead : (Cond.selects RX7 yX7_ahead yX7_ahead : Cond) ∈ lwT := tm_3 (List.mem_of_getElem? (i := 106) (by decide +kernel)) rfl
theorem tw_c_X7_ahead : (Cond.code yX7_ahead cX7_ahead 3 (some .int) : Cond) ∈ lwT := tm_3 (List.mem_of_getElem? (i := 107) (by decide +kernel)) rfl
theorem tw_ml_X7_218 : (Cond.methodLink RX7 218 yX7_isForetold : Cond) ∈ lwT := tm_3 (List.mem_of_getElem? (i := 108) (by decide +kernel)) rfl
theorem tw_st_X7_isForetold : (Cond.static yX7_isForetold : Cond) ∈ lwT := tm_3 (List.mem_of_getElem? (i := 109) (by decide +kernel)) rfl
theorem tw_c_X7_isForetold : (Cond.code yX7_isForetold cX7_isForetold 1 (some .boolean) : Cond) ∈ lwT := tm_3 (List.mem_of_getElem? (i := 110) (by decide +kernel)) rfl
theorem tw_ml_X7_221 : (Cond.methodLink RX7 221 yX2_after : Cond) ∈ lwT := tm_3 (List.mem_of_getElem? (i := 111) (by decide +kernel)) rfl
theorem tw_im_X2_after : (Cond.instanceMethod yX2_after : Cond) ∈ lwT := tm_3 (List.mem_of_getElem? (i := 112) (by decide +kernel)) rfl
theorem tw_se_X2_after : (Cond.selects RX2 yX2_after yX2_after : Cond) ∈ lwT := tm_3 (List.mem_of_getElem? (i := 113) (by decide +kernel)) rfl
theorem tw_c_X2_after : (Cond.code yX2_after cX2_after 4 (some (.object "TellerDays$Bank")) : Cond) ∈ lwT := tm_3 (List.mem_of_getElem? (i := 114) (by decide +kernel)) rfl
theorem tw_ml_X2_22 : (Cond.methodLink RX2 22 yX1_takeAll : Cond) ∈ lwT := tm_3 (List.mem_of_getElem? (i := 115) (by decide +kernel)) rfl
theorem tw_ml_X2_26 : (Cond.methodLink RX2 26 yX1_passTurn : Cond) ∈ lwT := tm_3 (List.mem_of_getElem? (i := 116) (by decide +kernel)) rfl
theorem tw_ml_L_90 : (Cond.methodLink RL 90 yX7_waiting : Cond) ∈ lwT := tm_3 (List.mem_of_getElem? (i := 117) (by decide +kernel)) rfl
theorem tw_im_X7_waiting : (Cond.instanceMethod yX7_waiting : Cond) ∈ lwT := tm_3 (List.mem_of_getElem? (i := 118) (by decide +kernel)) rfl
theorem tw_se_X7_waiting : (Cond.selects RX7 yX7_waiting yX7_waiting : Cond) ∈ lwT := tm_3 (List.mem_of_getElem? (i := 119) (by decide +kernel)) rfl
theorem tw_c_X7_waiting : (Cond.code yX7_waiting cX7_waiting 2 (some .int) : Cond) ∈ lwT := tm_3 (List.mem_of_getElem? (i := 120) (by decide +kernel)) rfl
theorem tw_ml_X7_225 : (Cond.methodLink RX7 225 yX1_queuedBits : Cond) ∈ lwT := tm_3 (List.mem_of_getElem? (i := 121) (by decide +kernel)) rfl
theorem tw_ml_L_94 : (Cond.methodLink RL 94 yX7_server : Cond) ∈ lwT := tm_3 (List.mem_of_getElem? (i := 122) (by decide +kernel)) rfl
theorem tw_im_X7_server : (Cond.instanceMethod yX7_server : Cond) ∈ lwT := tm_3 (List.mem_of_getElem? (i := 123) (by decide +kernel)) rfl
theorem tw_se_X7_server : (Cond.selects RX7 yX7_server yX7_server : Cond) ∈ lwT := tm_3 (List.mem_of_getElem? (i := 124) (by decide +kernel)) rfl
theorem tw_c_X7_server : (Cond.code yX7_server cX7_server 2 (some .int) : Cond) ∈ lwT := tm_3 (List.mem_of_getElem? (i := 125) (by decide +kernel)) rfl
theorem tw_k_X7_228 : (Cond.constant RX7 228 (-1000000) : Cond) ∈ lwT := tm_3 (List.mem_of_getElem? (i := 126) (by decide +kernel)) rfl
theorem tw_ml_X7_229 : (Cond.methodLink RX7 229 yX2_serverOf : Cond) ∈ lwT := tm_3 (List.mem_of_getElem? (i := 127) (by decide +kernel)) rfl
theorem tw_im_X2_serverOf : (Cond.instanceMethod yX2_serverOf : Cond) ∈ lwT := tm_3 (List.mem_of_getElem? (i := 128) (by decide +kernel)) rfl
theorem tw_se_X2_serverOf : (Cond.selects RX2 yX2_serverOf yX2_serverOf : Cond) ∈ lwT := tm_3 (List.mem_of_getElem? (i := 129) (by decide +kernel)) rfl
theorem tw_c_X2_serverOf : (Cond.code yX2_serverOf cX2_serverOf 6 (some .int) : Cond) ∈ lwT := tm_3 (List.mem_of_getElem? (i := 130) (by decide +kernel)) rfl
theorem tw_ml_X2_30 : (Cond.methodLink RX2 30 yX1_placeOf : Cond) ∈ lwT := tm_3 (List.mem_of_getElem? (i := 131) (by decide +kernel)) rfl
theorem tw_k_X2_34 : (Cond.constant RX2 34 (-1000000) : Cond) ∈ lwT := tm_3 (List.mem_of_getElem? (i := 132) (by decide +kernel)) rfl
theorem tw_ml_L_98 : (Cond.methodLink RL 98 yX7_holds : Cond) ∈ lwT := tm_3 (List.mem_of_getElem? (i := 133) (by decide +kernel)) rfl
theorem tw_im_X7_holds : (Cond.instanceMethod yX7_holds : Cond) ∈ lwT := tm_3 (List.mem_of_getElem? (i := 134) (by decide +kernel)) rfl
theorem tw_se_X7_holds : (Cond.selects RX7 yX7_holds yX7_holds : Cond) ∈ lwT := tm_3 (List.mem_of_getElem? (i := 135) (by decide +kernel)) rfl
theorem tw_c_X7_holds : (Cond.code yX7_holds cX7_holds 1 (some .int) : Cond) ∈ lwT := tm_3 (List.mem_of_getElem? (i := 136) (by decide +kernel)) rfl
theorem tw_ml_X7_233 : (Cond.methodLink RX7 233 yX2_paidAhead : Cond) ∈ lwT := tm_3 (List.mem_of_getElem? (i := 137) (by decide +kernel)) rfl
theorem tw_im_X2_paidAhead : (Cond.instanceMethod yX2_paidAhead : Cond) ∈ lwT := tm_3 (List.mem_of_getElem? (i := 138) (by decide +kernel)) rfl
theorem tw_se_X2_paidAhead : (Cond.selects RX2 yX2_paidAhead yX2_paidAhead : Cond) ∈ lwT := tm_3 (List.mem_of_getElem? (i := 139) (by decide +kernel)) rfl
theorem tw_c_X2_paidAhead : (Cond.code yX2_paidAhead cX2_paidAhead 2 (some .int) : Cond) ∈ lwT := tm_3 (List.mem_of_getElem? (i := 140) (by decide +kernel)) rfl
theorem tw_ml_X2_35 : (Cond.methodLink RX2 35 yX2_ghostPaidAhead : Cond) ∈ lwT := tm_3 (List.mem_of_getElem? (i := 141) (by decide +kernel)) rfl
theorem tw_im_X2_ghostPaidAhead : (Cond.instanceMethod yX2_ghostPaidAhead : Cond) ∈ lwT := tm_3 (List.mem_of_getElem? (i := 143) (by decide +kernel)) rfl
theorem tw_c_X2_ghostPaidAhead : (Cond.code yX2_ghostPaidAhead cX2_ghostPaidAhead 3 (some .int) : Cond) ∈ lwT := tm_3 (List.mem_of_getElem? (i := 144) (by decide +kernel)) rfl
theorem tw_ml_L_102 : (Cond.methodLink RL 102 yX7_infant : Cond) ∈ lwT := tm_3 (List.mem_of_getElem? (i := 145) (by decide +kernel)) rfl
theorem tw_im_X7_infant : (Cond.instanceMethod yX7_infant : Cond) ∈ lwT := tm_3 (List.mem_of_getElem? (i := 146) (by decide +kernel)) rfl
theorem tw_se_X7_infant : (Cond.selects RX7 yX7_infant yX7_infant : Cond) ∈ lwT := tm_3 (List.mem_of_getElem? (i := 147) (by decide +kernel)) rfl
theorem tw_c_X7_infant : (Cond.code yX7_infant cX7_infant 1 (some .int) : Cond) ∈ lwT := tm_3 (List.mem_of_getElem? (i := 148) (by decide +kernel)) rfl
theorem tw_ml_X7_237 : (Cond.methodLink RX7 237 yX2_firstInfant : Cond) ∈ lwT := tm_3 (List.mem_of_getElem? (i := 149) (by decide +kernel)) rfl
theorem tw_im_X2_firstInfant : (Cond.instanceMethod yX2_firstInfant : Cond) ∈ lwT := tm_3 (List.mem_of_getElem? (i := 150) (by decide +kernel)) rfl
theorem tw_se_X2_firstInfant : (Cond.selects RX2 yX2_firstInfant yX2_firstInfant : Cond) ∈ lwT := tm_3 (List.mem_of_getElem? (i := 151) (by decide +kernel)) rfl
theorem tw_c_X2_firstInfant : (Cond.code yX2_firstInfant cX2_firstInfant 3 (some .int) : Cond) ∈ lwT := tm_3 (List.mem_of_getElem? (i := 152) (by decide +kernel)) rfl
theorem tw_ml_X2_42 : (Cond.methodLink RX2 42 yX1_firstWithInfancy : Cond) ∈ lwT := tm_3 (List.mem_of_getElem? (i := 153) (by decide +kernel)) rfl
theorem tw_im_X1_firstWithInfancy : (Cond.instanceMethod yX1_firstWithInfancy : Cond) ∈ lwT := tm_3 (List.mem_of_getElem? (i := 154) (by decide +kernel)) rfl
theorem tw_se_X1_firstWithInfancy : (Cond.selects RX1 yX1_firstWithInfancy yX1_firstWithInfancy : Cond) ∈ lwT := tm_3 (List.mem_of_getElem? (i := 155) (by decide +kernel)) rfl
theorem tw_c_X1_firstWithInfancy : (Cond.code yX1_firstWithInfancy cX1_firstWithInfancy 2 (some .int) : Cond) ∈ lwT := tm_3 (List.mem_of_getElem? (i := 156) (by decide +kernel)) rfl
theorem tw_ml_L_106 : (Cond.methodLink RL 106 yX7_order : Cond) ∈ lwT := tm_3 (List.mem_of_getElem? (i := 157) (by decide +kernel)) rfl
theorem tw_im_X7_order : (Cond.instanceMethod yX7_order : Cond) ∈ lwT := tm_3 (List.mem_of_getElem? (i := 158) (by decide +kernel)) rfl
theorem tw_se_X7_order : (Cond.selects RX7 yX7_order yX7_order : Cond) ∈ lwT := tm_3 (List.mem_of_getElem? (i := 159) (by decide +kernel)) rfl
theorem tw_c_X7_order : (Cond.code yX7_order cX7_order 2 (some .int) : Cond) ∈ lwT := tm_3 (List.mem_of_getElem? (i := 160) (by decide +kernel)) rfl
theorem tw_ml_X7_240 : (Cond.methodLink RX7 240 yX5_findOrder : Cond) ∈ lwT := tm_3 (List.mem_of_getElem? (i := 161) (by decide +kernel)) rfl
theorem tw_im_X5_findOrder : (Cond.instanceMethod yX5_findOrder : Cond) ∈ lwT := tm_3 (List.mem_of_getElem? (i := 162) (by decide +kernel)) rfl
theorem tw_se_X5_findOrder : (Cond.selects RX5 yX5_findOrder yX5_findOrder : Cond) ∈ lwT := tm_3 (List.mem_of_getElem? (i := 163) (by decide +kernel)) rfl
theorem tw_c_X5_findOrder : (Cond.code yX5_findOrder cX5_findOrder 2 none : Cond) ∈ lwT := tm_3 (List.mem_of_getElem? (i := 164) (by decide +kernel)) rfl
theorem tw_ml_X5_58 : (Cond.methodLink RX5 58 yX5_makeReady : Cond) ∈ lwT := tm_3 (List.mem_of_getElem? (i := 165) (by decide +kernel)) rfl
theorem tw_im_X5_makeReady : (Cond.instanceMethod yX5_makeReady : Cond) ∈ lwT := tm_3 (List.mem_of_getElem? (i := 167) (by decide +kernel)) rfl
theorem tw_c_X5_makeReady : (Cond.code yX5_makeReady cX5_makeReady 3 none : Cond) ∈ lwT := tm_3 (List.mem_of_getElem? (i := 168) (by decide +kernel)) rfl
theorem tw_ml_X5_39 : (Cond.methodLink RX5 39 Lib.Math.min.name : Cond) ∈ lwT := tm_3 (List.mem_of_getElem? (i := 169) (by decide +kernel)) rfl
theorem tw_ml_X5_54 : (Cond.methodLink RX5 54 yX1_takeAll : Cond) ∈ lwT := tm_3 (List.mem_of_getElem? (i := 170) (by decide +kernel)) rfl
theorem tw_ml_X5_67 : (Cond.methodLink RX5 67 yX1_queuedBits : Cond) ∈ lwT := tm_3 (List.mem_of_getElem? (i := 171) (by decide +kernel)) rfl
theorem tw_ml_X5_71 : (Cond.methodLink RX5 71 yX5_tryOrders : Cond) ∈ lwT := tm_3 (List.mem_of_getElem? (i := 172) (by decide +kernel)) rfl
theorem tw_im_X5_tryOrders : (Cond.instanceMethod yX5_tryOrders : Cond) ∈ lwT := tm_3 (List.mem_of_getElem? (i := 174) (by decide +kernel)) rfl
theorem tw_c_X5_tryOrders : (Cond.code yX5_tryOrders cX5_tryOrders 7 none : Cond) ∈ lwT := tm_3 (List.mem_of_getElem? (i := 175) (by decide +kernel)) rfl
theorem tw_ml_X5_75 : (Cond.methodLink RX5 75 yX1_leftTogether : Cond) ∈ lwT := tm_3 (List.mem_of_getElem? (i := 176) (by decide +kernel)) rfl
theorem tw_im_X1_leftTogether : (Cond.instanceMethod yX1_leftTogether : Cond) ∈ lwT := tm_3 (List.mem_of_getElem? (i := 177) (by decide +kernel)) rfl
theorem tw_se_X1_leftTogether : (Cond.selects RX1 yX1_leftTogether yX1_leftTogether : Cond) ∈ lwT := tm_3 (List.mem_of_getElem? (i := 178) (by decide +kernel)) rfl
theorem tw_c_X1_leftTogether : (Cond.code yX1_leftTogether cX1_leftTogether 3 (some .int) : Cond) ∈ lwT := tm_3 (List.mem_of_getElem? (i := 179) (by decide +kernel)) rfl
theorem tw_ml_X5_78 : (Cond.methodLink RX5 78 yX5_keepOrder : Cond) ∈ lwT := tm_3 (List.mem_of_getElem? (i := 180) (by decide +kernel)) rfl
theorem tw_im_X5_keepOrder : (Cond.instanceMethod yX5_keepOrder : Cond) ∈ lwT := tm_3 (List.mem_of_getElem? (i := 182) (by decide +kernel)) rfl
theorem tw_c_X5_keepOrder : (Cond.code yX5_keepOrder cX5_keepOrder 3 none : Cond) ∈ lwT := tm_3 (List.mem_of_getElem? (i := 183) (by decide +kernel)) rfl
theorem tw_ml_X5_91 : (Cond.methodLink RX5 91 arraycopyName : Cond) ∈ lwT := tm_3 (List.mem_of_getElem? (i := 184) (by decide +kernel)) rfl
theorem tw_ml_X5_81 : (Cond.methodLink RX5 81 yX1_takeCourse : Cond) ∈ lwT := tm_3 (List.mem_of_getElem? (i := 185) (by decide +kernel)) rfl
theorem tw_ml_X5_84 : (Cond.methodLink RX5 84 yX1_attend : Cond) ∈ lwT := tm_3 (List.mem_of_getElem? (i := 186) (by decide +kernel)) rfl
theorem tw_ml_X5_88 : (Cond.methodLink RX5 88 yX1_endTurn : Cond) ∈ lwT := tm_3 (List.mem_of_getElem? (i := 187) (by decide +kernel)) rfl
theorem tw_ml_X7_249 : (Cond.methodLink RX7 249 yX5_orderAt : Cond) ∈ lwT := tm_3 (List.mem_of_getElem? (i := 188) (by decide +kernel)) rfl
theorem tw_im_X5_orderAt : (Cond.instanceMethod yX5_orderAt : Cond) ∈ lwT := tm_3 (List.mem_of_getElem? (i := 189) (by decide +kernel)) rfl
theorem tw_se_X5_orderAt : (Cond.selects RX5 yX5_orderAt yX5_orderAt : Cond) ∈ lwT := tm_3 (List.mem_of_getElem? (i := 190) (by decide +kernel)) rfl
theorem tw_c_X5_orderAt : (Cond.code yX5_orderAt cX5_orderAt 2 (some .int) : Cond) ∈ lwT := tm_3 (List.mem_of_getElem? (i := 191) (by decide +kernel)) rfl
theorem tw_k_X5_97 : (Cond.constant RX5 97 (-1000000) : Cond) ∈ lwT := tm_3 (List.mem_of_getElem? (i := 192) (by decide +kernel)) rfl
theorem tw_ml_L_110 : (Cond.methodLink RL 110 yX7_share : Cond) ∈ lwT := tm_3 (List.mem_of_getElem? (i := 193) (by decide +kernel)) rfl
theorem tw_im_X7_share : (Cond.instanceMethod yX7_share : Cond) ∈ lwT := tm_3 (List.mem_of_getElem? (i := 194) (by decide +kernel)) rfl
theorem tw_se_X7_share : (Cond.selects RX7 yX7_share yX7_share : Cond) ∈ lwT := tm_3 (List.mem_of_getElem? (i := 195) (by decide +kernel)) rfl
theorem tw_c_X7_share : (Cond.code yX7_share cX7_share 2 (some .int) : Cond) ∈ lwT := tm_3 (List.mem_of_getElem? (i := 196) (by decide +kernel)) rfl
theorem tw_ml_X7_252 : (Cond.methodLink RX7 252 yX5_findShare : Cond) ∈ lwT := tm_3 (List.mem_of_getElem? (i := 197) (by decide +kernel)) rfl
theorem tw_im_X5_findShare : (Cond.instanceMethod yX5_findShare : Cond) ∈ lwT := tm_3 (List.mem_of_getElem? (i := 198) (by decide +kernel)) rfl
theorem tw_se_X5_findShare : (Cond.selects RX5 yX5_findShare yX5_findShare : Cond) ∈ lwT := tm_3 (List.mem_of_getElem? (i := 199) (by decide +kernel)) rfl
theorem tw_c_X5_findShare : (Cond.code yX5_findShare cX5_findShare 2 none : Cond) ∈ lwT := tm_3 (List.mem_of_getElem? (i := 200) (by decide +kernel)) rfl
theorem tw_ml_X5_101 : (Cond.methodLink RX5 101 yX5_sumPaidIn : Cond) ∈ lwT := tm_3 (List.mem_of_getElem? (i := 201) (by decide +kernel)) rfl
theorem tw_st_X5_sumPaidIn : (Cond.static yX5_sumPaidIn : Cond) ∈ lwT := tm_3 (List.mem_of_getElem? (i := 202) (by decide +kernel)) rfl
theorem tw_c_X5_sumPaidIn : (Cond.code yX5_sumPaidIn cX5_sumPaidIn 4 (some .int) : Cond) ∈ lwT := tm_3 (List.mem_of_getElem? (i := 203) (by decide +kernel)) rfl
theorem tw_ml_X5_108 : (Cond.methodLink RX5 108 yX1_paperAt : Cond) ∈ lwT := tm_3 (List.mem_of_getElem? (i := 204) (by decide +kernel)) rfl
theorem tw_ml_X5_111 : (Cond.methodLink RX5 111 yX1_isDrawing : Cond) ∈ lwT := tm_3 (List.mem_of_getElem? (i := 205) (by decide +kernel)) rfl
theorem tw_ml_X5_115 : (Cond.methodLink RX5 115 yX1_sumOf : Cond) ∈ lwT := tm_3 (List.mem_of_getElem? (i := 206) (by decide +kernel)) rfl
theorem tw_ml_X5_105 : (Cond.methodLink RX5 105 yX5_tryShares : Cond) ∈ lwT := tm_3 (List.mem_of_getElem? (i := 207) (by decide +kernel)) rfl
theorem tw_im_X5_tryShares : (Cond.instanceMethod yX5_tryShares : Cond) ∈ lwT := tm_3 (List.mem_of_getElem? (i := 209) (by decide +kernel)) rfl
theorem tw_c_X5_tryShares : (Cond.code yX5_tryShares cX5_tryShares 10 none : Cond) ∈ lwT := tm_3 (List.mem_of_getElem? (i := 210) (by decide +kernel)) rfl
theorem tw_ml_X5_118 : (Cond.methodLink RX5 118 yX1_leastLeft : Cond) ∈ lwT := tm_3 (List.mem_of_getElem? (i := 211) (by decide +kernel)) rfl
theorem tw_im_X1_leastLeft : (Cond.instanceMethod yX1_leastLeft : Cond) ∈ lwT := tm_3 (List.mem_of_getElem? (i := 212) (by decide +kernel)) rfl
theorem tw_se_X1_leastLeft : (Cond.selects RX1 yX1_leastLeft yX1_leastLeft : Cond) ∈ lwT := tm_3 (List.mem_of_getElem? (i := 213) (by decide +kernel)) rfl
theorem tw_c_X1_leastLeft : (Cond.code yX1_leastLeft cX1_leastLeft 3 (some .int) : Cond) ∈ lwT := tm_3 (List.mem_of_getElem? (i := 214) (by decide +kernel)) rfl
theorem tw_ml_X5_124 : (Cond.methodLink RX5 124 yX1_canPay : Cond) ∈ lwT := tm_3 (List.mem_of_getElem? (i := 215) (by decide +kernel)) rfl
theorem tw_im_X1_canPay : (Cond.instanceMethod yX1_canPay : Cond) ∈ lwT := tm_3 (List.mem_of_getElem? (i := 216) (by decide +kernel)) rfl
theorem tw_se_X1_canPay : (Cond.selects RX1 yX1_canPay yX1_canPay : Cond) ∈ lwT := tm_3 (List.mem_of_getElem? (i := 217) (by decide +kernel)) rfl
theorem tw_c_X1_canPay : (Cond.code yX1_canPay cX1_canPay 3 (some .boolean) : Cond) ∈ lwT := tm_3 (List.mem_of_getElem? (i := 218) (by decide +kernel)) rfl
theorem tw_ml_X5_128 : (Cond.methodLink RX5 128 yX1_handOver : Cond) ∈ lwT := tm_3 (List.mem_of_getElem? (i := 219) (by decide +kernel)) rfl
theorem tw_ml_X7_258 : (Cond.methodLink RX7 258 yX5_shareAt : Cond) ∈ lwT := tm_3 (List.mem_of_getElem? (i := 220) (by decide +kernel)) rfl
theorem tw_im_X5_shareAt : (Cond.instanceMethod yX5_shareAt : Cond) ∈ lwT := tm_3 (List.mem_of_getElem? (i := 221) (by decide +kernel)) rfl
theorem tw_se_X5_shareAt : (Cond.selects RX5 yX5_shareAt yX5_shareAt : Cond) ∈ lwT := tm_3 (List.mem_of_getElem? (i := 222) (by decide +kernel)) rfl
theorem tw_c_X5_shareAt : (Cond.code yX5_shareAt cX5_shareAt 2 (some .int) : Cond) ∈ lwT := tm_3 (List.mem_of_getElem? (i := 223) (by decide +kernel)) rfl
theorem tw_ml_L_114 : (Cond.methodLink RL 114 yX7_open : Cond) ∈ lwT := tm_3 (List.mem_of_getElem? (i := 224) (by decide +kernel)) rfl
theorem tw_im_X7_open : (Cond.instanceMethod yX7_open : Cond) ∈ lwT := tm_3 (List.mem_of_getElem? (i := 225) (by decide +kernel)) rfl
theorem tw_se_X7_open : (Cond.selects RX7 yX7_open yX7_open : Cond) ∈ lwT := tm_3 (List.mem_of_getElem? (i := 226) (by decide +kernel)) rfl
theorem tw_c_X7_open : (Cond.code yX7_open cX7_open 3 (some .int) : Cond) ∈ lwT := tm_3 (List.mem_of_getElem? (i := 227) (by decide +kernel)) rfl
theorem tw_ml_X7_261 : (Cond.methodLink RX7 261 yX2_fewestCounters : Cond) ∈ lwT := tm_3 (List.mem_of_getElem? (i := 228) (by decide +kernel)) rfl
theorem tw_im_X2_fewestCounters : (Cond.instanceMethod yX2_fewestCounters : Cond) ∈ lwT := tm_3 (List.mem_of_getElem? (i := 229) (by decide +kernel)) rfl
theorem tw_se_X2_fewestCounters : (Cond.selects RX2 yX2_fewestCounters yX2_fewestCounters : Cond) ∈ lwT := tm_3 (List.mem_of_getElem? (i := 230) (by decide +kernel)) rfl
theorem tw_c_X2_fewestCounters : (Cond.code yX2_fewestCounters cX2_fewestCounters 4 (some .int) : Cond) ∈ lwT := tm_3 (List.mem_of_getElem? (i := 231) (by decide +kernel)) rfl
theorem tw_ml_X2_48 : (Cond.methodLink RX2 48 yJ6_bitCount_0f7a4 : Cond) ∈ lwT := tm_3 (List.mem_of_getElem? (i := 232) (by decide +kernel)) rfl
theorem tw_st_J6_bitCount_0f7a4 : (Cond.static yJ6_bitCount_0f7a4 : Cond) ∈ lwT := tm_3 (List.mem_of_getElem? (i := 233) (by decide +kernel)) rfl
theorem tw_c_J6_bitCount_0f7a4 : (Cond.code yJ6_bitCount_0f7a4 cJ6_bitCount_0f7a4 1 (some .int) : Cond) ∈ lwT := tm_3 (List.mem_of_getElem? (i := 234) (by decide +kernel)) rfl
theorem tw_k_J6_265 : (Cond.constant RJ6 265 (1431655765) : Cond) ∈ lwT := tm_3 (List.mem_of_getElem? (i := 235) (by decide +kernel)) rfl
theorem tw_k_J6_266 : (Cond.constant RJ6 266 (858993459) : Cond) ∈ lwT := tm_3 (List.mem_of_getElem? (i := 236) (by decide +kernel)) rfl
theorem tw_k_J6_267 : (Cond.constant RJ6 267 (252645135) : Cond) ∈ lwT := tm_3 (List.mem_of_getElem? (i := 237) (by decide +kernel)) rfl
theorem tw_ml_X7_264 : (Cond.methodLink RX7 264 yJ6_bitCount_0f7a4 : Cond) ∈ lwT := tm_3 (List.mem_of_getElem? (i := 238) (by decide +kernel)) rfl
theorem tw_ml_L_118 : (Cond.methodLink RL 118 yX7_cheap : Cond) ∈ lwT := tm_3 (List.mem_of_getElem? (i := 239) (by decide +kernel)) rfl
theorem tw_im_X7_cheap : (Cond.instanceMethod yX7_cheap : Cond) ∈ lwT := tm_4 (List.mem_of_getElem? (i := 0) (by decide +kernel)) rfl
theorem tw_se_X7_cheap : (Cond.selects RX7 yX7_cheap yX7_cheap : Cond) ∈ lwT := tm_4 (List.mem_of_getElem? (i := 1) (by decide +kernel)) rfl
theorem tw_c_X7_cheap : (Cond.code yX7_cheap cX7_cheap 4 (some .int) : Cond) ∈ lwT := tm_4 (List.mem_of_getElem? (i := 2) (by decide +kernel)) rfl
theorem tw_ml_X7_269 : (Cond.methodLink RX7 269 yX1_cheapestFor : Cond) ∈ lwT := tm_4 (List.mem_of_getElem? (i := 3) (by decide +kernel)) rfl
theorem tw_im_X1_cheapestFor : (Cond.instanceMethod yX1_cheapestFor : Cond) ∈ lwT := tm_4 (List.mem_of_getElem? (i := 4) (by decide +kernel)) rfl
theorem tw_se_X1_cheapestFor : (Cond.selects RX1 yX1_cheapestFor yX1_cheapestFor : Cond) ∈ lwT := tm_4 (List.mem_of_getElem? (i := 5) (by decide +kernel)) rfl
theorem tw_c_X1_cheapestFor : (Cond.code yX1_cheapestFor cX1_cheapestFor 4 (some .int) : Cond) ∈ lwT := tm_4 (List.mem_of_getElem? (i := 6) (by decide +kernel)) rfl
theorem tw_ml_L_122 : (Cond.methodLink RL 122 yX7_most : Cond) ∈ lwT := tm_4 (List.mem_of_getElem? (i := 7) (by decide +kernel)) rfl
theorem tw_im_X7_most : (Cond.instanceMethod yX7_most : Cond) ∈ lwT := tm_4 (List.mem_of_getElem? (i := 8) (by decide +kernel)) rfl
theorem tw_se_X7_most : (Cond.selects RX7 yX7_most yX7_most : Cond) ∈ lwT := tm_4 (List.mem_of_getElem? (i := 9) (by decide +kernel)) rfl
theorem tw_c_X7_most : (Cond.code yX7_most cX7_most 1 (some .int) : Cond) ∈ lwT := tm_4 (List.mem_of_getElem? (i := 10) (by decide +kernel)) rfl
theorem tw_ml_X7_272 : (Cond.methodLink RX7 272 yX1_greatestSum : Cond) ∈ lwT := tm_4 (List.mem_of_getElem? (i := 11) (by decide +kernel)) rfl
theorem tw_im_X1_greatestSum : (Cond.instanceMethod yX1_greatestSum : Cond) ∈ lwT := tm_4 (List.mem_of_getElem? (i := 12) (by decide +kernel)) rfl
theorem tw_se_X1_greatestSum : (Cond.selects RX1 yX1_greatestSum yX1_greatestSum : Cond) ∈ lwT := tm_4 (List.mem_of_getElem? (i := 13) (by decide +kernel)) rfl
theorem tw_c_X1_greatestSum : (Cond.code yX1_greatestSum cX1_greatestSum 2 (some .int) : Cond) ∈ lwT := tm_4 (List.mem_of_getElem? (i := 14) (by decide +kernel)) rfl
theorem tw_ml_L_126 : (Cond.methodLink RL 126 yX7_twins : Cond) ∈ lwT := tm_4 (List.mem_of_getElem? (i := 15) (by decide +kernel)) rfl
theorem tw_im_X7_twins : (Cond.instanceMethod yX7_twins : Cond) ∈ lwT := tm_4 (List.mem_of_getElem? (i := 16) (by decide +kernel)) rfl
theorem tw_se_X7_twins : (Cond.selects RX7 yX7_twins yX7_twins : Cond) ∈ lwT := tm_4 (List.mem_of_getElem? (i := 17) (by decide +kernel)) rfl
theorem tw_c_X7_twins : (Cond.code yX7_twins cX7_twins 2 (some .int) : Cond) ∈ lwT := tm_4 (List.mem_of_getElem? (i := 18) (by decide +kernel)) rfl
theorem tw_ml_X7_275 : (Cond.methodLink RX7 275 yX1_twinPairs : Cond) ∈ lwT := tm_4 (List.mem_of_getElem? (i := 19) (by decide +kernel)) rfl
theorem tw_im_X1_twinPairs : (Cond.instanceMethod yX1_twinPairs : Cond) ∈ lwT := tm_4 (List.mem_of_getElem? (i := 20) (by decide +kernel)) rfl
theorem tw_se_X1_twinPairs : (Cond.selects RX1 yX1_twinPairs yX1_twinPairs : Cond) ∈ lwT := tm_4 (List.mem_of_getElem? (i := 21) (by decide +kernel)) rfl
theorem tw_c_X1_twinPairs : (Cond.code yX1_twinPairs cX1_twinPairs 4 (some .int) : Cond) ∈ lwT := tm_4 (List.mem_of_getElem? (i := 22) (by decide +kernel)) rfl
theorem tw_ml_X7_278 : (Cond.methodLink RX7 278 yX1_firstTwins : Cond) ∈ lwT := tm_4 (List.mem_of_getElem? (i := 23) (by decide +kernel)) rfl
theorem tw_im_X1_firstTwins : (Cond.instanceMethod yX1_firstTwins : Cond) ∈ lwT := tm_4 (List.mem_of_getElem? (i := 24) (by decide +kernel)) rfl
theorem tw_se_X1_firstTwins : (Cond.selects RX1 yX1_firstTwins yX1_firstTwins : Cond) ∈ lwT := tm_4 (List.mem_of_getElem? (i := 25) (by decide +kernel)) rfl
theorem tw_c_X1_firstTwins : (Cond.code yX1_firstTwins cX1_firstTwins 3 (some .int) : Cond) ∈ lwT := tm_4 (List.mem_of_getElem? (i := 26) (by decide +kernel)) rfl
theorem tw_ml_L_130 : (Cond.methodLink RL 130 yX7_who : Cond) ∈ lwT := tm_4 (List.mem_of_getElem? (i := 27) (by decide +kernel)) rfl
theorem tw_im_X7_who : (Cond.instanceMethod yX7_who : Cond) ∈ lwT := tm_4 (List.mem_of_getElem? (i := 28) (by decide +kernel)) rfl
theorem tw_se_X7_who : (Cond.selects RX7 yX7_who yX7_who : Cond) ∈ lwT := tm_4 (List.mem_of_getElem? (i := 29) (by decide +kernel)) rfl
theorem tw_c_X7_who : (Cond.code yX7_who cX7_who 8 (some .int) : Cond) ∈ lwT := tm_4 (List.mem_of_getElem? (i := 30) (by decide +kernel)) rfl
theorem tw_ml_X7_281 : (Cond.methodLink RX7 281 yX7_isWatched : Cond) ∈ lwT := tm_4 (List.mem_of_getElem? (i := 31) (by decide +kernel)) rfl
theorem tw_st_X7_isWatched : (Cond.static yX7_isWatched : Cond) ∈ lwT := tm_4 (List.mem_of_getElem? (i := 32) (by decide +kernel)) rfl
theorem tw_c_X7_isWatched : (Cond.code yX7_isWatched cX7_isWatched 1 (some .boolean) : Cond) ∈ lwT := tm_4 (List.mem_of_getElem? (i := 33) (by decide +kernel)) rfl
theorem tw_ml_X7_284 : (Cond.methodLink RX7 284 yX2_watch : Cond) ∈ lwT := tm_4 (List.mem_of_getElem? (i := 34) (by decide +kernel)) rfl
theorem tw_im_X2_watch : (Cond.instanceMethod yX2_watch : Cond) ∈ lwT := tm_4 (List.mem_of_getElem? (i := 35) (by decide +kernel)) rfl
theorem tw_se_X2_watch : (Cond.selects RX2 yX2_watch yX2_watch : Cond) ∈ lwT := tm_4 (List.mem_of_getElem? (i := 36) (by decide +kernel)) rfl
theorem tw_c_X2_watch : (Cond.code yX2_watch cX2_watch 7 none : Cond) ∈ lwT := tm_4 (List.mem_of_getElem? (i := 37) (by decide +kernel)) rfl
theorem tw_ml_X2_59 : (Cond.methodLink RX2 59 Lib.Math.min.name : Cond) ∈ lwT := tm_4 (List.mem_of_getElem? (i := 38) (by decide +kernel)) rfl
theorem tw_ml_X2_68 : (Cond.methodLink RX2 68 yX4_itemAt : Cond) ∈ lwT := tm_4 (List.mem_of_getElem? (i := 39) (by decide +kernel)) rfl
theorem tw_im_X4_itemAt : (Cond.instanceMethod yX4_itemAt : Cond) ∈ lwT := tm_4 (List.mem_of_getElem? (i := 40) (by decide +kernel)) rfl
theorem tw_se_X4_itemAt : (Cond.selects RX4 yX4_itemAt yX4_itemAt : Cond) ∈ lwT := tm_4 (List.mem_of_getElem? (i := 41) (by decide +kernel)) rfl
theorem tw_c_X4_itemAt : (Cond.code yX4_itemAt cX4_itemAt 3 (some .int) : Cond) ∈ lwT := tm_4 (List.mem_of_getElem? (i := 42) (by decide +kernel)) rfl
theorem tw_ml_X7_288 : (Cond.methodLink RX7 288 yX2_kindsOf : Cond) ∈ lwT := tm_4 (List.mem_of_getElem? (i := 43) (by decide +kernel)) rfl
theorem tw_im_X2_kindsOf : (Cond.instanceMethod yX2_kindsOf : Cond) ∈ lwT := tm_4 (List.mem_of_getElem? (i := 44) (by decide +kernel)) rfl
theorem tw_se_X2_kindsOf : (Cond.selects RX2 yX2_kindsOf yX2_kindsOf : Cond) ∈ lwT := tm_4 (List.mem_of_getElem? (i := 45) (by decide +kernel)) rfl
theorem tw_c_X2_kindsOf : (Cond.code yX2_kindsOf cX2_kindsOf 5 (some .int) : Cond) ∈ lwT := tm_4 (List.mem_of_getElem? (i := 46) (by decide +kernel)) rfl
theorem tw_ml_X2_73 : (Cond.methodLink RX2 73 yX1_hasTeller : Cond) ∈ lwT := tm_4 (List.mem_of_getElem? (i := 47) (by decide +kernel)) rfl
theorem tw_ml_X2_83 : (Cond.methodLink RX2 83 yX2_ghostIsAsTold : Cond) ∈ lwT := tm_4 (List.mem_of_getElem? (i := 48) (by decide +kernel)) rfl
theorem tw_im_X2_ghostIsAsTold : (Cond.instanceMethod yX2_ghostIsAsTold : Cond) ∈ lwT := tm_4 (List.mem_of_getElem? (i := 50) (by decide +kernel)) rfl
theorem tw_c_X2_ghostIsAsTold : (Cond.code yX2_ghostIsAsTold cX2_ghostIsAsTold 2 (some .boolean) : Cond) ∈ lwT := tm_4 (List.mem_of_getElem? (i := 51) (by decide +kernel)) rfl
theorem tw_ml_X7_291 : (Cond.methodLink RX7 291 yX2_caresOf : Cond) ∈ lwT := tm_4 (List.mem_of_getElem? (i := 52) (by decide +kernel)) rfl
theorem tw_im_X2_caresOf : (Cond.instanceMethod yX2_caresOf : Cond) ∈ lwT := tm_4 (List.mem_of_getElem? (i := 53) (by decide +kernel)) rfl
theorem tw_se_X2_caresOf : (Cond.selects RX2 yX2_caresOf yX2_caresOf : Cond) ∈ lwT := tm_4 (List.mem_of_getElem? (i := 54) (by decide +kernel)) rfl
theorem tw_c_X2_caresOf : (Cond.code yX2_caresOf cX2_caresOf 5 (some .int) : Cond) ∈ lwT := tm_4 (List.mem_of_getElem? (i := 55) (by decide +kernel)) rfl
theorem tw_ml_L_135 : (Cond.methodLink RL 135 yX7_sums : Cond) ∈ lwT := tm_4 (List.mem_of_getElem? (i := 56) (by decide +kernel)) rfl
theorem tw_im_X7_sums : (Cond.instanceMethod yX7_sums : Cond) ∈ lwT := tm_4 (List.mem_of_getElem? (i := 57) (by decide +kernel)) rfl
theorem tw_se_X7_sums : (Cond.selects RX7 yX7_sums yX7_sums : Cond) ∈ lwT := tm_4 (List.mem_of_getElem? (i := 58) (by decide +kernel)) rfl
theorem tw_c_X7_sums : (Cond.code yX7_sums cX7_sums 6 (some .int) : Cond) ∈ lwT := tm_4 (List.mem_of_getElem? (i := 59) (by decide +kernel)) rfl
theorem tw_ml_X7_294 : (Cond.methodLink RX7 294 yX2_sumsOfFirst : Cond) ∈ lwT := tm_4 (List.mem_of_getElem? (i := 60) (by decide +kernel)) rfl
theorem tw_im_X2_sumsOfFirst : (Cond.instanceMethod yX2_sumsOfFirst : Cond) ∈ lwT := tm_4 (List.mem_of_getElem? (i := 61) (by decide +kernel)) rfl
theorem tw_se_X2_sumsOfFirst : (Cond.selects RX2 yX2_sumsOfFirst yX2_sumsOfFirst : Cond) ∈ lwT := tm_4 (List.mem_of_getElem? (i := 62) (by decide +kernel)) rfl
theorem tw_c_X2_sumsOfFirst : (Cond.code yX2_sumsOfFirst cX2_sumsOfFirst 5 (some .int) : Cond) ∈ lwT := tm_4 (List.mem_of_getElem? (i := 63) (by decide +kernel)) rfl
theorem tw_ml_X2_90 : (Cond.methodLink RX2 90 yX1_paperAt : Cond) ∈ lwT := tm_4 (List.mem_of_getElem? (i := 64) (by decide +kernel)) rfl
theorem tw_ml_X2_93 : (Cond.methodLink RX2 93 yX1_knowsPaper : Cond) ∈ lwT := tm_4 (List.mem_of_getElem? (i := 65) (by decide +kernel)) rfl
theorem tw_ml_L_140 : (Cond.methodLink RL 140 yX7_stayed : Cond) ∈ lwT := tm_4 (List.mem_of_getElem? (i := 66) (by decide +kernel)) rfl
theorem tw_im_X7_stayed : (Cond.instanceMethod yX7_stayed : Cond) ∈ lwT := tm_4 (List.mem_of_getElem? (i := 67) (by decide +kernel)) rfl
theorem tw_se_X7_stayed : (Cond.selects RX7 yX7_stayed yX7_stayed : Cond) ∈ lwT := tm_4 (List.mem_of_getElem? (i := 68) (by decide +kernel)) rfl
theorem tw_c_X7_stayed : (Cond.code yX7_stayed cX7_stayed 6 (some .int) : Cond) ∈ lwT := tm_4 (List.mem_of_getElem? (i := 69) (by decide +kernel)) rfl
theorem tw_ml_X7_297 : (Cond.methodLink RX7 297 yX2_absentPapers : Cond) ∈ lwT := tm_4 (List.mem_of_getElem? (i := 70) (by decide +kernel)) rfl
theorem tw_im_X2_absentPapers : (Cond.instanceMethod yX2_absentPapers : Cond) ∈ lwT := tm_4 (List.mem_of_getElem? (i := 71) (by decide +kernel)) rfl
theorem tw_se_X2_absentPapers : (Cond.selects RX2 yX2_absentPapers yX2_absentPapers : Cond) ∈ lwT := tm_4 (List.mem_of_getElem? (i := 72) (by decide +kernel)) rfl
theorem tw_c_X2_absentPapers : (Cond.code yX2_absentPapers cX2_absentPapers 5 (some .int) : Cond) ∈ lwT := tm_4 (List.mem_of_getElem? (i := 73) (by decide +kernel)) rfl
theorem tw_ml_X2_99 : (Cond.methodLink RX2 99 yX1_leave : Cond) ∈ lwT := tm_4 (List.mem_of_getElem? (i := 74) (by decide +kernel)) rfl
theorem tw_ml_L_144 : (Cond.methodLink RL 144 yX7_away : Cond) ∈ lwT := tm_4 (List.mem_of_getElem? (i := 75) (by decide +kernel)) rfl
theorem tw_im_X7_away : (Cond.instanceMethod yX7_away : Cond) ∈ lwT := tm_4 (List.mem_of_getElem? (i := 76) (by decide +kernel)) rfl
theorem tw_se_X7_away : (Cond.selects RX7 yX7_away yX7_away : Cond) ∈ lwT := tm_4 (List.mem_of_getElem? (i := 77) (by decide +kernel)) rfl
theorem tw_c_X7_away : (Cond.code yX7_away cX7_away 9 (some .long) : Cond) ∈ lwT := tm_4 (List.mem_of_getElem? (i := 78) (by decide +kernel)) rfl
theorem tw_kl_X7_300 : (Cond.constantLong RX7 300 (-1000002) : Cond) ∈ lwT := tm_4 (List.mem_of_getElem? (i := 79) (by decide +kernel)) rfl
theorem tw_kl_X7_302 : (Cond.constantLong RX7 302 (-1000001) : Cond) ∈ lwT := tm_4 (List.mem_of_getElem? (i := 80) (by decide +kernel)) rfl
theorem tw_ml_X7_304 : (Cond.methodLink RX7 304 yX2_casesAllPaid : Cond) ∈ lwT := tm_4 (List.mem_of_getElem? (i := 81) (by decide +kernel)) rfl
theorem tw_im_X2_casesAllPaid : (Cond.instanceMethod yX2_casesAllPaid : Cond) ∈ lwT := tm_4 (List.mem_of_getElem? (i := 82) (by decide +kernel)) rfl
theorem tw_se_X2_casesAllPaid : (Cond.selects RX2 yX2_casesAllPaid yX2_casesAllPaid : Cond) ∈ lwT := tm_4 (List.mem_of_getElem? (i := 83) (by decide +kernel)) rfl
theorem tw_c_X2_casesAllPaid : (Cond.code yX2_casesAllPaid cX2_casesAllPaid 7 (some .long) : Cond) ∈ lwT := tm_4 (List.mem_of_getElem? (i := 84) (by decide +kernel)) rfl
theorem tw_st_X7_power : (Cond.static yX7_power : Cond) ∈ lwT := tm_4 (List.mem_of_getElem? (i := 86) (by decide +kernel)) rfl
theorem tw_c_X7_power : (Cond.code yX7_power cX7_power 5 (some .long) : Cond) ∈ lwT := tm_4 (List.mem_of_getElem? (i := 87) (by decide +kernel)) rfl
theorem tw_ml_X7_308 : (Cond.methodLink RX7 308 yX7_power : Cond) ∈ lwT := tm_4 (List.mem_of_getElem? (i := 88) (by decide +kernel)) rfl
theorem tw_ml_X7_312 : (Cond.methodLink RX7 312 yX7_greatestDivisor : Cond) ∈ lwT := tm_4 (List.mem_of_getElem? (i := 89) (by decide +kernel)) rfl
theorem tw_st_X7_greatestDivisor : (Cond.static yX7_greatestDivisor : Cond) ∈ lwT := tm_4 (List.mem_of_getElem? (i := 90) (by decide +kernel)) rfl
theorem tw_c_X7_greatestDivisor : (Cond.code yX7_greatestDivisor cX7_greatestDivisor 11 (some .long) : Cond) ∈ lwT := tm_4 (List.mem_of_getElem? (i := 91) (by decide +kernel)) rfl
theorem tw_kl_X7_316 : (Cond.constantLong RX7 316 (-1000000) : Cond) ∈ lwT := tm_4 (List.mem_of_getElem? (i := 92) (by decide +kernel)) rfl
theorem tw_ml_L_149 : (Cond.methodLink RL 149 yX7_drawn : Cond) ∈ lwT := tm_4 (List.mem_of_getElem? (i := 93) (by decide +kernel)) rfl
theorem tw_im_X7_drawn : (Cond.instanceMethod yX7_drawn : Cond) ∈ lwT := tm_4 (List.mem_of_getElem? (i := 94) (by decide +kernel)) rfl
theorem tw_se_X7_drawn : (Cond.selects RX7 yX7_drawn yX7_drawn : Cond) ∈ lwT := tm_4 (List.mem_of_getElem? (i := 95) (by decide +kernel)) rfl
theorem tw_c_X7_drawn : (Cond.code yX7_drawn cX7_drawn 5 (some .int) : Cond) ∈ lwT := tm_4 (List.mem_of_getElem? (i := 96) (by decide +kernel)) rfl
theorem tw_k_X7_318 : (Cond.constant RX7 318 (999999) : Cond) ∈ lwT := tm_4 (List.mem_of_getElem? (i := 97) (by decide +kernel)) rfl
theorem tw_ml_X7_319 : (Cond.methodLink RX7 319 yX2_weeks : Cond) ∈ lwT := tm_4 (List.mem_of_getElem? (i := 98) (by decide +kernel)) rfl
theorem tw_im_X2_weeks : (Cond.instanceMethod yX2_weeks : Cond) ∈ lwT := tm_4 (List.mem_of_getElem? (i := 99) (by decide +kernel)) rfl
theorem tw_se_X2_weeks : (Cond.selects RX2 yX2_weeks yX2_weeks : Cond) ∈ lwT := tm_4 (List.mem_of_getElem? (i := 100) (by decide +kernel)) rfl
theorem tw_c_X2_weeks : (Cond.code yX2_weeks cX2_weeks 7 (some (.object "TellerDays$Bank")) : Cond) ∈ lwT := tm_4 (List.mem_of_getElem? (i := 101) (by decide +kernel)) rfl
theorem tw_kl_X2_106 : (Cond.constantLong RX2 106 (16807) : Cond) ∈ lwT := tm_4 (List.mem_of_getElem? (i := 102) (by decide +kernel)) rfl
theorem tw_kl_X2_108 : (Cond.constantLong RX2 108 (2147483647) : Cond) ∈ lwT := tm_4 (List.mem_of_getElem? (i := 103) (by decide +kernel)) rfl
theorem tw_kl_X2_110 : (Cond.constantLong RX2 110 (3) : Cond) ∈ lwT := tm_4 (List.mem_of_getElem? (i := 104) (by decide +kernel)) rfl
theorem tw_kl_X2_112 : (Cond.constantLong RX2 112 (30) : Cond) ∈ lwT := tm_4 (List.mem_of_getElem? (i := 105) (by decide +kernel)) rfl
theorem tw_ml_X2_114 : (Cond.methodLink RX2 114 yX1_join : Cond) ∈ lwT := tm_4 (List.mem_of_getElem? (i := 106) (by decide +kernel)) rfl
theorem tw_ml_X7_323 : (Cond.methodLink RX7 323 yX1_leftTogether : Cond) ∈ lwT := tm_4 (List.mem_of_getElem? (i := 107) (by decide +kernel)) rfl
theorem tw_ml_L_153 : (Cond.methodLink RL 153 yX7_image : Cond) ∈ lwT := tm_4 (List.mem_of_getElem? (i := 108) (by decide +kernel)) rfl
theorem tw_im_X7_image : (Cond.instanceMethod yX7_image : Cond) ∈ lwT := tm_4 (List.mem_of_getElem? (i := 109) (by decide +kernel)) rfl
theorem tw_se_X7_image : (Cond.selects RX7 yX7_image yX7_image : Cond) ∈ lwT := tm_4 (List.mem_of_getElem? (i := 110) (by decide +kernel)) rfl
theorem tw_c_X7_image : (Cond.code yX7_image cX7_image 2 (some .int) : Cond) ∈ lwT := tm_4 (List.mem_of_getElem? (i := 111) (by decide +kernel)) rfl
theorem tw_ml_L_157 : (Cond.methodLink RL 157 yX7_restore : Cond) ∈ lwT := tm_4 (List.mem_of_getElem? (i := 112) (by decide +kernel)) rfl
theorem tw_im_X7_restore : (Cond.instanceMethod yX7_restore : Cond) ∈ lwT := tm_4 (List.mem_of_getElem? (i := 113) (by decide +kernel)) rfl
theorem tw_se_X7_restore : (Cond.selects RX7 yX7_restore yX7_restore : Cond) ∈ lwT := tm_4 (List.mem_of_getElem? (i := 114) (by decide +kernel)) rfl
theorem tw_c_X7_restore : (Cond.code yX7_restore cX7_restore 2 (some .int) : Cond) ∈ lwT := tm_4 (List.mem_of_getElem? (i := 115) (by decide +kernel)) rfl
theorem tw_ml_L_161 : (Cond.methodLink RL 161 yX7_kind : Cond) ∈ lwT := tm_4 (List.mem_of_getElem? (i := 116) (by decide +kernel)) rfl
theorem tw_im_X7_kind : (Cond.instanceMethod yX7_kind : Cond) ∈ lwT := tm_4 (List.mem_of_getElem? (i := 117) (by decide +kernel)) rfl
theorem tw_se_X7_kind : (Cond.selects RX7 yX7_kind yX7_kind : Cond) ∈ lwT := tm_4 (List.mem_of_getElem? (i := 118) (by decide +kernel)) rfl
theorem tw_c_X7_kind : (Cond.code yX7_kind cX7_kind 2 (some .int) : Cond) ∈ lwT := tm_4 (List.mem_of_getElem? (i := 119) (by decide +kernel)) rfl
theorem tw_ml_L_165 : (Cond.methodLink RL 165 yX7_as : Cond) ∈ lwT := tm_4 (List.mem_of_getElem? (i := 120) (by decide +kernel)) rfl
theorem tw_im_X7_as : (Cond.instanceMethod yX7_as : Cond) ∈ lwT := tm_4 (List.mem_of_getElem? (i := 121) (by decide +kernel)) rfl
theorem tw_se_X7_as : (Cond.selects RX7 yX7_as yX7_as : Cond) ∈ lwT := tm_4 (List.mem_of_getElem? (i := 122) (by decide +kernel)) rfl
theorem tw_c_X7_as : (Cond.code yX7_as cX7_as 3 (some .int) : Cond) ∈ lwT := tm_4 (List.mem_of_getElem? (i := 123) (by decide +kernel)) rfl
theorem tw_ml_X7_332 : (Cond.methodLink RX7 332 yX7_isKindOf : Cond) ∈ lwT := tm_4 (List.mem_of_getElem? (i := 124) (by decide +kernel)) rfl
theorem tw_st_X7_isKindOf : (Cond.static yX7_isKindOf : Cond) ∈ lwT := tm_4 (List.mem_of_getElem? (i := 125) (by decide +kernel)) rfl
theorem tw_c_X7_isKindOf : (Cond.code yX7_isKindOf cX7_isKindOf 4 (some .boolean) : Cond) ∈ lwT := tm_4 (List.mem_of_getElem? (i := 126) (by decide +kernel)) rfl
theorem tw_fl_X7_359 : (Cond.fieldLink RX7 359 "TellerDays" "ABOVE" "[I" : Cond) ∈ lwT := tm_4 (List.mem_of_getElem? (i := 127) (by decide +kernel)) rfl
theorem tw_ls_ABOVE : (Cond.laysStatic RX7 "ABOVE" "[I" : Cond) ∈ lw_tbl := tn_4 (List.mem_of_getElem? (i := 128) (by decide +kernel))
theorem tw_ml_L_169 : (Cond.methodLink RL 169 yX7_ask : Cond) ∈ lwT := tm_4 (List.mem_of_getElem? (i := 129) (by decide +kernel)) rfl
theorem tw_im_X7_ask : (Cond.instanceMethod yX7_ask : Cond) ∈ lwT := tm_4 (List.mem_of_getElem? (i := 130) (by decide +kernel)) rfl
theorem tw_se_X7_ask : (Cond.selects RX7 yX7_ask yX7_ask : Cond) ∈ lwT := tm_4 (List.mem_of_getElem? (i := 131) (by decide +kernel)) rfl
theorem tw_c_X7_ask : (Cond.code yX7_ask cX7_ask 3 (some .int) : Cond) ∈ lwT := tm_4 (List.mem_of_getElem? (i := 132) (by decide +kernel)) rfl
theorem tw_ml_X7_336 : (Cond.methodLink RX7 336 yX0_begin : Cond) ∈ lwT := tm_4 (List.mem_of_getElem? (i := 133) (by decide +kernel)) rfl
theorem tw_im_X0_begin : (Cond.instanceMethod yX0_begin : Cond) ∈ lwT := tm_4 (List.mem_of_getElem? (i := 134) (by decide +kernel)) rfl
theorem tw_se_X0_begin : (Cond.selects RX0 yX0_begin yX0_begin : Cond) ∈ lwT := tm_4 (List.mem_of_getElem? (i := 135) (by decide +kernel)) rfl
theorem tw_c_X0_begin : (Cond.code yX0_begin cX0_begin 4 (some .int) : Cond) ∈ lwT := tm_4 (List.mem_of_getElem? (i := 136) (by decide +kernel)) rfl
theorem tw_ml_X0_19 : (Cond.methodLink RX0 19 yX0_answerOf : Cond) ∈ lwT := tm_4 (List.mem_of_getElem? (i := 137) (by decide +kernel)) rfl
theorem tw_im_X0_answerOf : (Cond.instanceMethod yX0_answerOf : Cond) ∈ lwT := tm_4 (List.mem_of_getElem? (i := 139) (by decide +kernel)) rfl
theorem tw_c_X0_answerOf : (Cond.code yX0_answerOf cX0_answerOf 5 (some .int) : Cond) ∈ lwT := tm_4 (List.mem_of_getElem? (i := 140) (by decide +kernel)) rfl
theorem tw_ml_X0_23 : (Cond.methodLink RX0 23 yX1_hasTeller : Cond) ∈ lwT := tm_4 (List.mem_of_getElem? (i := 141) (by decide +kernel)) rfl
theorem tw_ml_X0_32 : (Cond.methodLink RX0 32 yX0_bodyFor : Cond) ∈ lwT := tm_4 (List.mem_of_getElem? (i := 142) (by decide +kernel)) rfl
theorem tw_st_X0_bodyFor : (Cond.static yX0_bodyFor : Cond) ∈ lwT := tm_4 (List.mem_of_getElem? (i := 143) (by decide +kernel)) rfl
theorem tw_c_X0_bodyFor : (Cond.code yX0_bodyFor cX0_bodyFor 5 (some .int) : Cond) ∈ lwT := tm_4 (List.mem_of_getElem? (i := 144) (by decide +kernel)) rfl
theorem tw_ls_SIZE_BODY : (Cond.laysStatic RX7 "SIZE_BODY" "[I" : Cond) ∈ lw_tbl := tn_4 (List.mem_of_getElem? (i := 146) (by decide +kernel))
theorem tw_ls_MARK_BODY : (Cond.laysStatic RX7 "MARK_BODY" "[I" : Cond) ∈ lw_tbl := tn_4 (List.mem_of_getElem? (i := 148) (by decide +kernel))
theorem tw_k_X0_49 : (Cond.constant RX0 49 (-1000000) : Cond) ∈ lwT := tm_4 (List.mem_of_getElem? (i := 150) (by decide +kernel)) rfl
theorem tw_ml_X0_36 : (Cond.methodLink RX0 36 yX0_run : Cond) ∈ lwT := tm_4 (List.mem_of_getElem? (i := 151) (by decide +kernel)) rfl
theorem tw_im_X0_run : (Cond.instanceMethod yX0_run : Cond) ∈ lwT := tm_4 (List.mem_of_getElem? (i := 153) (by decide +kernel)) rfl
theorem tw_c_X0_run : (Cond.code yX0_run cX0_run 6 (some .int) : Cond) ∈ lwT := tm_4 (List.mem_of_getElem? (i := 154) (by decide +kernel)) rfl
theorem tw_ml_X0_50 : (Cond.methodLink RX0 50 yX0_leaveNumber : Cond) ∈ lwT := tm_4 (List.mem_of_getElem? (i := 155) (by decide +kernel)) rfl
theorem tw_im_X0_leaveNumber : (Cond.instanceMethod yX0_leaveNumber : Cond) ∈ lwT := tm_4 (List.mem_of_getElem? (i := 157) (by decide +kernel)) rfl
theorem tw_c_X0_leaveNumber : (Cond.code yX0_leaveNumber cX0_leaveNumber 2 none : Cond) ∈ lwT := tm_4 (List.mem_of_getElem? (i := 158) (by decide +kernel)) rfl
theorem tw_ml_L_173 : (Cond.methodLink RL 173 yX7_trace : Cond) ∈ lwT := tm_4 (List.mem_of_getElem? (i := 159) (by decide +kernel)) rfl
theorem tw_im_X7_trace : (Cond.instanceMethod yX7_trace : Cond) ∈ lwT := tm_4 (List.mem_of_getElem? (i := 160) (by decide +kernel)) rfl
theorem tw_se_X7_trace : (Cond.selects RX7 yX7_trace yX7_trace : Cond) ∈ lwT := tm_4 (List.mem_of_getElem? (i := 161) (by decide +kernel)) rfl
theorem tw_c_X7_trace : (Cond.code yX7_trace cX7_trace 2 (some .int) : Cond) ∈ lwT := tm_4 (List.mem_of_getElem? (i := 162) (by decide +kernel)) rfl
theorem tw_ml_X7_340 : (Cond.methodLink RX7 340 yX0_traceAt : Cond) ∈ lwT := tm_4 (List.mem_of_getElem? (i := 163) (by decide +kernel)) rfl
theorem tw_im_X0_traceAt : (Cond.instanceMethod yX0_traceAt : Cond) ∈ lwT := tm_4 (List.mem_of_getElem? (i := 164) (by decide +kernel)) rfl
theorem tw_se_X0_traceAt : (Cond.selects RX0 yX0_traceAt yX0_traceAt : Cond) ∈ lwT := tm_4 (List.mem_of_getElem? (i := 165) (by decide +kernel)) rfl
theorem tw_c_X0_traceAt : (Cond.code yX0_traceAt cX0_traceAt 2 (some .int) : Cond) ∈ lwT := tm_4 (List.mem_of_getElem? (i := 166) (by decide +kernel)) rfl
theorem tw_ml_L_177 : (Cond.methodLink RL 177 yX7_count : Cond) ∈ lwT := tm_4 (List.mem_of_getElem? (i := 167) (by decide +kernel)) rfl
theorem tw_im_X7_count : (Cond.instanceMethod yX7_count : Cond) ∈ lwT := tm_4 (List.mem_of_getElem? (i := 168) (by decide +kernel)) rfl
theorem tw_se_X7_count : (Cond.selects RX7 yX7_count yX7_count : Cond) ∈ lwT := tm_4 (List.mem_of_getElem? (i := 169) (by decide +kernel)) rfl
theorem tw_c_X7_count : (Cond.code yX7_count cX7_count 2 (some .int) : Cond) ∈ lwT := tm_4 (List.mem_of_getElem? (i := 170) (by decide +kernel)) rfl
theorem tw_ml_X7_343 : (Cond.methodLink RX7 343 yX4_amount : Cond) ∈ lwT := tm_4 (List.mem_of_getElem? (i := 171) (by decide +kernel)) rfl
theorem tw_im_X4_amount : (Cond.instanceMethod yX4_amount : Cond) ∈ lwT := tm_4 (List.mem_of_getElem? (i := 172) (by decide +kernel)) rfl
theorem tw_se_X4_amount : (Cond.selects RX4 yX4_amount yX4_amount : Cond) ∈ lwT := tm_4 (List.mem_of_getElem? (i := 173) (by decide +kernel)) rfl
theorem tw_c_X4_amount : (Cond.code yX4_amount cX4_amount 3 (some .int) : Cond) ∈ lwT := tm_4 (List.mem_of_getElem? (i := 174) (by decide +kernel)) rfl
theorem tw_ml_L_181 : (Cond.methodLink RL 181 yX7_status : Cond) ∈ lwT := tm_4 (List.mem_of_getElem? (i := 175) (by decide +kernel)) rfl
theorem tw_im_X7_status : (Cond.instanceMethod yX7_status : Cond) ∈ lwT := tm_4 (List.mem_of_getElem? (i := 176) (by decide +kernel)) rfl
theorem tw_se_X7_status : (Cond.selects RX7 yX7_status yX7_status : Cond) ∈ lwT := tm_4 (List.mem_of_getElem? (i := 177) (by decide +kernel)) rfl
theorem tw_c_X7_status : (Cond.code yX7_status cX7_status 1 (some .int) : Cond) ∈ lwT := tm_4 (List.mem_of_getElem? (i := 178) (by decide +kernel)) rfl
theorem tw_cl_L_10 : (Cond.classLink RL 10 RX8 : Cond) ∈ lwT := tm_4 (List.mem_of_getElem? (i := 179) (by decide +kernel)) rfl
theorem tw_ib_X8 : (Cond.instantiable RX8 18 : Cond) ∈ lwT := tm_4 (List.mem_of_getElem? (i := 180) (by decide +kernel)) rfl
theorem tw_ml_L_12 : (Cond.methodLink RL 12 yX8_init : Cond) ∈ lwT := tm_4 (List.mem_of_getElem? (i := 181) (by decide +kernel)) rfl
theorem tw_im_X8_init : (Cond.instanceMethod yX8_init : Cond) ∈ lwT := tm_4 (List.mem_of_getElem? (i := 182) (by decide +kernel)) rfl
theorem tw_c_X8_init : (Cond.code yX8_init cX8_init 2 none : Cond) ∈ lwT := tm_4 (List.mem_of_getElem? (i := 183) (by decide +kernel)) rfl
theorem tw_ml_X8_1 : (Cond.methodLink RX8 1 objectInit : Cond) ∈ lwT := tm_4 (List.mem_of_getElem? (i := 184) (by decide +kernel)) rfl
theorem tw_fl_X8_7 : (Cond.fieldLink RX8 7 "TellerDaysModel" "row" "[I" : Cond) ∈ lwT := tm_4 (List.mem_of_getElem? (i := 185) (by decide +kernel)) rfl
theorem tw_fl_X8_137 : (Cond.fieldLink RX8 137 "TellerDaysModel" "isBank" "Z" : Cond) ∈ lwT := tm_4 (List.mem_of_getElem? (i := 186) (by decide +kernel)) rfl
theorem tw_fl_X8_141 : (Cond.fieldLink RX8 141 "TellerDaysModel" "undos" "I" : Cond) ∈ lwT := tm_4 (List.mem_of_getElem? (i := 187) (by decide +kernel)) rfl
theorem tw_fl_X8_13 : (Cond.fieldLink RX8 13 "TellerDaysModel" "isKept" "[Z" : Cond) ∈ lwT := tm_4 (List.mem_of_getElem? (i := 188) (by decide +kernel)) rfl
theorem tw_fl_X8_17 : (Cond.fieldLink RX8 17 "TellerDaysModel" "lanes" "[I" : Cond) ∈ lwT := tm_4 (List.mem_of_getElem? (i := 189) (by decide +kernel)) rfl
theorem tw_fl_X8_20 : (Cond.fieldLink RX8 20 "TellerDaysModel" "sizes" "[I" : Cond) ∈ lwT := tm_4 (List.mem_of_getElem? (i := 190) (by decide +kernel)) rfl
theorem tw_fl_X8_23 : (Cond.fieldLink RX8 23 "TellerDaysModel" "items" "[I" : Cond) ∈ lwT := tm_4 (List.mem_of_getElem? (i := 191) (by decide +kernel)) rfl
theorem tw_fl_X8_26 : (Cond.fieldLink RX8 26 "TellerDaysModel" "tape" "[I" : Cond) ∈ lwT := tm_4 (List.mem_of_getElem? (i := 192) (by decide +kernel)) rfl
theorem tw_fl_X8_73 : (Cond.fieldLink RX8 73 "TellerDaysModel" "length" "I" : Cond) ∈ lwT := tm_4 (List.mem_of_getElem? (i := 193) (by decide +kernel)) rfl
theorem tw_fl_X8_129 : (Cond.fieldLink RX8 129 "TellerDaysModel" "fault" "I" : Cond) ∈ lwT := tm_4 (List.mem_of_getElem? (i := 194) (by decide +kernel)) rfl
theorem tw_fl_X8_38 : (Cond.fieldLink RX8 38 "TellerDaysModel" "status" "I" : Cond) ∈ lwT := tm_4 (List.mem_of_getElem? (i := 195) (by decide +kernel)) rfl
theorem tw_fl_X8_29 : (Cond.fieldLink RX8 29 "TellerDaysModel" "trace" "[I" : Cond) ∈ lwT := tm_4 (List.mem_of_getElem? (i := 196) (by decide +kernel)) rfl
theorem tw_fl_X8_254 : (Cond.fieldLink RX8 254 "TellerDaysModel" "traced" "I" : Cond) ∈ lwT := tm_4 (List.mem_of_getElem? (i := 197) (by decide +kernel)) rfl
theorem tw_fl_X8_77 : (Cond.fieldLink RX8 77 "TellerDaysModel" "at" "I" : Cond) ∈ lwT := tm_4 (List.mem_of_getElem? (i := 198) (by decide +kernel)) rfl
theorem tw_fl_X8_84 : (Cond.fieldLink RX8 84 "TellerDaysModel" "wrong" "I" : Cond) ∈ lwT := tm_4 (List.mem_of_getElem? (i := 199) (by decide +kernel)) rfl
theorem tw_fl_X8_96 : (Cond.fieldLink RX8 96 "TellerDaysModel" "number" "I" : Cond) ∈ lwT := tm_4 (List.mem_of_getElem? (i := 200) (by decide +kernel)) rfl
theorem tw_fl_X8_32 : (Cond.fieldLink RX8 32 "TellerDaysModel" "line" "[I" : Cond) ∈ lwT := tm_4 (List.mem_of_getElem? (i := 201) (by decide +kernel)) rfl
theorem tw_fl_X8_35 : (Cond.fieldLink RX8 35 "TellerDaysModel" "bestLine" "[I" : Cond) ∈ lwT := tm_4 (List.mem_of_getElem? (i := 202) (by decide +kernel)) rfl
theorem tw_ac_boolean : (Cond.arrayClass .boolean : Cond) ∈ lwT := tm_5 (List.mem_of_getElem? (i := 0) (by decide +kernel)) rfl
theorem tw_ml_L_17 : (Cond.methodLink RL 17 yX8_row : Cond) ∈ lwT := tm_5 (List.mem_of_getElem? (i := 1) (by decide +kernel)) rfl
theorem tw_im_X8_row : (Cond.instanceMethod yX8_row : Cond) ∈ lwT := tm_5 (List.mem_of_getElem? (i := 2) (by decide +kernel)) rfl
theorem tw_se_X8_row : (Cond.selects RX8 yX8_row yX8_row : Cond) ∈ lwT := tm_5 (List.mem_of_getElem? (i := 3) (by decide +kernel)) rfl
theorem tw_c_X8_row : (Cond.code yX8_row cX8_row 5 (some .int) : Cond) ∈ lwT := tm_5 (List.mem_of_getElem? (i := 4) (by decide +kernel)) rfl
theorem tw_ml_X8_49 : (Cond.methodLink RX8 49 yX8_isRow : Cond) ∈ lwT := tm_5 (List.mem_of_getElem? (i := 5) (by decide +kernel)) rfl
theorem tw_st_X8_isRow : (Cond.static yX8_isRow : Cond) ∈ lwT := tm_5 (List.mem_of_getElem? (i := 6) (by decide +kernel)) rfl
theorem tw_c_X8_isRow : (Cond.code yX8_isRow cX8_isRow 1 (some .boolean) : Cond) ∈ lwT := tm_5 (List.mem_of_getElem? (i := 7) (by decide +kernel)) rfl
theorem tw_kl_X8_43 : (Cond.constantLong RX8 43 (7) : Cond) ∈ lwT := tm_5 (List.mem_of_getElem? (i := 8) (by decide +kernel)) rfl
theorem tw_ml_X8_45 : (Cond.methodLink RX8 45 yX8_in : Cond) ∈ lwT := tm_5 (List.mem_of_getElem? (i := 9) (by decide +kernel)) rfl
theorem tw_st_X8_in : (Cond.static yX8_in : Cond) ∈ lwT := tm_5 (List.mem_of_getElem? (i := 10) (by decide +kernel)) rfl
theorem tw_c_X8_in : (Cond.code yX8_in cX8_in 6 (some .boolean) : Cond) ∈ lwT := tm_5 (List.mem_of_getElem? (i := 11) (by decide +kernel)) rfl
theorem tw_kl_X8_53 : (Cond.constantLong RX8 53 (2) : Cond) ∈ lwT := tm_5 (List.mem_of_getElem? (i := 12) (by decide +kernel)) rfl
theorem tw_k_X8_55 : (Cond.constant RX8 55 (-1000001) : Cond) ∈ lwT := tm_5 (List.mem_of_getElem? (i := 13) (by decide +kernel)) rfl
theorem tw_ml_X8_56 : (Cond.methodLink RX8 56 yX8_find : Cond) ∈ lwT := tm_5 (List.mem_of_getElem? (i := 14) (by decide +kernel)) rfl
theorem tw_im_X8_find : (Cond.instanceMethod yX8_find : Cond) ∈ lwT := tm_5 (List.mem_of_getElem? (i := 16) (by decide +kernel)) rfl
theorem tw_c_X8_find : (Cond.code yX8_find cX8_find 2 (some .int) : Cond) ∈ lwT := tm_5 (List.mem_of_getElem? (i := 17) (by decide +kernel)) rfl
theorem tw_k_X8_42 : (Cond.constant RX8 42 (-1000010) : Cond) ∈ lwT := tm_5 (List.mem_of_getElem? (i := 18) (by decide +kernel)) rfl
theorem tw_ml_X8_60 : (Cond.methodLink RX8 60 yX8_well : Cond) ∈ lwT := tm_5 (List.mem_of_getElem? (i := 19) (by decide +kernel)) rfl
theorem tw_im_X8_well : (Cond.instanceMethod yX8_well : Cond) ∈ lwT := tm_5 (List.mem_of_getElem? (i := 21) (by decide +kernel)) rfl
theorem tw_c_X8_well : (Cond.code yX8_well cX8_well 2 (some .int) : Cond) ∈ lwT := tm_5 (List.mem_of_getElem? (i := 22) (by decide +kernel)) rfl
theorem tw_ml_L_21 : (Cond.methodLink RL 21 yX8_set : Cond) ∈ lwT := tm_5 (List.mem_of_getElem? (i := 23) (by decide +kernel)) rfl
theorem tw_im_X8_set : (Cond.instanceMethod yX8_set : Cond) ∈ lwT := tm_5 (List.mem_of_getElem? (i := 24) (by decide +kernel)) rfl
theorem tw_se_X8_set : (Cond.selects RX8 yX8_set yX8_set : Cond) ∈ lwT := tm_5 (List.mem_of_getElem? (i := 25) (by decide +kernel)) rfl
theorem tw_c_X8_set : (Cond.code yX8_set cX8_set 4 (some .int) : Cond) ∈ lwT := tm_5 (List.mem_of_getElem? (i := 26) (by decide +kernel)) rfl
theorem tw_ml_X8_63 : (Cond.methodLink RX8 63 yX8_narrow : Cond) ∈ lwT := tm_5 (List.mem_of_getElem? (i := 27) (by decide +kernel)) rfl
theorem tw_st_X8_narrow : (Cond.static yX8_narrow : Cond) ∈ lwT := tm_5 (List.mem_of_getElem? (i := 28) (by decide +kernel)) rfl
theorem tw_c_X8_narrow : (Cond.code yX8_narrow cX8_narrow 2 (some .int) : Cond) ∈ lwT := tm_5 (List.mem_of_getElem? (i := 29) (by decide +kernel)) rfl
theorem tw_ml_L_26 : (Cond.methodLink RL 26 yX8_copy : Cond) ∈ lwT := tm_5 (List.mem_of_getElem? (i := 30) (by decide +kernel)) rfl
theorem tw_im_X8_copy : (Cond.instanceMethod yX8_copy : Cond) ∈ lwT := tm_5 (List.mem_of_getElem? (i := 31) (by decide +kernel)) rfl
theorem tw_se_X8_copy : (Cond.selects RX8 yX8_copy yX8_copy : Cond) ∈ lwT := tm_5 (List.mem_of_getElem? (i := 32) (by decide +kernel)) rfl
theorem tw_c_X8_copy : (Cond.code yX8_copy cX8_copy 9 (some .int) : Cond) ∈ lwT := tm_5 (List.mem_of_getElem? (i := 33) (by decide +kernel)) rfl
theorem tw_ml_X8_67 : (Cond.methodLink RX8 67 yX8_isSpan : Cond) ∈ lwT := tm_5 (List.mem_of_getElem? (i := 34) (by decide +kernel)) rfl
theorem tw_im_X8_isSpan : (Cond.instanceMethod yX8_isSpan : Cond) ∈ lwT := tm_5 (List.mem_of_getElem? (i := 36) (by decide +kernel)) rfl
theorem tw_c_X8_isSpan : (Cond.code yX8_isSpan cX8_isSpan 4 (some .boolean) : Cond) ∈ lwT := tm_5 (List.mem_of_getElem? (i := 37) (by decide +kernel)) rfl
theorem tw_ml_L_31 : (Cond.methodLink RL 31 yX8_drop : Cond) ∈ lwT := tm_5 (List.mem_of_getElem? (i := 38) (by decide +kernel)) rfl
theorem tw_im_X8_drop : (Cond.instanceMethod yX8_drop : Cond) ∈ lwT := tm_5 (List.mem_of_getElem? (i := 39) (by decide +kernel)) rfl
theorem tw_se_X8_drop : (Cond.selects RX8 yX8_drop yX8_drop : Cond) ∈ lwT := tm_5 (List.mem_of_getElem? (i := 40) (by decide +kernel)) rfl
theorem tw_c_X8_drop : (Cond.code yX8_drop cX8_drop 3 (some .int) : Cond) ∈ lwT := tm_5 (List.mem_of_getElem? (i := 41) (by decide +kernel)) rfl
theorem tw_ml_L_35 : (Cond.methodLink RL 35 yX8_feed : Cond) ∈ lwT := tm_5 (List.mem_of_getElem? (i := 42) (by decide +kernel)) rfl
theorem tw_im_X8_feed : (Cond.instanceMethod yX8_feed : Cond) ∈ lwT := tm_5 (List.mem_of_getElem? (i := 43) (by decide +kernel)) rfl
theorem tw_se_X8_feed : (Cond.selects RX8 yX8_feed yX8_feed : Cond) ∈ lwT := tm_5 (List.mem_of_getElem? (i := 44) (by decide +kernel)) rfl
theorem tw_c_X8_feed : (Cond.code yX8_feed cX8_feed 2 (some .int) : Cond) ∈ lwT := tm_5 (List.mem_of_getElem? (i := 45) (by decide +kernel)) rfl
theorem tw_kl_X8_71 : (Cond.constantLong RX8 71 (255) : Cond) ∈ lwT := tm_5 (List.mem_of_getElem? (i := 46) (by decide +kernel)) rfl
theorem tw_k_X8_76 : (Cond.constant RX8 76 (-1000003) : Cond) ∈ lwT := tm_5 (List.mem_of_getElem? (i := 47) (by decide +kernel)) rfl
theorem tw_ml_L_40 : (Cond.methodLink RL 40 yX8_bank : Cond) ∈ lwT := tm_5 (List.mem_of_getElem? (i := 48) (by decide +kernel)) rfl
theorem tw_im_X8_bank : (Cond.instanceMethod yX8_bank : Cond) ∈ lwT := tm_5 (List.mem_of_getElem? (i := 49) (by decide +kernel)) rfl
theorem tw_se_X8_bank : (Cond.selects RX8 yX8_bank yX8_bank : Cond) ∈ lwT := tm_5 (List.mem_of_getElem? (i := 50) (by decide +kernel)) rfl
theorem tw_c_X8_bank : (Cond.code yX8_bank cX8_bank 2 (some .int) : Cond) ∈ lwT := tm_5 (List.mem_of_getElem? (i := 51) (by decide +kernel)) rfl
theorem tw_ml_X8_126 : (Cond.methodLink RX8 126 yX8_reads : Cond) ∈ lwT := tm_5 (List.mem_of_getElem? (i := 52) (by decide +kernel)) rfl
theorem tw_im_X8_reads : (Cond.instanceMethod yX8_reads : Cond) ∈ lwT := tm_5 (List.mem_of_getElem? (i := 54) (by decide +kernel)) rfl
theorem tw_c_X8_reads : (Cond.code yX8_reads cX8_reads 2 (some .boolean) : Cond) ∈ lwT := tm_5 (List.mem_of_getElem? (i := 55) (by decide +kernel)) rfl
theorem tw_kl_X8_109 : (Cond.constantLong RX8 109 (22) : Cond) ∈ lwT := tm_5 (List.mem_of_getElem? (i := 56) (by decide +kernel)) rfl
theorem tw_kl_X8_111 : (Cond.constantLong RX8 111 (28) : Cond) ∈ lwT := tm_5 (List.mem_of_getElem? (i := 57) (by decide +kernel)) rfl
theorem tw_ml_X8_113 : (Cond.methodLink RX8 113 yX8_readsLaw : Cond) ∈ lwT := tm_5 (List.mem_of_getElem? (i := 58) (by decide +kernel)) rfl
theorem tw_im_X8_readsLaw : (Cond.instanceMethod yX8_readsLaw : Cond) ∈ lwT := tm_5 (List.mem_of_getElem? (i := 60) (by decide +kernel)) rfl
theorem tw_c_X8_readsLaw : (Cond.code yX8_readsLaw cX8_readsLaw 1 (some .boolean) : Cond) ∈ lwT := tm_5 (List.mem_of_getElem? (i := 61) (by decide +kernel)) rfl
theorem tw_ml_X8_99 : (Cond.methodLink RX8 99 yX8_sign : Cond) ∈ lwT := tm_5 (List.mem_of_getElem? (i := 62) (by decide +kernel)) rfl
theorem tw_im_X8_sign : (Cond.instanceMethod yX8_sign : Cond) ∈ lwT := tm_5 (List.mem_of_getElem? (i := 64) (by decide +kernel)) rfl
theorem tw_c_X8_sign : (Cond.code yX8_sign cX8_sign 2 (some .boolean) : Cond) ∈ lwT := tm_5 (List.mem_of_getElem? (i := 65) (by decide +kernel)) rfl
theorem tw_ml_X8_87 : (Cond.methodLink RX8 87 yX8_isLetter : Cond) ∈ lwT := tm_5 (List.mem_of_getElem? (i := 66) (by decide +kernel)) rfl
theorem tw_im_X8_isLetter : (Cond.instanceMethod yX8_isLetter : Cond) ∈ lwT := tm_5 (List.mem_of_getElem? (i := 68) (by decide +kernel)) rfl
theorem tw_c_X8_isLetter : (Cond.code yX8_isLetter cX8_isLetter 2 (some .boolean) : Cond) ∈ lwT := tm_5 (List.mem_of_getElem? (i := 69) (by decide +kernel)) rfl
theorem tw_ml_X8_90 : (Cond.methodLink RX8 90 yX8_refuse : Cond) ∈ lwT := tm_5 (List.mem_of_getElem? (i := 70) (by decide +kernel)) rfl
theorem tw_im_X8_refuse : (Cond.instanceMethod yX8_refuse : Cond) ∈ lwT := tm_5 (List.mem_of_getElem? (i := 72) (by decide +kernel)) rfl
theorem tw_c_X8_refuse : (Cond.code yX8_refuse cX8_refuse 2 (some .boolean) : Cond) ∈ lwT := tm_5 (List.mem_of_getElem? (i := 73) (by decide +kernel)) rfl
theorem tw_ml_X8_102 : (Cond.methodLink RX8 102 yX8_readsNumber : Cond) ∈ lwT := tm_5 (List.mem_of_getElem? (i := 74) (by decide +kernel)) rfl
theorem tw_im_X8_readsNumber : (Cond.instanceMethod yX8_readsNumber : Cond) ∈ lwT := tm_5 (List.mem_of_getElem? (i := 76) (by decide +kernel)) rfl
theorem tw_c_X8_readsNumber : (Cond.code yX8_readsNumber cX8_readsNumber 4 (some .boolean) : Cond) ∈ lwT := tm_5 (List.mem_of_getElem? (i := 77) (by decide +kernel)) rfl
theorem tw_ml_X8_93 : (Cond.methodLink RX8 93 yX8_isFigure : Cond) ∈ lwT := tm_5 (List.mem_of_getElem? (i := 78) (by decide +kernel)) rfl
theorem tw_im_X8_isFigure : (Cond.instanceMethod yX8_isFigure : Cond) ∈ lwT := tm_5 (List.mem_of_getElem? (i := 80) (by decide +kernel)) rfl
theorem tw_c_X8_isFigure : (Cond.code yX8_isFigure cX8_isFigure 2 (some .boolean) : Cond) ∈ lwT := tm_5 (List.mem_of_getElem? (i := 81) (by decide +kernel)) rfl
theorem tw_kl_X8_80 : (Cond.constantLong RX8 80 (48) : Cond) ∈ lwT := tm_5 (List.mem_of_getElem? (i := 82) (by decide +kernel)) rfl
theorem tw_kl_X8_82 : (Cond.constantLong RX8 82 (57) : Cond) ∈ lwT := tm_5 (List.mem_of_getElem? (i := 83) (by decide +kernel)) rfl
theorem tw_ml_X8_117 : (Cond.methodLink RX8 117 yX8_isSort : Cond) ∈ lwT := tm_5 (List.mem_of_getElem? (i := 84) (by decide +kernel)) rfl
theorem tw_im_X8_isSort : (Cond.instanceMethod yX8_isSort : Cond) ∈ lwT := tm_5 (List.mem_of_getElem? (i := 86) (by decide +kernel)) rfl
theorem tw_c_X8_isSort : (Cond.code yX8_isSort cX8_isSort 1 (some .boolean) : Cond) ∈ lwT := tm_5 (List.mem_of_getElem? (i := 87) (by decide +kernel)) rfl
theorem tw_ml_X8_106 : (Cond.methodLink RX8 106 yX8_kindOfLetter : Cond) ∈ lwT := tm_5 (List.mem_of_getElem? (i := 88) (by decide +kernel)) rfl
theorem tw_st_X8_kindOfLetter : (Cond.static yX8_kindOfLetter : Cond) ∈ lwT := tm_5 (List.mem_of_getElem? (i := 89) (by decide +kernel)) rfl
theorem tw_c_X8_kindOfLetter : (Cond.code yX8_kindOfLetter cX8_kindOfLetter 1 (some .int) : Cond) ∈ lwT := tm_5 (List.mem_of_getElem? (i := 90) (by decide +kernel)) rfl
theorem tw_ml_X8_120 : (Cond.methodLink RX8 120 yX8_readsTeller : Cond) ∈ lwT := tm_5 (List.mem_of_getElem? (i := 91) (by decide +kernel)) rfl
theorem tw_im_X8_readsTeller : (Cond.instanceMethod yX8_readsTeller : Cond) ∈ lwT := tm_5 (List.mem_of_getElem? (i := 93) (by decide +kernel)) rfl
theorem tw_c_X8_readsTeller : (Cond.code yX8_readsTeller cX8_readsTeller 2 (some .boolean) : Cond) ∈ lwT := tm_5 (List.mem_of_getElem? (i := 94) (by decide +kernel)) rfl
theorem tw_ml_X8_123 : (Cond.methodLink RX8 123 yX8_readsPaper : Cond) ∈ lwT := tm_5 (List.mem_of_getElem? (i := 95) (by decide +kernel)) rfl
theorem tw_im_X8_readsPaper : (Cond.instanceMethod yX8_readsPaper : Cond) ∈ lwT := tm_5 (List.mem_of_getElem? (i := 97) (by decide +kernel)) rfl
theorem tw_c_X8_readsPaper : (Cond.code yX8_readsPaper cX8_readsPaper 2 (some .boolean) : Cond) ∈ lwT := tm_5 (List.mem_of_getElem? (i := 98) (by decide +kernel)) rfl
theorem tw_k_X8_132 : (Cond.constant RX8 132 (-1000100) : Cond) ∈ lwT := tm_5 (List.mem_of_getElem? (i := 99) (by decide +kernel)) rfl
theorem tw_ml_X8_133 : (Cond.methodLink RX8 133 yX8_copyTown : Cond) ∈ lwT := tm_5 (List.mem_of_getElem? (i := 100) (by decide +kernel)) rfl
theorem tw_im_X8_copyTown : (Cond.instanceMethod yX8_copyTown : Cond) ∈ lwT := tm_5 (List.mem_of_getElem? (i := 102) (by decide +kernel)) rfl
theorem tw_c_X8_copyTown : (Cond.code yX8_copyTown cX8_copyTown 4 none : Cond) ∈ lwT := tm_5 (List.mem_of_getElem? (i := 103) (by decide +kernel)) rfl
theorem tw_ml_L_44 : (Cond.methodLink RL 44 yX8_fault : Cond) ∈ lwT := tm_5 (List.mem_of_getElem? (i := 104) (by decide +kernel)) rfl
theorem tw_im_X8_fault : (Cond.instanceMethod yX8_fault : Cond) ∈ lwT := tm_5 (List.mem_of_getElem? (i := 105) (by decide +kernel)) rfl
theorem tw_se_X8_fault : (Cond.selects RX8 yX8_fault yX8_fault : Cond) ∈ lwT := tm_5 (List.mem_of_getElem? (i := 106) (by decide +kernel)) rfl
theorem tw_c_X8_fault : (Cond.code yX8_fault cX8_fault 1 (some .int) : Cond) ∈ lwT := tm_5 (List.mem_of_getElem? (i := 107) (by decide +kernel)) rfl
theorem tw_ml_L_48 : (Cond.methodLink RL 48 yX8_undo : Cond) ∈ lwT := tm_5 (List.mem_of_getElem? (i := 108) (by decide +kernel)) rfl
theorem tw_im_X8_undo : (Cond.instanceMethod yX8_undo : Cond) ∈ lwT := tm_5 (List.mem_of_getElem? (i := 109) (by decide +kernel)) rfl
theorem tw_se_X8_undo : (Cond.selects RX8 yX8_undo yX8_undo : Cond) ∈ lwT := tm_5 (List.mem_of_getElem? (i := 110) (by decide +kernel)) rfl
theorem tw_c_X8_undo : (Cond.code yX8_undo cX8_undo 1 (some .int) : Cond) ∈ lwT := tm_5 (List.mem_of_getElem? (i := 111) (by decide +kernel)) rfl
theorem tw_k_X8_144 : (Cond.constant RX8 144 (-1000002) : Cond) ∈ lwT := tm_5 (List.mem_of_getElem? (i := 112) (by decide +kernel)) rfl
theorem tw_ml_L_52 : (Cond.methodLink RL 52 yX8_serve : Cond) ∈ lwT := tm_5 (List.mem_of_getElem? (i := 113) (by decide +kernel)) rfl
theorem tw_im_X8_serve : (Cond.instanceMethod yX8_serve : Cond) ∈ lwT := tm_5 (List.mem_of_getElem? (i := 114) (by decide +kernel)) rfl
theorem tw_se_X8_serve : (Cond.selects RX8 yX8_serve yX8_serve : Cond) ∈ lwT := tm_5 (List.mem_of_getElem? (i := 115) (by decide +kernel)) rfl
theorem tw_c_X8_serve : (Cond.code yX8_serve cX8_serve 3 (some .int) : Cond) ∈ lwT := tm_5 (List.mem_of_getElem? (i := 116) (by decide +kernel)) rfl
theorem tw_kl_X8_170 : (Cond.constantLong RX8 170 (24) : Cond) ∈ lwT := tm_5 (List.mem_of_getElem? (i := 117) (by decide +kernel)) rfl
theorem tw_ml_X8_172 : (Cond.methodLink RX8 172 yX8_keepPast : Cond) ∈ lwT := tm_5 (List.mem_of_getElem? (i := 118) (by decide +kernel)) rfl
theorem tw_im_X8_keepPast : (Cond.instanceMethod yX8_keepPast : Cond) ∈ lwT := tm_5 (List.mem_of_getElem? (i := 120) (by decide +kernel)) rfl
theorem tw_c_X8_keepPast : (Cond.code yX8_keepPast cX8_keepPast 2 none : Cond) ∈ lwT := tm_5 (List.mem_of_getElem? (i := 121) (by decide +kernel)) rfl
theorem tw_ml_X8_167 : (Cond.methodLink RX8 167 yX8_pass : Cond) ∈ lwT := tm_5 (List.mem_of_getElem? (i := 122) (by decide +kernel)) rfl
theorem tw_im_X8_pass : (Cond.instanceMethod yX8_pass : Cond) ∈ lwT := tm_5 (List.mem_of_getElem? (i := 124) (by decide +kernel)) rfl
theorem tw_c_X8_pass : (Cond.code yX8_pass cX8_pass 4 (some .int) : Cond) ∈ lwT := tm_5 (List.mem_of_getElem? (i := 125) (by decide +kernel)) rfl
theorem tw_k_X8_149 : (Cond.constant RX8 149 (-1000000) : Cond) ∈ lwT := tm_5 (List.mem_of_getElem? (i := 126) (by decide +kernel)) rfl
theorem tw_ml_X8_156 : (Cond.methodLink RX8 156 yX8_whoServes : Cond) ∈ lwT := tm_5 (List.mem_of_getElem? (i := 127) (by decide +kernel)) rfl
theorem tw_im_X8_whoServes : (Cond.instanceMethod yX8_whoServes : Cond) ∈ lwT := tm_5 (List.mem_of_getElem? (i := 129) (by decide +kernel)) rfl
theorem tw_c_X8_whoServes : (Cond.code yX8_whoServes cX8_whoServes 8 (some .int) : Cond) ∈ lwT := tm_5 (List.mem_of_getElem? (i := 130) (by decide +kernel)) rfl
theorem tw_ml_X8_150 : (Cond.methodLink RX8 150 yX8_has : Cond) ∈ lwT := tm_5 (List.mem_of_getElem? (i := 131) (by decide +kernel)) rfl
theorem tw_st_X8_has : (Cond.static yX8_has : Cond) ∈ lwT := tm_5 (List.mem_of_getElem? (i := 132) (by decide +kernel)) rfl
theorem tw_c_X8_has : (Cond.code yX8_has cX8_has 2 (some .boolean) : Cond) ∈ lwT := tm_5 (List.mem_of_getElem? (i := 133) (by decide +kernel)) rfl
theorem tw_ml_X8_153 : (Cond.methodLink RX8 153 yX8_mayPay : Cond) ∈ lwT := tm_5 (List.mem_of_getElem? (i := 134) (by decide +kernel)) rfl
theorem tw_im_X8_mayPay : (Cond.instanceMethod yX8_mayPay : Cond) ∈ lwT := tm_5 (List.mem_of_getElem? (i := 136) (by decide +kernel)) rfl
theorem tw_c_X8_mayPay : (Cond.code yX8_mayPay cX8_mayPay 4 (some .boolean) : Cond) ∈ lwT := tm_5 (List.mem_of_getElem? (i := 137) (by decide +kernel)) rfl
theorem tw_ml_X8_145 : (Cond.methodLink RX8 145 yX8_costOf : Cond) ∈ lwT := tm_5 (List.mem_of_getElem? (i := 138) (by decide +kernel)) rfl
theorem tw_im_X8_costOf : (Cond.instanceMethod yX8_costOf : Cond) ∈ lwT := tm_5 (List.mem_of_getElem? (i := 140) (by decide +kernel)) rfl
theorem tw_c_X8_costOf : (Cond.code yX8_costOf cX8_costOf 5 (some .int) : Cond) ∈ lwT := tm_5 (List.mem_of_getElem? (i := 141) (by decide +kernel)) rfl
theorem tw_ml_X8_159 : (Cond.methodLink RX8 159 yX8_takeFrom : Cond) ∈ lwT := tm_5 (List.mem_of_getElem? (i := 142) (by decide +kernel)) rfl
theorem tw_im_X8_takeFrom : (Cond.instanceMethod yX8_takeFrom : Cond) ∈ lwT := tm_5 (List.mem_of_getElem? (i := 144) (by decide +kernel)) rfl
theorem tw_c_X8_takeFrom : (Cond.code yX8_takeFrom cX8_takeFrom 6 none : Cond) ∈ lwT := tm_5 (List.mem_of_getElem? (i := 145) (by decide +kernel)) rfl
theorem tw_ml_X8_163 : (Cond.methodLink RX8 163 yX8_leaveFirst : Cond) ∈ lwT := tm_5 (List.mem_of_getElem? (i := 146) (by decide +kernel)) rfl
theorem tw_im_X8_leaveFirst : (Cond.instanceMethod yX8_leaveFirst : Cond) ∈ lwT := tm_5 (List.mem_of_getElem? (i := 148) (by decide +kernel)) rfl
theorem tw_c_X8_leaveFirst : (Cond.code yX8_leaveFirst cX8_leaveFirst 3 none : Cond) ∈ lwT := tm_5 (List.mem_of_getElem? (i := 149) (by decide +kernel)) rfl
theorem tw_ml_L_57 : (Cond.methodLink RL 57 yX8_counter : Cond) ∈ lwT := tm_5 (List.mem_of_getElem? (i := 150) (by decide +kernel)) rfl
theorem tw_im_X8_counter : (Cond.instanceMethod yX8_counter : Cond) ∈ lwT := tm_5 (List.mem_of_getElem? (i := 151) (by decide +kernel)) rfl
theorem tw_se_X8_counter : (Cond.selects RX8 yX8_counter yX8_counter : Cond) ∈ lwT := tm_5 (List.mem_of_getElem? (i := 152) (by decide +kernel)) rfl
theorem tw_c_X8_counter : (Cond.code yX8_counter cX8_counter 3 (some .int) : Cond) ∈ lwT := tm_5 (List.mem_of_getElem? (i := 153) (by decide +kernel)) rfl
theorem tw_ml_X8_175 : (Cond.methodLink RX8 175 yX8_isTeller : Cond) ∈ lwT := tm_5 (List.mem_of_getElem? (i := 154) (by decide +kernel)) rfl
theorem tw_im_X8_isTeller : (Cond.instanceMethod yX8_isTeller : Cond) ∈ lwT := tm_5 (List.mem_of_getElem? (i := 156) (by decide +kernel)) rfl
theorem tw_c_X8_isTeller : (Cond.code yX8_isTeller cX8_isTeller 2 (some .boolean) : Cond) ∈ lwT := tm_5 (List.mem_of_getElem? (i := 157) (by decide +kernel)) rfl
theorem tw_ml_L_61 : (Cond.methodLink RL 61 yX8_come : Cond) ∈ lwT := tm_5 (List.mem_of_getElem? (i := 158) (by decide +kernel)) rfl
theorem tw_im_X8_come : (Cond.instanceMethod yX8_come : Cond) ∈ lwT := tm_5 (List.mem_of_getElem? (i := 159) (by decide +kernel)) rfl
theorem tw_se_X8_come : (Cond.selects RX8 yX8_come yX8_come : Cond) ∈ lwT := tm_5 (List.mem_of_getElem? (i := 160) (by decide +kernel)) rfl
theorem tw_c_X8_come : (Cond.code yX8_come cX8_come 3 (some .int) : Cond) ∈ lwT := tm_5 (List.mem_of_getElem? (i := 161) (by decide +kernel)) rfl
theorem tw_kl_X8_181 : (Cond.constantLong RX8 181 (30) : Cond) ∈ lwT := tm_5 (List.mem_of_getElem? (i := 162) (by decide +kernel)) rfl
theorem tw_ml_X8_183 : (Cond.methodLink RX8 183 yX8_comes : Cond) ∈ lwT := tm_5 (List.mem_of_getElem? (i := 163) (by decide +kernel)) rfl
theorem tw_im_X8_comes : (Cond.instanceMethod yX8_comes : Cond) ∈ lwT := tm_5 (List.mem_of_getElem? (i := 165) (by decide +kernel)) rfl
theorem tw_c_X8_comes : (Cond.code yX8_comes cX8_comes 5 (some .int) : Cond) ∈ lwT := tm_5 (List.mem_of_getElem? (i := 166) (by decide +kernel)) rfl
theorem tw_ml_X8_178 : (Cond.methodLink RX8 178 yX8_isWaiting : Cond) ∈ lwT := tm_5 (List.mem_of_getElem? (i := 167) (by decide +kernel)) rfl
theorem tw_im_X8_isWaiting : (Cond.instanceMethod yX8_isWaiting : Cond) ∈ lwT := tm_5 (List.mem_of_getElem? (i := 169) (by decide +kernel)) rfl
theorem tw_c_X8_isWaiting : (Cond.code yX8_isWaiting cX8_isWaiting 5 (some .boolean) : Cond) ∈ lwT := tm_5 (List.mem_of_getElem? (i := 170) (by decide +kernel)) rfl
theorem tw_ml_L_65 : (Cond.methodLink RL 65 yX8_dismiss : Cond) ∈ lwT := tm_5 (List.mem_of_getElem? (i := 171) (by decide +kernel)) rfl
theorem tw_im_X8_dismiss : (Cond.instanceMethod yX8_dismiss : Cond) ∈ lwT := tm_5 (List.mem_of_getElem? (i := 172) (by decide +kernel)) rfl
theorem tw_se_X8_dismiss : (Cond.selects RX8 yX8_dismiss yX8_dismiss : Cond) ∈ lwT := tm_5 (List.mem_of_getElem? (i := 173) (by decide +kernel)) rfl
theorem tw_c_X8_dismiss : (Cond.code yX8_dismiss cX8_dismiss 2 (some .int) : Cond) ∈ lwT := tm_5 (List.mem_of_getElem? (i := 174) (by decide +kernel)) rfl
theorem tw_ml_L_69 : (Cond.methodLink RL 69 yX8_swap : Cond) ∈ lwT := tm_5 (List.mem_of_getElem? (i := 175) (by decide +kernel)) rfl
theorem tw_im_X8_swap : (Cond.instanceMethod yX8_swap : Cond) ∈ lwT := tm_5 (List.mem_of_getElem? (i := 176) (by decide +kernel)) rfl
theorem tw_se_X8_swap : (Cond.selects RX8 yX8_swap yX8_swap : Cond) ∈ lwT := tm_5 (List.mem_of_getElem? (i := 177) (by decide +kernel)) rfl
theorem tw_c_X8_swap : (Cond.code yX8_swap cX8_swap 2 (some .int) : Cond) ∈ lwT := tm_5 (List.mem_of_getElem? (i := 178) (by decide +kernel)) rfl
theorem tw_ml_L_73 : (Cond.methodLink RL 73 yX8_teller : Cond) ∈ lwT := tm_5 (List.mem_of_getElem? (i := 179) (by decide +kernel)) rfl
theorem tw_im_X8_teller : (Cond.instanceMethod yX8_teller : Cond) ∈ lwT := tm_5 (List.mem_of_getElem? (i := 180) (by decide +kernel)) rfl
theorem tw_se_X8_teller : (Cond.selects RX8 yX8_teller yX8_teller : Cond) ∈ lwT := tm_5 (List.mem_of_getElem? (i := 181) (by decide +kernel)) rfl
theorem tw_c_X8_teller : (Cond.code yX8_teller cX8_teller 3 (some .int) : Cond) ∈ lwT := tm_5 (List.mem_of_getElem? (i := 182) (by decide +kernel)) rfl
theorem tw_ml_L_77 : (Cond.methodLink RL 77 yX8_paper : Cond) ∈ lwT := tm_5 (List.mem_of_getElem? (i := 183) (by decide +kernel)) rfl
theorem tw_im_X8_paper : (Cond.instanceMethod yX8_paper : Cond) ∈ lwT := tm_5 (List.mem_of_getElem? (i := 184) (by decide +kernel)) rfl
theorem tw_se_X8_paper : (Cond.selects RX8 yX8_paper yX8_paper : Cond) ∈ lwT := tm_5 (List.mem_of_getElem? (i := 185) (by decide +kernel)) rfl
theorem tw_c_X8_paper : (Cond.code yX8_paper cX8_paper 3 (some .int) : Cond) ∈ lwT := tm_5 (List.mem_of_getElem? (i := 186) (by decide +kernel)) rfl
theorem tw_ml_X8_188 : (Cond.methodLink RX8 188 yX8_isPaper : Cond) ∈ lwT := tm_5 (List.mem_of_getElem? (i := 187) (by decide +kernel)) rfl
theorem tw_im_X8_isPaper : (Cond.instanceMethod yX8_isPaper : Cond) ∈ lwT := tm_5 (List.mem_of_getElem? (i := 189) (by decide +kernel)) rfl
theorem tw_c_X8_isPaper : (Cond.code yX8_isPaper cX8_isPaper 2 (some .boolean) : Cond) ∈ lwT := tm_5 (List.mem_of_getElem? (i := 190) (by decide +kernel)) rfl
theorem tw_kl_X8_186 : (Cond.constantLong RX8 186 (6) : Cond) ∈ lwT := tm_5 (List.mem_of_getElem? (i := 191) (by decide +kernel)) rfl
theorem tw_ml_X8_191 : (Cond.methodLink RX8 191 yX8_placeOf : Cond) ∈ lwT := tm_5 (List.mem_of_getElem? (i := 192) (by decide +kernel)) rfl
theorem tw_im_X8_placeOf : (Cond.instanceMethod yX8_placeOf : Cond) ∈ lwT := tm_5 (List.mem_of_getElem? (i := 194) (by decide +kernel)) rfl
theorem tw_c_X8_placeOf : (Cond.code yX8_placeOf cX8_placeOf 4 (some .int) : Cond) ∈ lwT := tm_5 (List.mem_of_getElem? (i := 195) (by decide +kernel)) rfl
theorem tw_ml_L_81 : (Cond.methodLink RL 81 yX8_cost : Cond) ∈ lwT := tm_5 (List.mem_of_getElem? (i := 196) (by decide +kernel)) rfl
theorem tw_im_X8_cost : (Cond.instanceMethod yX8_cost : Cond) ∈ lwT := tm_5 (List.mem_of_getElem? (i := 197) (by decide +kernel)) rfl
theorem tw_se_X8_cost : (Cond.selects RX8 yX8_cost yX8_cost : Cond) ∈ lwT := tm_5 (List.mem_of_getElem? (i := 198) (by decide +kernel)) rfl
theorem tw_c_X8_cost : (Cond.code yX8_cost cX8_cost 3 (some .int) : Cond) ∈ lwT := tm_5 (List.mem_of_getElem? (i := 199) (by decide +kernel)) rfl
theorem tw_ml_L_85 : (Cond.methodLink RL 85 yX8_queue : Cond) ∈ lwT := tm_5 (List.mem_of_getElem? (i := 200) (by decide +kernel)) rfl
theorem tw_im_X8_queue : (Cond.instanceMethod yX8_queue : Cond) ∈ lwT := tm_5 (List.mem_of_getElem? (i := 201) (by decide +kernel)) rfl
theorem tw_se_X8_queue : (Cond.selects RX8 yX8_queue yX8_queue : Cond) ∈ lwT := tm_5 (List.mem_of_getElem? (i := 202) (by decide +kernel)) rfl
theorem tw_c_X8_queue : (Cond.code yX8_queue cX8_queue 2 (some .int) : Cond) ∈ lwT := tm_5 (List.mem_of_getElem? (i := 203) (by decide +kernel)) rfl
theorem tw_ml_L_89 : (Cond.methodLink RL 89 yX8_ahead : Cond) ∈ lwT := tm_5 (List.mem_of_getElem? (i := 204) (by decide +kernel)) rfl
theorem tw_im_X8_ahead : (Cond.instanceMethod yX8_ahead : Cond) ∈ lwT := tm_5 (List.mem_of_getElem? (i := 205) (by decide +kernel)) rfl
theorem tw_se_X8_ahead : (Cond.selects RX8 yX8_ahead yX8_ahead : Cond) ∈ lwT := tm_5 (List.mem_of_getElem? (i := 206) (by decide +kernel)) rfl
theorem tw_c_X8_ahead : (Cond.code yX8_ahead cX8_ahead 3 (some .int) : Cond) ∈ lwT := tm_5 (List.mem_of_getElem? (i := 207) (by decide +kernel)) rfl
theorem tw_kl_X8_197 : (Cond.constantLong RX8 197 (60) : Cond) ∈ lwT := tm_5 (List.mem_of_getElem? (i := 208) (by decide +kernel)) rfl
theorem tw_ml_X8_199 : (Cond.methodLink RX8 199 yX8_layTried : Cond) ∈ lwT := tm_5 (List.mem_of_getElem? (i := 209) (by decide +kernel)) rfl
theorem tw_im_X8_layTried : (Cond.instanceMethod yX8_layTried : Cond) ∈ lwT := tm_5 (List.mem_of_getElem? (i := 211) (by decide +kernel)) rfl
theorem tw_c_X8_layTried : (Cond.code yX8_layTried cX8_layTried 2 none : Cond) ∈ lwT := tm_5 (List.mem_of_getElem? (i := 212) (by decide +kernel)) rfl
theorem tw_ml_X8_194 : (Cond.methodLink RX8 194 yX8_passes : Cond) ∈ lwT := tm_5 (List.mem_of_getElem? (i := 213) (by decide +kernel)) rfl
theorem tw_im_X8_passes : (Cond.instanceMethod yX8_passes : Cond) ∈ lwT := tm_5 (List.mem_of_getElem? (i := 215) (by decide +kernel)) rfl
theorem tw_c_X8_passes : (Cond.code yX8_passes cX8_passes 4 none : Cond) ∈ lwT := tm_5 (List.mem_of_getElem? (i := 216) (by decide +kernel)) rfl
theorem tw_ml_L_93 : (Cond.methodLink RL 93 yX8_waiting : Cond) ∈ lwT := tm_5 (List.mem_of_getElem? (i := 217) (by decide +kernel)) rfl
theorem tw_im_X8_waiting : (Cond.instanceMethod yX8_waiting : Cond) ∈ lwT := tm_5 (List.mem_of_getElem? (i := 218) (by decide +kernel)) rfl
theorem tw_se_X8_waiting : (Cond.selects RX8 yX8_waiting yX8_waiting : Cond) ∈ lwT := tm_5 (List.mem_of_getElem? (i := 219) (by decide +kernel)) rfl
theorem tw_c_X8_waiting : (Cond.code yX8_waiting cX8_waiting 4 (some .int) : Cond) ∈ lwT := tm_5 (List.mem_of_getElem? (i := 220) (by decide +kernel)) rfl
theorem tw_ml_L_97 : (Cond.methodLink RL 97 yX8_server : Cond) ∈ lwT := tm_5 (List.mem_of_getElem? (i := 221) (by decide +kernel)) rfl
theorem tw_im_X8_server : (Cond.instanceMethod yX8_server : Cond) ∈ lwT := tm_5 (List.mem_of_getElem? (i := 222) (by decide +kernel)) rfl
theorem tw_se_X8_server : (Cond.selects RX8 yX8_server yX8_server : Cond) ∈ lwT := tm_5 (List.mem_of_getElem? (i := 223) (by decide +kernel)) rfl
theorem tw_c_X8_server : (Cond.code yX8_server cX8_server 3 (some .int) : Cond) ∈ lwT := tm_5 (List.mem_of_getElem? (i := 224) (by decide +kernel)) rfl
theorem tw_ml_L_101 : (Cond.methodLink RL 101 yX8_holds : Cond) ∈ lwT := tm_5 (List.mem_of_getElem? (i := 225) (by decide +kernel)) rfl
theorem tw_im_X8_holds : (Cond.instanceMethod yX8_holds : Cond) ∈ lwT := tm_5 (List.mem_of_getElem? (i := 226) (by decide +kernel)) rfl
theorem tw_se_X8_holds : (Cond.selects RX8 yX8_holds yX8_holds : Cond) ∈ lwT := tm_5 (List.mem_of_getElem? (i := 227) (by decide +kernel)) rfl
theorem tw_c_X8_holds : (Cond.code yX8_holds cX8_holds 2 (some .int) : Cond) ∈ lwT := tm_5 (List.mem_of_getElem? (i := 228) (by decide +kernel)) rfl
theorem tw_ml_L_105 : (Cond.methodLink RL 105 yX8_infant : Cond) ∈ lwT := tm_5 (List.mem_of_getElem? (i := 229) (by decide +kernel)) rfl
theorem tw_im_X8_infant : (Cond.instanceMethod yX8_infant : Cond) ∈ lwT := tm_5 (List.mem_of_getElem? (i := 230) (by decide +kernel)) rfl
theorem tw_se_X8_infant : (Cond.selects RX8 yX8_infant yX8_infant : Cond) ∈ lwT := tm_5 (List.mem_of_getElem? (i := 231) (by decide +kernel)) rfl
theorem tw_c_X8_infant : (Cond.code yX8_infant cX8_infant 3 (some .int) : Cond) ∈ lwT := tm_5 (List.mem_of_getElem? (i := 232) (by decide +kernel)) rfl
theorem tw_ml_L_109 : (Cond.methodLink RL 109 yX8_order : Cond) ∈ lwT := tm_5 (List.mem_of_getElem? (i := 233) (by decide +kernel)) rfl
theorem tw_im_X8_order : (Cond.instanceMethod yX8_order : Cond) ∈ lwT := tm_5 (List.mem_of_getElem? (i := 234) (by decide +kernel)) rfl
theorem tw_se_X8_order : (Cond.selects RX8 yX8_order yX8_order : Cond) ∈ lwT := tm_5 (List.mem_of_getElem? (i := 235) (by decide +kernel)) rfl
theorem tw_c_X8_order : (Cond.code yX8_order cX8_order 9 (some .int) : Cond) ∈ lwT := tm_5 (List.mem_of_getElem? (i := 236) (by decide +kernel)) rfl
theorem tw_ml_X8_205 : (Cond.methodLink RX8 205 yX8_layLine : Cond) ∈ lwT := tm_5 (List.mem_of_getElem? (i := 237) (by decide +kernel)) rfl
theorem tw_im_X8_layLine : (Cond.instanceMethod yX8_layLine : Cond) ∈ lwT := tm_5 (List.mem_of_getElem? (i := 239) (by decide +kernel)) rfl
theorem tw_c_X8_layLine : (Cond.code yX8_layLine cX8_layLine 3 none : Cond) ∈ lwT := tm_6 (List.mem_of_getElem? (i := 0) (by decide +kernel)) rfl
theorem tw_ml_X8_208 : (Cond.methodLink RX8 208 yX8_leftAt : Cond) ∈ lwT := tm_6 (List.mem_of_getElem? (i := 1) (by decide +kernel)) rfl
theorem tw_im_X8_leftAt : (Cond.instanceMethod yX8_leftAt : Cond) ∈ lwT := tm_6 (List.mem_of_getElem? (i := 3) (by decide +kernel)) rfl
theorem tw_c_X8_leftAt : (Cond.code yX8_leftAt cX8_leftAt 4 (some .int) : Cond) ∈ lwT := tm_6 (List.mem_of_getElem? (i := 4) (by decide +kernel)) rfl
theorem tw_ml_X8_211 : (Cond.methodLink RX8 211 yX8_nextLine : Cond) ∈ lwT := tm_6 (List.mem_of_getElem? (i := 5) (by decide +kernel)) rfl
theorem tw_im_X8_nextLine : (Cond.instanceMethod yX8_nextLine : Cond) ∈ lwT := tm_6 (List.mem_of_getElem? (i := 7) (by decide +kernel)) rfl
theorem tw_c_X8_nextLine : (Cond.code yX8_nextLine cX8_nextLine 5 (some .boolean) : Cond) ∈ lwT := tm_6 (List.mem_of_getElem? (i := 8) (by decide +kernel)) rfl
theorem tw_ml_X8_202 : (Cond.methodLink RX8 202 yX8_swapLine : Cond) ∈ lwT := tm_6 (List.mem_of_getElem? (i := 9) (by decide +kernel)) rfl
theorem tw_im_X8_swapLine : (Cond.instanceMethod yX8_swapLine : Cond) ∈ lwT := tm_6 (List.mem_of_getElem? (i := 11) (by decide +kernel)) rfl
theorem tw_c_X8_swapLine : (Cond.code yX8_swapLine cX8_swapLine 4 none : Cond) ∈ lwT := tm_6 (List.mem_of_getElem? (i := 12) (by decide +kernel)) rfl
theorem tw_ml_L_113 : (Cond.methodLink RL 113 yX8_share : Cond) ∈ lwT := tm_6 (List.mem_of_getElem? (i := 13) (by decide +kernel)) rfl
theorem tw_im_X8_share : (Cond.instanceMethod yX8_share : Cond) ∈ lwT := tm_6 (List.mem_of_getElem? (i := 14) (by decide +kernel)) rfl
theorem tw_se_X8_share : (Cond.selects RX8 yX8_share yX8_share : Cond) ∈ lwT := tm_6 (List.mem_of_getElem? (i := 15) (by decide +kernel)) rfl
theorem tw_c_X8_share : (Cond.code yX8_share cX8_share 6 (some .int) : Cond) ∈ lwT := tm_6 (List.mem_of_getElem? (i := 16) (by decide +kernel)) rfl
theorem tw_ml_X8_214 : (Cond.methodLink RX8 214 yX8_servesBy : Cond) ∈ lwT := tm_6 (List.mem_of_getElem? (i := 17) (by decide +kernel)) rfl
theorem tw_im_X8_servesBy : (Cond.instanceMethod yX8_servesBy : Cond) ∈ lwT := tm_6 (List.mem_of_getElem? (i := 19) (by decide +kernel)) rfl
theorem tw_c_X8_servesBy : (Cond.code yX8_servesBy cX8_servesBy 6 (some .boolean) : Cond) ∈ lwT := tm_6 (List.mem_of_getElem? (i := 20) (by decide +kernel)) rfl
theorem tw_ml_X8_217 : (Cond.methodLink RX8 217 yX8_poorestAt : Cond) ∈ lwT := tm_6 (List.mem_of_getElem? (i := 21) (by decide +kernel)) rfl
theorem tw_im_X8_poorestAt : (Cond.instanceMethod yX8_poorestAt : Cond) ∈ lwT := tm_6 (List.mem_of_getElem? (i := 23) (by decide +kernel)) rfl
theorem tw_c_X8_poorestAt : (Cond.code yX8_poorestAt cX8_poorestAt 4 (some .int) : Cond) ∈ lwT := tm_6 (List.mem_of_getElem? (i := 24) (by decide +kernel)) rfl
theorem tw_ml_L_117 : (Cond.methodLink RL 117 yX8_open : Cond) ∈ lwT := tm_6 (List.mem_of_getElem? (i := 25) (by decide +kernel)) rfl
theorem tw_im_X8_open : (Cond.instanceMethod yX8_open : Cond) ∈ lwT := tm_6 (List.mem_of_getElem? (i := 26) (by decide +kernel)) rfl
theorem tw_se_X8_open : (Cond.selects RX8 yX8_open yX8_open : Cond) ∈ lwT := tm_6 (List.mem_of_getElem? (i := 27) (by decide +kernel)) rfl
theorem tw_c_X8_open : (Cond.code yX8_open cX8_open 4 (some .int) : Cond) ∈ lwT := tm_6 (List.mem_of_getElem? (i := 28) (by decide +kernel)) rfl
theorem tw_ml_X8_220 : (Cond.methodLink RX8 220 yX8_bits : Cond) ∈ lwT := tm_6 (List.mem_of_getElem? (i := 29) (by decide +kernel)) rfl
theorem tw_st_X8_bits : (Cond.static yX8_bits : Cond) ∈ lwT := tm_6 (List.mem_of_getElem? (i := 30) (by decide +kernel)) rfl
theorem tw_c_X8_bits : (Cond.code yX8_bits cX8_bits 3 (some .int) : Cond) ∈ lwT := tm_6 (List.mem_of_getElem? (i := 31) (by decide +kernel)) rfl
theorem tw_ml_L_121 : (Cond.methodLink RL 121 yX8_cheap : Cond) ∈ lwT := tm_6 (List.mem_of_getElem? (i := 32) (by decide +kernel)) rfl
theorem tw_im_X8_cheap : (Cond.instanceMethod yX8_cheap : Cond) ∈ lwT := tm_6 (List.mem_of_getElem? (i := 33) (by decide +kernel)) rfl
theorem tw_se_X8_cheap : (Cond.selects RX8 yX8_cheap yX8_cheap : Cond) ∈ lwT := tm_6 (List.mem_of_getElem? (i := 34) (by decide +kernel)) rfl
theorem tw_c_X8_cheap : (Cond.code yX8_cheap cX8_cheap 5 (some .int) : Cond) ∈ lwT := tm_6 (List.mem_of_getElem? (i := 35) (by decide +kernel)) rfl
theorem tw_ml_L_125 : (Cond.methodLink RL 125 yX8_most : Cond) ∈ lwT := tm_6 (List.mem_of_getElem? (i := 36) (by decide +kernel)) rfl
theorem tw_im_X8_most : (Cond.instanceMethod yX8_most : Cond) ∈ lwT := tm_6 (List.mem_of_getElem? (i := 37) (by decide +kernel)) rfl
theorem tw_se_X8_most : (Cond.selects RX8 yX8_most yX8_most : Cond) ∈ lwT := tm_6 (List.mem_of_getElem? (i := 38) (by decide +kernel)) rfl
theorem tw_c_X8_most : (Cond.code yX8_most cX8_most 3 (some .int) : Cond) ∈ lwT := tm_6 (List.mem_of_getElem? (i := 39) (by decide +kernel)) rfl
theorem tw_ml_L_129 : (Cond.methodLink RL 129 yX8_twins : Cond) ∈ lwT := tm_6 (List.mem_of_getElem? (i := 40) (by decide +kernel)) rfl
theorem tw_im_X8_twins : (Cond.instanceMethod yX8_twins : Cond) ∈ lwT := tm_6 (List.mem_of_getElem? (i := 41) (by decide +kernel)) rfl
theorem tw_se_X8_twins : (Cond.selects RX8 yX8_twins yX8_twins : Cond) ∈ lwT := tm_6 (List.mem_of_getElem? (i := 42) (by decide +kernel)) rfl
theorem tw_c_X8_twins : (Cond.code yX8_twins cX8_twins 7 (some .int) : Cond) ∈ lwT := tm_6 (List.mem_of_getElem? (i := 43) (by decide +kernel)) rfl
theorem tw_ml_L_134 : (Cond.methodLink RL 134 yX8_who : Cond) ∈ lwT := tm_6 (List.mem_of_getElem? (i := 44) (by decide +kernel)) rfl
theorem tw_im_X8_who : (Cond.instanceMethod yX8_who : Cond) ∈ lwT := tm_6 (List.mem_of_getElem? (i := 45) (by decide +kernel)) rfl
theorem tw_se_X8_who : (Cond.selects RX8 yX8_who yX8_who : Cond) ∈ lwT := tm_6 (List.mem_of_getElem? (i := 46) (by decide +kernel)) rfl
theorem tw_c_X8_who : (Cond.code yX8_who cX8_who 10 (some .int) : Cond) ∈ lwT := tm_6 (List.mem_of_getElem? (i := 47) (by decide +kernel)) rfl
theorem tw_kl_X8_223 : (Cond.constantLong RX8 223 (12) : Cond) ∈ lwT := tm_6 (List.mem_of_getElem? (i := 48) (by decide +kernel)) rfl
theorem tw_ml_X8_225 : (Cond.methodLink RX8 225 yX8_noItems : Cond) ∈ lwT := tm_6 (List.mem_of_getElem? (i := 49) (by decide +kernel)) rfl
theorem tw_im_X8_noItems : (Cond.instanceMethod yX8_noItems : Cond) ∈ lwT := tm_6 (List.mem_of_getElem? (i := 51) (by decide +kernel)) rfl
theorem tw_c_X8_noItems : (Cond.code yX8_noItems cX8_noItems 4 (some .int) : Cond) ∈ lwT := tm_6 (List.mem_of_getElem? (i := 52) (by decide +kernel)) rfl
theorem tw_ml_X8_228 : (Cond.methodLink RX8 228 yX8_isSo : Cond) ∈ lwT := tm_6 (List.mem_of_getElem? (i := 53) (by decide +kernel)) rfl
theorem tw_im_X8_isSo : (Cond.instanceMethod yX8_isSo : Cond) ∈ lwT := tm_6 (List.mem_of_getElem? (i := 55) (by decide +kernel)) rfl
theorem tw_c_X8_isSo : (Cond.code yX8_isSo cX8_isSo 6 (some .boolean) : Cond) ∈ lwT := tm_6 (List.mem_of_getElem? (i := 56) (by decide +kernel)) rfl
theorem tw_ml_L_139 : (Cond.methodLink RL 139 yX8_sums : Cond) ∈ lwT := tm_6 (List.mem_of_getElem? (i := 57) (by decide +kernel)) rfl
theorem tw_im_X8_sums : (Cond.instanceMethod yX8_sums : Cond) ∈ lwT := tm_6 (List.mem_of_getElem? (i := 58) (by decide +kernel)) rfl
theorem tw_se_X8_sums : (Cond.selects RX8 yX8_sums yX8_sums : Cond) ∈ lwT := tm_6 (List.mem_of_getElem? (i := 59) (by decide +kernel)) rfl
theorem tw_c_X8_sums : (Cond.code yX8_sums cX8_sums 8 (some .int) : Cond) ∈ lwT := tm_6 (List.mem_of_getElem? (i := 60) (by decide +kernel)) rfl
theorem tw_ml_L_143 : (Cond.methodLink RL 143 yX8_stayed : Cond) ∈ lwT := tm_6 (List.mem_of_getElem? (i := 61) (by decide +kernel)) rfl
theorem tw_im_X8_stayed : (Cond.instanceMethod yX8_stayed : Cond) ∈ lwT := tm_6 (List.mem_of_getElem? (i := 62) (by decide +kernel)) rfl
theorem tw_se_X8_stayed : (Cond.selects RX8 yX8_stayed yX8_stayed : Cond) ∈ lwT := tm_6 (List.mem_of_getElem? (i := 63) (by decide +kernel)) rfl
theorem tw_c_X8_stayed : (Cond.code yX8_stayed cX8_stayed 9 (some .int) : Cond) ∈ lwT := tm_6 (List.mem_of_getElem? (i := 64) (by decide +kernel)) rfl
theorem tw_ml_X8_232 : (Cond.methodLink RX8 232 yX8_leaveOut : Cond) ∈ lwT := tm_6 (List.mem_of_getElem? (i := 65) (by decide +kernel)) rfl
theorem tw_im_X8_leaveOut : (Cond.instanceMethod yX8_leaveOut : Cond) ∈ lwT := tm_6 (List.mem_of_getElem? (i := 67) (by decide +kernel)) rfl
theorem tw_c_X8_leaveOut : (Cond.code yX8_leaveOut cX8_leaveOut 4 none : Cond) ∈ lwT := tm_6 (List.mem_of_getElem? (i := 68) (by decide +kernel)) rfl
theorem tw_ml_L_148 : (Cond.methodLink RL 148 yX8_away : Cond) ∈ lwT := tm_6 (List.mem_of_getElem? (i := 69) (by decide +kernel)) rfl
theorem tw_im_X8_away : (Cond.instanceMethod yX8_away : Cond) ∈ lwT := tm_6 (List.mem_of_getElem? (i := 70) (by decide +kernel)) rfl
theorem tw_se_X8_away : (Cond.selects RX8 yX8_away yX8_away : Cond) ∈ lwT := tm_6 (List.mem_of_getElem? (i := 71) (by decide +kernel)) rfl
theorem tw_c_X8_away : (Cond.code yX8_away cX8_away 14 (some .long) : Cond) ∈ lwT := tm_6 (List.mem_of_getElem? (i := 72) (by decide +kernel)) rfl
theorem tw_kl_X8_235 : (Cond.constantLong RX8 235 (-1000002) : Cond) ∈ lwT := tm_6 (List.mem_of_getElem? (i := 73) (by decide +kernel)) rfl
theorem tw_kl_X8_237 : (Cond.constantLong RX8 237 (10) : Cond) ∈ lwT := tm_6 (List.mem_of_getElem? (i := 74) (by decide +kernel)) rfl
theorem tw_kl_X8_239 : (Cond.constantLong RX8 239 (-1000001) : Cond) ∈ lwT := tm_6 (List.mem_of_getElem? (i := 75) (by decide +kernel)) rfl
theorem tw_ml_L_152 : (Cond.methodLink RL 152 yX8_drawn : Cond) ∈ lwT := tm_6 (List.mem_of_getElem? (i := 76) (by decide +kernel)) rfl
theorem tw_im_X8_drawn : (Cond.instanceMethod yX8_drawn : Cond) ∈ lwT := tm_6 (List.mem_of_getElem? (i := 77) (by decide +kernel)) rfl
theorem tw_se_X8_drawn : (Cond.selects RX8 yX8_drawn yX8_drawn : Cond) ∈ lwT := tm_6 (List.mem_of_getElem? (i := 78) (by decide +kernel)) rfl
theorem tw_c_X8_drawn : (Cond.code yX8_drawn cX8_drawn 7 (some .int) : Cond) ∈ lwT := tm_6 (List.mem_of_getElem? (i := 79) (by decide +kernel)) rfl
theorem tw_kl_X8_241 : (Cond.constantLong RX8 241 (999999) : Cond) ∈ lwT := tm_6 (List.mem_of_getElem? (i := 80) (by decide +kernel)) rfl
theorem tw_kl_X8_243 : (Cond.constantLong RX8 243 (16807) : Cond) ∈ lwT := tm_6 (List.mem_of_getElem? (i := 81) (by decide +kernel)) rfl
theorem tw_kl_X8_245 : (Cond.constantLong RX8 245 (2147483647) : Cond) ∈ lwT := tm_6 (List.mem_of_getElem? (i := 82) (by decide +kernel)) rfl
theorem tw_kl_X8_247 : (Cond.constantLong RX8 247 (3) : Cond) ∈ lwT := tm_6 (List.mem_of_getElem? (i := 83) (by decide +kernel)) rfl
theorem tw_ml_L_156 : (Cond.methodLink RL 156 yX8_image : Cond) ∈ lwT := tm_6 (List.mem_of_getElem? (i := 84) (by decide +kernel)) rfl
theorem tw_im_X8_image : (Cond.instanceMethod yX8_image : Cond) ∈ lwT := tm_6 (List.mem_of_getElem? (i := 85) (by decide +kernel)) rfl
theorem tw_se_X8_image : (Cond.selects RX8 yX8_image yX8_image : Cond) ∈ lwT := tm_6 (List.mem_of_getElem? (i := 86) (by decide +kernel)) rfl
theorem tw_c_X8_image : (Cond.code yX8_image cX8_image 2 (some .int) : Cond) ∈ lwT := tm_6 (List.mem_of_getElem? (i := 87) (by decide +kernel)) rfl
theorem tw_ml_L_160 : (Cond.methodLink RL 160 yX8_restore : Cond) ∈ lwT := tm_6 (List.mem_of_getElem? (i := 88) (by decide +kernel)) rfl
theorem tw_im_X8_restore : (Cond.instanceMethod yX8_restore : Cond) ∈ lwT := tm_6 (List.mem_of_getElem? (i := 89) (by decide +kernel)) rfl
theorem tw_se_X8_restore : (Cond.selects RX8 yX8_restore yX8_restore : Cond) ∈ lwT := tm_6 (List.mem_of_getElem? (i := 90) (by decide +kernel)) rfl
theorem tw_c_X8_restore : (Cond.code yX8_restore cX8_restore 2 (some .int) : Cond) ∈ lwT := tm_6 (List.mem_of_getElem? (i := 91) (by decide +kernel)) rfl
theorem tw_ml_L_164 : (Cond.methodLink RL 164 yX8_kind : Cond) ∈ lwT := tm_6 (List.mem_of_getElem? (i := 92) (by decide +kernel)) rfl
theorem tw_im_X8_kind : (Cond.instanceMethod yX8_kind : Cond) ∈ lwT := tm_6 (List.mem_of_getElem? (i := 93) (by decide +kernel)) rfl
theorem tw_se_X8_kind : (Cond.selects RX8 yX8_kind yX8_kind : Cond) ∈ lwT := tm_6 (List.mem_of_getElem? (i := 94) (by decide +kernel)) rfl
theorem tw_c_X8_kind : (Cond.code yX8_kind cX8_kind 2 (some .int) : Cond) ∈ lwT := tm_6 (List.mem_of_getElem? (i := 95) (by decide +kernel)) rfl
theorem tw_ml_L_168 : (Cond.methodLink RL 168 yX8_as : Cond) ∈ lwT := tm_6 (List.mem_of_getElem? (i := 96) (by decide +kernel)) rfl
theorem tw_im_X8_as : (Cond.instanceMethod yX8_as : Cond) ∈ lwT := tm_6 (List.mem_of_getElem? (i := 97) (by decide +kernel)) rfl
theorem tw_se_X8_as : (Cond.selects RX8 yX8_as yX8_as : Cond) ∈ lwT := tm_6 (List.mem_of_getElem? (i := 98) (by decide +kernel)) rfl
theorem tw_c_X8_as : (Cond.code yX8_as cX8_as 3 (some .int) : Cond) ∈ lwT := tm_6 (List.mem_of_getElem? (i := 99) (by decide +kernel)) rfl
theorem tw_kl_X8_249 : (Cond.constantLong RX8 249 (5) : Cond) ∈ lwT := tm_6 (List.mem_of_getElem? (i := 100) (by decide +kernel)) rfl
theorem tw_ml_X8_251 : (Cond.methodLink RX8 251 yX8_isOf : Cond) ∈ lwT := tm_6 (List.mem_of_getElem? (i := 101) (by decide +kernel)) rfl
theorem tw_im_X8_isOf : (Cond.instanceMethod yX8_isOf : Cond) ∈ lwT := tm_6 (List.mem_of_getElem? (i := 103) (by decide +kernel)) rfl
theorem tw_c_X8_isOf : (Cond.code yX8_isOf cX8_isOf 4 (some .boolean) : Cond) ∈ lwT := tm_6 (List.mem_of_getElem? (i := 104) (by decide +kernel)) rfl
theorem tw_ml_L_172 : (Cond.methodLink RL 172 yX8_ask : Cond) ∈ lwT := tm_6 (List.mem_of_getElem? (i := 105) (by decide +kernel)) rfl
theorem tw_im_X8_ask : (Cond.instanceMethod yX8_ask : Cond) ∈ lwT := tm_6 (List.mem_of_getElem? (i := 106) (by decide +kernel)) rfl
theorem tw_se_X8_ask : (Cond.selects RX8 yX8_ask yX8_ask : Cond) ∈ lwT := tm_6 (List.mem_of_getElem? (i := 107) (by decide +kernel)) rfl
theorem tw_c_X8_ask : (Cond.code yX8_ask cX8_ask 3 (some .int) : Cond) ∈ lwT := tm_6 (List.mem_of_getElem? (i := 108) (by decide +kernel)) rfl
theorem tw_ml_X8_278 : (Cond.methodLink RX8 278 yX8_sizeOf : Cond) ∈ lwT := tm_6 (List.mem_of_getElem? (i := 109) (by decide +kernel)) rfl
theorem tw_im_X8_sizeOf : (Cond.instanceMethod yX8_sizeOf : Cond) ∈ lwT := tm_6 (List.mem_of_getElem? (i := 111) (by decide +kernel)) rfl
theorem tw_c_X8_sizeOf : (Cond.code yX8_sizeOf cX8_sizeOf 2 (some .int) : Cond) ∈ lwT := tm_6 (List.mem_of_getElem? (i := 112) (by decide +kernel)) rfl
theorem tw_ml_X8_257 : (Cond.methodLink RX8 257 yX8_begin : Cond) ∈ lwT := tm_6 (List.mem_of_getElem? (i := 113) (by decide +kernel)) rfl
theorem tw_im_X8_begin : (Cond.instanceMethod yX8_begin : Cond) ∈ lwT := tm_6 (List.mem_of_getElem? (i := 115) (by decide +kernel)) rfl
theorem tw_c_X8_begin : (Cond.code yX8_begin cX8_begin 2 none : Cond) ∈ lwT := tm_6 (List.mem_of_getElem? (i := 116) (by decide +kernel)) rfl
theorem tw_ml_X8_266 : (Cond.methodLink RX8 266 yX8_carefulSize : Cond) ∈ lwT := tm_6 (List.mem_of_getElem? (i := 117) (by decide +kernel)) rfl
theorem tw_im_X8_carefulSize : (Cond.instanceMethod yX8_carefulSize : Cond) ∈ lwT := tm_6 (List.mem_of_getElem? (i := 119) (by decide +kernel)) rfl
theorem tw_c_X8_carefulSize : (Cond.code yX8_carefulSize cX8_carefulSize 3 (some .int) : Cond) ∈ lwT := tm_6 (List.mem_of_getElem? (i := 120) (by decide +kernel)) rfl
theorem tw_ml_X8_260 : (Cond.methodLink RX8 260 yX8_lentSize : Cond) ∈ lwT := tm_6 (List.mem_of_getElem? (i := 121) (by decide +kernel)) rfl
theorem tw_im_X8_lentSize : (Cond.instanceMethod yX8_lentSize : Cond) ∈ lwT := tm_6 (List.mem_of_getElem? (i := 123) (by decide +kernel)) rfl
theorem tw_c_X8_lentSize : (Cond.code yX8_lentSize cX8_lentSize 2 (some .int) : Cond) ∈ lwT := tm_6 (List.mem_of_getElem? (i := 124) (by decide +kernel)) rfl
theorem tw_ml_X8_263 : (Cond.methodLink RX8 263 yX8_mark : Cond) ∈ lwT := tm_6 (List.mem_of_getElem? (i := 125) (by decide +kernel)) rfl
theorem tw_im_X8_mark : (Cond.instanceMethod yX8_mark : Cond) ∈ lwT := tm_6 (List.mem_of_getElem? (i := 127) (by decide +kernel)) rfl
theorem tw_c_X8_mark : (Cond.code yX8_mark cX8_mark 2 (some .int) : Cond) ∈ lwT := tm_6 (List.mem_of_getElem? (i := 128) (by decide +kernel)) rfl
theorem tw_ml_X8_275 : (Cond.methodLink RX8 275 yX8_carefulMark : Cond) ∈ lwT := tm_6 (List.mem_of_getElem? (i := 129) (by decide +kernel)) rfl
theorem tw_im_X8_carefulMark : (Cond.instanceMethod yX8_carefulMark : Cond) ∈ lwT := tm_6 (List.mem_of_getElem? (i := 131) (by decide +kernel)) rfl
theorem tw_c_X8_carefulMark : (Cond.code yX8_carefulMark cX8_carefulMark 2 (some .int) : Cond) ∈ lwT := tm_6 (List.mem_of_getElem? (i := 132) (by decide +kernel)) rfl
theorem tw_ml_X8_272 : (Cond.methodLink RX8 272 yX8_lentMark : Cond) ∈ lwT := tm_6 (List.mem_of_getElem? (i := 133) (by decide +kernel)) rfl
theorem tw_im_X8_lentMark : (Cond.instanceMethod yX8_lentMark : Cond) ∈ lwT := tm_6 (List.mem_of_getElem? (i := 135) (by decide +kernel)) rfl
theorem tw_c_X8_lentMark : (Cond.code yX8_lentMark cX8_lentMark 2 (some .int) : Cond) ∈ lwT := tm_6 (List.mem_of_getElem? (i := 136) (by decide +kernel)) rfl
theorem tw_ml_X8_269 : (Cond.methodLink RX8 269 yX8_youngSize : Cond) ∈ lwT := tm_6 (List.mem_of_getElem? (i := 137) (by decide +kernel)) rfl
theorem tw_im_X8_youngSize : (Cond.instanceMethod yX8_youngSize : Cond) ∈ lwT := tm_6 (List.mem_of_getElem? (i := 139) (by decide +kernel)) rfl
theorem tw_c_X8_youngSize : (Cond.code yX8_youngSize cX8_youngSize 2 (some .int) : Cond) ∈ lwT := tm_6 (List.mem_of_getElem? (i := 140) (by decide +kernel)) rfl
theorem tw_ml_X8_281 : (Cond.methodLink RX8 281 yX8_youngMark : Cond) ∈ lwT := tm_6 (List.mem_of_getElem? (i := 141) (by decide +kernel)) rfl
theorem tw_im_X8_youngMark : (Cond.instanceMethod yX8_youngMark : Cond) ∈ lwT := tm_6 (List.mem_of_getElem? (i := 143) (by decide +kernel)) rfl
theorem tw_c_X8_youngMark : (Cond.code yX8_youngMark cX8_youngMark 3 (some .int) : Cond) ∈ lwT := tm_6 (List.mem_of_getElem? (i := 144) (by decide +kernel)) rfl
theorem tw_ml_L_176 : (Cond.methodLink RL 176 yX8_trace : Cond) ∈ lwT := tm_6 (List.mem_of_getElem? (i := 145) (by decide +kernel)) rfl
theorem tw_im_X8_trace : (Cond.instanceMethod yX8_trace : Cond) ∈ lwT := tm_6 (List.mem_of_getElem? (i := 146) (by decide +kernel)) rfl
theorem tw_se_X8_trace : (Cond.selects RX8 yX8_trace yX8_trace : Cond) ∈ lwT := tm_6 (List.mem_of_getElem? (i := 147) (by decide +kernel)) rfl
theorem tw_c_X8_trace : (Cond.code yX8_trace cX8_trace 2 (some .int) : Cond) ∈ lwT := tm_6 (List.mem_of_getElem? (i := 148) (by decide +kernel)) rfl
theorem tw_ml_L_180 : (Cond.methodLink RL 180 yX8_count : Cond) ∈ lwT := tm_6 (List.mem_of_getElem? (i := 149) (by decide +kernel)) rfl
theorem tw_im_X8_count : (Cond.instanceMethod yX8_count : Cond) ∈ lwT := tm_6 (List.mem_of_getElem? (i := 150) (by decide +kernel)) rfl
theorem tw_se_X8_count : (Cond.selects RX8 yX8_count yX8_count : Cond) ∈ lwT := tm_6 (List.mem_of_getElem? (i := 151) (by decide +kernel)) rfl
theorem tw_c_X8_count : (Cond.code yX8_count cX8_count 4 (some .int) : Cond) ∈ lwT := tm_6 (List.mem_of_getElem? (i := 152) (by decide +kernel)) rfl
theorem tw_ml_L_184 : (Cond.methodLink RL 184 yX8_status : Cond) ∈ lwT := tm_6 (List.mem_of_getElem? (i := 153) (by decide +kernel)) rfl
theorem tw_im_X8_status : (Cond.instanceMethod yX8_status : Cond) ∈ lwT := tm_6 (List.mem_of_getElem? (i := 154) (by decide +kernel)) rfl
theorem tw_se_X8_status : (Cond.selects RX8 yX8_status yX8_status : Cond) ∈ lwT := tm_6 (List.mem_of_getElem? (i := 155) (by decide +kernel)) rfl
theorem tw_c_X8_status : (Cond.code yX8_status cX8_status 1 (some .int) : Cond) ∈ lwT := tm_6 (List.mem_of_getElem? (i := 156) (by decide +kernel)) rfl
theorem tw_se_X7_found : (Cond.selects RX7 yX7_found yX7_found : Cond) ∈ lwT := ts_0 (i := 0) (by decide +kernel) rfl
theorem tw_se_X7_fine : (Cond.selects RX7 yX7_fine yX7_fine : Cond) ∈ lwT := ts_0 (i := 1) (by decide +kernel) rfl
theorem tw_se_X6_readLaw : (Cond.selects RX6 yX6_readLaw yX6_readLaw : Cond) ∈ lwT := ts_0 (i := 2) (by decide +kernel) rfl
theorem tw_se_X6_takeByte : (Cond.selects RX6 yX6_takeByte yX6_takeByte : Cond) ∈ lwT := ts_0 (i := 3) (by decide +kernel) rfl
theorem tw_se_X6_next : (Cond.selects RX6 yX6_next yX6_next : Cond) ∈ lwT := ts_0 (i := 4) (by decide +kernel) rfl
theorem tw_se_X6_byteAt : (Cond.selects RX6 yX6_byteAt yX6_byteAt : Cond) ∈ lwT := ts_0 (i := 5) (by decide +kernel) rfl
theorem tw_se_X6_takeNumber : (Cond.selects RX6 yX6_takeNumber yX6_takeNumber : Cond) ∈ lwT := ts_0 (i := 6) (by decide +kernel) rfl
theorem tw_se_X6_isFigure : (Cond.selects RX6 yX6_isFigure yX6_isFigure : Cond) ∈ lwT := ts_0 (i := 7) (by decide +kernel) rfl
theorem tw_se_X6_readTellers : (Cond.selects RX6 yX6_readTellers yX6_readTellers : Cond) ∈ lwT := ts_0 (i := 8) (by decide +kernel) rfl
theorem tw_se_X6_readPapers : (Cond.selects RX6 yX6_readPapers yX6_readPapers : Cond) ∈ lwT := ts_0 (i := 9) (by decide +kernel) rfl
theorem tw_se_X7_standAs : (Cond.selects RX7 yX7_standAs yX7_standAs : Cond) ∈ lwT := ts_0 (i := 10) (by decide +kernel) rfl
theorem tw_se_X7_beginAct : (Cond.selects RX7 yX7_beginAct yX7_beginAct : Cond) ∈ lwT := ts_0 (i := 11) (by decide +kernel) rfl
theorem tw_se_X1_drawerOf : (Cond.selects RX1 yX1_drawerOf yX1_drawerOf : Cond) ∈ lwT := ts_0 (i := 12) (by decide +kernel) rfl
theorem tw_se_X1_poorestOpen : (Cond.selects RX1 yX1_poorestOpen yX1_poorestOpen : Cond) ∈ lwT := ts_0 (i := 13) (by decide +kernel) rfl
theorem tw_se_X2_ghostPaidAhead : (Cond.selects RX2 yX2_ghostPaidAhead yX2_ghostPaidAhead : Cond) ∈ lwT := ts_0 (i := 14) (by decide +kernel) rfl
theorem tw_se_X5_makeReady : (Cond.selects RX5 yX5_makeReady yX5_makeReady : Cond) ∈ lwT := ts_0 (i := 15) (by decide +kernel) rfl
theorem tw_se_X5_tryOrders : (Cond.selects RX5 yX5_tryOrders yX5_tryOrders : Cond) ∈ lwT := ts_0 (i := 16) (by decide +kernel) rfl
theorem tw_se_X5_keepOrder : (Cond.selects RX5 yX5_keepOrder yX5_keepOrder : Cond) ∈ lwT := ts_0 (i := 17) (by decide +kernel) rfl
theorem tw_se_X5_tryShares : (Cond.selects RX5 yX5_tryShares yX5_tryShares : Cond) ∈ lwT := ts_0 (i := 18) (by decide +kernel) rfl
theorem tw_se_X2_ghostIsAsTold : (Cond.selects RX2 yX2_ghostIsAsTold yX2_ghostIsAsTold : Cond) ∈ lwT := ts_0 (i := 19) (by decide +kernel) rfl
theorem tw_se_X0_answerOf : (Cond.selects RX0 yX0_answerOf yX0_answerOf : Cond) ∈ lwT := ts_0 (i := 20) (by decide +kernel) rfl
theorem tw_se_X0_run : (Cond.selects RX0 yX0_run yX0_run : Cond) ∈ lwT := ts_0 (i := 21) (by decide +kernel) rfl
theorem tw_se_X0_leaveNumber : (Cond.selects RX0 yX0_leaveNumber yX0_leaveNumber : Cond) ∈ lwT := ts_0 (i := 22) (by decide +kernel) rfl
theorem tw_se_X8_find : (Cond.selects RX8 yX8_find yX8_find : Cond) ∈ lwT := ts_0 (i := 23) (by decide +kernel) rfl
theorem tw_se_X8_well : (Cond.selects RX8 yX8_well yX8_well : Cond) ∈ lwT := ts_0 (i := 24) (by decide +kernel) rfl
theorem tw_se_X8_isSpan : (Cond.selects RX8 yX8_isSpan yX8_isSpan : Cond) ∈ lwT := ts_0 (i := 25) (by decide +kernel) rfl
theorem tw_se_X8_reads : (Cond.selects RX8 yX8_reads yX8_reads : Cond) ∈ lwT := ts_0 (i := 26) (by decide +kernel) rfl
theorem tw_se_X8_readsLaw : (Cond.selects RX8 yX8_readsLaw yX8_readsLaw : Cond) ∈ lwT := ts_0 (i := 27) (by decide +kernel) rfl
theorem tw_se_X8_sign : (Cond.selects RX8 yX8_sign yX8_sign : Cond) ∈ lwT := ts_0 (i := 28) (by decide +kernel) rfl
theorem tw_se_X8_isLetter : (Cond.selects RX8 yX8_isLetter yX8_isLetter : Cond) ∈ lwT := ts_0 (i := 29) (by decide +kernel) rfl
theorem tw_se_X8_refuse : (Cond.selects RX8 yX8_refuse yX8_refuse : Cond) ∈ lwT := ts_0 (i := 30) (by decide +kernel) rfl
theorem tw_se_X8_readsNumber : (Cond.selects RX8 yX8_readsNumber yX8_readsNumber : Cond) ∈ lwT := ts_0 (i := 31) (by decide +kernel) rfl
theorem tw_se_X8_isFigure : (Cond.selects RX8 yX8_isFigure yX8_isFigure : Cond) ∈ lwT := ts_0 (i := 32) (by decide +kernel) rfl
theorem tw_se_X8_isSort : (Cond.selects RX8 yX8_isSort yX8_isSort : Cond) ∈ lwT := ts_0 (i := 33) (by decide +kernel) rfl
theorem tw_se_X8_readsTeller : (Cond.selects RX8 yX8_readsTeller yX8_readsTeller : Cond) ∈ lwT := ts_0 (i := 34) (by decide +kernel) rfl
theorem tw_se_X8_readsPaper : (Cond.selects RX8 yX8_readsPaper yX8_readsPaper : Cond) ∈ lwT := ts_0 (i := 35) (by decide +kernel) rfl
theorem tw_se_X8_copyTown : (Cond.selects RX8 yX8_copyTown yX8_copyTown : Cond) ∈ lwT := ts_0 (i := 36) (by decide +kernel) rfl
theorem tw_se_X8_keepPast : (Cond.selects RX8 yX8_keepPast yX8_keepPast : Cond) ∈ lwT := ts_0 (i := 37) (by decide +kernel) rfl
theorem tw_se_X8_pass : (Cond.selects RX8 yX8_pass yX8_pass : Cond) ∈ lwT := ts_0 (i := 38) (by decide +kernel) rfl
theorem tw_se_X8_whoServes : (Cond.selects RX8 yX8_whoServes yX8_whoServes : Cond) ∈ lwT := ts_0 (i := 39) (by decide +kernel) rfl
theorem tw_se_X8_mayPay : (Cond.selects RX8 yX8_mayPay yX8_mayPay : Cond) ∈ lwT := ts_0 (i := 40) (by decide +kernel) rfl
theorem tw_se_X8_costOf : (Cond.selects RX8 yX8_costOf yX8_costOf : Cond) ∈ lwT := ts_0 (i := 41) (by decide +kernel) rfl
theorem tw_se_X8_takeFrom : (Cond.selects RX8 yX8_takeFrom yX8_takeFrom : Cond) ∈ lwT := ts_0 (i := 42) (by decide +kernel) rfl
theorem tw_se_X8_leaveFirst : (Cond.selects RX8 yX8_leaveFirst yX8_leaveFirst : Cond) ∈ lwT := ts_0 (i := 43) (by decide +kernel) rfl
theorem tw_se_X8_isTeller : (Cond.selects RX8 yX8_isTeller yX8_isTeller : Cond) ∈ lwT := ts_0 (i := 44) (by decide +kernel) rfl
theorem tw_se_X8_comes : (Cond.selects RX8 yX8_comes yX8_comes : Cond) ∈ lwT := ts_0 (i := 45) (by decide +kernel) rfl
theorem tw_se_X8_isWaiting : (Cond.selects RX8 yX8_isWaiting yX8_isWaiting : Cond) ∈ lwT := ts_0 (i := 46) (by decide +kernel) rfl
theorem tw_se_X8_isPaper : (Cond.selects RX8 yX8_isPaper yX8_isPaper : Cond) ∈ lwT := ts_0 (i := 47) (by decide +kernel) rfl
theorem tw_se_X8_placeOf : (Cond.selects RX8 yX8_placeOf yX8_placeOf : Cond) ∈ lwT := ts_0 (i := 48) (by decide +kernel) rfl
theorem tw_se_X8_layTried : (Cond.selects RX8 yX8_layTried yX8_layTried : Cond) ∈ lwT := ts_0 (i := 49) (by decide +kernel) rfl
theorem tw_se_X8_passes : (Cond.selects RX8 yX8_passes yX8_passes : Cond) ∈ lwT := ts_0 (i := 50) (by decide +kernel) rfl
theorem tw_se_X8_layLine : (Cond.selects RX8 yX8_layLine yX8_layLine : Cond) ∈ lwT := ts_0 (i := 51) (by decide +kernel) rfl
theorem tw_se_X8_leftAt : (Cond.selects RX8 yX8_leftAt yX8_leftAt : Cond) ∈ lwT := ts_0 (i := 52) (by decide +kernel) rfl
theorem tw_se_X8_nextLine : (Cond.selects RX8 yX8_nextLine yX8_nextLine : Cond) ∈ lwT := ts_0 (i := 53) (by decide +kernel) rfl
theorem tw_se_X8_swapLine : (Cond.selects RX8 yX8_swapLine yX8_swapLine : Cond) ∈ lwT := ts_0 (i := 54) (by decide +kernel) rfl
theorem tw_se_X8_servesBy : (Cond.selects RX8 yX8_servesBy yX8_servesBy : Cond) ∈ lwT := ts_0 (i := 55) (by decide +kernel) rfl
theorem tw_se_X8_poorestAt : (Cond.selects RX8 yX8_poorestAt yX8_poorestAt : Cond) ∈ lwT := ts_0 (i := 56) (by decide +kernel) rfl
theorem tw_se_X8_noItems : (Cond.selects RX8 yX8_noItems yX8_noItems : Cond) ∈ lwT := ts_0 (i := 57) (by decide +kernel) rfl
theorem tw_se_X8_isSo : (Cond.selects RX8 yX8_isSo yX8_isSo : Cond) ∈ lwT := ts_0 (i := 58) (by decide +kernel) rfl
theorem tw_se_X8_leaveOut : (Cond.selects RX8 yX8_leaveOut yX8_leaveOut : Cond) ∈ lwT := ts_0 (i := 59) (by decide +kernel) rfl
theorem tw_se_X8_isOf : (Cond.selects RX8 yX8_isOf yX8_isOf : Cond) ∈ lwT := ts_0 (i := 60) (by decide +kernel) rfl
theorem tw_se_X8_sizeOf : (Cond.selects RX8 yX8_sizeOf yX8_sizeOf : Cond) ∈ lwT := ts_0 (i := 61) (by decide +kernel) rfl
theorem tw_se_X8_begin : (Cond.selects RX8 yX8_begin yX8_begin : Cond) ∈ lwT := ts_0 (i := 62) (by decide +kernel) rfl
theorem tw_se_X8_carefulSize : (Cond.selects RX8 yX8_carefulSize yX8_carefulSize : Cond) ∈ lwT := ts_0 (i := 63) (by decide +kernel) rfl
theorem tw_se_X8_lentSize : (Cond.selects RX8 yX8_lentSize yX8_lentSize : Cond) ∈ lwT := ts_0 (i := 64) (by decide +kernel) rfl
theorem tw_se_X8_mark : (Cond.selects RX8 yX8_mark yX8_mark : Cond) ∈ lwT := ts_0 (i := 65) (by decide +kernel) rfl
theorem tw_se_X8_carefulMark : (Cond.selects RX8 yX8_carefulMark yX8_carefulMark : Cond) ∈ lwT := ts_0 (i := 66) (by decide +kernel) rfl
theorem tw_se_X8_lentMark : (Cond.selects RX8 yX8_lentMark yX8_lentMark : Cond) ∈ lwT := ts_0 (i := 67) (by decide +kernel) rfl
theorem tw_se_X8_youngSize : (Cond.selects RX8 yX8_youngSize yX8_youngSize : Cond) ∈ lwT := ts_0 (i := 68) (by decide +kernel) rfl
theorem tw_se_X8_youngMark : (Cond.selects RX8 yX8_youngMark yX8_youngMark : Cond) ∈ lwT := ts_0 (i := 69) (by decide +kernel) rfl
theorem tl_X0_0 : u_lay RX0 TX0 0 ∈ lwT := tm_2 (List.mem_of_getElem? (i := 9) (by decide +kernel)) (by decide +kernel)
theorem tl_X0_1 : u_lay RX0 TX0 1 ∈ lwT := tm_2 (List.mem_of_getElem? (i := 11) (by decide +kernel)) (by decide +kernel)
theorem inX0 : ∀ w ∈ u_ws RX0 TX0 2, w ∈ lwT := fun w h => by
  have e : u_ws RX0 TX0 2 = [u_lay RX0 TX0 0, u_lay RX0 TX0 1] := rfl
  rw [e] at h
  simp only [List.mem_cons, List.not_mem_nil, or_false] at h
  rcases h with h | h
  · rw [h]; exact tl_X0_0
  · rw [h]; exact tl_X0_1
theorem tl_X1_0 : u_lay RX1 TX1 0 ∈ lwT := tm_1 (List.mem_of_getElem? (i := 95) (by decide +kernel)) (by decide +kernel)
theorem tl_X1_1 : u_lay RX1 TX1 1 ∈ lwT := tm_1 (List.mem_of_getElem? (i := 97) (by decide +kernel)) (by decide +kernel)
theorem tl_X1_2 : u_lay RX1 TX1 2 ∈ lwT := tm_1 (List.mem_of_getElem? (i := 99) (by decide +kernel)) (by decide +kernel)
theorem tl_X1_3 : u_lay RX1 TX1 3 ∈ lwT := tm_1 (List.mem_of_getElem? (i := 101) (by decide +kernel)) (by decide +kernel)
theorem tl_X1_4 : u_lay RX1 TX1 4 ∈ lwT := tm_1 (List.mem_of_getElem? (i := 103) (by decide +kernel)) (by decide +kernel)
theorem tl_X1_5 : u_lay RX1 TX1 5 ∈ lwT := tm_1 (List.mem_of_getElem? (i := 105) (by decide +kernel)) (by decide +kernel)
theorem tl_X1_6 : u_lay RX1 TX1 6 ∈ lwT := tm_1 (List.mem_of_getElem? (i := 107) (by decide +kernel)) (by decide +kernel)
theorem tl_X1_7 : u_lay RX1 TX1 7 ∈ lwT := tm_1 (List.mem_of_getElem? (i := 109) (by decide +kernel)) (by decide +kernel)
theorem tl_X1_8 : u_lay RX1 TX1 8 ∈ lwT := tm_1 (List.mem_of_getElem? (i := 111) (by decide +kernel)) (by decide +kernel)
theorem tl_X1_9 : u_lay RX1 TX1 9 ∈ lwT := tm_1 (List.mem_of_getElem? (i := 113) (by decide +kernel)) (by decide +kernel)
theorem tl_X1_10 : u_lay RX1 TX1 10 ∈ lwT := tm_1 (List.mem_of_getElem? (i := 115) (by decide +kernel)) (by decide +kernel)
theorem tl_X1_11 : u_lay RX1 TX1 11 ∈ lwT := tm_1 (List.mem_of_getElem? (i := 117) (by decide +kernel)) (by decide +kernel)
theorem tl_X1_12 : u_lay RX1 TX1 12 ∈ lwT := tm_1 (List.mem_of_getElem? (i := 119) (by decide +kernel)) (by decide +kernel)
theorem tl_X1_13 : u_lay RX1 TX1 13 ∈ lwT := tm_1 (List.mem_of_getElem? (i := 121) (by decide +kernel)) (by decide +kernel)
theorem tl_X1_14 : u_lay RX1 TX1 14 ∈ lwT := tm_1 (List.mem_of_getElem? (i := 123) (by decide +kernel)) (by decide +kernel)
theorem tl_X1_15 : u_lay RX1 TX1 15 ∈ lwT := tm_1 (List.mem_of_getElem? (i := 125) (by decide +kernel)) (by decide +kernel)
theorem tl_X1_16 : u_lay RX1 TX1 16 ∈ lwT := tm_1 (List.mem_of_getElem? (i := 127) (by decide +kernel)) (by decide +kernel)
theorem inX1 : ∀ w ∈ u_ws RX1 TX1 17, w ∈ lwT := fun w h => by
  have e : u_ws RX1 TX1 17 = [u_lay RX1 TX1 0, u_lay RX1 TX1 1, u_lay RX1 TX1 2, u_lay RX1 TX1 3, u_lay RX1 TX1 4, u_lay RX1 TX1 5, u_lay RX1 TX1 6, u_lay RX1 TX1 7, u_lay RX1 TX1 8, u_lay RX1 TX1 9, u_lay RX1 TX1 10, u_lay RX1 TX1 11, u_lay RX1 TX1 12, u_lay RX1 TX1 13, u_lay RX1 TX1 14, u_lay RX1 TX1 15, u_lay RX1 TX1 16] := rfl
  rw [e] at h
  simp only [List.mem_cons, List.not_mem_nil, or_false] at h
  rcases h with h | h | h | h | h | h | h | h | h | h | h | h | h | h | h | h | h
  · rw [h]; exact tl_X1_0
  · rw [h]; exact tl_X1_1
  · rw [h]; exact tl_X1_2
  · rw [h]; exact tl_X1_3
  · rw [h]; exact tl_X1_4
  · rw [h]; exact tl_X1_5
  · rw [h]; exact tl_X1_6
  · rw [h]; exact tl_X1_7
  · rw [h]; exact tl_X1_8
  · rw [h]; exact tl_X1_9
  · rw [h]; exact tl_X1_10
  · rw [h]; exact tl_X1_11
  · rw [h]; exact tl_X1_12
  · rw [h]; exact tl_X1_13
  · rw [h]; exact tl_X1_14
  · rw [h]; exact tl_X1_15
  · rw [h]; exact tl_X1_16
theorem tl_X2_0 : u_lay RX2 TX2 0 ∈ lwT := tm_1 (List.mem_of_getElem? (i := 187) (by decide +kernel)) (by decide +kernel)
theorem tl_X2_1 : u_lay RX2 TX2 1 ∈ lwT := tm_1 (List.mem_of_getElem? (i := 189) (by decide +kernel)) (by decide +kernel)
theorem tl_X2_2 : u_lay RX2 TX2 2 ∈ lwT := tm_1 (List.mem_of_getElem? (i := 191) (by decide +kernel)) (by decide +kernel)
theorem tl_X2_3 : u_lay RX2 TX2 3 ∈ lwT := tm_1 (List.mem_of_getElem? (i := 193) (by decide +kernel)) (by decide +kernel)
theorem inX2 : ∀ w ∈ u_ws RX2 TX2 4, w ∈ lwT := fun w h => by
  have e : u_ws RX2 TX2 4 = [u_lay RX2 TX2 0, u_lay RX2 TX2 1, u_lay RX2 TX2 2, u_lay RX2 TX2 3] := rfl
  rw [e] at h
  simp only [List.mem_cons, List.not_mem_nil, or_false] at h
  rcases h with h | h | h | h
  · rw [h]; exact tl_X2_0
  · rw [h]; exact tl_X2_1
  · rw [h]; exact tl_X2_2
  · rw [h]; exact tl_X2_3
theorem tl_X3_0 : u_lay RX3 TX3 0 ∈ lwT := tm_1 (List.mem_of_getElem? (i := 168) (by decide +kernel)) (by decide +kernel)
theorem tl_X3_1 : u_lay RX3 TX3 1 ∈ lwT := tm_1 (List.mem_of_getElem? (i := 170) (by decide +kernel)) (by decide +kernel)
theorem tl_X3_2 : u_lay RX3 TX3 2 ∈ lwT := tm_1 (List.mem_of_getElem? (i := 172) (by decide +kernel)) (by decide +kernel)
theorem inX3 : ∀ w ∈ u_ws RX3 TX3 3, w ∈ lwT := fun w h => by
  have e : u_ws RX3 TX3 3 = [u_lay RX3 TX3 0, u_lay RX3 TX3 1, u_lay RX3 TX3 2] := rfl
  rw [e] at h
  simp only [List.mem_cons, List.not_mem_nil, or_false] at h
  rcases h with h | h | h
  · rw [h]; exact tl_X3_0
  · rw [h]; exact tl_X3_1
  · rw [h]; exact tl_X3_2
theorem tl_X4_0 : u_lay RX4 TX4 0 ∈ lwT := tm_1 (List.mem_of_getElem? (i := 31) (by decide +kernel)) (by decide +kernel)
theorem tl_X4_1 : u_lay RX4 TX4 1 ∈ lwT := tm_1 (List.mem_of_getElem? (i := 33) (by decide +kernel)) (by decide +kernel)
theorem tl_X4_2 : u_lay RX4 TX4 2 ∈ lwT := tm_1 (List.mem_of_getElem? (i := 35) (by decide +kernel)) (by decide +kernel)
theorem inX4 : ∀ w ∈ u_ws RX4 TX4 3, w ∈ lwT := fun w h => by
  have e : u_ws RX4 TX4 3 = [u_lay RX4 TX4 0, u_lay RX4 TX4 1, u_lay RX4 TX4 2] := rfl
  rw [e] at h
  simp only [List.mem_cons, List.not_mem_nil, or_false] at h
  rcases h with h | h | h
  · rw [h]; exact tl_X4_0
  · rw [h]; exact tl_X4_1
  · rw [h]; exact tl_X4_2
theorem tl_X5_0 : u_lay RX5 TX5 0 ∈ lwT := tm_1 (List.mem_of_getElem? (i := 218) (by decide +kernel)) (by decide +kernel)
theorem tl_X5_1 : u_lay RX5 TX5 1 ∈ lwT := tm_1 (List.mem_of_getElem? (i := 220) (by decide +kernel)) (by decide +kernel)
theorem tl_X5_2 : u_lay RX5 TX5 2 ∈ lwT := tm_1 (List.mem_of_getElem? (i := 222) (by decide +kernel)) (by decide +kernel)
theorem tl_X5_3 : u_lay RX5 TX5 3 ∈ lwT := tm_1 (List.mem_of_getElem? (i := 224) (by decide +kernel)) (by decide +kernel)
theorem tl_X5_4 : u_lay RX5 TX5 4 ∈ lwT := tm_1 (List.mem_of_getElem? (i := 226) (by decide +kernel)) (by decide +kernel)
theorem tl_X5_5 : u_lay RX5 TX5 5 ∈ lwT := tm_1 (List.mem_of_getElem? (i := 228) (by decide +kernel)) (by decide +kernel)
theorem tl_X5_6 : u_lay RX5 TX5 6 ∈ lwT := tm_1 (List.mem_of_getElem? (i := 230) (by decide +kernel)) (by decide +kernel)
theorem tl_X5_7 : u_lay RX5 TX5 7 ∈ lwT := tm_1 (List.mem_of_getElem? (i := 232) (by decide +kernel)) (by decide +kernel)
theorem tl_X5_8 : u_lay RX5 TX5 8 ∈ lwT := tm_1 (List.mem_of_getElem? (i := 234) (by decide +kernel)) (by decide +kernel)
theorem tl_X5_9 : u_lay RX5 TX5 9 ∈ lwT := tm_1 (List.mem_of_getElem? (i := 236) (by decide +kernel)) (by decide +kernel)
theorem tl_X5_10 : u_lay RX5 TX5 10 ∈ lwT := tm_1 (List.mem_of_getElem? (i := 238) (by decide +kernel)) (by decide +kernel)
theorem inX5 : ∀ w ∈ u_ws RX5 TX5 11, w ∈ lwT := fun w h => by
  have e : u_ws RX5 TX5 11 = [u_lay RX5 TX5 0, u_lay RX5 TX5 1, u_lay RX5 TX5 2, u_lay RX5 TX5 3, u_lay RX5 TX5 4, u_lay RX5 TX5 5, u_lay RX5 TX5 6, u_lay RX5 TX5 7, u_lay RX5 TX5 8, u_lay RX5 TX5 9, u_lay RX5 TX5 10] := rfl
  rw [e] at h
  simp only [List.mem_cons, List.not_mem_nil, or_false] at h
  rcases h with h | h | h | h | h | h | h | h | h | h | h
  · rw [h]; exact tl_X5_0
  · rw [h]; exact tl_X5_1
  · rw [h]; exact tl_X5_2
  · rw [h]; exact tl_X5_3
  · rw [h]; exact tl_X5_4
  · rw [h]; exact tl_X5_5
  · rw [h]; exact tl_X5_6
  · rw [h]; exact tl_X5_7
  · rw [h]; exact tl_X5_8
  · rw [h]; exact tl_X5_9
  · rw [h]; exact tl_X5_10
theorem tl_X6_0 : u_lay RX6 TX6 0 ∈ lwT := tm_1 (List.mem_of_getElem? (i := 140) (by decide +kernel)) (by decide +kernel)
theorem tl_X6_1 : u_lay RX6 TX6 1 ∈ lwT := tm_1 (List.mem_of_getElem? (i := 142) (by decide +kernel)) (by decide +kernel)
theorem tl_X6_2 : u_lay RX6 TX6 2 ∈ lwT := tm_1 (List.mem_of_getElem? (i := 144) (by decide +kernel)) (by decide +kernel)
theorem tl_X6_3 : u_lay RX6 TX6 3 ∈ lwT := tm_1 (List.mem_of_getElem? (i := 146) (by decide +kernel)) (by decide +kernel)
theorem tl_X6_4 : u_lay RX6 TX6 4 ∈ lwT := tm_1 (List.mem_of_getElem? (i := 148) (by decide +kernel)) (by decide +kernel)
theorem tl_X6_5 : u_lay RX6 TX6 5 ∈ lwT := tm_1 (List.mem_of_getElem? (i := 150) (by decide +kernel)) (by decide +kernel)
theorem inX6 : ∀ w ∈ u_ws RX6 TX6 6, w ∈ lwT := fun w h => by
  have e : u_ws RX6 TX6 6 = [u_lay RX6 TX6 0, u_lay RX6 TX6 1, u_lay RX6 TX6 2, u_lay RX6 TX6 3, u_lay RX6 TX6 4, u_lay RX6 TX6 5] := rfl
  rw [e] at h
  simp only [List.mem_cons, List.not_mem_nil, or_false] at h
  rcases h with h | h | h | h | h | h
  · rw [h]; exact tl_X6_0
  · rw [h]; exact tl_X6_1
  · rw [h]; exact tl_X6_2
  · rw [h]; exact tl_X6_3
  · rw [h]; exact tl_X6_4
  · rw [h]; exact tl_X6_5
theorem tl_X7_0 : u_lay RX7 TX7 0 ∈ lwT := tm_2 (List.mem_of_getElem? (i := 23) (by decide +kernel)) (by decide +kernel)
theorem tl_X7_1 : u_lay RX7 TX7 1 ∈ lwT := tm_2 (List.mem_of_getElem? (i := 25) (by decide +kernel)) (by decide +kernel)
theorem tl_X7_2 : u_lay RX7 TX7 2 ∈ lwT := tm_2 (List.mem_of_getElem? (i := 27) (by decide +kernel)) (by decide +kernel)
theorem tl_X7_3 : u_lay RX7 TX7 3 ∈ lwT := tm_2 (List.mem_of_getElem? (i := 29) (by decide +kernel)) (by decide +kernel)
theorem tl_X7_4 : u_lay RX7 TX7 4 ∈ lwT := tm_2 (List.mem_of_getElem? (i := 31) (by decide +kernel)) (by decide +kernel)
theorem tl_X7_5 : u_lay RX7 TX7 5 ∈ lwT := tm_2 (List.mem_of_getElem? (i := 33) (by decide +kernel)) (by decide +kernel)
theorem tl_X7_6 : u_lay RX7 TX7 6 ∈ lwT := tm_2 (List.mem_of_getElem? (i := 35) (by decide +kernel)) (by decide +kernel)
theorem tl_X7_7 : u_lay RX7 TX7 7 ∈ lwT := tm_2 (List.mem_of_getElem? (i := 37) (by decide +kernel)) (by decide +kernel)
theorem tl_X7_8 : u_lay RX7 TX7 8 ∈ lwT := tm_2 (List.mem_of_getElem? (i := 39) (by decide +kernel)) (by decide +kernel)
theorem inX7 : ∀ w ∈ u_ws RX7 TX7 9, w ∈ lwT := fun w h => by
  have e : u_ws RX7 TX7 9 = [u_lay RX7 TX7 0, u_lay RX7 TX7 1, u_lay RX7 TX7 2, u_lay RX7 TX7 3, u_lay RX7 TX7 4, u_lay RX7 TX7 5, u_lay RX7 TX7 6, u_lay RX7 TX7 7, u_lay RX7 TX7 8] := rfl
  rw [e] at h
  simp only [List.mem_cons, List.not_mem_nil, or_false] at h
  rcases h with h | h | h | h | h | h | h | h | h
  · rw [h]; exact tl_X7_0
  · rw [h]; exact tl_X7_1
  · rw [h]; exact tl_X7_2
  · rw [h]; exact tl_X7_3
  · rw [h]; exact tl_X7_4
  · rw [h]; exact tl_X7_5
  · rw [h]; exact tl_X7_6
  · rw [h]; exact tl_X7_7
  · rw [h]; exact tl_X7_8
theorem tl_X8_0 : u_lay RX8 TX8 0 ∈ lwT := tm_4 (List.mem_of_getElem? (i := 203) (by decide +kernel)) (by decide +kernel)
theorem tl_X8_1 : u_lay RX8 TX8 1 ∈ lwT := tm_4 (List.mem_of_getElem? (i := 205) (by decide +kernel)) (by decide +kernel)
theorem tl_X8_2 : u_lay RX8 TX8 2 ∈ lwT := tm_4 (List.mem_of_getElem? (i := 207) (by decide +kernel)) (by decide +kernel)
theorem tl_X8_3 : u_lay RX8 TX8 3 ∈ lwT := tm_4 (List.mem_of_getElem? (i := 209) (by decide +kernel)) (by decide +kernel)
theorem tl_X8_4 : u_lay RX8 TX8 4 ∈ lwT := tm_4 (List.mem_of_getElem? (i := 211) (by decide +kernel)) (by decide +kernel)
theorem tl_X8_5 : u_lay RX8 TX8 5 ∈ lwT := tm_4 (List.mem_of_getElem? (i := 213) (by decide +kernel)) (by decide +kernel)
theorem tl_X8_6 : u_lay RX8 TX8 6 ∈ lwT := tm_4 (List.mem_of_getElem? (i := 215) (by decide +kernel)) (by decide +kernel)
theorem tl_X8_7 : u_lay RX8 TX8 7 ∈ lwT := tm_4 (List.mem_of_getElem? (i := 217) (by decide +kernel)) (by decide +kernel)
theorem tl_X8_8 : u_lay RX8 TX8 8 ∈ lwT := tm_4 (List.mem_of_getElem? (i := 219) (by decide +kernel)) (by decide +kernel)
theorem tl_X8_9 : u_lay RX8 TX8 9 ∈ lwT := tm_4 (List.mem_of_getElem? (i := 221) (by decide +kernel)) (by decide +kernel)
theorem tl_X8_10 : u_lay RX8 TX8 10 ∈ lwT := tm_4 (List.mem_of_getElem? (i := 223) (by decide +kernel)) (by decide +kernel)
theorem tl_X8_11 : u_lay RX8 TX8 11 ∈ lwT := tm_4 (List.mem_of_getElem? (i := 225) (by decide +kernel)) (by decide +kernel)
theorem tl_X8_12 : u_lay RX8 TX8 12 ∈ lwT := tm_4 (List.mem_of_getElem? (i := 227) (by decide +kernel)) (by decide +kernel)
theorem tl_X8_13 : u_lay RX8 TX8 13 ∈ lwT := tm_4 (List.mem_of_getElem? (i := 229) (by decide +kernel)) (by decide +kernel)
theorem tl_X8_14 : u_lay RX8 TX8 14 ∈ lwT := tm_4 (List.mem_of_getElem? (i := 231) (by decide +kernel)) (by decide +kernel)
theorem tl_X8_15 : u_lay RX8 TX8 15 ∈ lwT := tm_4 (List.mem_of_getElem? (i := 233) (by decide +kernel)) (by decide +kernel)
theorem tl_X8_16 : u_lay RX8 TX8 16 ∈ lwT := tm_4 (List.mem_of_getElem? (i := 235) (by decide +kernel)) (by decide +kernel)
theorem tl_X8_17 : u_lay RX8 TX8 17 ∈ lwT := tm_4 (List.mem_of_getElem? (i := 237) (by decide +kernel)) (by decide +kernel)
theorem inX8 : ∀ w ∈ u_ws RX8 TX8 18, w ∈ lwT := fun w h => by
  have e : u_ws RX8 TX8 18 = [u_lay RX8 TX8 0, u_lay RX8 TX8 1, u_lay RX8 TX8 2, u_lay RX8 TX8 3, u_lay RX8 TX8 4, u_lay RX8 TX8 5, u_lay RX8 TX8 6, u_lay RX8 TX8 7, u_lay RX8 TX8 8, u_lay RX8 TX8 9, u_lay RX8 TX8 10, u_lay RX8 TX8 11, u_lay RX8 TX8 12, u_lay RX8 TX8 13, u_lay RX8 TX8 14, u_lay RX8 TX8 15, u_lay RX8 TX8 16, u_lay RX8 TX8 17] := rfl
  rw [e] at h
  simp only [List.mem_cons, List.not_mem_nil, or_false] at h
  rcases h with h | h | h | h | h | h | h | h | h | h | h | h | h | h | h | h | h | h
  · rw [h]; exact tl_X8_0
  · rw [h]; exact tl_X8_1
  · rw [h]; exact tl_X8_2
  · rw [h]; exact tl_X8_3
  · rw [h]; exact tl_X8_4
  · rw [h]; exact tl_X8_5
  · rw [h]; exact tl_X8_6
  · rw [h]; exact tl_X8_7
  · rw [h]; exact tl_X8_8
  · rw [h]; exact tl_X8_9
  · rw [h]; exact tl_X8_10
  · rw [h]; exact tl_X8_11
  · rw [h]; exact tl_X8_12
  · rw [h]; exact tl_X8_13
  · rw [h]; exact tl_X8_14
  · rw [h]; exact tl_X8_15
  · rw [h]; exact tl_X8_16
  · rw [h]; exact tl_X8_17
def nF : List (String × Nat × String × String × String × String) := [(RX6, 55, "TellerDays$Bank", "infancy", "I", "TellerDays"), (RX6, 58, "TellerDays$Bank", "week", "I", "TellerDays"), (RX2, 45, "TellerDays$Bank", "tellers", "I", "TellerDays"), (RX7, 125, "TellerDays$Bank", "tellers", "I", "TellerDays"), (RX5, 121, "TellerDays$Bank", "tellers", "I", "TellerDays"), (RX2, 53, "TellerDays$Bank", "open", "I", "TellerDays"), (RX7, 164, "TellerDays$Bank", "open", "I", "TellerDays"), (RX7, 142, "TellerDays$Bank", "turn", "I", "TellerDays"), (RX5, 48, "TellerDays$Bank", "paid", "I", "TellerDays"), (RX7, 346, "TellerDays$Bank", "paid", "I", "TellerDays"), (RX7, 174, "TellerDays$Bank", "unpaid", "I", "TellerDays"), (RX5, 35, "TellerDays$Bank", "waiting", "I", "TellerDays"), (RX2, 38, "TellerDays$Bank", "waiting", "I", "TellerDays"), (RX7, 152, "TellerDays$Bank", "waiting", "I", "TellerDays"), (RX0, 29, "TellerDays$Bank", "kind", "[I", "TellerDays"), (RX2, 80, "TellerDays$Bank", "kind", "[I", "TellerDays"), (RX7, 329, "TellerDays$Bank", "kind", "[I", "TellerDays"), (RX7, 187, "TellerDays$Bank", "days", "[I", "TellerDays"), (RX0, 54, "TellerDays$Bank", "care", "[I", "TellerDays"), (RX2, 87, "TellerDays$Bank", "care", "[I", "TellerDays"), (RX7, 190, "TellerDays$Bank", "care", "[I", "TellerDays"), (RX0, 57, "TellerDays$Bank", "left", "[I", "TellerDays"), (RX2, 77, "TellerDays$Bank", "left", "[I", "TellerDays"), (RX7, 193, "TellerDays$Bank", "left", "[I", "TellerDays"), (RX7, 196, "TellerDays$Bank", "served", "[I", "TellerDays"), (RX2, 96, "TellerDays$Bank", "sum", "[I", "TellerDays"), (RX7, 183, "TellerDays$Bank", "queue", "[I", "TellerDays"), (RX7, 118, "TellerDays$Tape", "draft", "LTellerDays$Bank;", "TellerDays"), (RX7, 105, "TellerDays$Tape", "size", "I", "TellerDays"), (RX7, 115, "TellerDays$Tape", "place", "I", "TellerDays"), (RX7, 128, "TellerDays$Tape", "latestFault", "I", "TellerDays"), (RX7, 131, "TellerDays$History", "size", "I", "TellerDays"), (RX7, 246, "TellerDays$Search", "mostPaid", "I", "TellerDays"), (RX7, 243, "TellerDays$Search", "mostLeft", "I", "TellerDays"), (RX7, 255, "TellerDays$Search", "poorest", "I", "TellerDays"), (RX0, 40, "TellerDays", "SIZE_BODY", "[I", "TellerDays"), (RX0, 43, "TellerDays", "MARK_BODY", "[I", "TellerDays"), (RX0, 46, "TellerDays", "ABOVE", "[I", "TellerDays")]
def nM : List (String × Nat × MethodName × String) := [(RX7, 9, yX4_init, "TellerDays"), (RX7, 18, yX6_init, "TellerDays"), (RX6, 17, yX1_init, "TellerDays"), (RX7, 25, yX1_init, "TellerDays"), (RX3, 17, yX1_init, "TellerDays"), (RX7, 43, yX2_init, "TellerDays"), (RX2, 11, yX1_init, "TellerDays"), (RX5, 27, yX1_init, "TellerDays"), (RX7, 57, yX0_init, "TellerDays"), (RX4, 22, yX7_isRow, "TellerDays"), (RX2, 102, yX7_power, "TellerDays")]
