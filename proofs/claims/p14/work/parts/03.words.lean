def zBig : List Cond := lw_tbl.filter goodWord
theorem zBig_t {w : Cond} (i : Nat) (h : tables_1[i]? = some w) (hg : goodWord w = true) : w ∈ zBig := List.mem_filter.mpr ⟨List.mem_append_right _ (List.mem_of_getElem? h), hg⟩
theorem zBig_s {w : Cond} (i : Nat) (h : (k2_sels lw_privs)[i]? = some w) (hg : goodWord w = true) : w ∈ zBig := List.mem_filter.mpr ⟨List.mem_append_left _ (List.mem_of_getElem? h), hg⟩
theorem zBig_c {w : Cond} {z : List Cond} {a n : Nat} (k : Nat) (e : z = (tables_1.drop a).take n) (g : z.all goodWord = true) (h : z[k]? = some w) : w ∈ zBig := by
  have m := List.mem_of_getElem? h
  have q := List.all_eq_true.mp g w m
  rw [e] at m
  exact List.mem_filter.mpr ⟨List.mem_append_right _ (List.mem_of_mem_drop (List.mem_of_mem_take m)), q⟩
def zC0 : List Cond := [Cond.initialized RL, Cond.initialized RX4, Cond.initialized RX0, Cond.initialized RJ7, Cond.initialized RX2, Cond.initialized RX3, Cond.initialized RX1, Cond.initialized RX5, Cond.initialized RJ9, Cond.initialized RJ10, Cond.initialized RJ6, Cond.classLink RL 7 RX4, Cond.instantiable RX4 12, Cond.methodLink RL 9 yX4_init, Cond.instanceMethod yX4_init, Cond.code yX4_init cX4_init 1 none, Cond.methodLink RX4 1 objectInit, Cond.instanceMethod objectInit, Cond.code objectInit ⟨#[0xb1]⟩ 1 none, Cond.classLink RX4 7 RX0, Cond.instantiable RX0 11]
theorem zC0_e : zC0 = (tables_1.drop 0).take 21 := by decide +kernel
theorem zC0_g : zC0.all goodWord = true := by decide +kernel
theorem m_z_RL : Cond.initialized RL ∈ zBig := zBig_c 0 zC0_e zC0_g rfl
theorem m_z_RX4 : Cond.initialized RX4 ∈ zBig := zBig_c 1 zC0_e zC0_g rfl
theorem m_z_RX0 : Cond.initialized RX0 ∈ zBig := zBig_c 2 zC0_e zC0_g rfl
theorem m_z_RJ7 : Cond.initialized RJ7 ∈ zBig := zBig_c 3 zC0_e zC0_g rfl
theorem m_z_RX2 : Cond.initialized RX2 ∈ zBig := zBig_c 4 zC0_e zC0_g rfl
theorem m_z_RX3 : Cond.initialized RX3 ∈ zBig := zBig_c 5 zC0_e zC0_g rfl
theorem m_z_RX1 : Cond.initialized RX1 ∈ zBig := zBig_c 6 zC0_e zC0_g rfl
theorem m_z_RX5 : Cond.initialized RX5 ∈ zBig := zBig_c 7 zC0_e zC0_g rfl
theorem m_z_RJ9 : Cond.initialized RJ9 ∈ zBig := zBig_c 8 zC0_e zC0_g rfl
theorem m_z_RJ10 : Cond.initialized RJ10 ∈ zBig := zBig_c 9 zC0_e zC0_g rfl
theorem m_z_RJ6 : Cond.initialized RJ6 ∈ zBig := zBig_c 10 zC0_e zC0_g rfl
theorem m_c_RL_7 : Cond.classLink RL 7 RX4 ∈ zBig := zBig_c 11 zC0_e zC0_g rfl
theorem m_b_RX4 : Cond.instantiable RX4 12 ∈ zBig := zBig_c 12 zC0_e zC0_g rfl
theorem m_m_RL_9 : Cond.methodLink RL 9 yX4_init ∈ zBig := zBig_c 13 zC0_e zC0_g rfl
theorem m_i_yX4_init : Cond.instanceMethod yX4_init ∈ zBig := zBig_c 14 zC0_e zC0_g rfl
theorem m_o_yX4_init : Cond.code yX4_init cX4_init 1 none ∈ zBig := zBig_c 15 zC0_e zC0_g rfl
theorem m_m_RX4_1 : Cond.methodLink RX4 1 objectInit ∈ zBig := zBig_c 16 zC0_e zC0_g rfl
theorem m_i_objectInit : Cond.instanceMethod objectInit ∈ zBig := zBig_c 17 zC0_e zC0_g rfl
theorem m_o_objectInit : Cond.code objectInit ⟨#[0xb1]⟩ 1 none ∈ zBig := zBig_c 18 zC0_e zC0_g rfl
theorem m_c_RX4_7 : Cond.classLink RX4 7 RX0 ∈ zBig := zBig_c 19 zC0_e zC0_g rfl
theorem m_b_RX0 : Cond.instantiable RX0 11 ∈ zBig := zBig_c 20 zC0_e zC0_g rfl
def zC22 : List Cond := [Cond.instanceMethod yX0_init, Cond.code yX0_init cX0_init 1 none, Cond.methodLink RX0 3 objectInit]
theorem zC22_e : zC22 = (tables_1.drop 22).take 3 := by decide +kernel
theorem zC22_g : zC22.all goodWord = true := by decide +kernel
theorem m_i_yX0_init : Cond.instanceMethod yX0_init ∈ zBig := zBig_c 0 zC22_e zC22_g rfl
theorem m_o_yX0_init : Cond.code yX0_init cX0_init 1 none ∈ zBig := zBig_c 1 zC22_e zC22_g rfl
theorem m_m_RX0_3 : Cond.methodLink RX0 3 objectInit ∈ zBig := zBig_c 2 zC22_e zC22_g rfl
def zC27 : List Cond := [Cond.methodLink RX0 13 ⟨"[I", "clone", "()Ljava/lang/Object;"⟩]
theorem zC27_e : zC27 = (tables_1.drop 27).take 1 := by decide +kernel
theorem zC27_g : zC27.all goodWord = true := by decide +kernel
theorem m_m_RX0_13 : Cond.methodLink RX0 13 ⟨"[I", "clone", "()Ljava/lang/Object;"⟩ ∈ zBig := zBig_c 0 zC27_e zC27_g rfl
def zC33 : List Cond := [Cond.classLink RX0 14 "[I", Cond.methodLink RX0 54 yJ7_fill_53178, Cond.static yJ7_fill_53178, Cond.code yJ7_fill_53178 cJ7_fill_53178 4 none, Cond.fieldLink RX0 18 "FishSteps$Books" "law" "[I"]
theorem zC33_e : zC33 = (tables_1.drop 33).take 5 := by decide +kernel
theorem zC33_g : zC33.all goodWord = true := by decide +kernel
theorem m_c_RX0_14 : Cond.classLink RX0 14 "[I" ∈ zBig := zBig_c 0 zC33_e zC33_g rfl
theorem m_m_RX0_54 : Cond.methodLink RX0 54 yJ7_fill_53178 ∈ zBig := zBig_c 1 zC33_e zC33_g rfl
theorem m_s_yJ7_fill_53178 : Cond.static yJ7_fill_53178 ∈ zBig := zBig_c 2 zC33_e zC33_g rfl
theorem m_o_yJ7_fill_53178 : Cond.code yJ7_fill_53178 cJ7_fill_53178 4 none ∈ zBig := zBig_c 3 zC33_e zC33_g rfl
theorem m_f_RX0_18 : Cond.fieldLink RX0 18 "FishSteps$Books" "law" "[I" ∈ zBig := zBig_c 4 zC33_e zC33_g rfl
def zC40 : List Cond := [Cond.fieldLink RX0 23 "FishSteps$Books" "lots" "I"]
theorem zC40_e : zC40 = (tables_1.drop 40).take 1 := by decide +kernel
theorem zC40_g : zC40.all goodWord = true := by decide +kernel
theorem m_f_RX0_23 : Cond.fieldLink RX0 23 "FishSteps$Books" "lots" "I" ∈ zBig := zBig_c 0 zC40_e zC40_g rfl
def zC43 : List Cond := [Cond.fieldLink RX0 27 "FishSteps$Books" "kind" "[I"]
theorem zC43_e : zC43 = (tables_1.drop 43).take 1 := by decide +kernel
theorem zC43_g : zC43.all goodWord = true := by decide +kernel
theorem m_f_RX0_27 : Cond.fieldLink RX0 27 "FishSteps$Books" "kind" "[I" ∈ zBig := zBig_c 0 zC43_e zC43_g rfl
def zC46 : List Cond := [Cond.fieldLink RX0 30 "FishSteps$Books" "buyers" "I"]
theorem zC46_e : zC46 = (tables_1.drop 46).take 1 := by decide +kernel
theorem zC46_g : zC46.all goodWord = true := by decide +kernel
theorem m_f_RX0_30 : Cond.fieldLink RX0 30 "FishSteps$Books" "buyers" "I" ∈ zBig := zBig_c 0 zC46_e zC46_g rfl
def zC49 : List Cond := [Cond.fieldLink RX0 33 "FishSteps$Books" "sort" "[I"]
theorem zC49_e : zC49 = (tables_1.drop 49).take 1 := by decide +kernel
theorem zC49_g : zC49.all goodWord = true := by decide +kernel
theorem m_f_RX0_33 : Cond.fieldLink RX0 33 "FishSteps$Books" "sort" "[I" ∈ zBig := zBig_c 0 zC49_e zC49_g rfl
def zC52 : List Cond := [Cond.fieldLink RX0 36 "FishSteps$Books" "purse" "[I"]
theorem zC52_e : zC52 = (tables_1.drop 52).take 1 := by decide +kernel
theorem zC52_g : zC52.all goodWord = true := by decide +kernel
theorem m_f_RX0_36 : Cond.fieldLink RX0 36 "FishSteps$Books" "purse" "[I" ∈ zBig := zBig_c 0 zC52_e zC52_g rfl
def zC55 : List Cond := [Cond.fieldLink RX0 39 "FishSteps$Books" "margin" "[I"]
theorem zC55_e : zC55 = (tables_1.drop 55).take 1 := by decide +kernel
theorem zC55_g : zC55.all goodWord = true := by decide +kernel
theorem m_f_RX0_39 : Cond.fieldLink RX0 39 "FishSteps$Books" "margin" "[I" ∈ zBig := zBig_c 0 zC55_e zC55_g rfl
def zC58 : List Cond := [Cond.fieldLink RX0 42 "FishSteps$Books" "worth" "[I"]
theorem zC58_e : zC58 = (tables_1.drop 58).take 1 := by decide +kernel
theorem zC58_g : zC58.all goodWord = true := by decide +kernel
theorem m_f_RX0_42 : Cond.fieldLink RX0 42 "FishSteps$Books" "worth" "[I" ∈ zBig := zBig_c 0 zC58_e zC58_g rfl
def zC60 : List Cond := [Cond.fieldLink RX0 45 "FishSteps$Books" "least" "[I"]
theorem zC60_e : zC60 = (tables_1.drop 60).take 1 := by decide +kernel
theorem zC60_g : zC60.all goodWord = true := by decide +kernel
theorem m_f_RX0_45 : Cond.fieldLink RX0 45 "FishSteps$Books" "least" "[I" ∈ zBig := zBig_c 0 zC60_e zC60_g rfl
def zC62 : List Cond := [Cond.fieldLink RX0 48 "FishSteps$Books" "most" "[I"]
theorem zC62_e : zC62 = (tables_1.drop 62).take 1 := by decide +kernel
theorem zC62_g : zC62.all goodWord = true := by decide +kernel
theorem m_f_RX0_48 : Cond.fieldLink RX0 48 "FishSteps$Books" "most" "[I" ∈ zBig := zBig_c 0 zC62_e zC62_g rfl
def zC64 : List Cond := [Cond.fieldLink RX0 51 "FishSteps$Books" "held" "I"]
theorem zC64_e : zC64 = (tables_1.drop 64).take 1 := by decide +kernel
theorem zC64_g : zC64.all goodWord = true := by decide +kernel
theorem m_f_RX0_51 : Cond.fieldLink RX0 51 "FishSteps$Books" "held" "I" ∈ zBig := zBig_c 0 zC64_e zC64_g rfl
def zC89 : List Cond := [Cond.arrayClass .int]
theorem zC89_e : zC89 = (tables_1.drop 89).take 1 := by decide +kernel
theorem zC89_g : zC89.all goodWord = true := by decide +kernel
theorem m_a_int : Cond.arrayClass .int ∈ zBig := zBig_c 0 zC89_e zC89_g rfl
def zC90 : List Cond := [Cond.classLink RX4 23 RX2, Cond.instantiable RX2 12]
theorem zC90_e : zC90 = (tables_1.drop 90).take 2 := by decide +kernel
theorem zC90_g : zC90.all goodWord = true := by decide +kernel
theorem m_c_RX4_23 : Cond.classLink RX4 23 RX2 ∈ zBig := zBig_c 0 zC90_e zC90_g rfl
theorem m_b_RX2 : Cond.instantiable RX2 12 ∈ zBig := zBig_c 1 zC90_e zC90_g rfl
def zC93 : List Cond := [Cond.instanceMethod yX2_init, Cond.code yX2_init cX2_init 1 none, Cond.methodLink RX2 3 objectInit, Cond.fieldLink RX2 9 "FishSteps$Steps" "margin" "[I"]
theorem zC93_e : zC93 = (tables_1.drop 93).take 4 := by decide +kernel
theorem zC93_g : zC93.all goodWord = true := by decide +kernel
theorem m_i_yX2_init : Cond.instanceMethod yX2_init ∈ zBig := zBig_c 0 zC93_e zC93_g rfl
theorem m_o_yX2_init : Cond.code yX2_init cX2_init 1 none ∈ zBig := zBig_c 1 zC93_e zC93_g rfl
theorem m_m_RX2_3 : Cond.methodLink RX2 3 objectInit ∈ zBig := zBig_c 2 zC93_e zC93_g rfl
theorem m_f_RX2_9 : Cond.fieldLink RX2 9 "FishSteps$Steps" "margin" "[I" ∈ zBig := zBig_c 3 zC93_e zC93_g rfl
def zC98 : List Cond := [Cond.fieldLink RX2 15 "FishSteps$Steps" "purse" "[I"]
theorem zC98_e : zC98 = (tables_1.drop 98).take 1 := by decide +kernel
theorem zC98_g : zC98.all goodWord = true := by decide +kernel
theorem m_f_RX2_15 : Cond.fieldLink RX2 15 "FishSteps$Steps" "purse" "[I" ∈ zBig := zBig_c 0 zC98_e zC98_g rfl
def zC100 : List Cond := [Cond.fieldLink RX2 18 "FishSteps$Steps" "had" "[I", Cond.fieldLink RX2 21 "FishSteps$Steps" "gained" "[I"]
theorem zC100_e : zC100 = (tables_1.drop 100).take 2 := by decide +kernel
theorem zC100_g : zC100.all goodWord = true := by decide +kernel
theorem m_f_RX2_18 : Cond.fieldLink RX2 18 "FishSteps$Steps" "had" "[I" ∈ zBig := zBig_c 0 zC100_e zC100_g rfl
theorem m_f_RX2_21 : Cond.fieldLink RX2 21 "FishSteps$Steps" "gained" "[I" ∈ zBig := zBig_c 1 zC100_e zC100_g rfl
def zC103 : List Cond := [Cond.fieldLink RX2 24 "FishSteps$Steps" "limit" "[I", Cond.fieldLink RX2 27 "FishSteps$Steps" "money" "[I", Cond.fieldLink RX2 30 "FishSteps$Steps" "open" "I", Cond.fieldLink RX2 34 "FishSteps$Steps" "coughed" "I", Cond.fieldLink RX2 37 "FishSteps$Steps" "who" "[I"]
theorem zC103_e : zC103 = (tables_1.drop 103).take 5 := by decide +kernel
theorem zC103_g : zC103.all goodWord = true := by decide +kernel
theorem m_f_RX2_24 : Cond.fieldLink RX2 24 "FishSteps$Steps" "limit" "[I" ∈ zBig := zBig_c 0 zC103_e zC103_g rfl
theorem m_f_RX2_27 : Cond.fieldLink RX2 27 "FishSteps$Steps" "money" "[I" ∈ zBig := zBig_c 1 zC103_e zC103_g rfl
theorem m_f_RX2_30 : Cond.fieldLink RX2 30 "FishSteps$Steps" "open" "I" ∈ zBig := zBig_c 2 zC103_e zC103_g rfl
theorem m_f_RX2_34 : Cond.fieldLink RX2 34 "FishSteps$Steps" "coughed" "I" ∈ zBig := zBig_c 3 zC103_e zC103_g rfl
theorem m_f_RX2_37 : Cond.fieldLink RX2 37 "FishSteps$Steps" "who" "[I" ∈ zBig := zBig_c 4 zC103_e zC103_g rfl
def zC109 : List Cond := [Cond.fieldLink RX2 40 "FishSteps$Steps" "price" "[I"]
theorem zC109_e : zC109 = (tables_1.drop 109).take 1 := by decide +kernel
theorem zC109_g : zC109.all goodWord = true := by decide +kernel
theorem m_f_RX2_40 : Cond.fieldLink RX2 40 "FishSteps$Steps" "price" "[I" ∈ zBig := zBig_c 0 zC109_e zC109_g rfl
def zC111 : List Cond := [Cond.fieldLink RX2 43 "FishSteps$Steps" "breath" "[I"]
theorem zC111_e : zC111 = (tables_1.drop 111).take 1 := by decide +kernel
theorem zC111_g : zC111.all goodWord = true := by decide +kernel
theorem m_f_RX2_43 : Cond.fieldLink RX2 43 "FishSteps$Steps" "breath" "[I" ∈ zBig := zBig_c 0 zC111_e zC111_g rfl
def zC113 : List Cond := [Cond.fieldLink RX2 46 "FishSteps$Steps" "bells" "[I"]
theorem zC113_e : zC113 = (tables_1.drop 113).take 1 := by decide +kernel
theorem zC113_g : zC113.all goodWord = true := by decide +kernel
theorem m_f_RX2_46 : Cond.fieldLink RX2 46 "FishSteps$Steps" "bells" "[I" ∈ zBig := zBig_c 0 zC113_e zC113_g rfl
def zC140 : List Cond := [Cond.classLink RX4 30 RX3, Cond.instantiable RX3 2]
theorem zC140_e : zC140 = (tables_1.drop 140).take 2 := by decide +kernel
theorem zC140_g : zC140.all goodWord = true := by decide +kernel
theorem m_c_RX4_30 : Cond.classLink RX4 30 RX3 ∈ zBig := zBig_c 0 zC140_e zC140_g rfl
theorem m_b_RX3 : Cond.instantiable RX3 2 ∈ zBig := zBig_c 1 zC140_e zC140_g rfl
def zC143 : List Cond := [Cond.instanceMethod yX3_init, Cond.code yX3_init cX3_init 1 none, Cond.methodLink RX3 3 objectInit, Cond.fieldLink RX3 11 "FishSteps$Tape" "bytes" "[B", Cond.fieldLink RX3 15 "FishSteps$Tape" "length" "I"]
theorem zC143_e : zC143 = (tables_1.drop 143).take 5 := by decide +kernel
theorem zC143_g : zC143.all goodWord = true := by decide +kernel
theorem m_i_yX3_init : Cond.instanceMethod yX3_init ∈ zBig := zBig_c 0 zC143_e zC143_g rfl
theorem m_o_yX3_init : Cond.code yX3_init cX3_init 1 none ∈ zBig := zBig_c 1 zC143_e zC143_g rfl
theorem m_m_RX3_3 : Cond.methodLink RX3 3 objectInit ∈ zBig := zBig_c 2 zC143_e zC143_g rfl
theorem m_f_RX3_11 : Cond.fieldLink RX3 11 "FishSteps$Tape" "bytes" "[B" ∈ zBig := zBig_c 3 zC143_e zC143_g rfl
theorem m_f_RX3_15 : Cond.fieldLink RX3 15 "FishSteps$Tape" "length" "I" ∈ zBig := zBig_c 4 zC143_e zC143_g rfl
def zC154 : List Cond := [Cond.arrayClass .byte, Cond.classLink RX4 37 RX1, Cond.instantiable RX1 3]
theorem zC154_e : zC154 = (tables_1.drop 154).take 3 := by decide +kernel
theorem zC154_g : zC154.all goodWord = true := by decide +kernel
theorem m_a_byte : Cond.arrayClass .byte ∈ zBig := zBig_c 0 zC154_e zC154_g rfl
theorem m_c_RX4_37 : Cond.classLink RX4 37 RX1 ∈ zBig := zBig_c 1 zC154_e zC154_g rfl
theorem m_b_RX1 : Cond.instantiable RX1 3 ∈ zBig := zBig_c 2 zC154_e zC154_g rfl
def zC158 : List Cond := [Cond.instanceMethod yX1_init, Cond.code yX1_init cX1_init 1 none, Cond.methodLink RX1 3 objectInit, Cond.fieldLink RX1 9 "FishSteps$Sheets" "lane" "[I"]
theorem zC158_e : zC158 = (tables_1.drop 158).take 4 := by decide +kernel
theorem zC158_g : zC158.all goodWord = true := by decide +kernel
theorem m_i_yX1_init : Cond.instanceMethod yX1_init ∈ zBig := zBig_c 0 zC158_e zC158_g rfl
theorem m_o_yX1_init : Cond.code yX1_init cX1_init 1 none ∈ zBig := zBig_c 1 zC158_e zC158_g rfl
theorem m_m_RX1_3 : Cond.methodLink RX1 3 objectInit ∈ zBig := zBig_c 2 zC158_e zC158_g rfl
theorem m_f_RX1_9 : Cond.fieldLink RX1 9 "FishSteps$Sheets" "lane" "[I" ∈ zBig := zBig_c 3 zC158_e zC158_g rfl
def zC163 : List Cond := [Cond.fieldLink RX1 15 "FishSteps$Sheets" "size" "[I"]
theorem zC163_e : zC163 = (tables_1.drop 163).take 1 := by decide +kernel
theorem zC163_g : zC163.all goodWord = true := by decide +kernel
theorem m_f_RX1_15 : Cond.fieldLink RX1 15 "FishSteps$Sheets" "size" "[I" ∈ zBig := zBig_c 0 zC163_e zC163_g rfl
def zC165 : List Cond := [Cond.fieldLink RX1 18 "FishSteps$Sheets" "items" "[J"]
theorem zC165_e : zC165 = (tables_1.drop 165).take 1 := by decide +kernel
theorem zC165_g : zC165.all goodWord = true := by decide +kernel
theorem m_f_RX1_18 : Cond.fieldLink RX1 18 "FishSteps$Sheets" "items" "[J" ∈ zBig := zBig_c 0 zC165_e zC165_g rfl
def zC174 : List Cond := [Cond.arrayClass .long, Cond.fieldLink RX4 10 "FishSteps" "books" "LFishSteps$Books;", Cond.fieldLink RX4 16 "FishSteps" "kept" "LFishSteps$Books;", Cond.fieldLink RX4 19 "FishSteps" "hasImage" "Z", Cond.fieldLink RX4 26 "FishSteps" "steps" "LFishSteps$Steps;", Cond.fieldLink RX4 33 "FishSteps" "tape" "LFishSteps$Tape;"]
theorem zC174_e : zC174 = (tables_1.drop 174).take 6 := by decide +kernel
theorem zC174_g : zC174.all goodWord = true := by decide +kernel
theorem m_a_long : Cond.arrayClass .long ∈ zBig := zBig_c 0 zC174_e zC174_g rfl
theorem m_f_RX4_10 : Cond.fieldLink RX4 10 "FishSteps" "books" "LFishSteps$Books;" ∈ zBig := zBig_c 1 zC174_e zC174_g rfl
theorem m_f_RX4_16 : Cond.fieldLink RX4 16 "FishSteps" "kept" "LFishSteps$Books;" ∈ zBig := zBig_c 2 zC174_e zC174_g rfl
theorem m_f_RX4_19 : Cond.fieldLink RX4 19 "FishSteps" "hasImage" "Z" ∈ zBig := zBig_c 3 zC174_e zC174_g rfl
theorem m_f_RX4_26 : Cond.fieldLink RX4 26 "FishSteps" "steps" "LFishSteps$Steps;" ∈ zBig := zBig_c 4 zC174_e zC174_g rfl
theorem m_f_RX4_33 : Cond.fieldLink RX4 33 "FishSteps" "tape" "LFishSteps$Tape;" ∈ zBig := zBig_c 5 zC174_e zC174_g rfl
def zC180 : List Cond := [Cond.fieldLink RX4 40 "FishSteps" "sheets" "LFishSteps$Sheets;", Cond.fieldLink RX4 44 "FishSteps" "restGains" "[I", Cond.fieldLink RX4 48 "FishSteps" "firstRest" "I", Cond.fieldLink RX4 52 "FishSteps" "row" "[I", Cond.fieldLink RX4 55 "FishSteps" "bestRow" "[I", Cond.fieldLink RX4 58 "FishSteps" "lawTold" "[I", Cond.fieldLink RX4 61 "FishSteps" "lotsTold" "[I"]
theorem zC180_e : zC180 = (tables_1.drop 180).take 7 := by decide +kernel
theorem zC180_g : zC180.all goodWord = true := by decide +kernel
theorem m_f_RX4_40 : Cond.fieldLink RX4 40 "FishSteps" "sheets" "LFishSteps$Sheets;" ∈ zBig := zBig_c 0 zC180_e zC180_g rfl
theorem m_f_RX4_44 : Cond.fieldLink RX4 44 "FishSteps" "restGains" "[I" ∈ zBig := zBig_c 1 zC180_e zC180_g rfl
theorem m_f_RX4_48 : Cond.fieldLink RX4 48 "FishSteps" "firstRest" "I" ∈ zBig := zBig_c 2 zC180_e zC180_g rfl
theorem m_f_RX4_52 : Cond.fieldLink RX4 52 "FishSteps" "row" "[I" ∈ zBig := zBig_c 3 zC180_e zC180_g rfl
theorem m_f_RX4_55 : Cond.fieldLink RX4 55 "FishSteps" "bestRow" "[I" ∈ zBig := zBig_c 4 zC180_e zC180_g rfl
theorem m_f_RX4_58 : Cond.fieldLink RX4 58 "FishSteps" "lawTold" "[I" ∈ zBig := zBig_c 5 zC180_e zC180_g rfl
theorem m_f_RX4_61 : Cond.fieldLink RX4 61 "FishSteps" "lotsTold" "[I" ∈ zBig := zBig_c 6 zC180_e zC180_g rfl
def zC212 : List Cond := [Cond.methodLink RL 13 yX4_rule, Cond.instanceMethod yX4_rule, Cond.selects RX4 yX4_rule yX4_rule, Cond.code yX4_rule cX4_rule 4 (some .int), Cond.methodLink RX4 64 yX4_fitsRule, Cond.static yX4_fitsRule, Cond.code yX4_fitsRule cX4_fitsRule 2 (some .boolean), Cond.fieldLink RX4 245 "FishSteps" "RULE_LEAST" "[I"]
theorem zC212_e : zC212 = (tables_1.drop 212).take 8 := by decide +kernel
theorem zC212_g : zC212.all goodWord = true := by decide +kernel
theorem m_m_RL_13 : Cond.methodLink RL 13 yX4_rule ∈ zBig := zBig_c 0 zC212_e zC212_g rfl
theorem m_i_yX4_rule : Cond.instanceMethod yX4_rule ∈ zBig := zBig_c 1 zC212_e zC212_g rfl
theorem m_e_yX4_rule : Cond.selects RX4 yX4_rule yX4_rule ∈ zBig := zBig_c 2 zC212_e zC212_g rfl
theorem m_o_yX4_rule : Cond.code yX4_rule cX4_rule 4 (some .int) ∈ zBig := zBig_c 3 zC212_e zC212_g rfl
theorem m_m_RX4_64 : Cond.methodLink RX4 64 yX4_fitsRule ∈ zBig := zBig_c 4 zC212_e zC212_g rfl
theorem m_s_yX4_fitsRule : Cond.static yX4_fitsRule ∈ zBig := zBig_c 5 zC212_e zC212_g rfl
theorem m_o_yX4_fitsRule : Cond.code yX4_fitsRule cX4_fitsRule 2 (some .boolean) ∈ zBig := zBig_c 6 zC212_e zC212_g rfl
theorem m_f_RX4_245 : Cond.fieldLink RX4 245 "FishSteps" "RULE_LEAST" "[I" ∈ zBig := zBig_c 7 zC212_e zC212_g rfl
def zC221 : List Cond := [Cond.fieldLink RX4 248 "FishSteps" "RULE_MOST" "[I"]
theorem zC221_e : zC221 = (tables_1.drop 221).take 1 := by decide +kernel
theorem zC221_g : zC221.all goodWord = true := by decide +kernel
theorem m_f_RX4_248 : Cond.fieldLink RX4 248 "FishSteps" "RULE_MOST" "[I" ∈ zBig := zBig_c 0 zC221_e zC221_g rfl
def zC223 : List Cond := [Cond.methodLink RL 18 yX4_buyer, Cond.instanceMethod yX4_buyer, Cond.selects RX4 yX4_buyer yX4_buyer, Cond.code yX4_buyer cX4_buyer 4 (some .int), Cond.methodLink RL 22 yX4_worth, Cond.instanceMethod yX4_worth, Cond.selects RX4 yX4_worth yX4_worth, Cond.code yX4_worth cX4_worth 6 (some .int)]
theorem zC223_e : zC223 = (tables_1.drop 223).take 8 := by decide +kernel
theorem zC223_g : zC223.all goodWord = true := by decide +kernel
theorem m_m_RL_18 : Cond.methodLink RL 18 yX4_buyer ∈ zBig := zBig_c 0 zC223_e zC223_g rfl
theorem m_i_yX4_buyer : Cond.instanceMethod yX4_buyer ∈ zBig := zBig_c 1 zC223_e zC223_g rfl
theorem m_e_yX4_buyer : Cond.selects RX4 yX4_buyer yX4_buyer ∈ zBig := zBig_c 2 zC223_e zC223_g rfl
theorem m_o_yX4_buyer : Cond.code yX4_buyer cX4_buyer 4 (some .int) ∈ zBig := zBig_c 3 zC223_e zC223_g rfl
theorem m_m_RL_22 : Cond.methodLink RL 22 yX4_worth ∈ zBig := zBig_c 4 zC223_e zC223_g rfl
theorem m_i_yX4_worth : Cond.instanceMethod yX4_worth ∈ zBig := zBig_c 5 zC223_e zC223_g rfl
theorem m_e_yX4_worth : Cond.selects RX4 yX4_worth yX4_worth ∈ zBig := zBig_c 6 zC223_e zC223_g rfl
theorem m_o_yX4_worth : Cond.code yX4_worth cX4_worth 6 (some .int) ∈ zBig := zBig_c 7 zC223_e zC223_g rfl
def zC233 : List Cond := [Cond.instanceMethod yX0_isThere, Cond.code yX0_isThere cX0_isThere 2 (some .boolean), Cond.methodLink RX4 84 yX4_isKind, Cond.static yX4_isKind, Cond.code yX4_isKind cX4_isKind 1 (some .boolean), Cond.methodLink RL 27 yX4_margin, Cond.instanceMethod yX4_margin]
theorem zC233_e : zC233 = (tables_1.drop 233).take 7 := by decide +kernel
theorem zC233_g : zC233.all goodWord = true := by decide +kernel
theorem m_i_yX0_isThere : Cond.instanceMethod yX0_isThere ∈ zBig := zBig_c 0 zC233_e zC233_g rfl
theorem m_o_yX0_isThere : Cond.code yX0_isThere cX0_isThere 2 (some .boolean) ∈ zBig := zBig_c 1 zC233_e zC233_g rfl
theorem m_m_RX4_84 : Cond.methodLink RX4 84 yX4_isKind ∈ zBig := zBig_c 2 zC233_e zC233_g rfl
theorem m_s_yX4_isKind : Cond.static yX4_isKind ∈ zBig := zBig_c 3 zC233_e zC233_g rfl
theorem m_o_yX4_isKind : Cond.code yX4_isKind cX4_isKind 1 (some .boolean) ∈ zBig := zBig_c 4 zC233_e zC233_g rfl
theorem m_m_RL_27 : Cond.methodLink RL 27 yX4_margin ∈ zBig := zBig_c 5 zC233_e zC233_g rfl
theorem m_i_yX4_margin : Cond.instanceMethod yX4_margin ∈ zBig := zBig_c 6 zC233_e zC233_g rfl
def zC240 : List Cond := [Cond.selects RX4 yX4_margin yX4_margin, Cond.code yX4_margin cX4_margin 4 (some .int), Cond.methodLink RL 31 yX4_told, Cond.instanceMethod yX4_told, Cond.selects RX4 yX4_told yX4_told, Cond.code yX4_told cX4_told 3 (some .int), Cond.constant RX4 93 (-100001)]
theorem zC240_e : zC240 = (tables_1.drop 240).take 7 := by decide +kernel
theorem zC240_g : zC240.all goodWord = true := by decide +kernel
theorem m_e_yX4_margin : Cond.selects RX4 yX4_margin yX4_margin ∈ zBig := zBig_c 0 zC240_e zC240_g rfl
theorem m_o_yX4_margin : Cond.code yX4_margin cX4_margin 4 (some .int) ∈ zBig := zBig_c 1 zC240_e zC240_g rfl
theorem m_m_RL_31 : Cond.methodLink RL 31 yX4_told ∈ zBig := zBig_c 2 zC240_e zC240_g rfl
theorem m_i_yX4_told : Cond.instanceMethod yX4_told ∈ zBig := zBig_c 3 zC240_e zC240_g rfl
theorem m_e_yX4_told : Cond.selects RX4 yX4_told yX4_told ∈ zBig := zBig_c 4 zC240_e zC240_g rfl
theorem m_o_yX4_told : Cond.code yX4_told cX4_told 3 (some .int) ∈ zBig := zBig_c 5 zC240_e zC240_g rfl
theorem m_k_RX4_93 : Cond.constant RX4 93 (-100001) ∈ zBig := zBig_c 6 zC240_e zC240_g rfl
def zC249 : List Cond := [Cond.instanceMethod yX0_worthOf, Cond.code yX0_worthOf cX0_worthOf 3 (some .int), Cond.methodLink RX0 66 yX0_isThere]
theorem zC249_e : zC249 = (tables_1.drop 249).take 3 := by decide +kernel
theorem zC249_g : zC249.all goodWord = true := by decide +kernel
theorem m_i_yX0_worthOf : Cond.instanceMethod yX0_worthOf ∈ zBig := zBig_c 0 zC249_e zC249_g rfl
theorem m_o_yX0_worthOf : Cond.code yX0_worthOf cX0_worthOf 3 (some .int) ∈ zBig := zBig_c 1 zC249_e zC249_g rfl
theorem m_m_RX0_66 : Cond.methodLink RX0 66 yX0_isThere ∈ zBig := zBig_c 2 zC249_e zC249_g rfl
def zC253 : List Cond := [Cond.methodLink RL 35 yX4_earn, Cond.instanceMethod yX4_earn, Cond.selects RX4 yX4_earn yX4_earn, Cond.code yX4_earn cX4_earn 4 (some .int), Cond.constant RX4 98 (-100003), Cond.methodLink RL 41 yX4_type, Cond.instanceMethod yX4_type, Cond.selects RX4 yX4_type yX4_type, Cond.code yX4_type cX4_type 4 (some .int)]
theorem zC253_e : zC253 = (tables_1.drop 253).take 9 := by decide +kernel
theorem zC253_g : zC253.all goodWord = true := by decide +kernel
theorem m_m_RL_35 : Cond.methodLink RL 35 yX4_earn ∈ zBig := zBig_c 0 zC253_e zC253_g rfl
theorem m_i_yX4_earn : Cond.instanceMethod yX4_earn ∈ zBig := zBig_c 1 zC253_e zC253_g rfl
theorem m_e_yX4_earn : Cond.selects RX4 yX4_earn yX4_earn ∈ zBig := zBig_c 2 zC253_e zC253_g rfl
theorem m_o_yX4_earn : Cond.code yX4_earn cX4_earn 4 (some .int) ∈ zBig := zBig_c 3 zC253_e zC253_g rfl
theorem m_k_RX4_98 : Cond.constant RX4 98 (-100003) ∈ zBig := zBig_c 4 zC253_e zC253_g rfl
theorem m_m_RL_41 : Cond.methodLink RL 41 yX4_type ∈ zBig := zBig_c 5 zC253_e zC253_g rfl
theorem m_i_yX4_type : Cond.instanceMethod yX4_type ∈ zBig := zBig_c 6 zC253_e zC253_g rfl
theorem m_e_yX4_type : Cond.selects RX4 yX4_type yX4_type ∈ zBig := zBig_c 7 zC253_e zC253_g rfl
theorem m_o_yX4_type : Cond.code yX4_type cX4_type 4 (some .int) ∈ zBig := zBig_c 8 zC253_e zC253_g rfl
def zC264 : List Cond := [Cond.instanceMethod yX3_append, Cond.code yX3_append cX3_append 6 (some .int), Cond.methodLink RX3 19 yX3_byteOf, Cond.static yX3_byteOf, Cond.code yX3_byteOf cX3_byteOf 3 (some .int), Cond.constantLong RX3 23 255]
theorem zC264_e : zC264 = (tables_1.drop 264).take 6 := by decide +kernel
theorem zC264_g : zC264.all goodWord = true := by decide +kernel
theorem m_i_yX3_append : Cond.instanceMethod yX3_append ∈ zBig := zBig_c 0 zC264_e zC264_g rfl
theorem m_o_yX3_append : Cond.code yX3_append cX3_append 6 (some .int) ∈ zBig := zBig_c 1 zC264_e zC264_g rfl
theorem m_m_RX3_19 : Cond.methodLink RX3 19 yX3_byteOf ∈ zBig := zBig_c 2 zC264_e zC264_g rfl
theorem m_s_yX3_byteOf : Cond.static yX3_byteOf ∈ zBig := zBig_c 3 zC264_e zC264_g rfl
theorem m_o_yX3_byteOf : Cond.code yX3_byteOf cX3_byteOf 3 (some .int) ∈ zBig := zBig_c 4 zC264_e zC264_g rfl
theorem m_k_RX3_23 : Cond.constantLong RX3 23 255 ∈ zBig := zBig_c 5 zC264_e zC264_g rfl
def zC270 : List Cond := [Cond.methodLink RL 46 yX4_rules, Cond.instanceMethod yX4_rules, Cond.selects RX4 yX4_rules yX4_rules, Cond.code yX4_rules cX4_rules 3 (some .int)]
theorem zC270_e : zC270 = (tables_1.drop 270).take 4 := by decide +kernel
theorem zC270_g : zC270.all goodWord = true := by decide +kernel
theorem m_m_RL_46 : Cond.methodLink RL 46 yX4_rules ∈ zBig := zBig_c 0 zC270_e zC270_g rfl
theorem m_i_yX4_rules : Cond.instanceMethod yX4_rules ∈ zBig := zBig_c 1 zC270_e zC270_g rfl
theorem m_e_yX4_rules : Cond.selects RX4 yX4_rules yX4_rules ∈ zBig := zBig_c 2 zC270_e zC270_g rfl
theorem m_o_yX4_rules : Cond.code yX4_rules cX4_rules 3 (some .int) ∈ zBig := zBig_c 3 zC270_e zC270_g rfl
def zC276 : List Cond := [Cond.instanceMethod yX3_readLaw, Cond.code yX3_readLaw cX3_readLaw 8 (some .int), Cond.methodLink RX3 25 yJ7_fill_53178, Cond.methodLink RX3 31 yX3_behindBlanks]
theorem zC276_e : zC276 = (tables_1.drop 276).take 4 := by decide +kernel
theorem zC276_g : zC276.all goodWord = true := by decide +kernel
theorem m_i_yX3_readLaw : Cond.instanceMethod yX3_readLaw ∈ zBig := zBig_c 0 zC276_e zC276_g rfl
theorem m_o_yX3_readLaw : Cond.code yX3_readLaw cX3_readLaw 8 (some .int) ∈ zBig := zBig_c 1 zC276_e zC276_g rfl
theorem m_m_RX3_25 : Cond.methodLink RX3 25 yJ7_fill_53178 ∈ zBig := zBig_c 2 zC276_e zC276_g rfl
theorem m_m_RX3_31 : Cond.methodLink RX3 31 yX3_behindBlanks ∈ zBig := zBig_c 3 zC276_e zC276_g rfl
def zC281 : List Cond := [Cond.instanceMethod yX3_behindBlanks, Cond.code yX3_behindBlanks cX3_behindBlanks 3 (some .int), Cond.methodLink RX3 49 yX3_charAt]
theorem zC281_e : zC281 = (tables_1.drop 281).take 3 := by decide +kernel
theorem zC281_g : zC281.all goodWord = true := by decide +kernel
theorem m_i_yX3_behindBlanks : Cond.instanceMethod yX3_behindBlanks ∈ zBig := zBig_c 0 zC281_e zC281_g rfl
theorem m_o_yX3_behindBlanks : Cond.code yX3_behindBlanks cX3_behindBlanks 3 (some .int) ∈ zBig := zBig_c 1 zC281_e zC281_g rfl
theorem m_m_RX3_49 : Cond.methodLink RX3 49 yX3_charAt ∈ zBig := zBig_c 2 zC281_e zC281_g rfl
def zC285 : List Cond := [Cond.instanceMethod yX3_charAt, Cond.code yX3_charAt cX3_charAt 2 (some .int), Cond.methodLink RX3 35 yX3_ruleAt]
theorem zC285_e : zC285 = (tables_1.drop 285).take 3 := by decide +kernel
theorem zC285_g : zC285.all goodWord = true := by decide +kernel
theorem m_i_yX3_charAt : Cond.instanceMethod yX3_charAt ∈ zBig := zBig_c 0 zC285_e zC285_g rfl
theorem m_o_yX3_charAt : Cond.code yX3_charAt cX3_charAt 2 (some .int) ∈ zBig := zBig_c 1 zC285_e zC285_g rfl
theorem m_m_RX3_35 : Cond.methodLink RX3 35 yX3_ruleAt ∈ zBig := zBig_c 2 zC285_e zC285_g rfl
def zC289 : List Cond := [Cond.instanceMethod yX3_ruleAt, Cond.code yX3_ruleAt cX3_ruleAt 2 (some .int), Cond.methodLink RX3 38 yX3_behindDigits]
theorem zC289_e : zC289 = (tables_1.drop 289).take 3 := by decide +kernel
theorem zC289_g : zC289.all goodWord = true := by decide +kernel
theorem m_i_yX3_ruleAt : Cond.instanceMethod yX3_ruleAt ∈ zBig := zBig_c 0 zC289_e zC289_g rfl
theorem m_o_yX3_ruleAt : Cond.code yX3_ruleAt cX3_ruleAt 2 (some .int) ∈ zBig := zBig_c 1 zC289_e zC289_g rfl
theorem m_m_RX3_38 : Cond.methodLink RX3 38 yX3_behindDigits ∈ zBig := zBig_c 2 zC289_e zC289_g rfl
def zC293 : List Cond := [Cond.instanceMethod yX3_behindDigits, Cond.code yX3_behindDigits cX3_behindDigits 3 (some .int), Cond.methodLink RX3 41 yX3_numberAt]
theorem zC293_e : zC293 = (tables_1.drop 293).take 3 := by decide +kernel
theorem zC293_g : zC293.all goodWord = true := by decide +kernel
theorem m_i_yX3_behindDigits : Cond.instanceMethod yX3_behindDigits ∈ zBig := zBig_c 0 zC293_e zC293_g rfl
theorem m_o_yX3_behindDigits : Cond.code yX3_behindDigits cX3_behindDigits 3 (some .int) ∈ zBig := zBig_c 1 zC293_e zC293_g rfl
theorem m_m_RX3_41 : Cond.methodLink RX3 41 yX3_numberAt ∈ zBig := zBig_c 2 zC293_e zC293_g rfl
def zC297 : List Cond := [Cond.instanceMethod yX3_numberAt, Cond.code yX3_numberAt cX3_numberAt 5 (some .int), Cond.methodLink RX3 56 Lib.Math.min.name]
theorem zC297_e : zC297 = (tables_1.drop 297).take 3 := by decide +kernel
theorem zC297_g : zC297.all goodWord = true := by decide +kernel
theorem m_i_yX3_numberAt : Cond.instanceMethod yX3_numberAt ∈ zBig := zBig_c 0 zC297_e zC297_g rfl
theorem m_o_yX3_numberAt : Cond.code yX3_numberAt cX3_numberAt 5 (some .int) ∈ zBig := zBig_c 1 zC297_e zC297_g rfl
theorem m_m_RX3_56 : Cond.methodLink RX3 56 Lib.Math.min.name ∈ zBig := zBig_c 2 zC297_e zC297_g rfl
def zC300 : List Cond := [Cond.static Lib.Math.min.name, Cond.code Lib.Math.min.name Lib.Math.min.code 2 (some .int)]
theorem zC300_e : zC300 = (tables_1.drop 300).take 2 := by decide +kernel
theorem zC300_g : zC300.all goodWord = true := by decide +kernel
theorem m_s_Lib_Math_min_name : Cond.static Lib.Math.min.name ∈ zBig := zBig_c 0 zC300_e zC300_g rfl
theorem m_o_Lib_Math_min_name : Cond.code Lib.Math.min.name Lib.Math.min.code 2 (some .int) ∈ zBig := zBig_c 1 zC300_e zC300_g rfl
def zC303 : List Cond := [Cond.methodLink RL 51 yX4_lots, Cond.instanceMethod yX4_lots, Cond.selects RX4 yX4_lots yX4_lots, Cond.code yX4_lots cX4_lots 2 (some .int)]
theorem zC303_e : zC303 = (tables_1.drop 303).take 4 := by decide +kernel
theorem zC303_g : zC303.all goodWord = true := by decide +kernel
theorem m_m_RL_51 : Cond.methodLink RL 51 yX4_lots ∈ zBig := zBig_c 0 zC303_e zC303_g rfl
theorem m_i_yX4_lots : Cond.instanceMethod yX4_lots ∈ zBig := zBig_c 1 zC303_e zC303_g rfl
theorem m_e_yX4_lots : Cond.selects RX4 yX4_lots yX4_lots ∈ zBig := zBig_c 2 zC303_e zC303_g rfl
theorem m_o_yX4_lots : Cond.code yX4_lots cX4_lots 2 (some .int) ∈ zBig := zBig_c 3 zC303_e zC303_g rfl
def zC309 : List Cond := [Cond.instanceMethod yX3_readLots, Cond.code yX3_readLots cX3_readLots 5 (some .int)]
theorem zC309_e : zC309 = (tables_1.drop 309).take 2 := by decide +kernel
theorem zC309_g : zC309.all goodWord = true := by decide +kernel
theorem m_i_yX3_readLots : Cond.instanceMethod yX3_readLots ∈ zBig := zBig_c 0 zC309_e zC309_g rfl
theorem m_o_yX3_readLots : Cond.code yX3_readLots cX3_readLots 5 (some .int) ∈ zBig := zBig_c 1 zC309_e zC309_g rfl
def zC312 : List Cond := [Cond.methodLink RX4 116 arraycopyName, Cond.static arraycopyName, Cond.native arraycopyName, Cond.methodLink RL 55 yX4_count, Cond.instanceMethod yX4_count, Cond.selects RX4 yX4_count yX4_count, Cond.code yX4_count cX4_count 2 (some .int)]
theorem zC312_e : zC312 = (tables_1.drop 312).take 7 := by decide +kernel
theorem zC312_g : zC312.all goodWord = true := by decide +kernel
theorem m_m_RX4_116 : Cond.methodLink RX4 116 arraycopyName ∈ zBig := zBig_c 0 zC312_e zC312_g rfl
theorem m_s_arraycopyName : Cond.static arraycopyName ∈ zBig := zBig_c 1 zC312_e zC312_g rfl
theorem m_n_arraycopyName : Cond.native arraycopyName ∈ zBig := zBig_c 2 zC312_e zC312_g rfl
theorem m_m_RL_55 : Cond.methodLink RL 55 yX4_count ∈ zBig := zBig_c 3 zC312_e zC312_g rfl
theorem m_i_yX4_count : Cond.instanceMethod yX4_count ∈ zBig := zBig_c 4 zC312_e zC312_g rfl
theorem m_e_yX4_count : Cond.selects RX4 yX4_count yX4_count ∈ zBig := zBig_c 5 zC312_e zC312_g rfl
theorem m_o_yX4_count : Cond.code yX4_count cX4_count 2 (some .int) ∈ zBig := zBig_c 6 zC312_e zC312_g rfl
def zC321 : List Cond := [Cond.instanceMethod yX0_countOwing, Cond.code yX0_countOwing cX0_countOwing 3 (some .int)]
theorem zC321_e : zC321 = (tables_1.drop 321).take 2 := by decide +kernel
theorem zC321_g : zC321.all goodWord = true := by decide +kernel
theorem m_i_yX0_countOwing : Cond.instanceMethod yX0_countOwing ∈ zBig := zBig_c 0 zC321_e zC321_g rfl
theorem m_o_yX0_countOwing : Cond.code yX0_countOwing cX0_countOwing 3 (some .int) ∈ zBig := zBig_c 1 zC321_e zC321_g rfl
def zC325 : List Cond := [Cond.instanceMethod yX0_countKinds, Cond.code yX0_countKinds cX0_countKinds 3 (some .int), Cond.methodLink RX0 73 yJ6_bitCount_0f7a4, Cond.static yJ6_bitCount_0f7a4, Cond.code yJ6_bitCount_0f7a4 cJ6_bitCount_0f7a4 1 (some .int)]
theorem zC325_e : zC325 = (tables_1.drop 325).take 5 := by decide +kernel
theorem zC325_g : zC325.all goodWord = true := by decide +kernel
theorem m_i_yX0_countKinds : Cond.instanceMethod yX0_countKinds ∈ zBig := zBig_c 0 zC325_e zC325_g rfl
theorem m_o_yX0_countKinds : Cond.code yX0_countKinds cX0_countKinds 3 (some .int) ∈ zBig := zBig_c 1 zC325_e zC325_g rfl
theorem m_m_RX0_73 : Cond.methodLink RX0 73 yJ6_bitCount_0f7a4 ∈ zBig := zBig_c 2 zC325_e zC325_g rfl
theorem m_s_yJ6_bitCount_0f7a4 : Cond.static yJ6_bitCount_0f7a4 ∈ zBig := zBig_c 3 zC325_e zC325_g rfl
theorem m_o_yJ6_bitCount_0f7a4 : Cond.code yJ6_bitCount_0f7a4 cJ6_bitCount_0f7a4 1 (some .int) ∈ zBig := zBig_c 4 zC325_e zC325_g rfl
def zC330 : List Cond := [Cond.constant RJ6 265 1431655765, Cond.constant RJ6 266 858993459, Cond.constant RJ6 267 252645135, Cond.methodLink RL 60 yX4_lot, Cond.instanceMethod yX4_lot, Cond.selects RX4 yX4_lot yX4_lot, Cond.code yX4_lot cX4_lot 3 (some .int)]
theorem zC330_e : zC330 = (tables_1.drop 330).take 7 := by decide +kernel
theorem zC330_g : zC330.all goodWord = true := by decide +kernel
theorem m_k_RJ6_265 : Cond.constant RJ6 265 1431655765 ∈ zBig := zBig_c 0 zC330_e zC330_g rfl
theorem m_k_RJ6_266 : Cond.constant RJ6 266 858993459 ∈ zBig := zBig_c 1 zC330_e zC330_g rfl
theorem m_k_RJ6_267 : Cond.constant RJ6 267 252645135 ∈ zBig := zBig_c 2 zC330_e zC330_g rfl
theorem m_m_RL_60 : Cond.methodLink RL 60 yX4_lot ∈ zBig := zBig_c 3 zC330_e zC330_g rfl
theorem m_i_yX4_lot : Cond.instanceMethod yX4_lot ∈ zBig := zBig_c 4 zC330_e zC330_g rfl
theorem m_e_yX4_lot : Cond.selects RX4 yX4_lot yX4_lot ∈ zBig := zBig_c 5 zC330_e zC330_g rfl
theorem m_o_yX4_lot : Cond.code yX4_lot cX4_lot 3 (some .int) ∈ zBig := zBig_c 6 zC330_e zC330_g rfl
def zC339 : List Cond := [Cond.instanceMethod yX2_fallAsTold, Cond.code yX2_fallAsTold cX2_fallAsTold 2 none, Cond.methodLink RX2 65 yX2_takeMargins]
theorem zC339_e : zC339 = (tables_1.drop 339).take 3 := by decide +kernel
theorem zC339_g : zC339.all goodWord = true := by decide +kernel
theorem m_i_yX2_fallAsTold : Cond.instanceMethod yX2_fallAsTold ∈ zBig := zBig_c 0 zC339_e zC339_g rfl
theorem m_o_yX2_fallAsTold : Cond.code yX2_fallAsTold cX2_fallAsTold 2 none ∈ zBig := zBig_c 1 zC339_e zC339_g rfl
theorem m_m_RX2_65 : Cond.methodLink RX2 65 yX2_takeMargins ∈ zBig := zBig_c 2 zC339_e zC339_g rfl
def zC343 : List Cond := [Cond.instanceMethod yX2_takeMargins, Cond.code yX2_takeMargins cX2_takeMargins 2 none, Cond.methodLink RX2 52 arraycopyName, Cond.methodLink RX2 69 yX2_fall]
theorem zC343_e : zC343 = (tables_1.drop 343).take 4 := by decide +kernel
theorem zC343_g : zC343.all goodWord = true := by decide +kernel
theorem m_i_yX2_takeMargins : Cond.instanceMethod yX2_takeMargins ∈ zBig := zBig_c 0 zC343_e zC343_g rfl
theorem m_o_yX2_takeMargins : Cond.code yX2_takeMargins cX2_takeMargins 2 none ∈ zBig := zBig_c 1 zC343_e zC343_g rfl
theorem m_m_RX2_52 : Cond.methodLink RX2 52 arraycopyName ∈ zBig := zBig_c 2 zC343_e zC343_g rfl
theorem m_m_RX2_69 : Cond.methodLink RX2 69 yX2_fall ∈ zBig := zBig_c 3 zC343_e zC343_g rfl
def zC348 : List Cond := [Cond.instanceMethod yX2_fall, Cond.code yX2_fall cX2_fall 4 none, Cond.methodLink RX2 73 yX2_begin]
theorem zC348_e : zC348 = (tables_1.drop 348).take 3 := by decide +kernel
theorem zC348_g : zC348.all goodWord = true := by decide +kernel
theorem m_i_yX2_fall : Cond.instanceMethod yX2_fall ∈ zBig := zBig_c 0 zC348_e zC348_g rfl
theorem m_o_yX2_fall : Cond.code yX2_fall cX2_fall 4 none ∈ zBig := zBig_c 1 zC348_e zC348_g rfl
theorem m_m_RX2_73 : Cond.methodLink RX2 73 yX2_begin ∈ zBig := zBig_c 2 zC348_e zC348_g rfl
def zC352 : List Cond := [Cond.instanceMethod yX2_begin, Cond.code yX2_begin cX2_begin 2 none, Cond.methodLink RX2 59 yJ7_fill_53178, Cond.methodLink RX2 79 yX2_fallLot]
theorem zC352_e : zC352 = (tables_1.drop 352).take 4 := by decide +kernel
theorem zC352_g : zC352.all goodWord = true := by decide +kernel
theorem m_i_yX2_begin : Cond.instanceMethod yX2_begin ∈ zBig := zBig_c 0 zC352_e zC352_g rfl
theorem m_o_yX2_begin : Cond.code yX2_begin cX2_begin 2 none ∈ zBig := zBig_c 1 zC352_e zC352_g rfl
theorem m_m_RX2_59 : Cond.methodLink RX2 59 yJ7_fill_53178 ∈ zBig := zBig_c 2 zC352_e zC352_g rfl
theorem m_m_RX2_79 : Cond.methodLink RX2 79 yX2_fallLot ∈ zBig := zBig_c 3 zC352_e zC352_g rfl
def zC357 : List Cond := [Cond.instanceMethod yX2_fallLot, Cond.code yX2_fallLot cX2_fallLot 12 none, Cond.methodLink RX2 100 yX2_ready]
theorem zC357_e : zC357 = (tables_1.drop 357).take 3 := by decide +kernel
theorem zC357_g : zC357.all goodWord = true := by decide +kernel
theorem m_i_yX2_fallLot : Cond.instanceMethod yX2_fallLot ∈ zBig := zBig_c 0 zC357_e zC357_g rfl
theorem m_o_yX2_fallLot : Cond.code yX2_fallLot cX2_fallLot 12 none ∈ zBig := zBig_c 1 zC357_e zC357_g rfl
theorem m_m_RX2_100 : Cond.methodLink RX2 100 yX2_ready ∈ zBig := zBig_c 2 zC357_e zC357_g rfl
def zC361 : List Cond := [Cond.instanceMethod yX2_ready, Cond.code yX2_ready cX2_ready 5 none]
theorem zC361_e : zC361 = (tables_1.drop 361).take 2 := by decide +kernel
theorem zC361_g : zC361.all goodWord = true := by decide +kernel
theorem m_i_yX2_ready : Cond.instanceMethod yX2_ready ∈ zBig := zBig_c 0 zC361_e zC361_g rfl
theorem m_o_yX2_ready : Cond.code yX2_ready cX2_ready 5 none ∈ zBig := zBig_c 1 zC361_e zC361_g rfl
def zC364 : List Cond := [Cond.methodLink RX2 143 yX2_charge]
theorem zC364_e : zC364 = (tables_1.drop 364).take 1 := by decide +kernel
theorem zC364_g : zC364.all goodWord = true := by decide +kernel
theorem m_m_RX2_143 : Cond.methodLink RX2 143 yX2_charge ∈ zBig := zBig_c 0 zC364_e zC364_g rfl
def zC366 : List Cond := [Cond.instanceMethod yX2_charge, Cond.code yX2_charge cX2_charge 3 (some .int), Cond.methodLink RX2 103 yX2_silentOf]
theorem zC366_e : zC366 = (tables_1.drop 366).take 3 := by decide +kernel
theorem zC366_g : zC366.all goodWord = true := by decide +kernel
theorem m_i_yX2_charge : Cond.instanceMethod yX2_charge ∈ zBig := zBig_c 0 zC366_e zC366_g rfl
theorem m_o_yX2_charge : Cond.code yX2_charge cX2_charge 3 (some .int) ∈ zBig := zBig_c 1 zC366_e zC366_g rfl
theorem m_m_RX2_103 : Cond.methodLink RX2 103 yX2_silentOf ∈ zBig := zBig_c 2 zC366_e zC366_g rfl
def zC370 : List Cond := [Cond.instanceMethod yX2_silentOf, Cond.code yX2_silentOf cX2_silentOf 7 (some .int), Cond.methodLink RX2 93 yX2_isIn, Cond.static yX2_isIn, Cond.code yX2_isIn cX2_isIn 2 (some .boolean), Cond.methodLink RX2 110 yX2_coughsAt]
theorem zC370_e : zC370 = (tables_1.drop 370).take 6 := by decide +kernel
theorem zC370_g : zC370.all goodWord = true := by decide +kernel
theorem m_i_yX2_silentOf : Cond.instanceMethod yX2_silentOf ∈ zBig := zBig_c 0 zC370_e zC370_g rfl
theorem m_o_yX2_silentOf : Cond.code yX2_silentOf cX2_silentOf 7 (some .int) ∈ zBig := zBig_c 1 zC370_e zC370_g rfl
theorem m_m_RX2_93 : Cond.methodLink RX2 93 yX2_isIn ∈ zBig := zBig_c 2 zC370_e zC370_g rfl
theorem m_s_yX2_isIn : Cond.static yX2_isIn ∈ zBig := zBig_c 3 zC370_e zC370_g rfl
theorem m_o_yX2_isIn : Cond.code yX2_isIn cX2_isIn 2 (some .boolean) ∈ zBig := zBig_c 4 zC370_e zC370_g rfl
theorem m_m_RX2_110 : Cond.methodLink RX2 110 yX2_coughsAt ∈ zBig := zBig_c 5 zC370_e zC370_g rfl
def zC377 : List Cond := [Cond.instanceMethod yX2_coughsAt, Cond.code yX2_coughsAt cX2_coughsAt 7 (some .int), Cond.methodLink RX2 113 yX2_nextCough]
theorem zC377_e : zC377 = (tables_1.drop 377).take 3 := by decide +kernel
theorem zC377_g : zC377.all goodWord = true := by decide +kernel
theorem m_i_yX2_coughsAt : Cond.instanceMethod yX2_coughsAt ∈ zBig := zBig_c 0 zC377_e zC377_g rfl
theorem m_o_yX2_coughsAt : Cond.code yX2_coughsAt cX2_coughsAt 7 (some .int) ∈ zBig := zBig_c 1 zC377_e zC377_g rfl
theorem m_m_RX2_113 : Cond.methodLink RX2 113 yX2_nextCough ∈ zBig := zBig_c 2 zC377_e zC377_g rfl
def zC381 : List Cond := [Cond.instanceMethod yX2_nextCough, Cond.code yX2_nextCough cX2_nextCough 6 (some .int), Cond.methodLink RX2 131 Lib.Math.min.name, Cond.methodLink RX2 116 Lib.Math.max.name, Cond.static Lib.Math.max.name, Cond.code Lib.Math.max.name Lib.Math.max.code 2 (some .int), Cond.methodLink RX2 122 yJ6_bitCount_0f7a4, Cond.methodLink RX2 128 yX2_firstOf, Cond.static yX2_firstOf]
theorem zC381_e : zC381 = (tables_1.drop 381).take 9 := by decide +kernel
theorem zC381_g : zC381.all goodWord = true := by decide +kernel
theorem m_i_yX2_nextCough : Cond.instanceMethod yX2_nextCough ∈ zBig := zBig_c 0 zC381_e zC381_g rfl
theorem m_o_yX2_nextCough : Cond.code yX2_nextCough cX2_nextCough 6 (some .int) ∈ zBig := zBig_c 1 zC381_e zC381_g rfl
theorem m_m_RX2_131 : Cond.methodLink RX2 131 Lib.Math.min.name ∈ zBig := zBig_c 2 zC381_e zC381_g rfl
theorem m_m_RX2_116 : Cond.methodLink RX2 116 Lib.Math.max.name ∈ zBig := zBig_c 3 zC381_e zC381_g rfl
theorem m_s_Lib_Math_max_name : Cond.static Lib.Math.max.name ∈ zBig := zBig_c 4 zC381_e zC381_g rfl
theorem m_o_Lib_Math_max_name : Cond.code Lib.Math.max.name Lib.Math.max.code 2 (some .int) ∈ zBig := zBig_c 5 zC381_e zC381_g rfl
theorem m_m_RX2_122 : Cond.methodLink RX2 122 yJ6_bitCount_0f7a4 ∈ zBig := zBig_c 6 zC381_e zC381_g rfl
theorem m_m_RX2_128 : Cond.methodLink RX2 128 yX2_firstOf ∈ zBig := zBig_c 7 zC381_e zC381_g rfl
theorem m_s_yX2_firstOf : Cond.static yX2_firstOf ∈ zBig := zBig_c 8 zC381_e zC381_g rfl
def zC390 : List Cond := [Cond.code yX2_firstOf cX2_firstOf 2 (some .int), Cond.methodLink RX2 83 yX2_settle]
theorem zC390_e : zC390 = (tables_1.drop 390).take 2 := by decide +kernel
theorem zC390_g : zC390.all goodWord = true := by decide +kernel
theorem m_o_yX2_firstOf : Cond.code yX2_firstOf cX2_firstOf 2 (some .int) ∈ zBig := zBig_c 0 zC390_e zC390_g rfl
theorem m_m_RX2_83 : Cond.methodLink RX2 83 yX2_settle ∈ zBig := zBig_c 1 zC390_e zC390_g rfl
def zC393 : List Cond := [Cond.instanceMethod yX2_settle, Cond.code yX2_settle cX2_settle 4 (some .int), Cond.methodLink RL 64 yX4_gain, Cond.instanceMethod yX4_gain, Cond.selects RX4 yX4_gain yX4_gain, Cond.code yX4_gain cX4_gain 2 (some .int), Cond.methodLink RL 68 yX4_till, Cond.instanceMethod yX4_till, Cond.selects RX4 yX4_till yX4_till, Cond.code yX4_till cX4_till 2 (some .int)]
theorem zC393_e : zC393 = (tables_1.drop 393).take 10 := by decide +kernel
theorem zC393_g : zC393.all goodWord = true := by decide +kernel
theorem m_i_yX2_settle : Cond.instanceMethod yX2_settle ∈ zBig := zBig_c 0 zC393_e zC393_g rfl
theorem m_o_yX2_settle : Cond.code yX2_settle cX2_settle 4 (some .int) ∈ zBig := zBig_c 1 zC393_e zC393_g rfl
theorem m_m_RL_64 : Cond.methodLink RL 64 yX4_gain ∈ zBig := zBig_c 2 zC393_e zC393_g rfl
theorem m_i_yX4_gain : Cond.instanceMethod yX4_gain ∈ zBig := zBig_c 3 zC393_e zC393_g rfl
theorem m_e_yX4_gain : Cond.selects RX4 yX4_gain yX4_gain ∈ zBig := zBig_c 4 zC393_e zC393_g rfl
theorem m_o_yX4_gain : Cond.code yX4_gain cX4_gain 2 (some .int) ∈ zBig := zBig_c 5 zC393_e zC393_g rfl
theorem m_m_RL_68 : Cond.methodLink RL 68 yX4_till ∈ zBig := zBig_c 6 zC393_e zC393_g rfl
theorem m_i_yX4_till : Cond.instanceMethod yX4_till ∈ zBig := zBig_c 7 zC393_e zC393_g rfl
theorem m_e_yX4_till : Cond.selects RX4 yX4_till yX4_till ∈ zBig := zBig_c 8 zC393_e zC393_g rfl
theorem m_o_yX4_till : Cond.code yX4_till cX4_till 2 (some .int) ∈ zBig := zBig_c 9 zC393_e zC393_g rfl
def zC406 : List Cond := [Cond.instanceMethod yX2_tillBy, Cond.code yX2_tillBy cX2_tillBy 5 (some .int), Cond.methodLink RX2 87 yX2_riseLot]
theorem zC406_e : zC406 = (tables_1.drop 406).take 3 := by decide +kernel
theorem zC406_g : zC406.all goodWord = true := by decide +kernel
theorem m_i_yX2_tillBy : Cond.instanceMethod yX2_tillBy ∈ zBig := zBig_c 0 zC406_e zC406_g rfl
theorem m_o_yX2_tillBy : Cond.code yX2_tillBy cX2_tillBy 5 (some .int) ∈ zBig := zBig_c 1 zC406_e zC406_g rfl
theorem m_m_RX2_87 : Cond.methodLink RX2 87 yX2_riseLot ∈ zBig := zBig_c 2 zC406_e zC406_g rfl
def zC410 : List Cond := [Cond.instanceMethod yX2_riseLot, Cond.code yX2_riseLot cX2_riseLot 10 none, Cond.methodLink RX2 90 yX2_openSealed]
theorem zC410_e : zC410 = (tables_1.drop 410).take 3 := by decide +kernel
theorem zC410_g : zC410.all goodWord = true := by decide +kernel
theorem m_i_yX2_riseLot : Cond.instanceMethod yX2_riseLot ∈ zBig := zBig_c 0 zC410_e zC410_g rfl
theorem m_o_yX2_riseLot : Cond.code yX2_riseLot cX2_riseLot 10 none ∈ zBig := zBig_c 1 zC410_e zC410_g rfl
theorem m_m_RX2_90 : Cond.methodLink RX2 90 yX2_openSealed ∈ zBig := zBig_c 2 zC410_e zC410_g rfl
def zC414 : List Cond := [Cond.instanceMethod yX2_openSealed, Cond.code yX2_openSealed cX2_openSealed 5 none, Cond.methodLink RL 72 yX4_morning, Cond.instanceMethod yX4_morning, Cond.selects RX4 yX4_morning yX4_morning, Cond.code yX4_morning cX4_morning 3 (some .int)]
theorem zC414_e : zC414 = (tables_1.drop 414).take 6 := by decide +kernel
theorem zC414_g : zC414.all goodWord = true := by decide +kernel
theorem m_i_yX2_openSealed : Cond.instanceMethod yX2_openSealed ∈ zBig := zBig_c 0 zC414_e zC414_g rfl
theorem m_o_yX2_openSealed : Cond.code yX2_openSealed cX2_openSealed 5 none ∈ zBig := zBig_c 1 zC414_e zC414_g rfl
theorem m_m_RL_72 : Cond.methodLink RL 72 yX4_morning ∈ zBig := zBig_c 2 zC414_e zC414_g rfl
theorem m_i_yX4_morning : Cond.instanceMethod yX4_morning ∈ zBig := zBig_c 3 zC414_e zC414_g rfl
theorem m_e_yX4_morning : Cond.selects RX4 yX4_morning yX4_morning ∈ zBig := zBig_c 4 zC414_e zC414_g rfl
theorem m_o_yX4_morning : Cond.code yX4_morning cX4_morning 3 (some .int) ∈ zBig := zBig_c 5 zC414_e zC414_g rfl
def zC424 : List Cond := [Cond.instanceMethod yX2_hear, Cond.code yX2_hear cX2_hear 5 none]
theorem zC424_e : zC424 = (tables_1.drop 424).take 2 := by decide +kernel
theorem zC424_g : zC424.all goodWord = true := by decide +kernel
theorem m_i_yX2_hear : Cond.instanceMethod yX2_hear ∈ zBig := zBig_c 0 zC424_e zC424_g rfl
theorem m_o_yX2_hear : Cond.code yX2_hear cX2_hear 5 none ∈ zBig := zBig_c 1 zC424_e zC424_g rfl
def zC428 : List Cond := [Cond.instanceMethod yX0_narrowSpan, Cond.code yX0_narrowSpan cX0_narrowSpan 6 none, Cond.methodLink RX0 79 Lib.Math.max.name, Cond.methodLink RX0 85 Lib.Math.min.name]
theorem zC428_e : zC428 = (tables_1.drop 428).take 4 := by decide +kernel
theorem zC428_g : zC428.all goodWord = true := by decide +kernel
theorem m_i_yX0_narrowSpan : Cond.instanceMethod yX0_narrowSpan ∈ zBig := zBig_c 0 zC428_e zC428_g rfl
theorem m_o_yX0_narrowSpan : Cond.code yX0_narrowSpan cX0_narrowSpan 6 none ∈ zBig := zBig_c 1 zC428_e zC428_g rfl
theorem m_m_RX0_79 : Cond.methodLink RX0 79 Lib.Math.max.name ∈ zBig := zBig_c 2 zC428_e zC428_g rfl
theorem m_m_RX0_85 : Cond.methodLink RX0 85 Lib.Math.min.name ∈ zBig := zBig_c 3 zC428_e zC428_g rfl
def zC433 : List Cond := [Cond.methodLink RL 76 yX4_span, Cond.instanceMethod yX4_span, Cond.selects RX4 yX4_span yX4_span, Cond.code yX4_span cX4_span 5 (some .int), Cond.methodLink RL 80 yX4_hush, Cond.instanceMethod yX4_hush, Cond.selects RX4 yX4_hush yX4_hush, Cond.code yX4_hush cX4_hush 1 (some .int)]
theorem zC433_e : zC433 = (tables_1.drop 433).take 8 := by decide +kernel
theorem zC433_g : zC433.all goodWord = true := by decide +kernel
theorem m_m_RL_76 : Cond.methodLink RL 76 yX4_span ∈ zBig := zBig_c 0 zC433_e zC433_g rfl
theorem m_i_yX4_span : Cond.instanceMethod yX4_span ∈ zBig := zBig_c 1 zC433_e zC433_g rfl
theorem m_e_yX4_span : Cond.selects RX4 yX4_span yX4_span ∈ zBig := zBig_c 2 zC433_e zC433_g rfl
theorem m_o_yX4_span : Cond.code yX4_span cX4_span 5 (some .int) ∈ zBig := zBig_c 3 zC433_e zC433_g rfl
theorem m_m_RL_80 : Cond.methodLink RL 80 yX4_hush ∈ zBig := zBig_c 4 zC433_e zC433_g rfl
theorem m_i_yX4_hush : Cond.instanceMethod yX4_hush ∈ zBig := zBig_c 5 zC433_e zC433_g rfl
theorem m_e_yX4_hush : Cond.selects RX4 yX4_hush yX4_hush ∈ zBig := zBig_c 6 zC433_e zC433_g rfl
theorem m_o_yX4_hush : Cond.code yX4_hush cX4_hush 1 (some .int) ∈ zBig := zBig_c 7 zC433_e zC433_g rfl
def zC443 : List Cond := [Cond.instanceMethod yX0_widenSpans, Cond.code yX0_widenSpans cX0_widenSpans 3 (some .int), Cond.methodLink RL 84 yX4_best, Cond.instanceMethod yX4_best, Cond.selects RX4 yX4_best yX4_best, Cond.code yX4_best cX4_best 6 (some .int)]
theorem zC443_e : zC443 = (tables_1.drop 443).take 6 := by decide +kernel
theorem zC443_g : zC443.all goodWord = true := by decide +kernel
theorem m_i_yX0_widenSpans : Cond.instanceMethod yX0_widenSpans ∈ zBig := zBig_c 0 zC443_e zC443_g rfl
theorem m_o_yX0_widenSpans : Cond.code yX0_widenSpans cX0_widenSpans 3 (some .int) ∈ zBig := zBig_c 1 zC443_e zC443_g rfl
theorem m_m_RL_84 : Cond.methodLink RL 84 yX4_best ∈ zBig := zBig_c 2 zC443_e zC443_g rfl
theorem m_i_yX4_best : Cond.instanceMethod yX4_best ∈ zBig := zBig_c 3 zC443_e zC443_g rfl
theorem m_e_yX4_best : Cond.selects RX4 yX4_best yX4_best ∈ zBig := zBig_c 4 zC443_e zC443_g rfl
theorem m_o_yX4_best : Cond.code yX4_best cX4_best 6 (some .int) ∈ zBig := zBig_c 5 zC443_e zC443_g rfl
def zC450 : List Cond := [Cond.methodLink RL 88 yX4_rests, Cond.instanceMethod yX4_rests, Cond.selects RX4 yX4_rests yX4_rests, Cond.code yX4_rests cX4_rests 3 (some .int), Cond.methodLink RX4 189 yX4_countRests]
theorem zC450_e : zC450 = (tables_1.drop 450).take 5 := by decide +kernel
theorem zC450_g : zC450.all goodWord = true := by decide +kernel
theorem m_m_RL_88 : Cond.methodLink RL 88 yX4_rests ∈ zBig := zBig_c 0 zC450_e zC450_g rfl
theorem m_i_yX4_rests : Cond.instanceMethod yX4_rests ∈ zBig := zBig_c 1 zC450_e zC450_g rfl
theorem m_e_yX4_rests : Cond.selects RX4 yX4_rests yX4_rests ∈ zBig := zBig_c 2 zC450_e zC450_g rfl
theorem m_o_yX4_rests : Cond.code yX4_rests cX4_rests 3 (some .int) ∈ zBig := zBig_c 3 zC450_e zC450_g rfl
theorem m_m_RX4_189 : Cond.methodLink RX4 189 yX4_countRests ∈ zBig := zBig_c 4 zC450_e zC450_g rfl
def zC456 : List Cond := [Cond.instanceMethod yX4_countRests, Cond.code yX4_countRests cX4_countRests 4 (some .int), Cond.methodLink RX4 263 Lib.Math.min.name, Cond.methodLink RX4 192 yX4_digitOf]
theorem zC456_e : zC456 = (tables_1.drop 456).take 4 := by decide +kernel
theorem zC456_g : zC456.all goodWord = true := by decide +kernel
theorem m_i_yX4_countRests : Cond.instanceMethod yX4_countRests ∈ zBig := zBig_c 0 zC456_e zC456_g rfl
theorem m_o_yX4_countRests : Cond.code yX4_countRests cX4_countRests 4 (some .int) ∈ zBig := zBig_c 1 zC456_e zC456_g rfl
theorem m_m_RX4_263 : Cond.methodLink RX4 263 Lib.Math.min.name ∈ zBig := zBig_c 2 zC456_e zC456_g rfl
theorem m_m_RX4_192 : Cond.methodLink RX4 192 yX4_digitOf ∈ zBig := zBig_c 3 zC456_e zC456_g rfl
def zC461 : List Cond := [Cond.instanceMethod yX4_digitOf, Cond.code yX4_digitOf cX4_digitOf 3 (some .int), Cond.methodLink RX4 260 yX4_digitShift]
theorem zC461_e : zC461 = (tables_1.drop 461).take 3 := by decide +kernel
theorem zC461_g : zC461.all goodWord = true := by decide +kernel
theorem m_i_yX4_digitOf : Cond.instanceMethod yX4_digitOf ∈ zBig := zBig_c 0 zC461_e zC461_g rfl
theorem m_o_yX4_digitOf : Cond.code yX4_digitOf cX4_digitOf 3 (some .int) ∈ zBig := zBig_c 1 zC461_e zC461_g rfl
theorem m_m_RX4_260 : Cond.methodLink RX4 260 yX4_digitShift ∈ zBig := zBig_c 2 zC461_e zC461_g rfl
def zC465 : List Cond := [Cond.instanceMethod yX4_digitShift, Cond.code yX4_digitShift cX4_digitShift 2 (some .int), Cond.methodLink RX4 268 yX4_isAtRest]
theorem zC465_e : zC465 = (tables_1.drop 465).take 3 := by decide +kernel
theorem zC465_g : zC465.all goodWord = true := by decide +kernel
theorem m_i_yX4_digitShift : Cond.instanceMethod yX4_digitShift ∈ zBig := zBig_c 0 zC465_e zC465_g rfl
theorem m_o_yX4_digitShift : Cond.code yX4_digitShift cX4_digitShift 2 (some .int) ∈ zBig := zBig_c 1 zC465_e zC465_g rfl
theorem m_m_RX4_268 : Cond.methodLink RX4 268 yX4_isAtRest ∈ zBig := zBig_c 2 zC465_e zC465_g rfl
def zC469 : List Cond := [Cond.instanceMethod yX4_isAtRest, Cond.code yX4_isAtRest cX4_isAtRest 8 (some .boolean), Cond.methodLink RL 92 yX4_order, Cond.instanceMethod yX4_order, Cond.selects RX4 yX4_order yX4_order, Cond.code yX4_order cX4_order 3 (some .int), Cond.methodLink RX4 195 yX4_findBestRow]
theorem zC469_e : zC469 = (tables_1.drop 469).take 7 := by decide +kernel
theorem zC469_g : zC469.all goodWord = true := by decide +kernel
theorem m_i_yX4_isAtRest : Cond.instanceMethod yX4_isAtRest ∈ zBig := zBig_c 0 zC469_e zC469_g rfl
theorem m_o_yX4_isAtRest : Cond.code yX4_isAtRest cX4_isAtRest 8 (some .boolean) ∈ zBig := zBig_c 1 zC469_e zC469_g rfl
theorem m_m_RL_92 : Cond.methodLink RL 92 yX4_order ∈ zBig := zBig_c 2 zC469_e zC469_g rfl
theorem m_i_yX4_order : Cond.instanceMethod yX4_order ∈ zBig := zBig_c 3 zC469_e zC469_g rfl
theorem m_e_yX4_order : Cond.selects RX4 yX4_order yX4_order ∈ zBig := zBig_c 4 zC469_e zC469_g rfl
theorem m_o_yX4_order : Cond.code yX4_order cX4_order 3 (some .int) ∈ zBig := zBig_c 5 zC469_e zC469_g rfl
theorem m_m_RX4_195 : Cond.methodLink RX4 195 yX4_findBestRow ∈ zBig := zBig_c 6 zC469_e zC469_g rfl
def zC477 : List Cond := [Cond.instanceMethod yX4_findBestRow, Cond.code yX4_findBestRow cX4_findBestRow 6 (some .int), Cond.methodLink RX4 271 Lib.Math.max.name]
theorem zC477_e : zC477 = (tables_1.drop 477).take 3 := by decide +kernel
theorem zC477_g : zC477.all goodWord = true := by decide +kernel
theorem m_i_yX4_findBestRow : Cond.instanceMethod yX4_findBestRow ∈ zBig := zBig_c 0 zC477_e zC477_g rfl
theorem m_o_yX4_findBestRow : Cond.code yX4_findBestRow cX4_findBestRow 6 (some .int) ∈ zBig := zBig_c 1 zC477_e zC477_g rfl
theorem m_m_RX4_271 : Cond.methodLink RX4 271 Lib.Math.max.name ∈ zBig := zBig_c 2 zC477_e zC477_g rfl
def zC480 : List Cond := [Cond.methodLink RX4 274 yX4_isFirstOfItsLike]
theorem zC480_e : zC480 = (tables_1.drop 480).take 1 := by decide +kernel
theorem zC480_g : zC480.all goodWord = true := by decide +kernel
theorem m_m_RX4_274 : Cond.methodLink RX4 274 yX4_isFirstOfItsLike ∈ zBig := zBig_c 0 zC480_e zC480_g rfl
def zC482 : List Cond := [Cond.instanceMethod yX4_isFirstOfItsLike, Cond.code yX4_isFirstOfItsLike cX4_isFirstOfItsLike 4 (some .boolean)]
theorem zC482_e : zC482 = (tables_1.drop 482).take 2 := by decide +kernel
theorem zC482_g : zC482.all goodWord = true := by decide +kernel
theorem m_i_yX4_isFirstOfItsLike : Cond.instanceMethod yX4_isFirstOfItsLike ∈ zBig := zBig_c 0 zC482_e zC482_g rfl
theorem m_o_yX4_isFirstOfItsLike : Cond.code yX4_isFirstOfItsLike cX4_isFirstOfItsLike 4 (some .boolean) ∈ zBig := zBig_c 1 zC482_e zC482_g rfl
def zC486 : List Cond := [Cond.instanceMethod yX0_kindOf, Cond.code yX0_kindOf cX0_kindOf 2 (some .int), Cond.methodLink RX4 277 yX4_tillOfRow]
theorem zC486_e : zC486 = (tables_1.drop 486).take 3 := by decide +kernel
theorem zC486_g : zC486.all goodWord = true := by decide +kernel
theorem m_i_yX0_kindOf : Cond.instanceMethod yX0_kindOf ∈ zBig := zBig_c 0 zC486_e zC486_g rfl
theorem m_o_yX0_kindOf : Cond.code yX0_kindOf cX0_kindOf 2 (some .int) ∈ zBig := zBig_c 1 zC486_e zC486_g rfl
theorem m_m_RX4_277 : Cond.methodLink RX4 277 yX4_tillOfRow ∈ zBig := zBig_c 2 zC486_e zC486_g rfl
def zC490 : List Cond := [Cond.instanceMethod yX4_tillOfRow, Cond.code yX4_tillOfRow cX4_tillOfRow 4 (some .int), Cond.methodLink RX4 280 yX4_nextRow]
theorem zC490_e : zC490 = (tables_1.drop 490).take 3 := by decide +kernel
theorem zC490_g : zC490.all goodWord = true := by decide +kernel
theorem m_i_yX4_tillOfRow : Cond.instanceMethod yX4_tillOfRow ∈ zBig := zBig_c 0 zC490_e zC490_g rfl
theorem m_o_yX4_tillOfRow : Cond.code yX4_tillOfRow cX4_tillOfRow 4 (some .int) ∈ zBig := zBig_c 1 zC490_e zC490_g rfl
theorem m_m_RX4_280 : Cond.methodLink RX4 280 yX4_nextRow ∈ zBig := zBig_c 2 zC490_e zC490_g rfl
def zC494 : List Cond := [Cond.instanceMethod yX4_nextRow, Cond.code yX4_nextRow cX4_nextRow 6 (some .boolean), Cond.methodLink RX4 286 yX4_swapInRow]
theorem zC494_e : zC494 = (tables_1.drop 494).take 3 := by decide +kernel
theorem zC494_g : zC494.all goodWord = true := by decide +kernel
theorem m_i_yX4_nextRow : Cond.instanceMethod yX4_nextRow ∈ zBig := zBig_c 0 zC494_e zC494_g rfl
theorem m_o_yX4_nextRow : Cond.code yX4_nextRow cX4_nextRow 6 (some .boolean) ∈ zBig := zBig_c 1 zC494_e zC494_g rfl
theorem m_m_RX4_286 : Cond.methodLink RX4 286 yX4_swapInRow ∈ zBig := zBig_c 2 zC494_e zC494_g rfl
def zC498 : List Cond := [Cond.instanceMethod yX4_swapInRow, Cond.code yX4_swapInRow cX4_swapInRow 4 none, Cond.methodLink RL 96 yX4_ring, Cond.instanceMethod yX4_ring, Cond.selects RX4 yX4_ring yX4_ring, Cond.code yX4_ring cX4_ring 3 (some .int), Cond.methodLink RX4 198 yX4_isRing]
theorem zC498_e : zC498 = (tables_1.drop 498).take 7 := by decide +kernel
theorem zC498_g : zC498.all goodWord = true := by decide +kernel
theorem m_i_yX4_swapInRow : Cond.instanceMethod yX4_swapInRow ∈ zBig := zBig_c 0 zC498_e zC498_g rfl
theorem m_o_yX4_swapInRow : Cond.code yX4_swapInRow cX4_swapInRow 4 none ∈ zBig := zBig_c 1 zC498_e zC498_g rfl
theorem m_m_RL_96 : Cond.methodLink RL 96 yX4_ring ∈ zBig := zBig_c 2 zC498_e zC498_g rfl
theorem m_i_yX4_ring : Cond.instanceMethod yX4_ring ∈ zBig := zBig_c 3 zC498_e zC498_g rfl
theorem m_e_yX4_ring : Cond.selects RX4 yX4_ring yX4_ring ∈ zBig := zBig_c 4 zC498_e zC498_g rfl
theorem m_o_yX4_ring : Cond.code yX4_ring cX4_ring 3 (some .int) ∈ zBig := zBig_c 5 zC498_e zC498_g rfl
theorem m_m_RX4_198 : Cond.methodLink RX4 198 yX4_isRing ∈ zBig := zBig_c 6 zC498_e zC498_g rfl
def zC506 : List Cond := [Cond.instanceMethod yX4_isRing, Cond.code yX4_isRing cX4_isRing 2 (some .boolean), Cond.methodLink RX4 251 yJ6_bitCount_0f7a4]
theorem zC506_e : zC506 = (tables_1.drop 506).take 3 := by decide +kernel
theorem zC506_g : zC506.all goodWord = true := by decide +kernel
theorem m_i_yX4_isRing : Cond.instanceMethod yX4_isRing ∈ zBig := zBig_c 0 zC506_e zC506_g rfl
theorem m_o_yX4_isRing : Cond.code yX4_isRing cX4_isRing 2 (some .boolean) ∈ zBig := zBig_c 1 zC506_e zC506_g rfl
theorem m_m_RX4_251 : Cond.methodLink RX4 251 yJ6_bitCount_0f7a4 ∈ zBig := zBig_c 2 zC506_e zC506_g rfl
def zC511 : List Cond := [Cond.instanceMethod yX2_gainOf, Cond.code yX2_gainOf cX2_gainOf 4 (some .int), Cond.methodLink RL 100 yX4_image, Cond.instanceMethod yX4_image, Cond.selects RX4 yX4_image yX4_image, Cond.code yX4_image cX4_image 1 (some .int)]
theorem zC511_e : zC511 = (tables_1.drop 511).take 6 := by decide +kernel
theorem zC511_g : zC511.all goodWord = true := by decide +kernel
theorem m_i_yX2_gainOf : Cond.instanceMethod yX2_gainOf ∈ zBig := zBig_c 0 zC511_e zC511_g rfl
theorem m_o_yX2_gainOf : Cond.code yX2_gainOf cX2_gainOf 4 (some .int) ∈ zBig := zBig_c 1 zC511_e zC511_g rfl
theorem m_m_RL_100 : Cond.methodLink RL 100 yX4_image ∈ zBig := zBig_c 2 zC511_e zC511_g rfl
theorem m_i_yX4_image : Cond.instanceMethod yX4_image ∈ zBig := zBig_c 3 zC511_e zC511_g rfl
theorem m_e_yX4_image : Cond.selects RX4 yX4_image yX4_image ∈ zBig := zBig_c 4 zC511_e zC511_g rfl
theorem m_o_yX4_image : Cond.code yX4_image cX4_image 1 (some .int) ∈ zBig := zBig_c 5 zC511_e zC511_g rfl
def zC519 : List Cond := [Cond.instanceMethod yX0_take, Cond.code yX0_take cX0_take 2 none, Cond.methodLink RX0 60 arraycopyName, Cond.methodLink RL 104 yX4_restore, Cond.instanceMethod yX4_restore, Cond.selects RX4 yX4_restore yX4_restore, Cond.code yX4_restore cX4_restore 1 (some .int), Cond.methodLink RL 108 yX4_which, Cond.instanceMethod yX4_which, Cond.selects RX4 yX4_which yX4_which, Cond.code yX4_which cX4_which 9 (some .int)]
theorem zC519_e : zC519 = (tables_1.drop 519).take 11 := by decide +kernel
theorem zC519_g : zC519.all goodWord = true := by decide +kernel
theorem m_i_yX0_take : Cond.instanceMethod yX0_take ∈ zBig := zBig_c 0 zC519_e zC519_g rfl
theorem m_o_yX0_take : Cond.code yX0_take cX0_take 2 none ∈ zBig := zBig_c 1 zC519_e zC519_g rfl
theorem m_m_RX0_60 : Cond.methodLink RX0 60 arraycopyName ∈ zBig := zBig_c 2 zC519_e zC519_g rfl
theorem m_m_RL_104 : Cond.methodLink RL 104 yX4_restore ∈ zBig := zBig_c 3 zC519_e zC519_g rfl
theorem m_i_yX4_restore : Cond.instanceMethod yX4_restore ∈ zBig := zBig_c 4 zC519_e zC519_g rfl
theorem m_e_yX4_restore : Cond.selects RX4 yX4_restore yX4_restore ∈ zBig := zBig_c 5 zC519_e zC519_g rfl
theorem m_o_yX4_restore : Cond.code yX4_restore cX4_restore 1 (some .int) ∈ zBig := zBig_c 6 zC519_e zC519_g rfl
theorem m_m_RL_108 : Cond.methodLink RL 108 yX4_which ∈ zBig := zBig_c 7 zC519_e zC519_g rfl
theorem m_i_yX4_which : Cond.instanceMethod yX4_which ∈ zBig := zBig_c 8 zC519_e zC519_g rfl
theorem m_e_yX4_which : Cond.selects RX4 yX4_which yX4_which ∈ zBig := zBig_c 9 zC519_e zC519_g rfl
theorem m_o_yX4_which : Cond.code yX4_which cX4_which 9 (some .int) ∈ zBig := zBig_c 10 zC519_e zC519_g rfl
def zC532 : List Cond := [Cond.instanceMethod yX1_refuse, Cond.code yX1_refuse cX1_refuse 5 (some .int)]
theorem zC532_e : zC532 = (tables_1.drop 532).take 2 := by decide +kernel
theorem zC532_g : zC532.all goodWord = true := by decide +kernel
theorem m_i_yX1_refuse : Cond.instanceMethod yX1_refuse ∈ zBig := zBig_c 0 zC532_e zC532_g rfl
theorem m_o_yX1_refuse : Cond.code yX1_refuse cX1_refuse 5 (some .int) ∈ zBig := zBig_c 1 zC532_e zC532_g rfl
def zC535 : List Cond := [Cond.static yX4_isSheet, Cond.code yX4_isSheet cX4_isSheet 1 (some .boolean)]
theorem zC535_e : zC535 = (tables_1.drop 535).take 2 := by decide +kernel
theorem zC535_g : zC535.all goodWord = true := by decide +kernel
theorem m_s_yX4_isSheet : Cond.static yX4_isSheet ∈ zBig := zBig_c 0 zC535_e zC535_g rfl
theorem m_o_yX4_isSheet : Cond.code yX4_isSheet cX4_isSheet 1 (some .boolean) ∈ zBig := zBig_c 1 zC535_e zC535_g rfl
def zC538 : List Cond := [Cond.static yX4_isLane, Cond.code yX4_isLane cX4_isLane 1 (some .boolean)]
theorem zC538_e : zC538 = (tables_1.drop 538).take 2 := by decide +kernel
theorem zC538_g : zC538.all goodWord = true := by decide +kernel
theorem m_s_yX4_isLane : Cond.static yX4_isLane ∈ zBig := zBig_c 0 zC538_e zC538_g rfl
theorem m_o_yX4_isLane : Cond.code yX4_isLane cX4_isLane 1 (some .boolean) ∈ zBig := zBig_c 1 zC538_e zC538_g rfl
def zC540 : List Cond := [Cond.methodLink RX1 35 yX1_holds]
theorem zC540_e : zC540 = (tables_1.drop 540).take 1 := by decide +kernel
theorem zC540_g : zC540.all goodWord = true := by decide +kernel
theorem m_m_RX1_35 : Cond.methodLink RX1 35 yX1_holds ∈ zBig := zBig_c 0 zC540_e zC540_g rfl
def zC542 : List Cond := [Cond.instanceMethod yX1_holds, Cond.code yX1_holds cX1_holds 4 (some .boolean), Cond.methodLink RX4 212 yX4_isAsFilmed]
theorem zC542_e : zC542 = (tables_1.drop 542).take 3 := by decide +kernel
theorem zC542_g : zC542.all goodWord = true := by decide +kernel
theorem m_i_yX1_holds : Cond.instanceMethod yX1_holds ∈ zBig := zBig_c 0 zC542_e zC542_g rfl
theorem m_o_yX1_holds : Cond.code yX1_holds cX1_holds 4 (some .boolean) ∈ zBig := zBig_c 1 zC542_e zC542_g rfl
theorem m_m_RX4_212 : Cond.methodLink RX4 212 yX4_isAsFilmed ∈ zBig := zBig_c 2 zC542_e zC542_g rfl
def zC546 : List Cond := [Cond.instanceMethod yX4_isAsFilmed, Cond.code yX4_isAsFilmed cX4_isAsFilmed 5 (some .boolean)]
theorem zC546_e : zC546 = (tables_1.drop 546).take 2 := by decide +kernel
theorem zC546_g : zC546.all goodWord = true := by decide +kernel
theorem m_i_yX4_isAsFilmed : Cond.instanceMethod yX4_isAsFilmed ∈ zBig := zBig_c 0 zC546_e zC546_g rfl
theorem m_o_yX4_isAsFilmed : Cond.code yX4_isAsFilmed cX4_isAsFilmed 5 (some .boolean) ∈ zBig := zBig_c 1 zC546_e zC546_g rfl
def zC550 : List Cond := [Cond.instanceMethod yX1_peek, Cond.code yX1_peek cX1_peek 3 (some .long), Cond.methodLink RL 113 yX4_film, Cond.instanceMethod yX4_film, Cond.selects RX4 yX4_film yX4_film, Cond.code yX4_film cX4_film 7 (some .int), Cond.constantLong RX4 215 (-1)]
theorem zC550_e : zC550 = (tables_1.drop 550).take 7 := by decide +kernel
theorem zC550_g : zC550.all goodWord = true := by decide +kernel
theorem m_i_yX1_peek : Cond.instanceMethod yX1_peek ∈ zBig := zBig_c 0 zC550_e zC550_g rfl
theorem m_o_yX1_peek : Cond.code yX1_peek cX1_peek 3 (some .long) ∈ zBig := zBig_c 1 zC550_e zC550_g rfl
theorem m_m_RL_113 : Cond.methodLink RL 113 yX4_film ∈ zBig := zBig_c 2 zC550_e zC550_g rfl
theorem m_i_yX4_film : Cond.instanceMethod yX4_film ∈ zBig := zBig_c 3 zC550_e zC550_g rfl
theorem m_e_yX4_film : Cond.selects RX4 yX4_film yX4_film ∈ zBig := zBig_c 4 zC550_e zC550_g rfl
theorem m_o_yX4_film : Cond.code yX4_film cX4_film 7 (some .int) ∈ zBig := zBig_c 5 zC550_e zC550_g rfl
theorem m_k_RX4_215 : Cond.constantLong RX4 215 (-1) ∈ zBig := zBig_c 6 zC550_e zC550_g rfl
def zC559 : List Cond := [Cond.instanceMethod yX1_put, Cond.code yX1_put cX1_put 6 none, Cond.methodLink RL 117 yX4_sheet, Cond.instanceMethod yX4_sheet, Cond.selects RX4 yX4_sheet yX4_sheet, Cond.code yX4_sheet cX4_sheet 4 (some .int), Cond.methodLink RX4 221 yX4_isSheet, Cond.methodLink RX4 224 yX4_isLane]
theorem zC559_e : zC559 = (tables_1.drop 559).take 8 := by decide +kernel
theorem zC559_g : zC559.all goodWord = true := by decide +kernel
theorem m_i_yX1_put : Cond.instanceMethod yX1_put ∈ zBig := zBig_c 0 zC559_e zC559_g rfl
theorem m_o_yX1_put : Cond.code yX1_put cX1_put 6 none ∈ zBig := zBig_c 1 zC559_e zC559_g rfl
theorem m_m_RL_117 : Cond.methodLink RL 117 yX4_sheet ∈ zBig := zBig_c 2 zC559_e zC559_g rfl
theorem m_i_yX4_sheet : Cond.instanceMethod yX4_sheet ∈ zBig := zBig_c 3 zC559_e zC559_g rfl
theorem m_e_yX4_sheet : Cond.selects RX4 yX4_sheet yX4_sheet ∈ zBig := zBig_c 4 zC559_e zC559_g rfl
theorem m_o_yX4_sheet : Cond.code yX4_sheet cX4_sheet 4 (some .int) ∈ zBig := zBig_c 5 zC559_e zC559_g rfl
theorem m_m_RX4_221 : Cond.methodLink RX4 221 yX4_isSheet ∈ zBig := zBig_c 6 zC559_e zC559_g rfl
theorem m_m_RX4_224 : Cond.methodLink RX4 224 yX4_isLane ∈ zBig := zBig_c 7 zC559_e zC559_g rfl
def zC569 : List Cond := [Cond.instanceMethod yX1_lay]
theorem zC569_e : zC569 = (tables_1.drop 569).take 1 := by decide +kernel
theorem zC569_g : zC569.all goodWord = true := by decide +kernel
theorem m_i_yX1_lay : Cond.instanceMethod yX1_lay ∈ zBig := zBig_c 0 zC569_e zC569_g rfl
def zC570 : List Cond := [Cond.code yX1_lay cX1_lay 4 none, Cond.methodLink RX1 29 yJ7_fill_bad5a, Cond.static yJ7_fill_bad5a, Cond.code yJ7_fill_bad5a cJ7_fill_bad5a 6 none, Cond.methodLink RJ7 13 yJ7_rangeCheck_23922, Cond.static yJ7_rangeCheck_23922, Cond.code yJ7_rangeCheck_23922 cJ7_rangeCheck_23922 3 none, Cond.methodLink RL 121 yX4_drop, Cond.instanceMethod yX4_drop, Cond.selects RX4 yX4_drop yX4_drop, Cond.code yX4_drop cX4_drop 2 (some .int), Cond.methodLink RL 125 yX4_item, Cond.instanceMethod yX4_item, Cond.selects RX4 yX4_item yX4_item, Cond.code yX4_item cX4_item 7 (some .int), Cond.methodLink RL 130 yX4_copy, Cond.instanceMethod yX4_copy, Cond.selects RX4 yX4_copy yX4_copy, Cond.code yX4_copy cX4_copy 6 (some .int)]
theorem zC570_e : zC570 = (tables_1.drop 570).take 19 := by decide +kernel
theorem zC570_g : zC570.all goodWord = true := by decide +kernel
theorem m_o_yX1_lay : Cond.code yX1_lay cX1_lay 4 none ∈ zBig := zBig_c 0 zC570_e zC570_g rfl
theorem m_m_RX1_29 : Cond.methodLink RX1 29 yJ7_fill_bad5a ∈ zBig := zBig_c 1 zC570_e zC570_g rfl
theorem m_s_yJ7_fill_bad5a : Cond.static yJ7_fill_bad5a ∈ zBig := zBig_c 2 zC570_e zC570_g rfl
theorem m_o_yJ7_fill_bad5a : Cond.code yJ7_fill_bad5a cJ7_fill_bad5a 6 none ∈ zBig := zBig_c 3 zC570_e zC570_g rfl
theorem m_m_RJ7_13 : Cond.methodLink RJ7 13 yJ7_rangeCheck_23922 ∈ zBig := zBig_c 4 zC570_e zC570_g rfl
theorem m_s_yJ7_rangeCheck_23922 : Cond.static yJ7_rangeCheck_23922 ∈ zBig := zBig_c 5 zC570_e zC570_g rfl
theorem m_o_yJ7_rangeCheck_23922 : Cond.code yJ7_rangeCheck_23922 cJ7_rangeCheck_23922 3 none ∈ zBig := zBig_c 6 zC570_e zC570_g rfl
theorem m_m_RL_121 : Cond.methodLink RL 121 yX4_drop ∈ zBig := zBig_c 7 zC570_e zC570_g rfl
theorem m_i_yX4_drop : Cond.instanceMethod yX4_drop ∈ zBig := zBig_c 8 zC570_e zC570_g rfl
theorem m_e_yX4_drop : Cond.selects RX4 yX4_drop yX4_drop ∈ zBig := zBig_c 9 zC570_e zC570_g rfl
theorem m_o_yX4_drop : Cond.code yX4_drop cX4_drop 2 (some .int) ∈ zBig := zBig_c 10 zC570_e zC570_g rfl
theorem m_m_RL_125 : Cond.methodLink RL 125 yX4_item ∈ zBig := zBig_c 11 zC570_e zC570_g rfl
theorem m_i_yX4_item : Cond.instanceMethod yX4_item ∈ zBig := zBig_c 12 zC570_e zC570_g rfl
theorem m_e_yX4_item : Cond.selects RX4 yX4_item yX4_item ∈ zBig := zBig_c 13 zC570_e zC570_g rfl
theorem m_o_yX4_item : Cond.code yX4_item cX4_item 7 (some .int) ∈ zBig := zBig_c 14 zC570_e zC570_g rfl
theorem m_m_RL_130 : Cond.methodLink RL 130 yX4_copy ∈ zBig := zBig_c 15 zC570_e zC570_g rfl
theorem m_i_yX4_copy : Cond.instanceMethod yX4_copy ∈ zBig := zBig_c 16 zC570_e zC570_g rfl
theorem m_e_yX4_copy : Cond.selects RX4 yX4_copy yX4_copy ∈ zBig := zBig_c 17 zC570_e zC570_g rfl
theorem m_o_yX4_copy : Cond.code yX4_copy cX4_copy 6 (some .int) ∈ zBig := zBig_c 18 zC570_e zC570_g rfl
def zC590 : List Cond := [Cond.classLink RL 10 RX5, Cond.instantiable RX5 27, Cond.methodLink RL 12 yX5_init, Cond.instanceMethod yX5_init, Cond.code yX5_init cX5_init 2 none, Cond.methodLink RX5 1 objectInit, Cond.fieldLink RX5 7 "FishStepsModel" "w" "[I", Cond.fieldLink RX5 221 "FishStepsModel" "isKept" "Z", Cond.fieldLink RX5 13 "FishStepsModel" "tape" "[I", Cond.fieldLink RX5 114 "FishStepsModel" "taped" "I"]
theorem zC590_e : zC590 = (tables_1.drop 590).take 10 := by decide +kernel
theorem zC590_g : zC590.all goodWord = true := by decide +kernel
theorem m_c_RL_10 : Cond.classLink RL 10 RX5 ∈ zBig := zBig_c 0 zC590_e zC590_g rfl
theorem m_b_RX5 : Cond.instantiable RX5 27 ∈ zBig := zBig_c 1 zC590_e zC590_g rfl
theorem m_m_RL_12 : Cond.methodLink RL 12 yX5_init ∈ zBig := zBig_c 2 zC590_e zC590_g rfl
theorem m_i_yX5_init : Cond.instanceMethod yX5_init ∈ zBig := zBig_c 3 zC590_e zC590_g rfl
theorem m_o_yX5_init : Cond.code yX5_init cX5_init 2 none ∈ zBig := zBig_c 4 zC590_e zC590_g rfl
theorem m_m_RX5_1 : Cond.methodLink RX5 1 objectInit ∈ zBig := zBig_c 5 zC590_e zC590_g rfl
theorem m_f_RX5_7 : Cond.fieldLink RX5 7 "FishStepsModel" "w" "[I" ∈ zBig := zBig_c 6 zC590_e zC590_g rfl
theorem m_f_RX5_221 : Cond.fieldLink RX5 221 "FishStepsModel" "isKept" "Z" ∈ zBig := zBig_c 7 zC590_e zC590_g rfl
theorem m_f_RX5_13 : Cond.fieldLink RX5 13 "FishStepsModel" "tape" "[I" ∈ zBig := zBig_c 8 zC590_e zC590_g rfl
theorem m_f_RX5_114 : Cond.fieldLink RX5 114 "FishStepsModel" "taped" "I" ∈ zBig := zBig_c 9 zC590_e zC590_g rfl
def zC600 : List Cond := [Cond.fieldLink RX5 118 "FishStepsModel" "at" "I", Cond.fieldLink RX5 16 "FishStepsModel" "meant" "[I", Cond.fieldLink RX5 19 "FishStepsModel" "kinds" "[I", Cond.fieldLink RX5 22 "FishStepsModel" "row" "[I", Cond.fieldLink RX5 25 "FishStepsModel" "margins" "[I", Cond.fieldLink RX5 153 "FishStepsModel" "ringed" "I", Cond.fieldLink RX5 28 "FishStepsModel" "purses" "[I", Cond.fieldLink RX5 31 "FishStepsModel" "rooms" "[I", Cond.fieldLink RX5 34 "FishStepsModel" "gains" "[I", Cond.fieldLink RX5 147 "FishStepsModel" "all" "I", Cond.fieldLink RX5 37 "FishStepsModel" "whos" "[I", Cond.fieldLink RX5 40 "FishStepsModel" "prices" "[I", Cond.fieldLink RX5 43 "FishStepsModel" "breaths" "[I", Cond.fieldLink RX5 46 "FishStepsModel" "bells" "[I", Cond.fieldLink RX5 49 "FishStepsModel" "lastPrices" "[I", Cond.fieldLink RX5 52 "FishStepsModel" "coughed" "[I", Cond.fieldLink RX5 55 "FishStepsModel" "could" "[I", Cond.fieldLink RX5 58 "FishStepsModel" "byRows" "[I", Cond.fieldLink RX5 61 "FishStepsModel" "bestRow" "[I", Cond.fieldLink RX5 64 "FishStepsModel" "lanes" "[I", Cond.fieldLink RX5 67 "FishStepsModel" "sizes" "[I", Cond.fieldLink RX5 70 "FishStepsModel" "items" "[J", Cond.fieldLink RX5 74 "FishStepsModel" "hands" "[J"]
theorem zC600_e : zC600 = (tables_1.drop 600).take 23 := by decide +kernel
theorem zC600_g : zC600.all goodWord = true := by decide +kernel
theorem m_f_RX5_118 : Cond.fieldLink RX5 118 "FishStepsModel" "at" "I" ∈ zBig := zBig_c 0 zC600_e zC600_g rfl
theorem m_f_RX5_16 : Cond.fieldLink RX5 16 "FishStepsModel" "meant" "[I" ∈ zBig := zBig_c 1 zC600_e zC600_g rfl
theorem m_f_RX5_19 : Cond.fieldLink RX5 19 "FishStepsModel" "kinds" "[I" ∈ zBig := zBig_c 2 zC600_e zC600_g rfl
theorem m_f_RX5_22 : Cond.fieldLink RX5 22 "FishStepsModel" "row" "[I" ∈ zBig := zBig_c 3 zC600_e zC600_g rfl
theorem m_f_RX5_25 : Cond.fieldLink RX5 25 "FishStepsModel" "margins" "[I" ∈ zBig := zBig_c 4 zC600_e zC600_g rfl
theorem m_f_RX5_153 : Cond.fieldLink RX5 153 "FishStepsModel" "ringed" "I" ∈ zBig := zBig_c 5 zC600_e zC600_g rfl
theorem m_f_RX5_28 : Cond.fieldLink RX5 28 "FishStepsModel" "purses" "[I" ∈ zBig := zBig_c 6 zC600_e zC600_g rfl
theorem m_f_RX5_31 : Cond.fieldLink RX5 31 "FishStepsModel" "rooms" "[I" ∈ zBig := zBig_c 7 zC600_e zC600_g rfl
theorem m_f_RX5_34 : Cond.fieldLink RX5 34 "FishStepsModel" "gains" "[I" ∈ zBig := zBig_c 8 zC600_e zC600_g rfl
theorem m_f_RX5_147 : Cond.fieldLink RX5 147 "FishStepsModel" "all" "I" ∈ zBig := zBig_c 9 zC600_e zC600_g rfl
theorem m_f_RX5_37 : Cond.fieldLink RX5 37 "FishStepsModel" "whos" "[I" ∈ zBig := zBig_c 10 zC600_e zC600_g rfl
theorem m_f_RX5_40 : Cond.fieldLink RX5 40 "FishStepsModel" "prices" "[I" ∈ zBig := zBig_c 11 zC600_e zC600_g rfl
theorem m_f_RX5_43 : Cond.fieldLink RX5 43 "FishStepsModel" "breaths" "[I" ∈ zBig := zBig_c 12 zC600_e zC600_g rfl
theorem m_f_RX5_46 : Cond.fieldLink RX5 46 "FishStepsModel" "bells" "[I" ∈ zBig := zBig_c 13 zC600_e zC600_g rfl
theorem m_f_RX5_49 : Cond.fieldLink RX5 49 "FishStepsModel" "lastPrices" "[I" ∈ zBig := zBig_c 14 zC600_e zC600_g rfl
theorem m_f_RX5_52 : Cond.fieldLink RX5 52 "FishStepsModel" "coughed" "[I" ∈ zBig := zBig_c 15 zC600_e zC600_g rfl
theorem m_f_RX5_55 : Cond.fieldLink RX5 55 "FishStepsModel" "could" "[I" ∈ zBig := zBig_c 16 zC600_e zC600_g rfl
theorem m_f_RX5_58 : Cond.fieldLink RX5 58 "FishStepsModel" "byRows" "[I" ∈ zBig := zBig_c 17 zC600_e zC600_g rfl
theorem m_f_RX5_61 : Cond.fieldLink RX5 61 "FishStepsModel" "bestRow" "[I" ∈ zBig := zBig_c 18 zC600_e zC600_g rfl
theorem m_f_RX5_64 : Cond.fieldLink RX5 64 "FishStepsModel" "lanes" "[I" ∈ zBig := zBig_c 19 zC600_e zC600_g rfl
theorem m_f_RX5_67 : Cond.fieldLink RX5 67 "FishStepsModel" "sizes" "[I" ∈ zBig := zBig_c 20 zC600_e zC600_g rfl
theorem m_f_RX5_70 : Cond.fieldLink RX5 70 "FishStepsModel" "items" "[J" ∈ zBig := zBig_c 21 zC600_e zC600_g rfl
theorem m_f_RX5_74 : Cond.fieldLink RX5 74 "FishStepsModel" "hands" "[J" ∈ zBig := zBig_c 22 zC600_e zC600_g rfl
def zC678 : List Cond := [Cond.methodLink RL 17 yX5_rule, Cond.instanceMethod yX5_rule, Cond.selects RX5 yX5_rule yX5_rule, Cond.code yX5_rule cX5_rule 4 (some .int), Cond.constantLong RX5 81 4, Cond.methodLink RX5 77 yX5_in, Cond.static yX5_in, Cond.code yX5_in cX5_in 6 (some .boolean), Cond.methodLink RX5 83 yX5_leastOf, Cond.static yX5_leastOf, Cond.code yX5_leastOf cX5_leastOf 1 (some .int), Cond.methodLink RX5 87 yX5_mostOf]
theorem zC678_e : zC678 = (tables_1.drop 678).take 12 := by decide +kernel
theorem zC678_g : zC678.all goodWord = true := by decide +kernel
theorem m_m_RL_17 : Cond.methodLink RL 17 yX5_rule ∈ zBig := zBig_c 0 zC678_e zC678_g rfl
theorem m_i_yX5_rule : Cond.instanceMethod yX5_rule ∈ zBig := zBig_c 1 zC678_e zC678_g rfl
theorem m_e_yX5_rule : Cond.selects RX5 yX5_rule yX5_rule ∈ zBig := zBig_c 2 zC678_e zC678_g rfl
theorem m_o_yX5_rule : Cond.code yX5_rule cX5_rule 4 (some .int) ∈ zBig := zBig_c 3 zC678_e zC678_g rfl
theorem m_k_RX5_81 : Cond.constantLong RX5 81 4 ∈ zBig := zBig_c 4 zC678_e zC678_g rfl
theorem m_m_RX5_77 : Cond.methodLink RX5 77 yX5_in ∈ zBig := zBig_c 5 zC678_e zC678_g rfl
theorem m_s_yX5_in : Cond.static yX5_in ∈ zBig := zBig_c 6 zC678_e zC678_g rfl
theorem m_o_yX5_in : Cond.code yX5_in cX5_in 6 (some .boolean) ∈ zBig := zBig_c 7 zC678_e zC678_g rfl
theorem m_m_RX5_83 : Cond.methodLink RX5 83 yX5_leastOf ∈ zBig := zBig_c 8 zC678_e zC678_g rfl
theorem m_s_yX5_leastOf : Cond.static yX5_leastOf ∈ zBig := zBig_c 9 zC678_e zC678_g rfl
theorem m_o_yX5_leastOf : Cond.code yX5_leastOf cX5_leastOf 1 (some .int) ∈ zBig := zBig_c 10 zC678_e zC678_g rfl
theorem m_m_RX5_87 : Cond.methodLink RX5 87 yX5_mostOf ∈ zBig := zBig_c 11 zC678_e zC678_g rfl
def zC690 : List Cond := [Cond.static yX5_mostOf, Cond.code yX5_mostOf cX5_mostOf 1 (some .int), Cond.methodLink RL 21 yX5_buyer, Cond.instanceMethod yX5_buyer, Cond.selects RX5 yX5_buyer yX5_buyer, Cond.code yX5_buyer cX5_buyer 5 (some .int), Cond.constantLong RX5 90 999, Cond.methodLink RL 26 yX5_worth, Cond.instanceMethod yX5_worth, Cond.selects RX5 yX5_worth yX5_worth, Cond.code yX5_worth cX5_worth 6 (some .int), Cond.methodLink RX5 92 yX5_isBuyer]
theorem zC690_e : zC690 = (tables_1.drop 690).take 12 := by decide +kernel
theorem zC690_g : zC690.all goodWord = true := by decide +kernel
theorem m_s_yX5_mostOf : Cond.static yX5_mostOf ∈ zBig := zBig_c 0 zC690_e zC690_g rfl
theorem m_o_yX5_mostOf : Cond.code yX5_mostOf cX5_mostOf 1 (some .int) ∈ zBig := zBig_c 1 zC690_e zC690_g rfl
theorem m_m_RL_21 : Cond.methodLink RL 21 yX5_buyer ∈ zBig := zBig_c 2 zC690_e zC690_g rfl
theorem m_i_yX5_buyer : Cond.instanceMethod yX5_buyer ∈ zBig := zBig_c 3 zC690_e zC690_g rfl
theorem m_e_yX5_buyer : Cond.selects RX5 yX5_buyer yX5_buyer ∈ zBig := zBig_c 4 zC690_e zC690_g rfl
theorem m_o_yX5_buyer : Cond.code yX5_buyer cX5_buyer 5 (some .int) ∈ zBig := zBig_c 5 zC690_e zC690_g rfl
theorem m_k_RX5_90 : Cond.constantLong RX5 90 999 ∈ zBig := zBig_c 6 zC690_e zC690_g rfl
theorem m_m_RL_26 : Cond.methodLink RL 26 yX5_worth ∈ zBig := zBig_c 7 zC690_e zC690_g rfl
theorem m_i_yX5_worth : Cond.instanceMethod yX5_worth ∈ zBig := zBig_c 8 zC690_e zC690_g rfl
theorem m_e_yX5_worth : Cond.selects RX5 yX5_worth yX5_worth ∈ zBig := zBig_c 9 zC690_e zC690_g rfl
theorem m_o_yX5_worth : Cond.code yX5_worth cX5_worth 6 (some .int) ∈ zBig := zBig_c 10 zC690_e zC690_g rfl
theorem m_m_RX5_92 : Cond.methodLink RX5 92 yX5_isBuyer ∈ zBig := zBig_c 11 zC690_e zC690_g rfl
def zC703 : List Cond := [Cond.instanceMethod yX5_isBuyer, Cond.code yX5_isBuyer cX5_isBuyer 2 (some .boolean), Cond.constantLong RX5 96 3, Cond.constantLong RX5 98 99, Cond.methodLink RL 30 yX5_margin, Cond.instanceMethod yX5_margin, Cond.selects RX5 yX5_margin yX5_margin, Cond.code yX5_margin cX5_margin 4 (some .int), Cond.constantLong RX5 100 40, Cond.methodLink RL 34 yX5_told, Cond.instanceMethod yX5_told, Cond.selects RX5 yX5_told yX5_told, Cond.code yX5_told cX5_told 3 (some .int), Cond.constantLong RX5 102 6, Cond.constant RX5 104 (-100001), Cond.methodLink RL 38 yX5_earn, Cond.instanceMethod yX5_earn]
theorem zC703_e : zC703 = (tables_1.drop 703).take 17 := by decide +kernel
theorem zC703_g : zC703.all goodWord = true := by decide +kernel
theorem m_i_yX5_isBuyer : Cond.instanceMethod yX5_isBuyer ∈ zBig := zBig_c 0 zC703_e zC703_g rfl
theorem m_o_yX5_isBuyer : Cond.code yX5_isBuyer cX5_isBuyer 2 (some .boolean) ∈ zBig := zBig_c 1 zC703_e zC703_g rfl
theorem m_k_RX5_96 : Cond.constantLong RX5 96 3 ∈ zBig := zBig_c 2 zC703_e zC703_g rfl
theorem m_k_RX5_98 : Cond.constantLong RX5 98 99 ∈ zBig := zBig_c 3 zC703_e zC703_g rfl
theorem m_m_RL_30 : Cond.methodLink RL 30 yX5_margin ∈ zBig := zBig_c 4 zC703_e zC703_g rfl
theorem m_i_yX5_margin : Cond.instanceMethod yX5_margin ∈ zBig := zBig_c 5 zC703_e zC703_g rfl
theorem m_e_yX5_margin : Cond.selects RX5 yX5_margin yX5_margin ∈ zBig := zBig_c 6 zC703_e zC703_g rfl
theorem m_o_yX5_margin : Cond.code yX5_margin cX5_margin 4 (some .int) ∈ zBig := zBig_c 7 zC703_e zC703_g rfl
theorem m_k_RX5_100 : Cond.constantLong RX5 100 40 ∈ zBig := zBig_c 8 zC703_e zC703_g rfl
theorem m_m_RL_34 : Cond.methodLink RL 34 yX5_told ∈ zBig := zBig_c 9 zC703_e zC703_g rfl
theorem m_i_yX5_told : Cond.instanceMethod yX5_told ∈ zBig := zBig_c 10 zC703_e zC703_g rfl
theorem m_e_yX5_told : Cond.selects RX5 yX5_told yX5_told ∈ zBig := zBig_c 11 zC703_e zC703_g rfl
theorem m_o_yX5_told : Cond.code yX5_told cX5_told 3 (some .int) ∈ zBig := zBig_c 12 zC703_e zC703_g rfl
theorem m_k_RX5_102 : Cond.constantLong RX5 102 6 ∈ zBig := zBig_c 13 zC703_e zC703_g rfl
theorem m_k_RX5_104 : Cond.constant RX5 104 (-100001) ∈ zBig := zBig_c 14 zC703_e zC703_g rfl
theorem m_m_RL_38 : Cond.methodLink RL 38 yX5_earn ∈ zBig := zBig_c 15 zC703_e zC703_g rfl
theorem m_i_yX5_earn : Cond.instanceMethod yX5_earn ∈ zBig := zBig_c 16 zC703_e zC703_g rfl
def zC720 : List Cond := [Cond.selects RX5 yX5_earn yX5_earn, Cond.code yX5_earn cX5_earn 3 (some .int), Cond.constant RX5 105 (-100003), Cond.methodLink RL 45 yX5_type, Cond.instanceMethod yX5_type, Cond.selects RX5 yX5_type yX5_type, Cond.code yX5_type cX5_type 5 (some .int), Cond.constantLong RX5 106 8, Cond.constantLong RX5 108 255, Cond.constantLong RX5 110 32, Cond.constantLong RX5 112 126, Cond.methodLink RL 50 yX5_rules, Cond.instanceMethod yX5_rules, Cond.selects RX5 yX5_rules yX5_rules, Cond.code yX5_rules cX5_rules 4 (some .int), Cond.methodLink RX5 136 yX5_lawFault]
theorem zC720_e : zC720 = (tables_1.drop 720).take 16 := by decide +kernel
theorem zC720_g : zC720.all goodWord = true := by decide +kernel
theorem m_e_yX5_earn : Cond.selects RX5 yX5_earn yX5_earn ∈ zBig := zBig_c 0 zC720_e zC720_g rfl
theorem m_o_yX5_earn : Cond.code yX5_earn cX5_earn 3 (some .int) ∈ zBig := zBig_c 1 zC720_e zC720_g rfl
theorem m_k_RX5_105 : Cond.constant RX5 105 (-100003) ∈ zBig := zBig_c 2 zC720_e zC720_g rfl
theorem m_m_RL_45 : Cond.methodLink RL 45 yX5_type ∈ zBig := zBig_c 3 zC720_e zC720_g rfl
theorem m_i_yX5_type : Cond.instanceMethod yX5_type ∈ zBig := zBig_c 4 zC720_e zC720_g rfl
theorem m_e_yX5_type : Cond.selects RX5 yX5_type yX5_type ∈ zBig := zBig_c 5 zC720_e zC720_g rfl
theorem m_o_yX5_type : Cond.code yX5_type cX5_type 5 (some .int) ∈ zBig := zBig_c 6 zC720_e zC720_g rfl
theorem m_k_RX5_106 : Cond.constantLong RX5 106 8 ∈ zBig := zBig_c 7 zC720_e zC720_g rfl
theorem m_k_RX5_108 : Cond.constantLong RX5 108 255 ∈ zBig := zBig_c 8 zC720_e zC720_g rfl
theorem m_k_RX5_110 : Cond.constantLong RX5 110 32 ∈ zBig := zBig_c 9 zC720_e zC720_g rfl
theorem m_k_RX5_112 : Cond.constantLong RX5 112 126 ∈ zBig := zBig_c 10 zC720_e zC720_g rfl
theorem m_m_RL_50 : Cond.methodLink RL 50 yX5_rules ∈ zBig := zBig_c 11 zC720_e zC720_g rfl
theorem m_i_yX5_rules : Cond.instanceMethod yX5_rules ∈ zBig := zBig_c 12 zC720_e zC720_g rfl
theorem m_e_yX5_rules : Cond.selects RX5 yX5_rules yX5_rules ∈ zBig := zBig_c 13 zC720_e zC720_g rfl
theorem m_o_yX5_rules : Cond.code yX5_rules cX5_rules 4 (some .int) ∈ zBig := zBig_c 14 zC720_e zC720_g rfl
theorem m_m_RX5_136 : Cond.methodLink RX5 136 yX5_lawFault ∈ zBig := zBig_c 15 zC720_e zC720_g rfl
def zC737 : List Cond := [Cond.instanceMethod yX5_lawFault, Cond.code yX5_lawFault cX5_lawFault 5 (some .int), Cond.methodLink RX5 121 yX5_ahead]
theorem zC737_e : zC737 = (tables_1.drop 737).take 3 := by decide +kernel
theorem zC737_g : zC737.all goodWord = true := by decide +kernel
theorem m_i_yX5_lawFault : Cond.instanceMethod yX5_lawFault ∈ zBig := zBig_c 0 zC737_e zC737_g rfl
theorem m_o_yX5_lawFault : Cond.code yX5_lawFault cX5_lawFault 5 (some .int) ∈ zBig := zBig_c 1 zC737_e zC737_g rfl
theorem m_m_RX5_121 : Cond.methodLink RX5 121 yX5_ahead ∈ zBig := zBig_c 2 zC737_e zC737_g rfl
def zC741 : List Cond := [Cond.instanceMethod yX5_ahead, Cond.code yX5_ahead cX5_ahead 1 (some .int), Cond.methodLink RX5 125 yX5_ruleOf, Cond.static yX5_ruleOf, Cond.code yX5_ruleOf cX5_ruleOf 1 (some .int), Cond.constantLong RX5 128 48, Cond.constantLong RX5 130 57, Cond.methodLink RX5 132 yX5_lesser, Cond.static yX5_lesser]
theorem zC741_e : zC741 = (tables_1.drop 741).take 9 := by decide +kernel
theorem zC741_g : zC741.all goodWord = true := by decide +kernel
theorem m_i_yX5_ahead : Cond.instanceMethod yX5_ahead ∈ zBig := zBig_c 0 zC741_e zC741_g rfl
theorem m_o_yX5_ahead : Cond.code yX5_ahead cX5_ahead 1 (some .int) ∈ zBig := zBig_c 1 zC741_e zC741_g rfl
theorem m_m_RX5_125 : Cond.methodLink RX5 125 yX5_ruleOf ∈ zBig := zBig_c 2 zC741_e zC741_g rfl
theorem m_s_yX5_ruleOf : Cond.static yX5_ruleOf ∈ zBig := zBig_c 3 zC741_e zC741_g rfl
theorem m_o_yX5_ruleOf : Cond.code yX5_ruleOf cX5_ruleOf 1 (some .int) ∈ zBig := zBig_c 4 zC741_e zC741_g rfl
theorem m_k_RX5_128 : Cond.constantLong RX5 128 48 ∈ zBig := zBig_c 5 zC741_e zC741_g rfl
theorem m_k_RX5_130 : Cond.constantLong RX5 130 57 ∈ zBig := zBig_c 6 zC741_e zC741_g rfl
theorem m_m_RX5_132 : Cond.methodLink RX5 132 yX5_lesser ∈ zBig := zBig_c 7 zC741_e zC741_g rfl
theorem m_s_yX5_lesser : Cond.static yX5_lesser ∈ zBig := zBig_c 8 zC741_e zC741_g rfl
def zC750 : List Cond := [Cond.code yX5_lesser cX5_lesser 2 (some .int), Cond.methodLink RL 54 yX5_lots, Cond.instanceMethod yX5_lots, Cond.selects RX5 yX5_lots yX5_lots, Cond.code yX5_lots cX5_lots 4 (some .int), Cond.constantLong RX5 139 51, Cond.methodLink RL 59 yX5_count, Cond.instanceMethod yX5_count, Cond.selects RX5 yX5_count yX5_count, Cond.code yX5_count cX5_count 2 (some .int), Cond.methodLink RX5 141 yX5_owing]
theorem zC750_e : zC750 = (tables_1.drop 750).take 11 := by decide +kernel
theorem zC750_g : zC750.all goodWord = true := by decide +kernel
theorem m_o_yX5_lesser : Cond.code yX5_lesser cX5_lesser 2 (some .int) ∈ zBig := zBig_c 0 zC750_e zC750_g rfl
theorem m_m_RL_54 : Cond.methodLink RL 54 yX5_lots ∈ zBig := zBig_c 1 zC750_e zC750_g rfl
theorem m_i_yX5_lots : Cond.instanceMethod yX5_lots ∈ zBig := zBig_c 2 zC750_e zC750_g rfl
theorem m_e_yX5_lots : Cond.selects RX5 yX5_lots yX5_lots ∈ zBig := zBig_c 3 zC750_e zC750_g rfl
theorem m_o_yX5_lots : Cond.code yX5_lots cX5_lots 4 (some .int) ∈ zBig := zBig_c 4 zC750_e zC750_g rfl
theorem m_k_RX5_139 : Cond.constantLong RX5 139 51 ∈ zBig := zBig_c 5 zC750_e zC750_g rfl
theorem m_m_RL_59 : Cond.methodLink RL 59 yX5_count ∈ zBig := zBig_c 6 zC750_e zC750_g rfl
theorem m_i_yX5_count : Cond.instanceMethod yX5_count ∈ zBig := zBig_c 7 zC750_e zC750_g rfl
theorem m_e_yX5_count : Cond.selects RX5 yX5_count yX5_count ∈ zBig := zBig_c 8 zC750_e zC750_g rfl
theorem m_o_yX5_count : Cond.code yX5_count cX5_count 2 (some .int) ∈ zBig := zBig_c 9 zC750_e zC750_g rfl
theorem m_m_RX5_141 : Cond.methodLink RX5 141 yX5_owing ∈ zBig := zBig_c 10 zC750_e zC750_g rfl
def zC762 : List Cond := [Cond.instanceMethod yX5_owing, Cond.code yX5_owing cX5_owing 3 (some .int), Cond.methodLink RX5 144 yX5_kindsToldOf]
theorem zC762_e : zC762 = (tables_1.drop 762).take 3 := by decide +kernel
theorem zC762_g : zC762.all goodWord = true := by decide +kernel
theorem m_i_yX5_owing : Cond.instanceMethod yX5_owing ∈ zBig := zBig_c 0 zC762_e zC762_g rfl
theorem m_o_yX5_owing : Cond.code yX5_owing cX5_owing 3 (some .int) ∈ zBig := zBig_c 1 zC762_e zC762_g rfl
theorem m_m_RX5_144 : Cond.methodLink RX5 144 yX5_kindsToldOf ∈ zBig := zBig_c 2 zC762_e zC762_g rfl
def zC766 : List Cond := [Cond.instanceMethod yX5_kindsToldOf, Cond.code yX5_kindsToldOf cX5_kindsToldOf 3 (some .int), Cond.methodLink RL 63 yX5_lot, Cond.instanceMethod yX5_lot, Cond.selects RX5 yX5_lot yX5_lot, Cond.code yX5_lot cX5_lot 3 (some .int), Cond.methodLink RX5 194 yX5_hold]
theorem zC766_e : zC766 = (tables_1.drop 766).take 7 := by decide +kernel
theorem zC766_g : zC766.all goodWord = true := by decide +kernel
theorem m_i_yX5_kindsToldOf : Cond.instanceMethod yX5_kindsToldOf ∈ zBig := zBig_c 0 zC766_e zC766_g rfl
theorem m_o_yX5_kindsToldOf : Cond.code yX5_kindsToldOf cX5_kindsToldOf 3 (some .int) ∈ zBig := zBig_c 1 zC766_e zC766_g rfl
theorem m_m_RL_63 : Cond.methodLink RL 63 yX5_lot ∈ zBig := zBig_c 2 zC766_e zC766_g rfl
theorem m_i_yX5_lot : Cond.instanceMethod yX5_lot ∈ zBig := zBig_c 3 zC766_e zC766_g rfl
theorem m_e_yX5_lot : Cond.selects RX5 yX5_lot yX5_lot ∈ zBig := zBig_c 4 zC766_e zC766_g rfl
theorem m_o_yX5_lot : Cond.code yX5_lot cX5_lot 3 (some .int) ∈ zBig := zBig_c 5 zC766_e zC766_g rfl
theorem m_m_RX5_194 : Cond.methodLink RX5 194 yX5_hold ∈ zBig := zBig_c 6 zC766_e zC766_g rfl
def zC774 : List Cond := [Cond.instanceMethod yX5_hold, Cond.code yX5_hold cX5_hold 3 none, Cond.methodLink RX5 191 yX5_goThrough]
theorem zC774_e : zC774 = (tables_1.drop 774).take 3 := by decide +kernel
theorem zC774_g : zC774.all goodWord = true := by decide +kernel
theorem m_i_yX5_hold : Cond.instanceMethod yX5_hold ∈ zBig := zBig_c 0 zC774_e zC774_g rfl
theorem m_o_yX5_hold : Cond.code yX5_hold cX5_hold 3 none ∈ zBig := zBig_c 1 zC774_e zC774_g rfl
theorem m_m_RX5_191 : Cond.methodLink RX5 191 yX5_goThrough ∈ zBig := zBig_c 2 zC774_e zC774_g rfl
def zC778 : List Cond := [Cond.instanceMethod yX5_goThrough, Cond.code yX5_goThrough cX5_goThrough 3 none]
theorem zC778_e : zC778 = (tables_1.drop 778).take 2 := by decide +kernel
theorem zC778_g : zC778.all goodWord = true := by decide +kernel
theorem m_i_yX5_goThrough : Cond.instanceMethod yX5_goThrough ∈ zBig := zBig_c 0 zC778_e zC778_g rfl
theorem m_o_yX5_goThrough : Cond.code yX5_goThrough cX5_goThrough 3 none ∈ zBig := zBig_c 1 zC778_e zC778_g rfl
def zC780 : List Cond := [Cond.methodLink RX5 184 yX5_openMorning]
theorem zC780_e : zC780 = (tables_1.drop 780).take 1 := by decide +kernel
theorem zC780_g : zC780.all goodWord = true := by decide +kernel
theorem m_m_RX5_184 : Cond.methodLink RX5 184 yX5_openMorning ∈ zBig := zBig_c 0 zC780_e zC780_g rfl
def zC782 : List Cond := [Cond.instanceMethod yX5_openMorning, Cond.code yX5_openMorning cX5_openMorning 2 none, Cond.methodLink RX5 187 yX5_cry]
theorem zC782_e : zC782 = (tables_1.drop 782).take 3 := by decide +kernel
theorem zC782_g : zC782.all goodWord = true := by decide +kernel
theorem m_i_yX5_openMorning : Cond.instanceMethod yX5_openMorning ∈ zBig := zBig_c 0 zC782_e zC782_g rfl
theorem m_o_yX5_openMorning : Cond.code yX5_openMorning cX5_openMorning 2 none ∈ zBig := zBig_c 1 zC782_e zC782_g rfl
theorem m_m_RX5_187 : Cond.methodLink RX5 187 yX5_cry ∈ zBig := zBig_c 2 zC782_e zC782_g rfl
def zC786 : List Cond := [Cond.instanceMethod yX5_cry, Cond.code yX5_cry cX5_cry 13 none, Cond.methodLink RX5 172 yX5_listening]
theorem zC786_e : zC786 = (tables_1.drop 786).take 3 := by decide +kernel
theorem zC786_g : zC786.all goodWord = true := by decide +kernel
theorem m_i_yX5_cry : Cond.instanceMethod yX5_cry ∈ zBig := zBig_c 0 zC786_e zC786_g rfl
theorem m_o_yX5_cry : Cond.code yX5_cry cX5_cry 13 none ∈ zBig := zBig_c 1 zC786_e zC786_g rfl
theorem m_m_RX5_172 : Cond.methodLink RX5 172 yX5_listening ∈ zBig := zBig_c 2 zC786_e zC786_g rfl
def zC790 : List Cond := [Cond.instanceMethod yX5_listening, Cond.code yX5_listening cX5_listening 5 (some .int), Cond.methodLink RX5 156 yX5_has, Cond.static yX5_has, Cond.code yX5_has cX5_has 2 (some .boolean), Cond.methodLink RX5 150 yX5_worthOf]
theorem zC790_e : zC790 = (tables_1.drop 790).take 6 := by decide +kernel
theorem zC790_g : zC790.all goodWord = true := by decide +kernel
theorem m_i_yX5_listening : Cond.instanceMethod yX5_listening ∈ zBig := zBig_c 0 zC790_e zC790_g rfl
theorem m_o_yX5_listening : Cond.code yX5_listening cX5_listening 5 (some .int) ∈ zBig := zBig_c 1 zC790_e zC790_g rfl
theorem m_m_RX5_156 : Cond.methodLink RX5 156 yX5_has ∈ zBig := zBig_c 2 zC790_e zC790_g rfl
theorem m_s_yX5_has : Cond.static yX5_has ∈ zBig := zBig_c 3 zC790_e zC790_g rfl
theorem m_o_yX5_has : Cond.code yX5_has cX5_has 2 (some .boolean) ∈ zBig := zBig_c 4 zC790_e zC790_g rfl
theorem m_m_RX5_150 : Cond.methodLink RX5 150 yX5_worthOf ∈ zBig := zBig_c 5 zC790_e zC790_g rfl
def zC797 : List Cond := [Cond.instanceMethod yX5_worthOf, Cond.code yX5_worthOf cX5_worthOf 3 (some .int), Cond.constant RX5 175 100000, Cond.methodLink RX5 176 yX5_waits]
theorem zC797_e : zC797 = (tables_1.drop 797).take 4 := by decide +kernel
theorem zC797_g : zC797.all goodWord = true := by decide +kernel
theorem m_i_yX5_worthOf : Cond.instanceMethod yX5_worthOf ∈ zBig := zBig_c 0 zC797_e zC797_g rfl
theorem m_o_yX5_worthOf : Cond.code yX5_worthOf cX5_worthOf 3 (some .int) ∈ zBig := zBig_c 1 zC797_e zC797_g rfl
theorem m_k_RX5_175 : Cond.constant RX5 175 100000 ∈ zBig := zBig_c 2 zC797_e zC797_g rfl
theorem m_m_RX5_176 : Cond.methodLink RX5 176 yX5_waits ∈ zBig := zBig_c 3 zC797_e zC797_g rfl
def zC802 : List Cond := [Cond.instanceMethod yX5_waits, Cond.code yX5_waits cX5_waits 7 (some .int), Cond.methodLink RX5 160 yX5_marginOf]
theorem zC802_e : zC802 = (tables_1.drop 802).take 3 := by decide +kernel
theorem zC802_g : zC802.all goodWord = true := by decide +kernel
theorem m_i_yX5_waits : Cond.instanceMethod yX5_waits ∈ zBig := zBig_c 0 zC802_e zC802_g rfl
theorem m_o_yX5_waits : Cond.code yX5_waits cX5_waits 7 (some .int) ∈ zBig := zBig_c 1 zC802_e zC802_g rfl
theorem m_m_RX5_160 : Cond.methodLink RX5 160 yX5_marginOf ∈ zBig := zBig_c 2 zC802_e zC802_g rfl
def zC806 : List Cond := [Cond.instanceMethod yX5_marginOf, Cond.code yX5_marginOf cX5_marginOf 2 (some .int), Cond.methodLink RX5 163 yX5_payOf]
theorem zC806_e : zC806 = (tables_1.drop 806).take 3 := by decide +kernel
theorem zC806_g : zC806.all goodWord = true := by decide +kernel
theorem m_i_yX5_marginOf : Cond.instanceMethod yX5_marginOf ∈ zBig := zBig_c 0 zC806_e zC806_g rfl
theorem m_o_yX5_marginOf : Cond.code yX5_marginOf cX5_marginOf 2 (some .int) ∈ zBig := zBig_c 1 zC806_e zC806_g rfl
theorem m_m_RX5_163 : Cond.methodLink RX5 163 yX5_payOf ∈ zBig := zBig_c 2 zC806_e zC806_g rfl
def zC810 : List Cond := [Cond.instanceMethod yX5_payOf, Cond.code yX5_payOf cX5_payOf 2 (some .int), Cond.methodLink RX5 166 yX5_up, Cond.static yX5_up, Cond.code yX5_up cX5_up 2 (some .int), Cond.methodLink RX5 169 yX5_greater, Cond.static yX5_greater, Cond.code yX5_greater cX5_greater 2 (some .int), Cond.methodLink RX5 180 yX5_sell]
theorem zC810_e : zC810 = (tables_1.drop 810).take 9 := by decide +kernel
theorem zC810_g : zC810.all goodWord = true := by decide +kernel
theorem m_i_yX5_payOf : Cond.instanceMethod yX5_payOf ∈ zBig := zBig_c 0 zC810_e zC810_g rfl
theorem m_o_yX5_payOf : Cond.code yX5_payOf cX5_payOf 2 (some .int) ∈ zBig := zBig_c 1 zC810_e zC810_g rfl
theorem m_m_RX5_166 : Cond.methodLink RX5 166 yX5_up ∈ zBig := zBig_c 2 zC810_e zC810_g rfl
theorem m_s_yX5_up : Cond.static yX5_up ∈ zBig := zBig_c 3 zC810_e zC810_g rfl
theorem m_o_yX5_up : Cond.code yX5_up cX5_up 2 (some .int) ∈ zBig := zBig_c 4 zC810_e zC810_g rfl
theorem m_m_RX5_169 : Cond.methodLink RX5 169 yX5_greater ∈ zBig := zBig_c 5 zC810_e zC810_g rfl
theorem m_s_yX5_greater : Cond.static yX5_greater ∈ zBig := zBig_c 6 zC810_e zC810_g rfl
theorem m_o_yX5_greater : Cond.code yX5_greater cX5_greater 2 (some .int) ∈ zBig := zBig_c 7 zC810_e zC810_g rfl
theorem m_m_RX5_180 : Cond.methodLink RX5 180 yX5_sell ∈ zBig := zBig_c 8 zC810_e zC810_g rfl
def zC820 : List Cond := [Cond.instanceMethod yX5_sell, Cond.code yX5_sell cX5_sell 4 none, Cond.methodLink RL 67 yX5_gain, Cond.instanceMethod yX5_gain, Cond.selects RX5 yX5_gain yX5_gain, Cond.code yX5_gain cX5_gain 2 (some .int), Cond.methodLink RL 71 yX5_till, Cond.instanceMethod yX5_till, Cond.selects RX5 yX5_till yX5_till, Cond.code yX5_till cX5_till 3 (some .int), Cond.constantLong RX5 197 2, Cond.methodLink RX5 199 yX5_rise]
theorem zC820_e : zC820 = (tables_1.drop 820).take 12 := by decide +kernel
theorem zC820_g : zC820.all goodWord = true := by decide +kernel
theorem m_i_yX5_sell : Cond.instanceMethod yX5_sell ∈ zBig := zBig_c 0 zC820_e zC820_g rfl
theorem m_o_yX5_sell : Cond.code yX5_sell cX5_sell 4 none ∈ zBig := zBig_c 1 zC820_e zC820_g rfl
theorem m_m_RL_67 : Cond.methodLink RL 67 yX5_gain ∈ zBig := zBig_c 2 zC820_e zC820_g rfl
theorem m_i_yX5_gain : Cond.instanceMethod yX5_gain ∈ zBig := zBig_c 3 zC820_e zC820_g rfl
theorem m_e_yX5_gain : Cond.selects RX5 yX5_gain yX5_gain ∈ zBig := zBig_c 4 zC820_e zC820_g rfl
theorem m_o_yX5_gain : Cond.code yX5_gain cX5_gain 2 (some .int) ∈ zBig := zBig_c 5 zC820_e zC820_g rfl
theorem m_m_RL_71 : Cond.methodLink RL 71 yX5_till ∈ zBig := zBig_c 6 zC820_e zC820_g rfl
theorem m_i_yX5_till : Cond.instanceMethod yX5_till ∈ zBig := zBig_c 7 zC820_e zC820_g rfl
theorem m_e_yX5_till : Cond.selects RX5 yX5_till yX5_till ∈ zBig := zBig_c 8 zC820_e zC820_g rfl
theorem m_o_yX5_till : Cond.code yX5_till cX5_till 3 (some .int) ∈ zBig := zBig_c 9 zC820_e zC820_g rfl
theorem m_k_RX5_197 : Cond.constantLong RX5 197 2 ∈ zBig := zBig_c 10 zC820_e zC820_g rfl
theorem m_m_RX5_199 : Cond.methodLink RX5 199 yX5_rise ∈ zBig := zBig_c 11 zC820_e zC820_g rfl
def zC833 : List Cond := [Cond.instanceMethod yX5_rise, Cond.code yX5_rise cX5_rise 7 none, Cond.methodLink RX5 202 yX5_open]
theorem zC833_e : zC833 = (tables_1.drop 833).take 3 := by decide +kernel
theorem zC833_g : zC833.all goodWord = true := by decide +kernel
theorem m_i_yX5_rise : Cond.instanceMethod yX5_rise ∈ zBig := zBig_c 0 zC833_e zC833_g rfl
theorem m_o_yX5_rise : Cond.code yX5_rise cX5_rise 7 none ∈ zBig := zBig_c 1 zC833_e zC833_g rfl
theorem m_m_RX5_202 : Cond.methodLink RX5 202 yX5_open ∈ zBig := zBig_c 2 zC833_e zC833_g rfl
def zC837 : List Cond := [Cond.instanceMethod yX5_open, Cond.code yX5_open cX5_open 6 none, Cond.methodLink RL 75 yX5_morning]
theorem zC837_e : zC837 = (tables_1.drop 837).take 3 := by decide +kernel
theorem zC837_g : zC837.all goodWord = true := by decide +kernel
theorem m_i_yX5_open : Cond.instanceMethod yX5_open ∈ zBig := zBig_c 0 zC837_e zC837_g rfl
theorem m_o_yX5_open : Cond.code yX5_open cX5_open 6 none ∈ zBig := zBig_c 1 zC837_e zC837_g rfl
theorem m_m_RL_75 : Cond.methodLink RL 75 yX5_morning ∈ zBig := zBig_c 2 zC837_e zC837_g rfl
def zC840 : List Cond := [Cond.instanceMethod yX5_morning, Cond.selects RX5 yX5_morning yX5_morning, Cond.code yX5_morning cX5_morning 2 (some .int), Cond.methodLink RX5 205 yX5_hear]
theorem zC840_e : zC840 = (tables_1.drop 840).take 4 := by decide +kernel
theorem zC840_g : zC840.all goodWord = true := by decide +kernel
theorem m_i_yX5_morning : Cond.instanceMethod yX5_morning ∈ zBig := zBig_c 0 zC840_e zC840_g rfl
theorem m_e_yX5_morning : Cond.selects RX5 yX5_morning yX5_morning ∈ zBig := zBig_c 1 zC840_e zC840_g rfl
theorem m_o_yX5_morning : Cond.code yX5_morning cX5_morning 2 (some .int) ∈ zBig := zBig_c 2 zC840_e zC840_g rfl
theorem m_m_RX5_205 : Cond.methodLink RX5 205 yX5_hear ∈ zBig := zBig_c 3 zC840_e zC840_g rfl
def zC845 : List Cond := [Cond.instanceMethod yX5_hear, Cond.code yX5_hear cX5_hear 5 none, Cond.methodLink RL 79 yX5_span, Cond.instanceMethod yX5_span, Cond.selects RX5 yX5_span yX5_span, Cond.code yX5_span cX5_span 4 (some .int), Cond.methodLink RL 83 yX5_hush, Cond.instanceMethod yX5_hush, Cond.selects RX5 yX5_hush yX5_hush, Cond.code yX5_hush cX5_hush 3 (some .int), Cond.methodLink RL 87 yX5_best, Cond.instanceMethod yX5_best, Cond.selects RX5 yX5_best yX5_best, Cond.code yX5_best cX5_best 6 (some .int), Cond.methodLink RL 91 yX5_rests, Cond.instanceMethod yX5_rests, Cond.selects RX5 yX5_rests yX5_rests, Cond.code yX5_rests cX5_rests 7 (some .int), Cond.constantLong RX5 208 (-1), Cond.methodLink RX5 210 yX5_isResting]
theorem zC845_e : zC845 = (tables_1.drop 845).take 20 := by decide +kernel
theorem zC845_g : zC845.all goodWord = true := by decide +kernel
theorem m_i_yX5_hear : Cond.instanceMethod yX5_hear ∈ zBig := zBig_c 0 zC845_e zC845_g rfl
theorem m_o_yX5_hear : Cond.code yX5_hear cX5_hear 5 none ∈ zBig := zBig_c 1 zC845_e zC845_g rfl
theorem m_m_RL_79 : Cond.methodLink RL 79 yX5_span ∈ zBig := zBig_c 2 zC845_e zC845_g rfl
theorem m_i_yX5_span : Cond.instanceMethod yX5_span ∈ zBig := zBig_c 3 zC845_e zC845_g rfl
theorem m_e_yX5_span : Cond.selects RX5 yX5_span yX5_span ∈ zBig := zBig_c 4 zC845_e zC845_g rfl
theorem m_o_yX5_span : Cond.code yX5_span cX5_span 4 (some .int) ∈ zBig := zBig_c 5 zC845_e zC845_g rfl
theorem m_m_RL_83 : Cond.methodLink RL 83 yX5_hush ∈ zBig := zBig_c 6 zC845_e zC845_g rfl
theorem m_i_yX5_hush : Cond.instanceMethod yX5_hush ∈ zBig := zBig_c 7 zC845_e zC845_g rfl
theorem m_e_yX5_hush : Cond.selects RX5 yX5_hush yX5_hush ∈ zBig := zBig_c 8 zC845_e zC845_g rfl
theorem m_o_yX5_hush : Cond.code yX5_hush cX5_hush 3 (some .int) ∈ zBig := zBig_c 9 zC845_e zC845_g rfl
theorem m_m_RL_87 : Cond.methodLink RL 87 yX5_best ∈ zBig := zBig_c 10 zC845_e zC845_g rfl
theorem m_i_yX5_best : Cond.instanceMethod yX5_best ∈ zBig := zBig_c 11 zC845_e zC845_g rfl
theorem m_e_yX5_best : Cond.selects RX5 yX5_best yX5_best ∈ zBig := zBig_c 12 zC845_e zC845_g rfl
theorem m_o_yX5_best : Cond.code yX5_best cX5_best 6 (some .int) ∈ zBig := zBig_c 13 zC845_e zC845_g rfl
theorem m_m_RL_91 : Cond.methodLink RL 91 yX5_rests ∈ zBig := zBig_c 14 zC845_e zC845_g rfl
theorem m_i_yX5_rests : Cond.instanceMethod yX5_rests ∈ zBig := zBig_c 15 zC845_e zC845_g rfl
theorem m_e_yX5_rests : Cond.selects RX5 yX5_rests yX5_rests ∈ zBig := zBig_c 16 zC845_e zC845_g rfl
theorem m_o_yX5_rests : Cond.code yX5_rests cX5_rests 7 (some .int) ∈ zBig := zBig_c 17 zC845_e zC845_g rfl
theorem m_k_RX5_208 : Cond.constantLong RX5 208 (-1) ∈ zBig := zBig_c 18 zC845_e zC845_g rfl
theorem m_m_RX5_210 : Cond.methodLink RX5 210 yX5_isResting ∈ zBig := zBig_c 19 zC845_e zC845_g rfl
def zC866 : List Cond := [Cond.instanceMethod yX5_isResting, Cond.code yX5_isResting cX5_isResting 6 (some .boolean), Cond.methodLink RL 95 yX5_order, Cond.instanceMethod yX5_order]
theorem zC866_e : zC866 = (tables_1.drop 866).take 4 := by decide +kernel
theorem zC866_g : zC866.all goodWord = true := by decide +kernel
theorem m_i_yX5_isResting : Cond.instanceMethod yX5_isResting ∈ zBig := zBig_c 0 zC866_e zC866_g rfl
theorem m_o_yX5_isResting : Cond.code yX5_isResting cX5_isResting 6 (some .boolean) ∈ zBig := zBig_c 1 zC866_e zC866_g rfl
theorem m_m_RL_95 : Cond.methodLink RL 95 yX5_order ∈ zBig := zBig_c 2 zC866_e zC866_g rfl
theorem m_i_yX5_order : Cond.instanceMethod yX5_order ∈ zBig := zBig_c 3 zC866_e zC866_g rfl
def zC870 : List Cond := [Cond.selects RX5 yX5_order yX5_order, Cond.code yX5_order cX5_order 6 (some .int), Cond.constantLong RX5 213 5, Cond.methodLink RX5 215 yX5_nextRow]
theorem zC870_e : zC870 = (tables_1.drop 870).take 4 := by decide +kernel
theorem zC870_g : zC870.all goodWord = true := by decide +kernel
theorem m_e_yX5_order : Cond.selects RX5 yX5_order yX5_order ∈ zBig := zBig_c 0 zC870_e zC870_g rfl
theorem m_o_yX5_order : Cond.code yX5_order cX5_order 6 (some .int) ∈ zBig := zBig_c 1 zC870_e zC870_g rfl
theorem m_k_RX5_213 : Cond.constantLong RX5 213 5 ∈ zBig := zBig_c 2 zC870_e zC870_g rfl
theorem m_m_RX5_215 : Cond.methodLink RX5 215 yX5_nextRow ∈ zBig := zBig_c 3 zC870_e zC870_g rfl
def zC875 : List Cond := [Cond.instanceMethod yX5_nextRow, Cond.code yX5_nextRow cX5_nextRow 6 (some .boolean), Cond.methodLink RL 99 yX5_ring, Cond.instanceMethod yX5_ring, Cond.selects RX5 yX5_ring yX5_ring, Cond.code yX5_ring cX5_ring 3 (some .int), Cond.methodLink RX5 218 yX5_together]
theorem zC875_e : zC875 = (tables_1.drop 875).take 7 := by decide +kernel
theorem zC875_g : zC875.all goodWord = true := by decide +kernel
theorem m_i_yX5_nextRow : Cond.instanceMethod yX5_nextRow ∈ zBig := zBig_c 0 zC875_e zC875_g rfl
theorem m_o_yX5_nextRow : Cond.code yX5_nextRow cX5_nextRow 6 (some .boolean) ∈ zBig := zBig_c 1 zC875_e zC875_g rfl
theorem m_m_RL_99 : Cond.methodLink RL 99 yX5_ring ∈ zBig := zBig_c 2 zC875_e zC875_g rfl
theorem m_i_yX5_ring : Cond.instanceMethod yX5_ring ∈ zBig := zBig_c 3 zC875_e zC875_g rfl
theorem m_e_yX5_ring : Cond.selects RX5 yX5_ring yX5_ring ∈ zBig := zBig_c 4 zC875_e zC875_g rfl
theorem m_o_yX5_ring : Cond.code yX5_ring cX5_ring 3 (some .int) ∈ zBig := zBig_c 5 zC875_e zC875_g rfl
theorem m_m_RX5_218 : Cond.methodLink RX5 218 yX5_together ∈ zBig := zBig_c 6 zC875_e zC875_g rfl
def zC883 : List Cond := [Cond.instanceMethod yX5_together, Cond.code yX5_together cX5_together 4 (some .int), Cond.methodLink RL 103 yX5_image, Cond.instanceMethod yX5_image, Cond.selects RX5 yX5_image yX5_image, Cond.code yX5_image cX5_image 2 (some .int), Cond.methodLink RL 107 yX5_restore, Cond.instanceMethod yX5_restore, Cond.selects RX5 yX5_restore yX5_restore, Cond.code yX5_restore cX5_restore 2 (some .int), Cond.methodLink RL 112 yX5_which, Cond.instanceMethod yX5_which, Cond.selects RX5 yX5_which yX5_which, Cond.code yX5_which cX5_which 9 (some .int), Cond.methodLink RX5 225 yX5_isSheet, Cond.static yX5_isSheet, Cond.code yX5_isSheet cX5_isSheet 1 (some .boolean)]
theorem zC883_e : zC883 = (tables_1.drop 883).take 17 := by decide +kernel
theorem zC883_g : zC883.all goodWord = true := by decide +kernel
theorem m_i_yX5_together : Cond.instanceMethod yX5_together ∈ zBig := zBig_c 0 zC883_e zC883_g rfl
theorem m_o_yX5_together : Cond.code yX5_together cX5_together 4 (some .int) ∈ zBig := zBig_c 1 zC883_e zC883_g rfl
theorem m_m_RL_103 : Cond.methodLink RL 103 yX5_image ∈ zBig := zBig_c 2 zC883_e zC883_g rfl
theorem m_i_yX5_image : Cond.instanceMethod yX5_image ∈ zBig := zBig_c 3 zC883_e zC883_g rfl
theorem m_e_yX5_image : Cond.selects RX5 yX5_image yX5_image ∈ zBig := zBig_c 4 zC883_e zC883_g rfl
theorem m_o_yX5_image : Cond.code yX5_image cX5_image 2 (some .int) ∈ zBig := zBig_c 5 zC883_e zC883_g rfl
theorem m_m_RL_107 : Cond.methodLink RL 107 yX5_restore ∈ zBig := zBig_c 6 zC883_e zC883_g rfl
theorem m_i_yX5_restore : Cond.instanceMethod yX5_restore ∈ zBig := zBig_c 7 zC883_e zC883_g rfl
theorem m_e_yX5_restore : Cond.selects RX5 yX5_restore yX5_restore ∈ zBig := zBig_c 8 zC883_e zC883_g rfl
theorem m_o_yX5_restore : Cond.code yX5_restore cX5_restore 2 (some .int) ∈ zBig := zBig_c 9 zC883_e zC883_g rfl
theorem m_m_RL_112 : Cond.methodLink RL 112 yX5_which ∈ zBig := zBig_c 10 zC883_e zC883_g rfl
theorem m_i_yX5_which : Cond.instanceMethod yX5_which ∈ zBig := zBig_c 11 zC883_e zC883_g rfl
theorem m_e_yX5_which : Cond.selects RX5 yX5_which yX5_which ∈ zBig := zBig_c 12 zC883_e zC883_g rfl
theorem m_o_yX5_which : Cond.code yX5_which cX5_which 9 (some .int) ∈ zBig := zBig_c 13 zC883_e zC883_g rfl
theorem m_m_RX5_225 : Cond.methodLink RX5 225 yX5_isSheet ∈ zBig := zBig_c 14 zC883_e zC883_g rfl
theorem m_s_yX5_isSheet : Cond.static yX5_isSheet ∈ zBig := zBig_c 15 zC883_e zC883_g rfl
theorem m_o_yX5_isSheet : Cond.code yX5_isSheet cX5_isSheet 1 (some .boolean) ∈ zBig := zBig_c 16 zC883_e zC883_g rfl
def zC900 : List Cond := [Cond.methodLink RX5 228 yX5_bars]
theorem zC900_e : zC900 = (tables_1.drop 900).take 1 := by decide +kernel
theorem zC900_g : zC900.all goodWord = true := by decide +kernel
theorem m_m_RX5_228 : Cond.methodLink RX5 228 yX5_bars ∈ zBig := zBig_c 0 zC900_e zC900_g rfl
def zC902 : List Cond := [Cond.instanceMethod yX5_bars, Cond.code yX5_bars cX5_bars 5 (some .int), Cond.methodLink RX5 231 yX5_isSo]
theorem zC902_e : zC902 = (tables_1.drop 902).take 3 := by decide +kernel
theorem zC902_g : zC902.all goodWord = true := by decide +kernel
theorem m_i_yX5_bars : Cond.instanceMethod yX5_bars ∈ zBig := zBig_c 0 zC902_e zC902_g rfl
theorem m_o_yX5_bars : Cond.code yX5_bars cX5_bars 5 (some .int) ∈ zBig := zBig_c 1 zC902_e zC902_g rfl
theorem m_m_RX5_231 : Cond.methodLink RX5 231 yX5_isSo ∈ zBig := zBig_c 2 zC902_e zC902_g rfl
def zC906 : List Cond := [Cond.instanceMethod yX5_isSo, Cond.code yX5_isSo cX5_isSo 6 (some .boolean), Cond.methodLink RL 116 yX5_film, Cond.instanceMethod yX5_film, Cond.selects RX5 yX5_film yX5_film, Cond.code yX5_film cX5_film 6 (some .int), Cond.methodLink RL 120 yX5_sheet, Cond.instanceMethod yX5_sheet, Cond.selects RX5 yX5_sheet yX5_sheet, Cond.code yX5_sheet cX5_sheet 5 (some .int), Cond.methodLink RL 124 yX5_drop, Cond.instanceMethod yX5_drop, Cond.selects RX5 yX5_drop yX5_drop, Cond.code yX5_drop cX5_drop 2 (some .int), Cond.methodLink RL 129 yX5_item, Cond.instanceMethod yX5_item, Cond.selects RX5 yX5_item yX5_item, Cond.code yX5_item cX5_item 7 (some .int), Cond.methodLink RX5 234 yX5_cut, Cond.static yX5_cut, Cond.code yX5_cut cX5_cut 3 (some .long), Cond.methodLink RL 134 yX5_copy, Cond.instanceMethod yX5_copy, Cond.selects RX5 yX5_copy yX5_copy]
theorem zC906_e : zC906 = (tables_1.drop 906).take 24 := by decide +kernel
theorem zC906_g : zC906.all goodWord = true := by decide +kernel
theorem m_i_yX5_isSo : Cond.instanceMethod yX5_isSo ∈ zBig := zBig_c 0 zC906_e zC906_g rfl
theorem m_o_yX5_isSo : Cond.code yX5_isSo cX5_isSo 6 (some .boolean) ∈ zBig := zBig_c 1 zC906_e zC906_g rfl
theorem m_m_RL_116 : Cond.methodLink RL 116 yX5_film ∈ zBig := zBig_c 2 zC906_e zC906_g rfl
theorem m_i_yX5_film : Cond.instanceMethod yX5_film ∈ zBig := zBig_c 3 zC906_e zC906_g rfl
theorem m_e_yX5_film : Cond.selects RX5 yX5_film yX5_film ∈ zBig := zBig_c 4 zC906_e zC906_g rfl
theorem m_o_yX5_film : Cond.code yX5_film cX5_film 6 (some .int) ∈ zBig := zBig_c 5 zC906_e zC906_g rfl
theorem m_m_RL_120 : Cond.methodLink RL 120 yX5_sheet ∈ zBig := zBig_c 6 zC906_e zC906_g rfl
theorem m_i_yX5_sheet : Cond.instanceMethod yX5_sheet ∈ zBig := zBig_c 7 zC906_e zC906_g rfl
theorem m_e_yX5_sheet : Cond.selects RX5 yX5_sheet yX5_sheet ∈ zBig := zBig_c 8 zC906_e zC906_g rfl
theorem m_o_yX5_sheet : Cond.code yX5_sheet cX5_sheet 5 (some .int) ∈ zBig := zBig_c 9 zC906_e zC906_g rfl
theorem m_m_RL_124 : Cond.methodLink RL 124 yX5_drop ∈ zBig := zBig_c 10 zC906_e zC906_g rfl
theorem m_i_yX5_drop : Cond.instanceMethod yX5_drop ∈ zBig := zBig_c 11 zC906_e zC906_g rfl
theorem m_e_yX5_drop : Cond.selects RX5 yX5_drop yX5_drop ∈ zBig := zBig_c 12 zC906_e zC906_g rfl
theorem m_o_yX5_drop : Cond.code yX5_drop cX5_drop 2 (some .int) ∈ zBig := zBig_c 13 zC906_e zC906_g rfl
theorem m_m_RL_129 : Cond.methodLink RL 129 yX5_item ∈ zBig := zBig_c 14 zC906_e zC906_g rfl
theorem m_i_yX5_item : Cond.instanceMethod yX5_item ∈ zBig := zBig_c 15 zC906_e zC906_g rfl
theorem m_e_yX5_item : Cond.selects RX5 yX5_item yX5_item ∈ zBig := zBig_c 16 zC906_e zC906_g rfl
theorem m_o_yX5_item : Cond.code yX5_item cX5_item 7 (some .int) ∈ zBig := zBig_c 17 zC906_e zC906_g rfl
theorem m_m_RX5_234 : Cond.methodLink RX5 234 yX5_cut ∈ zBig := zBig_c 18 zC906_e zC906_g rfl
theorem m_s_yX5_cut : Cond.static yX5_cut ∈ zBig := zBig_c 19 zC906_e zC906_g rfl
theorem m_o_yX5_cut : Cond.code yX5_cut cX5_cut 3 (some .long) ∈ zBig := zBig_c 20 zC906_e zC906_g rfl
theorem m_m_RL_134 : Cond.methodLink RL 134 yX5_copy ∈ zBig := zBig_c 21 zC906_e zC906_g rfl
theorem m_i_yX5_copy : Cond.instanceMethod yX5_copy ∈ zBig := zBig_c 22 zC906_e zC906_g rfl
theorem m_e_yX5_copy : Cond.selects RX5 yX5_copy yX5_copy ∈ zBig := zBig_c 23 zC906_e zC906_g rfl
def zC930 : List Cond := [Cond.code yX5_copy cX5_copy 8 (some .int), Cond.constantLong RL 39 4294967295]
theorem zC930_e : zC930 = (tables_1.drop 930).take 2 := by decide +kernel
theorem zC930_g : zC930.all goodWord = true := by decide +kernel
theorem m_o_yX5_copy : Cond.code yX5_copy cX5_copy 8 (some .int) ∈ zBig := zBig_c 0 zC930_e zC930_g rfl
theorem m_k_RL_39 : Cond.constantLong RL 39 4294967295 ∈ zBig := zBig_c 1 zC930_e zC930_g rfl
theorem m_e_yX0_isThere : Cond.selects RX0 yX0_isThere yX0_isThere ∈ zBig := zBig_s 0 rfl rfl
theorem m_e_yX0_worthOf : Cond.selects RX0 yX0_worthOf yX0_worthOf ∈ zBig := zBig_s 1 rfl rfl
theorem m_e_yX3_append : Cond.selects RX3 yX3_append yX3_append ∈ zBig := zBig_s 2 rfl rfl
theorem m_e_yX3_readLaw : Cond.selects RX3 yX3_readLaw yX3_readLaw ∈ zBig := zBig_s 3 rfl rfl
theorem m_e_yX3_behindBlanks : Cond.selects RX3 yX3_behindBlanks yX3_behindBlanks ∈ zBig := zBig_s 4 rfl rfl
theorem m_e_yX3_charAt : Cond.selects RX3 yX3_charAt yX3_charAt ∈ zBig := zBig_s 5 rfl rfl
theorem m_e_yX3_ruleAt : Cond.selects RX3 yX3_ruleAt yX3_ruleAt ∈ zBig := zBig_s 6 rfl rfl
theorem m_e_yX3_behindDigits : Cond.selects RX3 yX3_behindDigits yX3_behindDigits ∈ zBig := zBig_s 7 rfl rfl
theorem m_e_yX3_numberAt : Cond.selects RX3 yX3_numberAt yX3_numberAt ∈ zBig := zBig_s 8 rfl rfl
theorem m_e_yX3_readLots : Cond.selects RX3 yX3_readLots yX3_readLots ∈ zBig := zBig_s 9 rfl rfl
theorem m_e_yX0_countOwing : Cond.selects RX0 yX0_countOwing yX0_countOwing ∈ zBig := zBig_s 10 rfl rfl
theorem m_e_yX0_countKinds : Cond.selects RX0 yX0_countKinds yX0_countKinds ∈ zBig := zBig_s 11 rfl rfl
theorem m_e_yX2_fallAsTold : Cond.selects RX2 yX2_fallAsTold yX2_fallAsTold ∈ zBig := zBig_s 12 rfl rfl
theorem m_e_yX2_takeMargins : Cond.selects RX2 yX2_takeMargins yX2_takeMargins ∈ zBig := zBig_s 13 rfl rfl
theorem m_e_yX2_fall : Cond.selects RX2 yX2_fall yX2_fall ∈ zBig := zBig_s 14 rfl rfl
theorem m_e_yX2_begin : Cond.selects RX2 yX2_begin yX2_begin ∈ zBig := zBig_s 15 rfl rfl
theorem m_e_yX2_fallLot : Cond.selects RX2 yX2_fallLot yX2_fallLot ∈ zBig := zBig_s 16 rfl rfl
theorem m_e_yX2_ready : Cond.selects RX2 yX2_ready yX2_ready ∈ zBig := zBig_s 17 rfl rfl
theorem m_e_yX2_charge : Cond.selects RX2 yX2_charge yX2_charge ∈ zBig := zBig_s 18 rfl rfl
theorem m_e_yX2_silentOf : Cond.selects RX2 yX2_silentOf yX2_silentOf ∈ zBig := zBig_s 19 rfl rfl
theorem m_e_yX2_coughsAt : Cond.selects RX2 yX2_coughsAt yX2_coughsAt ∈ zBig := zBig_s 20 rfl rfl
theorem m_e_yX2_nextCough : Cond.selects RX2 yX2_nextCough yX2_nextCough ∈ zBig := zBig_s 21 rfl rfl
theorem m_e_yX2_settle : Cond.selects RX2 yX2_settle yX2_settle ∈ zBig := zBig_s 22 rfl rfl
theorem m_e_yX2_tillBy : Cond.selects RX2 yX2_tillBy yX2_tillBy ∈ zBig := zBig_s 23 rfl rfl
theorem m_e_yX2_riseLot : Cond.selects RX2 yX2_riseLot yX2_riseLot ∈ zBig := zBig_s 24 rfl rfl
theorem m_e_yX2_openSealed : Cond.selects RX2 yX2_openSealed yX2_openSealed ∈ zBig := zBig_s 25 rfl rfl
theorem m_e_yX2_hear : Cond.selects RX2 yX2_hear yX2_hear ∈ zBig := zBig_s 26 rfl rfl
theorem m_e_yX0_narrowSpan : Cond.selects RX0 yX0_narrowSpan yX0_narrowSpan ∈ zBig := zBig_s 27 rfl rfl
theorem m_e_yX0_widenSpans : Cond.selects RX0 yX0_widenSpans yX0_widenSpans ∈ zBig := zBig_s 28 rfl rfl
theorem m_e_yX4_countRests : Cond.selects RX4 yX4_countRests yX4_countRests ∈ zBig := zBig_s 29 rfl rfl
theorem m_e_yX4_digitOf : Cond.selects RX4 yX4_digitOf yX4_digitOf ∈ zBig := zBig_s 30 rfl rfl
theorem m_e_yX4_digitShift : Cond.selects RX4 yX4_digitShift yX4_digitShift ∈ zBig := zBig_s 31 rfl rfl
theorem m_e_yX4_isAtRest : Cond.selects RX4 yX4_isAtRest yX4_isAtRest ∈ zBig := zBig_s 32 rfl rfl
theorem m_e_yX4_findBestRow : Cond.selects RX4 yX4_findBestRow yX4_findBestRow ∈ zBig := zBig_s 33 rfl rfl
theorem m_e_yX4_isFirstOfItsLike : Cond.selects RX4 yX4_isFirstOfItsLike yX4_isFirstOfItsLike ∈ zBig := zBig_s 34 rfl rfl
theorem m_e_yX0_kindOf : Cond.selects RX0 yX0_kindOf yX0_kindOf ∈ zBig := zBig_s 35 rfl rfl
theorem m_e_yX4_tillOfRow : Cond.selects RX4 yX4_tillOfRow yX4_tillOfRow ∈ zBig := zBig_s 36 rfl rfl
theorem m_e_yX4_nextRow : Cond.selects RX4 yX4_nextRow yX4_nextRow ∈ zBig := zBig_s 37 rfl rfl
theorem m_e_yX4_swapInRow : Cond.selects RX4 yX4_swapInRow yX4_swapInRow ∈ zBig := zBig_s 38 rfl rfl
theorem m_e_yX4_isRing : Cond.selects RX4 yX4_isRing yX4_isRing ∈ zBig := zBig_s 39 rfl rfl
theorem m_e_yX2_gainOf : Cond.selects RX2 yX2_gainOf yX2_gainOf ∈ zBig := zBig_s 40 rfl rfl
theorem m_e_yX0_take : Cond.selects RX0 yX0_take yX0_take ∈ zBig := zBig_s 41 rfl rfl
theorem m_e_yX1_refuse : Cond.selects RX1 yX1_refuse yX1_refuse ∈ zBig := zBig_s 42 rfl rfl
theorem m_e_yX1_holds : Cond.selects RX1 yX1_holds yX1_holds ∈ zBig := zBig_s 43 rfl rfl
theorem m_e_yX4_isAsFilmed : Cond.selects RX4 yX4_isAsFilmed yX4_isAsFilmed ∈ zBig := zBig_s 44 rfl rfl
theorem m_e_yX1_peek : Cond.selects RX1 yX1_peek yX1_peek ∈ zBig := zBig_s 45 rfl rfl
theorem m_e_yX1_put : Cond.selects RX1 yX1_put yX1_put ∈ zBig := zBig_s 46 rfl rfl
theorem m_e_yX1_lay : Cond.selects RX1 yX1_lay yX1_lay ∈ zBig := zBig_s 47 rfl rfl
theorem m_e_yX5_isBuyer : Cond.selects RX5 yX5_isBuyer yX5_isBuyer ∈ zBig := zBig_s 48 rfl rfl
theorem m_e_yX5_lawFault : Cond.selects RX5 yX5_lawFault yX5_lawFault ∈ zBig := zBig_s 49 rfl rfl
theorem m_e_yX5_ahead : Cond.selects RX5 yX5_ahead yX5_ahead ∈ zBig := zBig_s 50 rfl rfl
theorem m_e_yX5_owing : Cond.selects RX5 yX5_owing yX5_owing ∈ zBig := zBig_s 51 rfl rfl
theorem m_e_yX5_kindsToldOf : Cond.selects RX5 yX5_kindsToldOf yX5_kindsToldOf ∈ zBig := zBig_s 52 rfl rfl
theorem m_e_yX5_hold : Cond.selects RX5 yX5_hold yX5_hold ∈ zBig := zBig_s 53 rfl rfl
theorem m_e_yX5_goThrough : Cond.selects RX5 yX5_goThrough yX5_goThrough ∈ zBig := zBig_s 54 rfl rfl
theorem m_e_yX5_openMorning : Cond.selects RX5 yX5_openMorning yX5_openMorning ∈ zBig := zBig_s 55 rfl rfl
theorem m_e_yX5_cry : Cond.selects RX5 yX5_cry yX5_cry ∈ zBig := zBig_s 56 rfl rfl
theorem m_e_yX5_listening : Cond.selects RX5 yX5_listening yX5_listening ∈ zBig := zBig_s 57 rfl rfl
theorem m_e_yX5_worthOf : Cond.selects RX5 yX5_worthOf yX5_worthOf ∈ zBig := zBig_s 58 rfl rfl
theorem m_e_yX5_waits : Cond.selects RX5 yX5_waits yX5_waits ∈ zBig := zBig_s 59 rfl rfl
theorem m_e_yX5_marginOf : Cond.selects RX5 yX5_marginOf yX5_marginOf ∈ zBig := zBig_s 60 rfl rfl
theorem m_e_yX5_payOf : Cond.selects RX5 yX5_payOf yX5_payOf ∈ zBig := zBig_s 61 rfl rfl
theorem m_e_yX5_sell : Cond.selects RX5 yX5_sell yX5_sell ∈ zBig := zBig_s 62 rfl rfl
theorem m_e_yX5_rise : Cond.selects RX5 yX5_rise yX5_rise ∈ zBig := zBig_s 63 rfl rfl
theorem m_e_yX5_open : Cond.selects RX5 yX5_open yX5_open ∈ zBig := zBig_s 64 rfl rfl
theorem m_e_yX5_hear : Cond.selects RX5 yX5_hear yX5_hear ∈ zBig := zBig_s 65 rfl rfl
theorem m_e_yX5_isResting : Cond.selects RX5 yX5_isResting yX5_isResting ∈ zBig := zBig_s 66 rfl rfl
theorem m_e_yX5_nextRow : Cond.selects RX5 yX5_nextRow yX5_nextRow ∈ zBig := zBig_s 67 rfl rfl
theorem m_e_yX5_together : Cond.selects RX5 yX5_together yX5_together ∈ zBig := zBig_s 68 rfl rfl
theorem m_e_yX5_bars : Cond.selects RX5 yX5_bars yX5_bars ∈ zBig := zBig_s 69 rfl rfl
theorem m_e_yX5_isSo : Cond.selects RX5 yX5_isSo yX5_isSo ∈ zBig := zBig_s 70 rfl rfl
theorem zl_X0 : ∀ w ∈ u_ws RX0 TX0 11, w ∈ zBig := fun w h => List.mem_filter.mpr ⟨List.mem_append_right _ ((by decide +kernel : ∀ w ∈ u_ws RX0 TX0 11, w ∈ tables_1) w h), (by decide +kernel : ∀ w ∈ u_ws RX0 TX0 11, goodWord w = true) w h⟩
theorem zl_X1 : ∀ w ∈ u_ws RX1 TX1 3, w ∈ zBig := fun w h => List.mem_filter.mpr ⟨List.mem_append_right _ ((by decide +kernel : ∀ w ∈ u_ws RX1 TX1 3, w ∈ tables_1) w h), (by decide +kernel : ∀ w ∈ u_ws RX1 TX1 3, goodWord w = true) w h⟩
theorem zl_X2 : ∀ w ∈ u_ws RX2 TX2 12, w ∈ zBig := fun w h => List.mem_filter.mpr ⟨List.mem_append_right _ ((by decide +kernel : ∀ w ∈ u_ws RX2 TX2 12, w ∈ tables_1) w h), (by decide +kernel : ∀ w ∈ u_ws RX2 TX2 12, goodWord w = true) w h⟩
theorem zl_X3 : ∀ w ∈ u_ws RX3 TX3 2, w ∈ zBig := fun w h => List.mem_filter.mpr ⟨List.mem_append_right _ ((by decide +kernel : ∀ w ∈ u_ws RX3 TX3 2, w ∈ tables_1) w h), (by decide +kernel : ∀ w ∈ u_ws RX3 TX3 2, goodWord w = true) w h⟩
theorem zl_X4 : ∀ w ∈ u_ws RX4 TX4 12, w ∈ zBig := fun w h => List.mem_filter.mpr ⟨List.mem_append_right _ ((by decide +kernel : ∀ w ∈ u_ws RX4 TX4 12, w ∈ tables_1) w h), (by decide +kernel : ∀ w ∈ u_ws RX4 TX4 12, goodWord w = true) w h⟩
theorem zl_X5 : ∀ w ∈ u_ws RX5 TX5 27, w ∈ zBig := fun w h => List.mem_filter.mpr ⟨List.mem_append_right _ ((by decide +kernel : ∀ w ∈ u_ws RX5 TX5 27, w ∈ tables_1) w h), (by decide +kernel : ∀ w ∈ u_ws RX5 TX5 27, goodWord w = true) w h⟩
def zNF : List (String × Nat × String × String × String) := [(RX0, 9, "FishSteps", "RULE_FIRST", "[I"), (RX4, 68, "FishSteps$Books", "law", "[I"), (RX2, 107, "FishSteps$Books", "law", "[I"), (RX2, 76, "FishSteps$Books", "lots", "I"), (RX4, 122, "FishSteps$Books", "lots", "I"), (RX2, 97, "FishSteps$Books", "kind", "[I"), (RX4, 113, "FishSteps$Books", "kind", "[I"), (RX4, 71, "FishSteps$Books", "buyers", "I"), (RX2, 140, "FishSteps$Books", "buyers", "I"), (RX4, 74, "FishSteps$Books", "sort", "[I"), (RX2, 134, "FishSteps$Books", "sort", "[I"), (RX2, 58, "FishSteps$Books", "purse", "[I"), (RX4, 77, "FishSteps$Books", "purse", "[I"), (RX2, 49, "FishSteps$Books", "margin", "[I"), (RX4, 90, "FishSteps$Books", "margin", "[I"), (RX4, 87, "FishSteps$Books", "worth", "[I"), (RX4, 176, "FishSteps$Books", "least", "[I"), (RX4, 179, "FishSteps$Books", "most", "[I"), (RX4, 125, "FishSteps$Books", "held", "I"), (RX4, 185, "FishSteps$Steps", "margin", "[I"), (RX4, 175, "FishSteps$Steps", "purse", "[I"), (RX4, 151, "FishSteps$Steps", "gained", "[I"), (RX4, 139, "FishSteps$Steps", "who", "[I"), (RX4, 142, "FishSteps$Steps", "price", "[I"), (RX4, 145, "FishSteps$Steps", "breath", "[I"), (RX4, 148, "FishSteps$Steps", "bells", "[I"), (RX4, 107, "FishSteps$Tape", "length", "I"), (RX4, 231, "FishSteps$Sheets", "lane", "[I"), (RX4, 234, "FishSteps$Sheets", "size", "[I"), (RX4, 241, "FishSteps$Sheets", "items", "[J")]
def zNM : List (String × Nat × MethodName) := [(RX4, 9, yX0_init), (RX4, 25, yX2_init), (RX4, 32, yX3_init), (RX4, 39, yX1_init), (RX4, 80, yX0_isThere), (RX4, 94, yX0_worthOf), (RX0, 70, yX4_isKind), (RX4, 99, yX3_append), (RX4, 103, yX3_readLaw), (RX3, 45, yX4_fitsRule), (RX4, 110, yX3_readLots), (RX3, 52, yX4_isKind), (RX4, 128, yX0_countOwing), (RX4, 132, yX0_countKinds), (RX4, 135, yX2_fallAsTold), (RX2, 137, yX0_worthOf), (RX4, 154, yX2_takeMargins), (RX4, 157, yX2_tillBy), (RX4, 161, yX2_begin), (RX4, 164, yX2_fallLot), (RX4, 168, yX2_hear), (RX2, 146, yX0_narrowSpan), (RX4, 172, yX2_settle), (RX4, 182, yX0_widenSpans), (RX4, 186, yX2_fall), (RX4, 283, yX0_kindOf), (RX4, 201, yX2_gainOf), (RX4, 205, yX0_take), (RX4, 208, yX1_refuse), (RX1, 22, yX4_isSheet), (RX1, 26, yX4_isLane), (RX4, 256, yX1_peek), (RX4, 217, yX1_put), (RX4, 227, yX1_lay), (RX4, 237, yX1_holds)]
