def zBig : List Cond := lw_tbl.filter goodWord
theorem zBig_t {w : Cond} (i : Nat) (h : tables_1[i]? = some w) (hg : goodWord w = true) : w ∈ zBig := List.mem_filter.mpr ⟨List.mem_append_right _ (List.mem_of_getElem? h), hg⟩
theorem zBig_s {w : Cond} (i : Nat) (h : (k2_sels lw_privs)[i]? = some w) (hg : goodWord w = true) : w ∈ zBig := List.mem_filter.mpr ⟨List.mem_append_left _ (List.mem_of_getElem? h), hg⟩
def zPick : List Nat → List Cond → List Cond
  | [], _ => []
  | n :: ns, l => match l.drop n with
    | [] => []
    | w :: r => w :: zPick ns r
theorem zPick_m : ∀ (ns : List Nat) (l : List Cond), ∀ w ∈ zPick ns l, w ∈ l := by
  intro ns
  induction ns with
  | nil => intro l w h; exact absurd h List.not_mem_nil
  | cons n ns ih =>
    intro l w h
    have hd : ∀ x ∈ l.drop n, x ∈ l := fun x hx => List.mem_of_mem_drop hx
    unfold zPick at h
    revert h hd
    generalize l.drop n = d
    intro hd h
    match d, h, hd with
    | [], h, _ => exact absurd h List.not_mem_nil
    | v :: r, h, hd =>
      rcases List.mem_cons.mp h with q | q
      · rw [q]; exact hd _ List.mem_cons_self
      · exact hd _ (List.mem_cons_of_mem _ (ih r w q))
theorem zBig_l {l : List Cond} {ns : List Nat} (h : zPick ns tables_1 = l) (hg : l.all goodWord = true) : ∀ w ∈ l, w ∈ zBig := fun w hw => List.mem_filter.mpr ⟨List.mem_append_right _ (zPick_m ns _ w (by rw [h]; exact hw)), List.all_eq_true.mp hg w hw⟩
def zW0 : List Cond := [Cond.initialized RL, Cond.initialized RX4, Cond.initialized RX0, Cond.initialized RJ7, Cond.initialized RX2, Cond.initialized RX3, Cond.initialized RX1, Cond.initialized RX5, Cond.initialized RJ9, Cond.initialized RJ10, Cond.initialized RJ6, Cond.classLink RL 7 RX4, Cond.instantiable RX4 12, Cond.methodLink RL 9 yX4_init, Cond.instanceMethod yX4_init, Cond.code yX4_init cX4_init 1 none, Cond.methodLink RX4 1 objectInit, Cond.instanceMethod objectInit, Cond.code objectInit ⟨#[0xb1]⟩ 1 none, Cond.classLink RX4 7 RX0, Cond.instantiable RX0 11, Cond.instanceMethod yX0_init, Cond.code yX0_init cX0_init 1 none, Cond.methodLink RX0 3 objectInit, Cond.methodLink RX0 13 ⟨"[I", "clone", "()Ljava/lang/Object;"⟩]
set_option maxRecDepth 100000 in
theorem zW0_s : ∀ w ∈ zW0, w ∈ zBig := zBig_l (ns := [0, 0, 0, 0, 0, 0, 0, 0, 0, 0, 0, 0, 0, 0, 0, 0, 0, 0, 0, 0, 0, 1, 0, 0, 2]) rfl rfl
theorem m_z_RL : Cond.initialized RL ∈ zBig := zW0_s _ (List.mem_of_getElem? (i := 0) rfl)
theorem m_z_RX4 : Cond.initialized RX4 ∈ zBig := zW0_s _ (List.mem_of_getElem? (i := 1) rfl)
theorem m_z_RX0 : Cond.initialized RX0 ∈ zBig := zW0_s _ (List.mem_of_getElem? (i := 2) rfl)
theorem m_z_RJ7 : Cond.initialized RJ7 ∈ zBig := zW0_s _ (List.mem_of_getElem? (i := 3) rfl)
theorem m_z_RX2 : Cond.initialized RX2 ∈ zBig := zW0_s _ (List.mem_of_getElem? (i := 4) rfl)
theorem m_z_RX3 : Cond.initialized RX3 ∈ zBig := zW0_s _ (List.mem_of_getElem? (i := 5) rfl)
theorem m_z_RX1 : Cond.initialized RX1 ∈ zBig := zW0_s _ (List.mem_of_getElem? (i := 6) rfl)
theorem m_z_RX5 : Cond.initialized RX5 ∈ zBig := zW0_s _ (List.mem_of_getElem? (i := 7) rfl)
theorem m_z_RJ9 : Cond.initialized RJ9 ∈ zBig := zW0_s _ (List.mem_of_getElem? (i := 8) rfl)
theorem m_z_RJ10 : Cond.initialized RJ10 ∈ zBig := zW0_s _ (List.mem_of_getElem? (i := 9) rfl)
theorem m_z_RJ6 : Cond.initialized RJ6 ∈ zBig := zW0_s _ (List.mem_of_getElem? (i := 10) rfl)
theorem m_c_RL_7 : Cond.classLink RL 7 RX4 ∈ zBig := zW0_s _ (List.mem_of_getElem? (i := 11) rfl)
theorem m_b_RX4 : Cond.instantiable RX4 12 ∈ zBig := zW0_s _ (List.mem_of_getElem? (i := 12) rfl)
theorem m_m_RL_9 : Cond.methodLink RL 9 yX4_init ∈ zBig := zW0_s _ (List.mem_of_getElem? (i := 13) rfl)
theorem m_i_yX4_init : Cond.instanceMethod yX4_init ∈ zBig := zW0_s _ (List.mem_of_getElem? (i := 14) rfl)
theorem m_o_yX4_init : Cond.code yX4_init cX4_init 1 none ∈ zBig := zW0_s _ (List.mem_of_getElem? (i := 15) rfl)
theorem m_m_RX4_1 : Cond.methodLink RX4 1 objectInit ∈ zBig := zW0_s _ (List.mem_of_getElem? (i := 16) rfl)
theorem m_i_objectInit : Cond.instanceMethod objectInit ∈ zBig := zW0_s _ (List.mem_of_getElem? (i := 17) rfl)
theorem m_o_objectInit : Cond.code objectInit ⟨#[0xb1]⟩ 1 none ∈ zBig := zW0_s _ (List.mem_of_getElem? (i := 18) rfl)
theorem m_c_RX4_7 : Cond.classLink RX4 7 RX0 ∈ zBig := zW0_s _ (List.mem_of_getElem? (i := 19) rfl)
theorem m_b_RX0 : Cond.instantiable RX0 11 ∈ zBig := zW0_s _ (List.mem_of_getElem? (i := 20) rfl)
theorem m_i_yX0_init : Cond.instanceMethod yX0_init ∈ zBig := zW0_s _ (List.mem_of_getElem? (i := 21) rfl)
theorem m_o_yX0_init : Cond.code yX0_init cX0_init 1 none ∈ zBig := zW0_s _ (List.mem_of_getElem? (i := 22) rfl)
theorem m_m_RX0_3 : Cond.methodLink RX0 3 objectInit ∈ zBig := zW0_s _ (List.mem_of_getElem? (i := 23) rfl)
theorem m_m_RX0_13 : Cond.methodLink RX0 13 ⟨"[I", "clone", "()Ljava/lang/Object;"⟩ ∈ zBig := zW0_s _ (List.mem_of_getElem? (i := 24) rfl)
def zW1 : List Cond := [Cond.classLink RX0 14 "[I", Cond.methodLink RX0 54 yJ7_fill_53178, Cond.static yJ7_fill_53178, Cond.code yJ7_fill_53178 cJ7_fill_53178 4 none, Cond.fieldLink RX0 18 "FishSteps$Books" "law" "[I", Cond.fieldLink RX0 23 "FishSteps$Books" "lots" "I", Cond.fieldLink RX0 27 "FishSteps$Books" "kind" "[I", Cond.fieldLink RX0 30 "FishSteps$Books" "buyers" "I", Cond.fieldLink RX0 33 "FishSteps$Books" "sort" "[I", Cond.fieldLink RX0 36 "FishSteps$Books" "purse" "[I", Cond.fieldLink RX0 39 "FishSteps$Books" "margin" "[I", Cond.fieldLink RX0 42 "FishSteps$Books" "worth" "[I", Cond.fieldLink RX0 45 "FishSteps$Books" "least" "[I", Cond.fieldLink RX0 48 "FishSteps$Books" "most" "[I", Cond.fieldLink RX0 51 "FishSteps$Books" "held" "I", Cond.arrayClass .int, Cond.classLink RX4 23 RX2, Cond.instantiable RX2 12, Cond.instanceMethod yX2_init, Cond.code yX2_init cX2_init 1 none, Cond.methodLink RX2 3 objectInit, Cond.fieldLink RX2 9 "FishSteps$Steps" "margin" "[I", Cond.fieldLink RX2 15 "FishSteps$Steps" "purse" "[I", Cond.fieldLink RX2 18 "FishSteps$Steps" "had" "[I", Cond.fieldLink RX2 21 "FishSteps$Steps" "gained" "[I"]
set_option maxRecDepth 100000 in
theorem zW1_s : ∀ w ∈ zW1, w ∈ zBig := zBig_l (ns := [33, 0, 0, 0, 0, 2, 2, 2, 2, 2, 2, 2, 1, 1, 1, 24, 0, 0, 1, 0, 0, 0, 1, 1, 0]) rfl rfl
theorem m_c_RX0_14 : Cond.classLink RX0 14 "[I" ∈ zBig := zW1_s _ (List.mem_of_getElem? (i := 0) rfl)
theorem m_m_RX0_54 : Cond.methodLink RX0 54 yJ7_fill_53178 ∈ zBig := zW1_s _ (List.mem_of_getElem? (i := 1) rfl)
theorem m_s_yJ7_fill_53178 : Cond.static yJ7_fill_53178 ∈ zBig := zW1_s _ (List.mem_of_getElem? (i := 2) rfl)
theorem m_o_yJ7_fill_53178 : Cond.code yJ7_fill_53178 cJ7_fill_53178 4 none ∈ zBig := zW1_s _ (List.mem_of_getElem? (i := 3) rfl)
theorem m_f_RX0_18 : Cond.fieldLink RX0 18 "FishSteps$Books" "law" "[I" ∈ zBig := zW1_s _ (List.mem_of_getElem? (i := 4) rfl)
theorem m_f_RX0_23 : Cond.fieldLink RX0 23 "FishSteps$Books" "lots" "I" ∈ zBig := zW1_s _ (List.mem_of_getElem? (i := 5) rfl)
theorem m_f_RX0_27 : Cond.fieldLink RX0 27 "FishSteps$Books" "kind" "[I" ∈ zBig := zW1_s _ (List.mem_of_getElem? (i := 6) rfl)
theorem m_f_RX0_30 : Cond.fieldLink RX0 30 "FishSteps$Books" "buyers" "I" ∈ zBig := zW1_s _ (List.mem_of_getElem? (i := 7) rfl)
theorem m_f_RX0_33 : Cond.fieldLink RX0 33 "FishSteps$Books" "sort" "[I" ∈ zBig := zW1_s _ (List.mem_of_getElem? (i := 8) rfl)
theorem m_f_RX0_36 : Cond.fieldLink RX0 36 "FishSteps$Books" "purse" "[I" ∈ zBig := zW1_s _ (List.mem_of_getElem? (i := 9) rfl)
theorem m_f_RX0_39 : Cond.fieldLink RX0 39 "FishSteps$Books" "margin" "[I" ∈ zBig := zW1_s _ (List.mem_of_getElem? (i := 10) rfl)
theorem m_f_RX0_42 : Cond.fieldLink RX0 42 "FishSteps$Books" "worth" "[I" ∈ zBig := zW1_s _ (List.mem_of_getElem? (i := 11) rfl)
theorem m_f_RX0_45 : Cond.fieldLink RX0 45 "FishSteps$Books" "least" "[I" ∈ zBig := zW1_s _ (List.mem_of_getElem? (i := 12) rfl)
theorem m_f_RX0_48 : Cond.fieldLink RX0 48 "FishSteps$Books" "most" "[I" ∈ zBig := zW1_s _ (List.mem_of_getElem? (i := 13) rfl)
theorem m_f_RX0_51 : Cond.fieldLink RX0 51 "FishSteps$Books" "held" "I" ∈ zBig := zW1_s _ (List.mem_of_getElem? (i := 14) rfl)
theorem m_a_int : Cond.arrayClass .int ∈ zBig := zW1_s _ (List.mem_of_getElem? (i := 15) rfl)
theorem m_c_RX4_23 : Cond.classLink RX4 23 RX2 ∈ zBig := zW1_s _ (List.mem_of_getElem? (i := 16) rfl)
theorem m_b_RX2 : Cond.instantiable RX2 12 ∈ zBig := zW1_s _ (List.mem_of_getElem? (i := 17) rfl)
theorem m_i_yX2_init : Cond.instanceMethod yX2_init ∈ zBig := zW1_s _ (List.mem_of_getElem? (i := 18) rfl)
theorem m_o_yX2_init : Cond.code yX2_init cX2_init 1 none ∈ zBig := zW1_s _ (List.mem_of_getElem? (i := 19) rfl)
theorem m_m_RX2_3 : Cond.methodLink RX2 3 objectInit ∈ zBig := zW1_s _ (List.mem_of_getElem? (i := 20) rfl)
theorem m_f_RX2_9 : Cond.fieldLink RX2 9 "FishSteps$Steps" "margin" "[I" ∈ zBig := zW1_s _ (List.mem_of_getElem? (i := 21) rfl)
theorem m_f_RX2_15 : Cond.fieldLink RX2 15 "FishSteps$Steps" "purse" "[I" ∈ zBig := zW1_s _ (List.mem_of_getElem? (i := 22) rfl)
theorem m_f_RX2_18 : Cond.fieldLink RX2 18 "FishSteps$Steps" "had" "[I" ∈ zBig := zW1_s _ (List.mem_of_getElem? (i := 23) rfl)
theorem m_f_RX2_21 : Cond.fieldLink RX2 21 "FishSteps$Steps" "gained" "[I" ∈ zBig := zW1_s _ (List.mem_of_getElem? (i := 24) rfl)
def zW2 : List Cond := [Cond.fieldLink RX2 24 "FishSteps$Steps" "limit" "[I", Cond.fieldLink RX2 27 "FishSteps$Steps" "money" "[I", Cond.fieldLink RX2 30 "FishSteps$Steps" "open" "I", Cond.fieldLink RX2 34 "FishSteps$Steps" "coughed" "I", Cond.fieldLink RX2 37 "FishSteps$Steps" "who" "[I", Cond.fieldLink RX2 40 "FishSteps$Steps" "price" "[I", Cond.fieldLink RX2 43 "FishSteps$Steps" "breath" "[I", Cond.fieldLink RX2 46 "FishSteps$Steps" "bells" "[I", Cond.classLink RX4 30 RX3, Cond.instantiable RX3 2, Cond.instanceMethod yX3_init, Cond.code yX3_init cX3_init 1 none, Cond.methodLink RX3 3 objectInit, Cond.fieldLink RX3 11 "FishSteps$Tape" "bytes" "[B", Cond.fieldLink RX3 15 "FishSteps$Tape" "length" "I", Cond.arrayClass .byte, Cond.classLink RX4 37 RX1, Cond.instantiable RX1 3, Cond.instanceMethod yX1_init, Cond.code yX1_init cX1_init 1 none, Cond.methodLink RX1 3 objectInit, Cond.fieldLink RX1 9 "FishSteps$Sheets" "lane" "[I", Cond.fieldLink RX1 15 "FishSteps$Sheets" "size" "[I", Cond.fieldLink RX1 18 "FishSteps$Sheets" "items" "[J", Cond.arrayClass .long]
set_option maxRecDepth 100000 in
theorem zW2_s : ∀ w ∈ zW2, w ∈ zBig := zBig_l (ns := [103, 0, 0, 0, 0, 1, 1, 1, 26, 0, 1, 0, 0, 0, 0, 6, 0, 0, 1, 0, 0, 0, 1, 1, 8]) rfl rfl
theorem m_f_RX2_24 : Cond.fieldLink RX2 24 "FishSteps$Steps" "limit" "[I" ∈ zBig := zW2_s _ (List.mem_of_getElem? (i := 0) rfl)
theorem m_f_RX2_27 : Cond.fieldLink RX2 27 "FishSteps$Steps" "money" "[I" ∈ zBig := zW2_s _ (List.mem_of_getElem? (i := 1) rfl)
theorem m_f_RX2_30 : Cond.fieldLink RX2 30 "FishSteps$Steps" "open" "I" ∈ zBig := zW2_s _ (List.mem_of_getElem? (i := 2) rfl)
theorem m_f_RX2_34 : Cond.fieldLink RX2 34 "FishSteps$Steps" "coughed" "I" ∈ zBig := zW2_s _ (List.mem_of_getElem? (i := 3) rfl)
theorem m_f_RX2_37 : Cond.fieldLink RX2 37 "FishSteps$Steps" "who" "[I" ∈ zBig := zW2_s _ (List.mem_of_getElem? (i := 4) rfl)
theorem m_f_RX2_40 : Cond.fieldLink RX2 40 "FishSteps$Steps" "price" "[I" ∈ zBig := zW2_s _ (List.mem_of_getElem? (i := 5) rfl)
theorem m_f_RX2_43 : Cond.fieldLink RX2 43 "FishSteps$Steps" "breath" "[I" ∈ zBig := zW2_s _ (List.mem_of_getElem? (i := 6) rfl)
theorem m_f_RX2_46 : Cond.fieldLink RX2 46 "FishSteps$Steps" "bells" "[I" ∈ zBig := zW2_s _ (List.mem_of_getElem? (i := 7) rfl)
theorem m_c_RX4_30 : Cond.classLink RX4 30 RX3 ∈ zBig := zW2_s _ (List.mem_of_getElem? (i := 8) rfl)
theorem m_b_RX3 : Cond.instantiable RX3 2 ∈ zBig := zW2_s _ (List.mem_of_getElem? (i := 9) rfl)
theorem m_i_yX3_init : Cond.instanceMethod yX3_init ∈ zBig := zW2_s _ (List.mem_of_getElem? (i := 10) rfl)
theorem m_o_yX3_init : Cond.code yX3_init cX3_init 1 none ∈ zBig := zW2_s _ (List.mem_of_getElem? (i := 11) rfl)
theorem m_m_RX3_3 : Cond.methodLink RX3 3 objectInit ∈ zBig := zW2_s _ (List.mem_of_getElem? (i := 12) rfl)
theorem m_f_RX3_11 : Cond.fieldLink RX3 11 "FishSteps$Tape" "bytes" "[B" ∈ zBig := zW2_s _ (List.mem_of_getElem? (i := 13) rfl)
theorem m_f_RX3_15 : Cond.fieldLink RX3 15 "FishSteps$Tape" "length" "I" ∈ zBig := zW2_s _ (List.mem_of_getElem? (i := 14) rfl)
theorem m_a_byte : Cond.arrayClass .byte ∈ zBig := zW2_s _ (List.mem_of_getElem? (i := 15) rfl)
theorem m_c_RX4_37 : Cond.classLink RX4 37 RX1 ∈ zBig := zW2_s _ (List.mem_of_getElem? (i := 16) rfl)
theorem m_b_RX1 : Cond.instantiable RX1 3 ∈ zBig := zW2_s _ (List.mem_of_getElem? (i := 17) rfl)
theorem m_i_yX1_init : Cond.instanceMethod yX1_init ∈ zBig := zW2_s _ (List.mem_of_getElem? (i := 18) rfl)
theorem m_o_yX1_init : Cond.code yX1_init cX1_init 1 none ∈ zBig := zW2_s _ (List.mem_of_getElem? (i := 19) rfl)
theorem m_m_RX1_3 : Cond.methodLink RX1 3 objectInit ∈ zBig := zW2_s _ (List.mem_of_getElem? (i := 20) rfl)
theorem m_f_RX1_9 : Cond.fieldLink RX1 9 "FishSteps$Sheets" "lane" "[I" ∈ zBig := zW2_s _ (List.mem_of_getElem? (i := 21) rfl)
theorem m_f_RX1_15 : Cond.fieldLink RX1 15 "FishSteps$Sheets" "size" "[I" ∈ zBig := zW2_s _ (List.mem_of_getElem? (i := 22) rfl)
theorem m_f_RX1_18 : Cond.fieldLink RX1 18 "FishSteps$Sheets" "items" "[J" ∈ zBig := zW2_s _ (List.mem_of_getElem? (i := 23) rfl)
theorem m_a_long : Cond.arrayClass .long ∈ zBig := zW2_s _ (List.mem_of_getElem? (i := 24) rfl)
def zW3 : List Cond := [Cond.fieldLink RX4 10 "FishSteps" "books" "LFishSteps$Books;", Cond.fieldLink RX4 16 "FishSteps" "kept" "LFishSteps$Books;", Cond.fieldLink RX4 19 "FishSteps" "hasImage" "Z", Cond.fieldLink RX4 26 "FishSteps" "steps" "LFishSteps$Steps;", Cond.fieldLink RX4 33 "FishSteps" "tape" "LFishSteps$Tape;", Cond.fieldLink RX4 40 "FishSteps" "sheets" "LFishSteps$Sheets;", Cond.fieldLink RX4 44 "FishSteps" "restGains" "[I", Cond.fieldLink RX4 48 "FishSteps" "firstRest" "I", Cond.fieldLink RX4 52 "FishSteps" "row" "[I", Cond.fieldLink RX4 55 "FishSteps" "bestRow" "[I", Cond.fieldLink RX4 58 "FishSteps" "lawTold" "[I", Cond.fieldLink RX4 61 "FishSteps" "lotsTold" "[I", Cond.methodLink RL 13 yX4_rule, Cond.instanceMethod yX4_rule, Cond.selects RX4 yX4_rule yX4_rule, Cond.code yX4_rule cX4_rule 4 (some .int), Cond.methodLink RX4 64 yX4_fitsRule, Cond.static yX4_fitsRule, Cond.code yX4_fitsRule cX4_fitsRule 2 (some .boolean), Cond.fieldLink RX4 245 "FishSteps" "RULE_LEAST" "[I", Cond.fieldLink RX4 248 "FishSteps" "RULE_MOST" "[I", Cond.methodLink RL 18 yX4_buyer, Cond.instanceMethod yX4_buyer, Cond.selects RX4 yX4_buyer yX4_buyer, Cond.code yX4_buyer cX4_buyer 4 (some .int)]
set_option maxRecDepth 100000 in
theorem zW3_s : ∀ w ∈ zW3, w ∈ zBig := zBig_l (ns := [175, 0, 0, 0, 0, 0, 0, 0, 0, 0, 0, 0, 25, 0, 0, 0, 0, 0, 0, 0, 1, 1, 0, 0, 0]) rfl rfl
theorem m_f_RX4_10 : Cond.fieldLink RX4 10 "FishSteps" "books" "LFishSteps$Books;" ∈ zBig := zW3_s _ (List.mem_of_getElem? (i := 0) rfl)
theorem m_f_RX4_16 : Cond.fieldLink RX4 16 "FishSteps" "kept" "LFishSteps$Books;" ∈ zBig := zW3_s _ (List.mem_of_getElem? (i := 1) rfl)
theorem m_f_RX4_19 : Cond.fieldLink RX4 19 "FishSteps" "hasImage" "Z" ∈ zBig := zW3_s _ (List.mem_of_getElem? (i := 2) rfl)
theorem m_f_RX4_26 : Cond.fieldLink RX4 26 "FishSteps" "steps" "LFishSteps$Steps;" ∈ zBig := zW3_s _ (List.mem_of_getElem? (i := 3) rfl)
theorem m_f_RX4_33 : Cond.fieldLink RX4 33 "FishSteps" "tape" "LFishSteps$Tape;" ∈ zBig := zW3_s _ (List.mem_of_getElem? (i := 4) rfl)
theorem m_f_RX4_40 : Cond.fieldLink RX4 40 "FishSteps" "sheets" "LFishSteps$Sheets;" ∈ zBig := zW3_s _ (List.mem_of_getElem? (i := 5) rfl)
theorem m_f_RX4_44 : Cond.fieldLink RX4 44 "FishSteps" "restGains" "[I" ∈ zBig := zW3_s _ (List.mem_of_getElem? (i := 6) rfl)
theorem m_f_RX4_48 : Cond.fieldLink RX4 48 "FishSteps" "firstRest" "I" ∈ zBig := zW3_s _ (List.mem_of_getElem? (i := 7) rfl)
theorem m_f_RX4_52 : Cond.fieldLink RX4 52 "FishSteps" "row" "[I" ∈ zBig := zW3_s _ (List.mem_of_getElem? (i := 8) rfl)
theorem m_f_RX4_55 : Cond.fieldLink RX4 55 "FishSteps" "bestRow" "[I" ∈ zBig := zW3_s _ (List.mem_of_getElem? (i := 9) rfl)
theorem m_f_RX4_58 : Cond.fieldLink RX4 58 "FishSteps" "lawTold" "[I" ∈ zBig := zW3_s _ (List.mem_of_getElem? (i := 10) rfl)
theorem m_f_RX4_61 : Cond.fieldLink RX4 61 "FishSteps" "lotsTold" "[I" ∈ zBig := zW3_s _ (List.mem_of_getElem? (i := 11) rfl)
theorem m_m_RL_13 : Cond.methodLink RL 13 yX4_rule ∈ zBig := zW3_s _ (List.mem_of_getElem? (i := 12) rfl)
theorem m_i_yX4_rule : Cond.instanceMethod yX4_rule ∈ zBig := zW3_s _ (List.mem_of_getElem? (i := 13) rfl)
theorem m_e_yX4_rule : Cond.selects RX4 yX4_rule yX4_rule ∈ zBig := zW3_s _ (List.mem_of_getElem? (i := 14) rfl)
theorem m_o_yX4_rule : Cond.code yX4_rule cX4_rule 4 (some .int) ∈ zBig := zW3_s _ (List.mem_of_getElem? (i := 15) rfl)
theorem m_m_RX4_64 : Cond.methodLink RX4 64 yX4_fitsRule ∈ zBig := zW3_s _ (List.mem_of_getElem? (i := 16) rfl)
theorem m_s_yX4_fitsRule : Cond.static yX4_fitsRule ∈ zBig := zW3_s _ (List.mem_of_getElem? (i := 17) rfl)
theorem m_o_yX4_fitsRule : Cond.code yX4_fitsRule cX4_fitsRule 2 (some .boolean) ∈ zBig := zW3_s _ (List.mem_of_getElem? (i := 18) rfl)
theorem m_f_RX4_245 : Cond.fieldLink RX4 245 "FishSteps" "RULE_LEAST" "[I" ∈ zBig := zW3_s _ (List.mem_of_getElem? (i := 19) rfl)
theorem m_f_RX4_248 : Cond.fieldLink RX4 248 "FishSteps" "RULE_MOST" "[I" ∈ zBig := zW3_s _ (List.mem_of_getElem? (i := 20) rfl)
theorem m_m_RL_18 : Cond.methodLink RL 18 yX4_buyer ∈ zBig := zW3_s _ (List.mem_of_getElem? (i := 21) rfl)
theorem m_i_yX4_buyer : Cond.instanceMethod yX4_buyer ∈ zBig := zW3_s _ (List.mem_of_getElem? (i := 22) rfl)
theorem m_e_yX4_buyer : Cond.selects RX4 yX4_buyer yX4_buyer ∈ zBig := zW3_s _ (List.mem_of_getElem? (i := 23) rfl)
theorem m_o_yX4_buyer : Cond.code yX4_buyer cX4_buyer 4 (some .int) ∈ zBig := zW3_s _ (List.mem_of_getElem? (i := 24) rfl)
def zW4 : List Cond := [Cond.methodLink RL 22 yX4_worth, Cond.instanceMethod yX4_worth, Cond.selects RX4 yX4_worth yX4_worth, Cond.code yX4_worth cX4_worth 6 (some .int), Cond.instanceMethod yX0_isThere, Cond.code yX0_isThere cX0_isThere 2 (some .boolean), Cond.methodLink RX4 84 yX4_isKind, Cond.static yX4_isKind, Cond.code yX4_isKind cX4_isKind 1 (some .boolean), Cond.methodLink RL 27 yX4_margin, Cond.instanceMethod yX4_margin, Cond.selects RX4 yX4_margin yX4_margin, Cond.code yX4_margin cX4_margin 4 (some .int), Cond.methodLink RL 31 yX4_told, Cond.instanceMethod yX4_told, Cond.selects RX4 yX4_told yX4_told, Cond.code yX4_told cX4_told 3 (some .int), Cond.constant RX4 93 (-100001), Cond.instanceMethod yX0_worthOf, Cond.code yX0_worthOf cX0_worthOf 3 (some .int), Cond.methodLink RX0 66 yX0_isThere, Cond.methodLink RL 35 yX4_earn, Cond.instanceMethod yX4_earn, Cond.selects RX4 yX4_earn yX4_earn, Cond.code yX4_earn cX4_earn 4 (some .int)]
set_option maxRecDepth 100000 in
theorem zW4_s : ∀ w ∈ zW4, w ∈ zBig := zBig_l (ns := [227, 0, 0, 0, 2, 0, 0, 0, 0, 0, 0, 0, 0, 0, 0, 0, 0, 0, 2, 0, 0, 1, 0, 0, 0]) rfl rfl
theorem m_m_RL_22 : Cond.methodLink RL 22 yX4_worth ∈ zBig := zW4_s _ (List.mem_of_getElem? (i := 0) rfl)
theorem m_i_yX4_worth : Cond.instanceMethod yX4_worth ∈ zBig := zW4_s _ (List.mem_of_getElem? (i := 1) rfl)
theorem m_e_yX4_worth : Cond.selects RX4 yX4_worth yX4_worth ∈ zBig := zW4_s _ (List.mem_of_getElem? (i := 2) rfl)
theorem m_o_yX4_worth : Cond.code yX4_worth cX4_worth 6 (some .int) ∈ zBig := zW4_s _ (List.mem_of_getElem? (i := 3) rfl)
theorem m_i_yX0_isThere : Cond.instanceMethod yX0_isThere ∈ zBig := zW4_s _ (List.mem_of_getElem? (i := 4) rfl)
theorem m_o_yX0_isThere : Cond.code yX0_isThere cX0_isThere 2 (some .boolean) ∈ zBig := zW4_s _ (List.mem_of_getElem? (i := 5) rfl)
theorem m_m_RX4_84 : Cond.methodLink RX4 84 yX4_isKind ∈ zBig := zW4_s _ (List.mem_of_getElem? (i := 6) rfl)
theorem m_s_yX4_isKind : Cond.static yX4_isKind ∈ zBig := zW4_s _ (List.mem_of_getElem? (i := 7) rfl)
theorem m_o_yX4_isKind : Cond.code yX4_isKind cX4_isKind 1 (some .boolean) ∈ zBig := zW4_s _ (List.mem_of_getElem? (i := 8) rfl)
theorem m_m_RL_27 : Cond.methodLink RL 27 yX4_margin ∈ zBig := zW4_s _ (List.mem_of_getElem? (i := 9) rfl)
theorem m_i_yX4_margin : Cond.instanceMethod yX4_margin ∈ zBig := zW4_s _ (List.mem_of_getElem? (i := 10) rfl)
theorem m_e_yX4_margin : Cond.selects RX4 yX4_margin yX4_margin ∈ zBig := zW4_s _ (List.mem_of_getElem? (i := 11) rfl)
theorem m_o_yX4_margin : Cond.code yX4_margin cX4_margin 4 (some .int) ∈ zBig := zW4_s _ (List.mem_of_getElem? (i := 12) rfl)
theorem m_m_RL_31 : Cond.methodLink RL 31 yX4_told ∈ zBig := zW4_s _ (List.mem_of_getElem? (i := 13) rfl)
theorem m_i_yX4_told : Cond.instanceMethod yX4_told ∈ zBig := zW4_s _ (List.mem_of_getElem? (i := 14) rfl)
theorem m_e_yX4_told : Cond.selects RX4 yX4_told yX4_told ∈ zBig := zW4_s _ (List.mem_of_getElem? (i := 15) rfl)
theorem m_o_yX4_told : Cond.code yX4_told cX4_told 3 (some .int) ∈ zBig := zW4_s _ (List.mem_of_getElem? (i := 16) rfl)
theorem m_k_RX4_93 : Cond.constant RX4 93 (-100001) ∈ zBig := zW4_s _ (List.mem_of_getElem? (i := 17) rfl)
theorem m_i_yX0_worthOf : Cond.instanceMethod yX0_worthOf ∈ zBig := zW4_s _ (List.mem_of_getElem? (i := 18) rfl)
theorem m_o_yX0_worthOf : Cond.code yX0_worthOf cX0_worthOf 3 (some .int) ∈ zBig := zW4_s _ (List.mem_of_getElem? (i := 19) rfl)
theorem m_m_RX0_66 : Cond.methodLink RX0 66 yX0_isThere ∈ zBig := zW4_s _ (List.mem_of_getElem? (i := 20) rfl)
theorem m_m_RL_35 : Cond.methodLink RL 35 yX4_earn ∈ zBig := zW4_s _ (List.mem_of_getElem? (i := 21) rfl)
theorem m_i_yX4_earn : Cond.instanceMethod yX4_earn ∈ zBig := zW4_s _ (List.mem_of_getElem? (i := 22) rfl)
theorem m_e_yX4_earn : Cond.selects RX4 yX4_earn yX4_earn ∈ zBig := zW4_s _ (List.mem_of_getElem? (i := 23) rfl)
theorem m_o_yX4_earn : Cond.code yX4_earn cX4_earn 4 (some .int) ∈ zBig := zW4_s _ (List.mem_of_getElem? (i := 24) rfl)
def zW5 : List Cond := [Cond.constant RX4 98 (-100003), Cond.methodLink RL 41 yX4_type, Cond.instanceMethod yX4_type, Cond.selects RX4 yX4_type yX4_type, Cond.code yX4_type cX4_type 4 (some .int), Cond.instanceMethod yX3_append, Cond.code yX3_append cX3_append 6 (some .int), Cond.methodLink RX3 19 yX3_byteOf, Cond.static yX3_byteOf, Cond.code yX3_byteOf cX3_byteOf 3 (some .int), Cond.constantLong RX3 23 255, Cond.methodLink RL 46 yX4_rules, Cond.instanceMethod yX4_rules, Cond.selects RX4 yX4_rules yX4_rules, Cond.code yX4_rules cX4_rules 3 (some .int), Cond.instanceMethod yX3_readLaw, Cond.code yX3_readLaw cX3_readLaw 8 (some .int), Cond.methodLink RX3 25 yJ7_fill_53178, Cond.methodLink RX3 31 yX3_behindBlanks, Cond.instanceMethod yX3_behindBlanks, Cond.code yX3_behindBlanks cX3_behindBlanks 3 (some .int), Cond.methodLink RX3 49 yX3_charAt, Cond.instanceMethod yX3_charAt, Cond.code yX3_charAt cX3_charAt 2 (some .int), Cond.methodLink RX3 35 yX3_ruleAt]
set_option maxRecDepth 100000 in
theorem zW5_s : ∀ w ∈ zW5, w ∈ zBig := zBig_l (ns := [257, 0, 0, 0, 0, 2, 0, 0, 0, 0, 0, 0, 0, 0, 0, 2, 0, 0, 0, 1, 0, 0, 1, 0, 0]) rfl rfl
theorem m_k_RX4_98 : Cond.constant RX4 98 (-100003) ∈ zBig := zW5_s _ (List.mem_of_getElem? (i := 0) rfl)
theorem m_m_RL_41 : Cond.methodLink RL 41 yX4_type ∈ zBig := zW5_s _ (List.mem_of_getElem? (i := 1) rfl)
theorem m_i_yX4_type : Cond.instanceMethod yX4_type ∈ zBig := zW5_s _ (List.mem_of_getElem? (i := 2) rfl)
theorem m_e_yX4_type : Cond.selects RX4 yX4_type yX4_type ∈ zBig := zW5_s _ (List.mem_of_getElem? (i := 3) rfl)
theorem m_o_yX4_type : Cond.code yX4_type cX4_type 4 (some .int) ∈ zBig := zW5_s _ (List.mem_of_getElem? (i := 4) rfl)
theorem m_i_yX3_append : Cond.instanceMethod yX3_append ∈ zBig := zW5_s _ (List.mem_of_getElem? (i := 5) rfl)
theorem m_o_yX3_append : Cond.code yX3_append cX3_append 6 (some .int) ∈ zBig := zW5_s _ (List.mem_of_getElem? (i := 6) rfl)
theorem m_m_RX3_19 : Cond.methodLink RX3 19 yX3_byteOf ∈ zBig := zW5_s _ (List.mem_of_getElem? (i := 7) rfl)
theorem m_s_yX3_byteOf : Cond.static yX3_byteOf ∈ zBig := zW5_s _ (List.mem_of_getElem? (i := 8) rfl)
theorem m_o_yX3_byteOf : Cond.code yX3_byteOf cX3_byteOf 3 (some .int) ∈ zBig := zW5_s _ (List.mem_of_getElem? (i := 9) rfl)
theorem m_k_RX3_23 : Cond.constantLong RX3 23 255 ∈ zBig := zW5_s _ (List.mem_of_getElem? (i := 10) rfl)
theorem m_m_RL_46 : Cond.methodLink RL 46 yX4_rules ∈ zBig := zW5_s _ (List.mem_of_getElem? (i := 11) rfl)
theorem m_i_yX4_rules : Cond.instanceMethod yX4_rules ∈ zBig := zW5_s _ (List.mem_of_getElem? (i := 12) rfl)
theorem m_e_yX4_rules : Cond.selects RX4 yX4_rules yX4_rules ∈ zBig := zW5_s _ (List.mem_of_getElem? (i := 13) rfl)
theorem m_o_yX4_rules : Cond.code yX4_rules cX4_rules 3 (some .int) ∈ zBig := zW5_s _ (List.mem_of_getElem? (i := 14) rfl)
theorem m_i_yX3_readLaw : Cond.instanceMethod yX3_readLaw ∈ zBig := zW5_s _ (List.mem_of_getElem? (i := 15) rfl)
theorem m_o_yX3_readLaw : Cond.code yX3_readLaw cX3_readLaw 8 (some .int) ∈ zBig := zW5_s _ (List.mem_of_getElem? (i := 16) rfl)
theorem m_m_RX3_25 : Cond.methodLink RX3 25 yJ7_fill_53178 ∈ zBig := zW5_s _ (List.mem_of_getElem? (i := 17) rfl)
theorem m_m_RX3_31 : Cond.methodLink RX3 31 yX3_behindBlanks ∈ zBig := zW5_s _ (List.mem_of_getElem? (i := 18) rfl)
theorem m_i_yX3_behindBlanks : Cond.instanceMethod yX3_behindBlanks ∈ zBig := zW5_s _ (List.mem_of_getElem? (i := 19) rfl)
theorem m_o_yX3_behindBlanks : Cond.code yX3_behindBlanks cX3_behindBlanks 3 (some .int) ∈ zBig := zW5_s _ (List.mem_of_getElem? (i := 20) rfl)
theorem m_m_RX3_49 : Cond.methodLink RX3 49 yX3_charAt ∈ zBig := zW5_s _ (List.mem_of_getElem? (i := 21) rfl)
theorem m_i_yX3_charAt : Cond.instanceMethod yX3_charAt ∈ zBig := zW5_s _ (List.mem_of_getElem? (i := 22) rfl)
theorem m_o_yX3_charAt : Cond.code yX3_charAt cX3_charAt 2 (some .int) ∈ zBig := zW5_s _ (List.mem_of_getElem? (i := 23) rfl)
theorem m_m_RX3_35 : Cond.methodLink RX3 35 yX3_ruleAt ∈ zBig := zW5_s _ (List.mem_of_getElem? (i := 24) rfl)
def zW6 : List Cond := [Cond.instanceMethod yX3_ruleAt, Cond.code yX3_ruleAt cX3_ruleAt 2 (some .int), Cond.methodLink RX3 38 yX3_behindDigits, Cond.instanceMethod yX3_behindDigits, Cond.code yX3_behindDigits cX3_behindDigits 3 (some .int), Cond.methodLink RX3 41 yX3_numberAt, Cond.instanceMethod yX3_numberAt, Cond.code yX3_numberAt cX3_numberAt 5 (some .int), Cond.methodLink RX3 56 Lib.Math.min.name, Cond.static Lib.Math.min.name, Cond.code Lib.Math.min.name Lib.Math.min.code 2 (some .int), Cond.methodLink RL 51 yX4_lots, Cond.instanceMethod yX4_lots, Cond.selects RX4 yX4_lots yX4_lots, Cond.code yX4_lots cX4_lots 2 (some .int), Cond.instanceMethod yX3_readLots, Cond.code yX3_readLots cX3_readLots 5 (some .int), Cond.methodLink RX4 116 arraycopyName, Cond.static arraycopyName, Cond.native arraycopyName, Cond.methodLink RL 55 yX4_count, Cond.instanceMethod yX4_count, Cond.selects RX4 yX4_count yX4_count, Cond.code yX4_count cX4_count 2 (some .int), Cond.instanceMethod yX0_countOwing]
set_option maxRecDepth 100000 in
theorem zW6_s : ∀ w ∈ zW6, w ∈ zBig := zBig_l (ns := [289, 0, 0, 1, 0, 0, 1, 0, 0, 0, 0, 1, 0, 0, 0, 2, 0, 1, 0, 0, 0, 0, 0, 0, 2]) rfl rfl
theorem m_i_yX3_ruleAt : Cond.instanceMethod yX3_ruleAt ∈ zBig := zW6_s _ (List.mem_of_getElem? (i := 0) rfl)
theorem m_o_yX3_ruleAt : Cond.code yX3_ruleAt cX3_ruleAt 2 (some .int) ∈ zBig := zW6_s _ (List.mem_of_getElem? (i := 1) rfl)
theorem m_m_RX3_38 : Cond.methodLink RX3 38 yX3_behindDigits ∈ zBig := zW6_s _ (List.mem_of_getElem? (i := 2) rfl)
theorem m_i_yX3_behindDigits : Cond.instanceMethod yX3_behindDigits ∈ zBig := zW6_s _ (List.mem_of_getElem? (i := 3) rfl)
theorem m_o_yX3_behindDigits : Cond.code yX3_behindDigits cX3_behindDigits 3 (some .int) ∈ zBig := zW6_s _ (List.mem_of_getElem? (i := 4) rfl)
theorem m_m_RX3_41 : Cond.methodLink RX3 41 yX3_numberAt ∈ zBig := zW6_s _ (List.mem_of_getElem? (i := 5) rfl)
theorem m_i_yX3_numberAt : Cond.instanceMethod yX3_numberAt ∈ zBig := zW6_s _ (List.mem_of_getElem? (i := 6) rfl)
theorem m_o_yX3_numberAt : Cond.code yX3_numberAt cX3_numberAt 5 (some .int) ∈ zBig := zW6_s _ (List.mem_of_getElem? (i := 7) rfl)
theorem m_m_RX3_56 : Cond.methodLink RX3 56 Lib.Math.min.name ∈ zBig := zW6_s _ (List.mem_of_getElem? (i := 8) rfl)
theorem m_s_Lib_Math_min_name : Cond.static Lib.Math.min.name ∈ zBig := zW6_s _ (List.mem_of_getElem? (i := 9) rfl)
theorem m_o_Lib_Math_min_name : Cond.code Lib.Math.min.name Lib.Math.min.code 2 (some .int) ∈ zBig := zW6_s _ (List.mem_of_getElem? (i := 10) rfl)
theorem m_m_RL_51 : Cond.methodLink RL 51 yX4_lots ∈ zBig := zW6_s _ (List.mem_of_getElem? (i := 11) rfl)
theorem m_i_yX4_lots : Cond.instanceMethod yX4_lots ∈ zBig := zW6_s _ (List.mem_of_getElem? (i := 12) rfl)
theorem m_e_yX4_lots : Cond.selects RX4 yX4_lots yX4_lots ∈ zBig := zW6_s _ (List.mem_of_getElem? (i := 13) rfl)
theorem m_o_yX4_lots : Cond.code yX4_lots cX4_lots 2 (some .int) ∈ zBig := zW6_s _ (List.mem_of_getElem? (i := 14) rfl)
theorem m_i_yX3_readLots : Cond.instanceMethod yX3_readLots ∈ zBig := zW6_s _ (List.mem_of_getElem? (i := 15) rfl)
theorem m_o_yX3_readLots : Cond.code yX3_readLots cX3_readLots 5 (some .int) ∈ zBig := zW6_s _ (List.mem_of_getElem? (i := 16) rfl)
theorem m_m_RX4_116 : Cond.methodLink RX4 116 arraycopyName ∈ zBig := zW6_s _ (List.mem_of_getElem? (i := 17) rfl)
theorem m_s_arraycopyName : Cond.static arraycopyName ∈ zBig := zW6_s _ (List.mem_of_getElem? (i := 18) rfl)
theorem m_n_arraycopyName : Cond.native arraycopyName ∈ zBig := zW6_s _ (List.mem_of_getElem? (i := 19) rfl)
theorem m_m_RL_55 : Cond.methodLink RL 55 yX4_count ∈ zBig := zW6_s _ (List.mem_of_getElem? (i := 20) rfl)
theorem m_i_yX4_count : Cond.instanceMethod yX4_count ∈ zBig := zW6_s _ (List.mem_of_getElem? (i := 21) rfl)
theorem m_e_yX4_count : Cond.selects RX4 yX4_count yX4_count ∈ zBig := zW6_s _ (List.mem_of_getElem? (i := 22) rfl)
theorem m_o_yX4_count : Cond.code yX4_count cX4_count 2 (some .int) ∈ zBig := zW6_s _ (List.mem_of_getElem? (i := 23) rfl)
theorem m_i_yX0_countOwing : Cond.instanceMethod yX0_countOwing ∈ zBig := zW6_s _ (List.mem_of_getElem? (i := 24) rfl)
def zW7 : List Cond := [Cond.code yX0_countOwing cX0_countOwing 3 (some .int), Cond.instanceMethod yX0_countKinds, Cond.code yX0_countKinds cX0_countKinds 3 (some .int), Cond.methodLink RX0 73 yJ6_bitCount_0f7a4, Cond.static yJ6_bitCount_0f7a4, Cond.code yJ6_bitCount_0f7a4 cJ6_bitCount_0f7a4 1 (some .int), Cond.constant RJ6 265 1431655765, Cond.constant RJ6 266 858993459, Cond.constant RJ6 267 252645135, Cond.methodLink RL 60 yX4_lot, Cond.instanceMethod yX4_lot, Cond.selects RX4 yX4_lot yX4_lot, Cond.code yX4_lot cX4_lot 3 (some .int), Cond.instanceMethod yX2_fallAsTold, Cond.code yX2_fallAsTold cX2_fallAsTold 2 none, Cond.methodLink RX2 65 yX2_takeMargins, Cond.instanceMethod yX2_takeMargins, Cond.code yX2_takeMargins cX2_takeMargins 2 none, Cond.methodLink RX2 52 arraycopyName, Cond.methodLink RX2 69 yX2_fall, Cond.instanceMethod yX2_fall, Cond.code yX2_fall cX2_fall 4 none, Cond.methodLink RX2 73 yX2_begin, Cond.instanceMethod yX2_begin, Cond.code yX2_begin cX2_begin 2 none]
set_option maxRecDepth 100000 in
theorem zW7_s : ∀ w ∈ zW7, w ∈ zBig := zBig_l (ns := [322, 2, 0, 0, 0, 0, 0, 0, 0, 0, 0, 0, 0, 2, 0, 0, 1, 0, 0, 0, 1, 0, 0, 1, 0]) rfl rfl
theorem m_o_yX0_countOwing : Cond.code yX0_countOwing cX0_countOwing 3 (some .int) ∈ zBig := zW7_s _ (List.mem_of_getElem? (i := 0) rfl)
theorem m_i_yX0_countKinds : Cond.instanceMethod yX0_countKinds ∈ zBig := zW7_s _ (List.mem_of_getElem? (i := 1) rfl)
theorem m_o_yX0_countKinds : Cond.code yX0_countKinds cX0_countKinds 3 (some .int) ∈ zBig := zW7_s _ (List.mem_of_getElem? (i := 2) rfl)
theorem m_m_RX0_73 : Cond.methodLink RX0 73 yJ6_bitCount_0f7a4 ∈ zBig := zW7_s _ (List.mem_of_getElem? (i := 3) rfl)
theorem m_s_yJ6_bitCount_0f7a4 : Cond.static yJ6_bitCount_0f7a4 ∈ zBig := zW7_s _ (List.mem_of_getElem? (i := 4) rfl)
theorem m_o_yJ6_bitCount_0f7a4 : Cond.code yJ6_bitCount_0f7a4 cJ6_bitCount_0f7a4 1 (some .int) ∈ zBig := zW7_s _ (List.mem_of_getElem? (i := 5) rfl)
theorem m_k_RJ6_265 : Cond.constant RJ6 265 1431655765 ∈ zBig := zW7_s _ (List.mem_of_getElem? (i := 6) rfl)
theorem m_k_RJ6_266 : Cond.constant RJ6 266 858993459 ∈ zBig := zW7_s _ (List.mem_of_getElem? (i := 7) rfl)
theorem m_k_RJ6_267 : Cond.constant RJ6 267 252645135 ∈ zBig := zW7_s _ (List.mem_of_getElem? (i := 8) rfl)
theorem m_m_RL_60 : Cond.methodLink RL 60 yX4_lot ∈ zBig := zW7_s _ (List.mem_of_getElem? (i := 9) rfl)
theorem m_i_yX4_lot : Cond.instanceMethod yX4_lot ∈ zBig := zW7_s _ (List.mem_of_getElem? (i := 10) rfl)
theorem m_e_yX4_lot : Cond.selects RX4 yX4_lot yX4_lot ∈ zBig := zW7_s _ (List.mem_of_getElem? (i := 11) rfl)
theorem m_o_yX4_lot : Cond.code yX4_lot cX4_lot 3 (some .int) ∈ zBig := zW7_s _ (List.mem_of_getElem? (i := 12) rfl)
theorem m_i_yX2_fallAsTold : Cond.instanceMethod yX2_fallAsTold ∈ zBig := zW7_s _ (List.mem_of_getElem? (i := 13) rfl)
theorem m_o_yX2_fallAsTold : Cond.code yX2_fallAsTold cX2_fallAsTold 2 none ∈ zBig := zW7_s _ (List.mem_of_getElem? (i := 14) rfl)
theorem m_m_RX2_65 : Cond.methodLink RX2 65 yX2_takeMargins ∈ zBig := zW7_s _ (List.mem_of_getElem? (i := 15) rfl)
theorem m_i_yX2_takeMargins : Cond.instanceMethod yX2_takeMargins ∈ zBig := zW7_s _ (List.mem_of_getElem? (i := 16) rfl)
theorem m_o_yX2_takeMargins : Cond.code yX2_takeMargins cX2_takeMargins 2 none ∈ zBig := zW7_s _ (List.mem_of_getElem? (i := 17) rfl)
theorem m_m_RX2_52 : Cond.methodLink RX2 52 arraycopyName ∈ zBig := zW7_s _ (List.mem_of_getElem? (i := 18) rfl)
theorem m_m_RX2_69 : Cond.methodLink RX2 69 yX2_fall ∈ zBig := zW7_s _ (List.mem_of_getElem? (i := 19) rfl)
theorem m_i_yX2_fall : Cond.instanceMethod yX2_fall ∈ zBig := zW7_s _ (List.mem_of_getElem? (i := 20) rfl)
theorem m_o_yX2_fall : Cond.code yX2_fall cX2_fall 4 none ∈ zBig := zW7_s _ (List.mem_of_getElem? (i := 21) rfl)
theorem m_m_RX2_73 : Cond.methodLink RX2 73 yX2_begin ∈ zBig := zW7_s _ (List.mem_of_getElem? (i := 22) rfl)
theorem m_i_yX2_begin : Cond.instanceMethod yX2_begin ∈ zBig := zW7_s _ (List.mem_of_getElem? (i := 23) rfl)
theorem m_o_yX2_begin : Cond.code yX2_begin cX2_begin 2 none ∈ zBig := zW7_s _ (List.mem_of_getElem? (i := 24) rfl)
def zW8 : List Cond := [Cond.methodLink RX2 59 yJ7_fill_53178, Cond.methodLink RX2 79 yX2_fallLot, Cond.instanceMethod yX2_fallLot, Cond.code yX2_fallLot cX2_fallLot 12 none, Cond.methodLink RX2 100 yX2_ready, Cond.instanceMethod yX2_ready, Cond.code yX2_ready cX2_ready 5 none, Cond.methodLink RX2 143 yX2_charge, Cond.instanceMethod yX2_charge, Cond.code yX2_charge cX2_charge 3 (some .int), Cond.methodLink RX2 103 yX2_silentOf, Cond.instanceMethod yX2_silentOf, Cond.code yX2_silentOf cX2_silentOf 7 (some .int), Cond.methodLink RX2 93 yX2_isIn, Cond.static yX2_isIn, Cond.code yX2_isIn cX2_isIn 2 (some .boolean), Cond.methodLink RX2 110 yX2_coughsAt, Cond.instanceMethod yX2_coughsAt, Cond.code yX2_coughsAt cX2_coughsAt 7 (some .int), Cond.methodLink RX2 113 yX2_nextCough, Cond.instanceMethod yX2_nextCough, Cond.code yX2_nextCough cX2_nextCough 6 (some .int), Cond.methodLink RX2 131 Lib.Math.min.name, Cond.methodLink RX2 116 Lib.Math.max.name, Cond.static Lib.Math.max.name]
set_option maxRecDepth 100000 in
theorem zW8_s : ∀ w ∈ zW8, w ∈ zBig := zBig_l (ns := [354, 0, 1, 0, 0, 1, 0, 1, 1, 0, 0, 1, 0, 0, 0, 0, 0, 1, 0, 0, 1, 0, 0, 0, 0]) rfl rfl
theorem m_m_RX2_59 : Cond.methodLink RX2 59 yJ7_fill_53178 ∈ zBig := zW8_s _ (List.mem_of_getElem? (i := 0) rfl)
theorem m_m_RX2_79 : Cond.methodLink RX2 79 yX2_fallLot ∈ zBig := zW8_s _ (List.mem_of_getElem? (i := 1) rfl)
theorem m_i_yX2_fallLot : Cond.instanceMethod yX2_fallLot ∈ zBig := zW8_s _ (List.mem_of_getElem? (i := 2) rfl)
theorem m_o_yX2_fallLot : Cond.code yX2_fallLot cX2_fallLot 12 none ∈ zBig := zW8_s _ (List.mem_of_getElem? (i := 3) rfl)
theorem m_m_RX2_100 : Cond.methodLink RX2 100 yX2_ready ∈ zBig := zW8_s _ (List.mem_of_getElem? (i := 4) rfl)
theorem m_i_yX2_ready : Cond.instanceMethod yX2_ready ∈ zBig := zW8_s _ (List.mem_of_getElem? (i := 5) rfl)
theorem m_o_yX2_ready : Cond.code yX2_ready cX2_ready 5 none ∈ zBig := zW8_s _ (List.mem_of_getElem? (i := 6) rfl)
theorem m_m_RX2_143 : Cond.methodLink RX2 143 yX2_charge ∈ zBig := zW8_s _ (List.mem_of_getElem? (i := 7) rfl)
theorem m_i_yX2_charge : Cond.instanceMethod yX2_charge ∈ zBig := zW8_s _ (List.mem_of_getElem? (i := 8) rfl)
theorem m_o_yX2_charge : Cond.code yX2_charge cX2_charge 3 (some .int) ∈ zBig := zW8_s _ (List.mem_of_getElem? (i := 9) rfl)
theorem m_m_RX2_103 : Cond.methodLink RX2 103 yX2_silentOf ∈ zBig := zW8_s _ (List.mem_of_getElem? (i := 10) rfl)
theorem m_i_yX2_silentOf : Cond.instanceMethod yX2_silentOf ∈ zBig := zW8_s _ (List.mem_of_getElem? (i := 11) rfl)
theorem m_o_yX2_silentOf : Cond.code yX2_silentOf cX2_silentOf 7 (some .int) ∈ zBig := zW8_s _ (List.mem_of_getElem? (i := 12) rfl)
theorem m_m_RX2_93 : Cond.methodLink RX2 93 yX2_isIn ∈ zBig := zW8_s _ (List.mem_of_getElem? (i := 13) rfl)
theorem m_s_yX2_isIn : Cond.static yX2_isIn ∈ zBig := zW8_s _ (List.mem_of_getElem? (i := 14) rfl)
theorem m_o_yX2_isIn : Cond.code yX2_isIn cX2_isIn 2 (some .boolean) ∈ zBig := zW8_s _ (List.mem_of_getElem? (i := 15) rfl)
theorem m_m_RX2_110 : Cond.methodLink RX2 110 yX2_coughsAt ∈ zBig := zW8_s _ (List.mem_of_getElem? (i := 16) rfl)
theorem m_i_yX2_coughsAt : Cond.instanceMethod yX2_coughsAt ∈ zBig := zW8_s _ (List.mem_of_getElem? (i := 17) rfl)
theorem m_o_yX2_coughsAt : Cond.code yX2_coughsAt cX2_coughsAt 7 (some .int) ∈ zBig := zW8_s _ (List.mem_of_getElem? (i := 18) rfl)
theorem m_m_RX2_113 : Cond.methodLink RX2 113 yX2_nextCough ∈ zBig := zW8_s _ (List.mem_of_getElem? (i := 19) rfl)
theorem m_i_yX2_nextCough : Cond.instanceMethod yX2_nextCough ∈ zBig := zW8_s _ (List.mem_of_getElem? (i := 20) rfl)
theorem m_o_yX2_nextCough : Cond.code yX2_nextCough cX2_nextCough 6 (some .int) ∈ zBig := zW8_s _ (List.mem_of_getElem? (i := 21) rfl)
theorem m_m_RX2_131 : Cond.methodLink RX2 131 Lib.Math.min.name ∈ zBig := zW8_s _ (List.mem_of_getElem? (i := 22) rfl)
theorem m_m_RX2_116 : Cond.methodLink RX2 116 Lib.Math.max.name ∈ zBig := zW8_s _ (List.mem_of_getElem? (i := 23) rfl)
theorem m_s_Lib_Math_max_name : Cond.static Lib.Math.max.name ∈ zBig := zW8_s _ (List.mem_of_getElem? (i := 24) rfl)
def zW9 : List Cond := [Cond.code Lib.Math.max.name Lib.Math.max.code 2 (some .int), Cond.methodLink RX2 122 yJ6_bitCount_0f7a4, Cond.methodLink RX2 128 yX2_firstOf, Cond.static yX2_firstOf, Cond.code yX2_firstOf cX2_firstOf 2 (some .int), Cond.methodLink RX2 83 yX2_settle, Cond.instanceMethod yX2_settle, Cond.code yX2_settle cX2_settle 4 (some .int), Cond.methodLink RL 64 yX4_gain, Cond.instanceMethod yX4_gain, Cond.selects RX4 yX4_gain yX4_gain, Cond.code yX4_gain cX4_gain 2 (some .int), Cond.methodLink RL 68 yX4_till, Cond.instanceMethod yX4_till, Cond.selects RX4 yX4_till yX4_till, Cond.code yX4_till cX4_till 2 (some .int), Cond.instanceMethod yX2_tillBy, Cond.code yX2_tillBy cX2_tillBy 5 (some .int), Cond.methodLink RX2 87 yX2_riseLot, Cond.instanceMethod yX2_riseLot, Cond.code yX2_riseLot cX2_riseLot 10 none, Cond.methodLink RX2 90 yX2_openSealed, Cond.instanceMethod yX2_openSealed, Cond.code yX2_openSealed cX2_openSealed 5 none, Cond.methodLink RL 72 yX4_morning]
set_option maxRecDepth 100000 in
theorem zW9_s : ∀ w ∈ zW9, w ∈ zBig := zBig_l (ns := [386, 0, 0, 0, 0, 0, 1, 0, 0, 0, 0, 0, 0, 0, 0, 0, 3, 0, 0, 1, 0, 0, 1, 0, 0]) rfl rfl
theorem m_o_Lib_Math_max_name : Cond.code Lib.Math.max.name Lib.Math.max.code 2 (some .int) ∈ zBig := zW9_s _ (List.mem_of_getElem? (i := 0) rfl)
theorem m_m_RX2_122 : Cond.methodLink RX2 122 yJ6_bitCount_0f7a4 ∈ zBig := zW9_s _ (List.mem_of_getElem? (i := 1) rfl)
theorem m_m_RX2_128 : Cond.methodLink RX2 128 yX2_firstOf ∈ zBig := zW9_s _ (List.mem_of_getElem? (i := 2) rfl)
theorem m_s_yX2_firstOf : Cond.static yX2_firstOf ∈ zBig := zW9_s _ (List.mem_of_getElem? (i := 3) rfl)
theorem m_o_yX2_firstOf : Cond.code yX2_firstOf cX2_firstOf 2 (some .int) ∈ zBig := zW9_s _ (List.mem_of_getElem? (i := 4) rfl)
theorem m_m_RX2_83 : Cond.methodLink RX2 83 yX2_settle ∈ zBig := zW9_s _ (List.mem_of_getElem? (i := 5) rfl)
theorem m_i_yX2_settle : Cond.instanceMethod yX2_settle ∈ zBig := zW9_s _ (List.mem_of_getElem? (i := 6) rfl)
theorem m_o_yX2_settle : Cond.code yX2_settle cX2_settle 4 (some .int) ∈ zBig := zW9_s _ (List.mem_of_getElem? (i := 7) rfl)
theorem m_m_RL_64 : Cond.methodLink RL 64 yX4_gain ∈ zBig := zW9_s _ (List.mem_of_getElem? (i := 8) rfl)
theorem m_i_yX4_gain : Cond.instanceMethod yX4_gain ∈ zBig := zW9_s _ (List.mem_of_getElem? (i := 9) rfl)
theorem m_e_yX4_gain : Cond.selects RX4 yX4_gain yX4_gain ∈ zBig := zW9_s _ (List.mem_of_getElem? (i := 10) rfl)
theorem m_o_yX4_gain : Cond.code yX4_gain cX4_gain 2 (some .int) ∈ zBig := zW9_s _ (List.mem_of_getElem? (i := 11) rfl)
theorem m_m_RL_68 : Cond.methodLink RL 68 yX4_till ∈ zBig := zW9_s _ (List.mem_of_getElem? (i := 12) rfl)
theorem m_i_yX4_till : Cond.instanceMethod yX4_till ∈ zBig := zW9_s _ (List.mem_of_getElem? (i := 13) rfl)
theorem m_e_yX4_till : Cond.selects RX4 yX4_till yX4_till ∈ zBig := zW9_s _ (List.mem_of_getElem? (i := 14) rfl)
theorem m_o_yX4_till : Cond.code yX4_till cX4_till 2 (some .int) ∈ zBig := zW9_s _ (List.mem_of_getElem? (i := 15) rfl)
theorem m_i_yX2_tillBy : Cond.instanceMethod yX2_tillBy ∈ zBig := zW9_s _ (List.mem_of_getElem? (i := 16) rfl)
theorem m_o_yX2_tillBy : Cond.code yX2_tillBy cX2_tillBy 5 (some .int) ∈ zBig := zW9_s _ (List.mem_of_getElem? (i := 17) rfl)
theorem m_m_RX2_87 : Cond.methodLink RX2 87 yX2_riseLot ∈ zBig := zW9_s _ (List.mem_of_getElem? (i := 18) rfl)
theorem m_i_yX2_riseLot : Cond.instanceMethod yX2_riseLot ∈ zBig := zW9_s _ (List.mem_of_getElem? (i := 19) rfl)
theorem m_o_yX2_riseLot : Cond.code yX2_riseLot cX2_riseLot 10 none ∈ zBig := zW9_s _ (List.mem_of_getElem? (i := 20) rfl)
theorem m_m_RX2_90 : Cond.methodLink RX2 90 yX2_openSealed ∈ zBig := zW9_s _ (List.mem_of_getElem? (i := 21) rfl)
theorem m_i_yX2_openSealed : Cond.instanceMethod yX2_openSealed ∈ zBig := zW9_s _ (List.mem_of_getElem? (i := 22) rfl)
theorem m_o_yX2_openSealed : Cond.code yX2_openSealed cX2_openSealed 5 none ∈ zBig := zW9_s _ (List.mem_of_getElem? (i := 23) rfl)
theorem m_m_RL_72 : Cond.methodLink RL 72 yX4_morning ∈ zBig := zW9_s _ (List.mem_of_getElem? (i := 24) rfl)
def zW10 : List Cond := [Cond.instanceMethod yX4_morning, Cond.selects RX4 yX4_morning yX4_morning, Cond.code yX4_morning cX4_morning 3 (some .int), Cond.instanceMethod yX2_hear, Cond.code yX2_hear cX2_hear 5 none, Cond.instanceMethod yX0_narrowSpan, Cond.code yX0_narrowSpan cX0_narrowSpan 6 none, Cond.methodLink RX0 79 Lib.Math.max.name, Cond.methodLink RX0 85 Lib.Math.min.name, Cond.methodLink RL 76 yX4_span, Cond.instanceMethod yX4_span, Cond.selects RX4 yX4_span yX4_span, Cond.code yX4_span cX4_span 5 (some .int), Cond.methodLink RL 80 yX4_hush, Cond.instanceMethod yX4_hush, Cond.selects RX4 yX4_hush yX4_hush, Cond.code yX4_hush cX4_hush 1 (some .int), Cond.instanceMethod yX0_widenSpans, Cond.code yX0_widenSpans cX0_widenSpans 3 (some .int), Cond.methodLink RL 84 yX4_best, Cond.instanceMethod yX4_best, Cond.selects RX4 yX4_best yX4_best, Cond.code yX4_best cX4_best 6 (some .int), Cond.methodLink RL 88 yX4_rests, Cond.instanceMethod yX4_rests]
set_option maxRecDepth 100000 in
theorem zW10_s : ∀ w ∈ zW10, w ∈ zBig := zBig_l (ns := [417, 0, 0, 4, 0, 2, 0, 0, 0, 1, 0, 0, 0, 0, 0, 0, 0, 2, 0, 0, 0, 0, 0, 1, 0]) rfl rfl
theorem m_i_yX4_morning : Cond.instanceMethod yX4_morning ∈ zBig := zW10_s _ (List.mem_of_getElem? (i := 0) rfl)
theorem m_e_yX4_morning : Cond.selects RX4 yX4_morning yX4_morning ∈ zBig := zW10_s _ (List.mem_of_getElem? (i := 1) rfl)
theorem m_o_yX4_morning : Cond.code yX4_morning cX4_morning 3 (some .int) ∈ zBig := zW10_s _ (List.mem_of_getElem? (i := 2) rfl)
theorem m_i_yX2_hear : Cond.instanceMethod yX2_hear ∈ zBig := zW10_s _ (List.mem_of_getElem? (i := 3) rfl)
theorem m_o_yX2_hear : Cond.code yX2_hear cX2_hear 5 none ∈ zBig := zW10_s _ (List.mem_of_getElem? (i := 4) rfl)
theorem m_i_yX0_narrowSpan : Cond.instanceMethod yX0_narrowSpan ∈ zBig := zW10_s _ (List.mem_of_getElem? (i := 5) rfl)
theorem m_o_yX0_narrowSpan : Cond.code yX0_narrowSpan cX0_narrowSpan 6 none ∈ zBig := zW10_s _ (List.mem_of_getElem? (i := 6) rfl)
theorem m_m_RX0_79 : Cond.methodLink RX0 79 Lib.Math.max.name ∈ zBig := zW10_s _ (List.mem_of_getElem? (i := 7) rfl)
theorem m_m_RX0_85 : Cond.methodLink RX0 85 Lib.Math.min.name ∈ zBig := zW10_s _ (List.mem_of_getElem? (i := 8) rfl)
theorem m_m_RL_76 : Cond.methodLink RL 76 yX4_span ∈ zBig := zW10_s _ (List.mem_of_getElem? (i := 9) rfl)
theorem m_i_yX4_span : Cond.instanceMethod yX4_span ∈ zBig := zW10_s _ (List.mem_of_getElem? (i := 10) rfl)
theorem m_e_yX4_span : Cond.selects RX4 yX4_span yX4_span ∈ zBig := zW10_s _ (List.mem_of_getElem? (i := 11) rfl)
theorem m_o_yX4_span : Cond.code yX4_span cX4_span 5 (some .int) ∈ zBig := zW10_s _ (List.mem_of_getElem? (i := 12) rfl)
theorem m_m_RL_80 : Cond.methodLink RL 80 yX4_hush ∈ zBig := zW10_s _ (List.mem_of_getElem? (i := 13) rfl)
theorem m_i_yX4_hush : Cond.instanceMethod yX4_hush ∈ zBig := zW10_s _ (List.mem_of_getElem? (i := 14) rfl)
theorem m_e_yX4_hush : Cond.selects RX4 yX4_hush yX4_hush ∈ zBig := zW10_s _ (List.mem_of_getElem? (i := 15) rfl)
theorem m_o_yX4_hush : Cond.code yX4_hush cX4_hush 1 (some .int) ∈ zBig := zW10_s _ (List.mem_of_getElem? (i := 16) rfl)
theorem m_i_yX0_widenSpans : Cond.instanceMethod yX0_widenSpans ∈ zBig := zW10_s _ (List.mem_of_getElem? (i := 17) rfl)
theorem m_o_yX0_widenSpans : Cond.code yX0_widenSpans cX0_widenSpans 3 (some .int) ∈ zBig := zW10_s _ (List.mem_of_getElem? (i := 18) rfl)
theorem m_m_RL_84 : Cond.methodLink RL 84 yX4_best ∈ zBig := zW10_s _ (List.mem_of_getElem? (i := 19) rfl)
theorem m_i_yX4_best : Cond.instanceMethod yX4_best ∈ zBig := zW10_s _ (List.mem_of_getElem? (i := 20) rfl)
theorem m_e_yX4_best : Cond.selects RX4 yX4_best yX4_best ∈ zBig := zW10_s _ (List.mem_of_getElem? (i := 21) rfl)
theorem m_o_yX4_best : Cond.code yX4_best cX4_best 6 (some .int) ∈ zBig := zW10_s _ (List.mem_of_getElem? (i := 22) rfl)
theorem m_m_RL_88 : Cond.methodLink RL 88 yX4_rests ∈ zBig := zW10_s _ (List.mem_of_getElem? (i := 23) rfl)
theorem m_i_yX4_rests : Cond.instanceMethod yX4_rests ∈ zBig := zW10_s _ (List.mem_of_getElem? (i := 24) rfl)
def zW11 : List Cond := [Cond.selects RX4 yX4_rests yX4_rests, Cond.code yX4_rests cX4_rests 3 (some .int), Cond.methodLink RX4 189 yX4_countRests, Cond.instanceMethod yX4_countRests, Cond.code yX4_countRests cX4_countRests 4 (some .int), Cond.methodLink RX4 263 Lib.Math.min.name, Cond.methodLink RX4 192 yX4_digitOf, Cond.instanceMethod yX4_digitOf, Cond.code yX4_digitOf cX4_digitOf 3 (some .int), Cond.methodLink RX4 260 yX4_digitShift, Cond.instanceMethod yX4_digitShift, Cond.code yX4_digitShift cX4_digitShift 2 (some .int), Cond.methodLink RX4 268 yX4_isAtRest, Cond.instanceMethod yX4_isAtRest, Cond.code yX4_isAtRest cX4_isAtRest 8 (some .boolean), Cond.methodLink RL 92 yX4_order, Cond.instanceMethod yX4_order, Cond.selects RX4 yX4_order yX4_order, Cond.code yX4_order cX4_order 3 (some .int), Cond.methodLink RX4 195 yX4_findBestRow, Cond.instanceMethod yX4_findBestRow, Cond.code yX4_findBestRow cX4_findBestRow 6 (some .int), Cond.methodLink RX4 271 Lib.Math.max.name, Cond.methodLink RX4 274 yX4_isFirstOfItsLike, Cond.instanceMethod yX4_isFirstOfItsLike]
set_option maxRecDepth 100000 in
theorem zW11_s : ∀ w ∈ zW11, w ∈ zBig := zBig_l (ns := [452, 0, 0, 1, 0, 0, 0, 1, 0, 0, 1, 0, 0, 1, 0, 0, 0, 0, 0, 0, 1, 0, 0, 0, 1]) rfl rfl
theorem m_e_yX4_rests : Cond.selects RX4 yX4_rests yX4_rests ∈ zBig := zW11_s _ (List.mem_of_getElem? (i := 0) rfl)
theorem m_o_yX4_rests : Cond.code yX4_rests cX4_rests 3 (some .int) ∈ zBig := zW11_s _ (List.mem_of_getElem? (i := 1) rfl)
theorem m_m_RX4_189 : Cond.methodLink RX4 189 yX4_countRests ∈ zBig := zW11_s _ (List.mem_of_getElem? (i := 2) rfl)
theorem m_i_yX4_countRests : Cond.instanceMethod yX4_countRests ∈ zBig := zW11_s _ (List.mem_of_getElem? (i := 3) rfl)
theorem m_o_yX4_countRests : Cond.code yX4_countRests cX4_countRests 4 (some .int) ∈ zBig := zW11_s _ (List.mem_of_getElem? (i := 4) rfl)
theorem m_m_RX4_263 : Cond.methodLink RX4 263 Lib.Math.min.name ∈ zBig := zW11_s _ (List.mem_of_getElem? (i := 5) rfl)
theorem m_m_RX4_192 : Cond.methodLink RX4 192 yX4_digitOf ∈ zBig := zW11_s _ (List.mem_of_getElem? (i := 6) rfl)
theorem m_i_yX4_digitOf : Cond.instanceMethod yX4_digitOf ∈ zBig := zW11_s _ (List.mem_of_getElem? (i := 7) rfl)
theorem m_o_yX4_digitOf : Cond.code yX4_digitOf cX4_digitOf 3 (some .int) ∈ zBig := zW11_s _ (List.mem_of_getElem? (i := 8) rfl)
theorem m_m_RX4_260 : Cond.methodLink RX4 260 yX4_digitShift ∈ zBig := zW11_s _ (List.mem_of_getElem? (i := 9) rfl)
theorem m_i_yX4_digitShift : Cond.instanceMethod yX4_digitShift ∈ zBig := zW11_s _ (List.mem_of_getElem? (i := 10) rfl)
theorem m_o_yX4_digitShift : Cond.code yX4_digitShift cX4_digitShift 2 (some .int) ∈ zBig := zW11_s _ (List.mem_of_getElem? (i := 11) rfl)
theorem m_m_RX4_268 : Cond.methodLink RX4 268 yX4_isAtRest ∈ zBig := zW11_s _ (List.mem_of_getElem? (i := 12) rfl)
theorem m_i_yX4_isAtRest : Cond.instanceMethod yX4_isAtRest ∈ zBig := zW11_s _ (List.mem_of_getElem? (i := 13) rfl)
theorem m_o_yX4_isAtRest : Cond.code yX4_isAtRest cX4_isAtRest 8 (some .boolean) ∈ zBig := zW11_s _ (List.mem_of_getElem? (i := 14) rfl)
theorem m_m_RL_92 : Cond.methodLink RL 92 yX4_order ∈ zBig := zW11_s _ (List.mem_of_getElem? (i := 15) rfl)
theorem m_i_yX4_order : Cond.instanceMethod yX4_order ∈ zBig := zW11_s _ (List.mem_of_getElem? (i := 16) rfl)
theorem m_e_yX4_order : Cond.selects RX4 yX4_order yX4_order ∈ zBig := zW11_s _ (List.mem_of_getElem? (i := 17) rfl)
theorem m_o_yX4_order : Cond.code yX4_order cX4_order 3 (some .int) ∈ zBig := zW11_s _ (List.mem_of_getElem? (i := 18) rfl)
theorem m_m_RX4_195 : Cond.methodLink RX4 195 yX4_findBestRow ∈ zBig := zW11_s _ (List.mem_of_getElem? (i := 19) rfl)
theorem m_i_yX4_findBestRow : Cond.instanceMethod yX4_findBestRow ∈ zBig := zW11_s _ (List.mem_of_getElem? (i := 20) rfl)
theorem m_o_yX4_findBestRow : Cond.code yX4_findBestRow cX4_findBestRow 6 (some .int) ∈ zBig := zW11_s _ (List.mem_of_getElem? (i := 21) rfl)
theorem m_m_RX4_271 : Cond.methodLink RX4 271 Lib.Math.max.name ∈ zBig := zW11_s _ (List.mem_of_getElem? (i := 22) rfl)
theorem m_m_RX4_274 : Cond.methodLink RX4 274 yX4_isFirstOfItsLike ∈ zBig := zW11_s _ (List.mem_of_getElem? (i := 23) rfl)
theorem m_i_yX4_isFirstOfItsLike : Cond.instanceMethod yX4_isFirstOfItsLike ∈ zBig := zW11_s _ (List.mem_of_getElem? (i := 24) rfl)
def zW12 : List Cond := [Cond.code yX4_isFirstOfItsLike cX4_isFirstOfItsLike 4 (some .boolean), Cond.instanceMethod yX0_kindOf, Cond.code yX0_kindOf cX0_kindOf 2 (some .int), Cond.methodLink RX4 277 yX4_tillOfRow, Cond.instanceMethod yX4_tillOfRow, Cond.code yX4_tillOfRow cX4_tillOfRow 4 (some .int), Cond.methodLink RX4 280 yX4_nextRow, Cond.instanceMethod yX4_nextRow, Cond.code yX4_nextRow cX4_nextRow 6 (some .boolean), Cond.methodLink RX4 286 yX4_swapInRow, Cond.instanceMethod yX4_swapInRow, Cond.code yX4_swapInRow cX4_swapInRow 4 none, Cond.methodLink RL 96 yX4_ring, Cond.instanceMethod yX4_ring, Cond.selects RX4 yX4_ring yX4_ring, Cond.code yX4_ring cX4_ring 3 (some .int), Cond.methodLink RX4 198 yX4_isRing, Cond.instanceMethod yX4_isRing, Cond.code yX4_isRing cX4_isRing 2 (some .boolean), Cond.methodLink RX4 251 yJ6_bitCount_0f7a4, Cond.instanceMethod yX2_gainOf, Cond.code yX2_gainOf cX2_gainOf 4 (some .int), Cond.methodLink RL 100 yX4_image, Cond.instanceMethod yX4_image, Cond.selects RX4 yX4_image yX4_image]
set_option maxRecDepth 100000 in
theorem zW12_s : ∀ w ∈ zW12, w ∈ zBig := zBig_l (ns := [483, 2, 0, 0, 1, 0, 0, 1, 0, 0, 1, 0, 0, 0, 0, 0, 0, 1, 0, 0, 2, 0, 0, 0, 0]) rfl rfl
theorem m_o_yX4_isFirstOfItsLike : Cond.code yX4_isFirstOfItsLike cX4_isFirstOfItsLike 4 (some .boolean) ∈ zBig := zW12_s _ (List.mem_of_getElem? (i := 0) rfl)
theorem m_i_yX0_kindOf : Cond.instanceMethod yX0_kindOf ∈ zBig := zW12_s _ (List.mem_of_getElem? (i := 1) rfl)
theorem m_o_yX0_kindOf : Cond.code yX0_kindOf cX0_kindOf 2 (some .int) ∈ zBig := zW12_s _ (List.mem_of_getElem? (i := 2) rfl)
theorem m_m_RX4_277 : Cond.methodLink RX4 277 yX4_tillOfRow ∈ zBig := zW12_s _ (List.mem_of_getElem? (i := 3) rfl)
theorem m_i_yX4_tillOfRow : Cond.instanceMethod yX4_tillOfRow ∈ zBig := zW12_s _ (List.mem_of_getElem? (i := 4) rfl)
theorem m_o_yX4_tillOfRow : Cond.code yX4_tillOfRow cX4_tillOfRow 4 (some .int) ∈ zBig := zW12_s _ (List.mem_of_getElem? (i := 5) rfl)
theorem m_m_RX4_280 : Cond.methodLink RX4 280 yX4_nextRow ∈ zBig := zW12_s _ (List.mem_of_getElem? (i := 6) rfl)
theorem m_i_yX4_nextRow : Cond.instanceMethod yX4_nextRow ∈ zBig := zW12_s _ (List.mem_of_getElem? (i := 7) rfl)
theorem m_o_yX4_nextRow : Cond.code yX4_nextRow cX4_nextRow 6 (some .boolean) ∈ zBig := zW12_s _ (List.mem_of_getElem? (i := 8) rfl)
theorem m_m_RX4_286 : Cond.methodLink RX4 286 yX4_swapInRow ∈ zBig := zW12_s _ (List.mem_of_getElem? (i := 9) rfl)
theorem m_i_yX4_swapInRow : Cond.instanceMethod yX4_swapInRow ∈ zBig := zW12_s _ (List.mem_of_getElem? (i := 10) rfl)
theorem m_o_yX4_swapInRow : Cond.code yX4_swapInRow cX4_swapInRow 4 none ∈ zBig := zW12_s _ (List.mem_of_getElem? (i := 11) rfl)
theorem m_m_RL_96 : Cond.methodLink RL 96 yX4_ring ∈ zBig := zW12_s _ (List.mem_of_getElem? (i := 12) rfl)
theorem m_i_yX4_ring : Cond.instanceMethod yX4_ring ∈ zBig := zW12_s _ (List.mem_of_getElem? (i := 13) rfl)
theorem m_e_yX4_ring : Cond.selects RX4 yX4_ring yX4_ring ∈ zBig := zW12_s _ (List.mem_of_getElem? (i := 14) rfl)
theorem m_o_yX4_ring : Cond.code yX4_ring cX4_ring 3 (some .int) ∈ zBig := zW12_s _ (List.mem_of_getElem? (i := 15) rfl)
theorem m_m_RX4_198 : Cond.methodLink RX4 198 yX4_isRing ∈ zBig := zW12_s _ (List.mem_of_getElem? (i := 16) rfl)
theorem m_i_yX4_isRing : Cond.instanceMethod yX4_isRing ∈ zBig := zW12_s _ (List.mem_of_getElem? (i := 17) rfl)
theorem m_o_yX4_isRing : Cond.code yX4_isRing cX4_isRing 2 (some .boolean) ∈ zBig := zW12_s _ (List.mem_of_getElem? (i := 18) rfl)
theorem m_m_RX4_251 : Cond.methodLink RX4 251 yJ6_bitCount_0f7a4 ∈ zBig := zW12_s _ (List.mem_of_getElem? (i := 19) rfl)
theorem m_i_yX2_gainOf : Cond.instanceMethod yX2_gainOf ∈ zBig := zW12_s _ (List.mem_of_getElem? (i := 20) rfl)
theorem m_o_yX2_gainOf : Cond.code yX2_gainOf cX2_gainOf 4 (some .int) ∈ zBig := zW12_s _ (List.mem_of_getElem? (i := 21) rfl)
theorem m_m_RL_100 : Cond.methodLink RL 100 yX4_image ∈ zBig := zW12_s _ (List.mem_of_getElem? (i := 22) rfl)
theorem m_i_yX4_image : Cond.instanceMethod yX4_image ∈ zBig := zW12_s _ (List.mem_of_getElem? (i := 23) rfl)
theorem m_e_yX4_image : Cond.selects RX4 yX4_image yX4_image ∈ zBig := zW12_s _ (List.mem_of_getElem? (i := 24) rfl)
def zW13 : List Cond := [Cond.code yX4_image cX4_image 1 (some .int), Cond.instanceMethod yX0_take, Cond.code yX0_take cX0_take 2 none, Cond.methodLink RX0 60 arraycopyName, Cond.methodLink RL 104 yX4_restore, Cond.instanceMethod yX4_restore, Cond.selects RX4 yX4_restore yX4_restore, Cond.code yX4_restore cX4_restore 1 (some .int), Cond.methodLink RL 108 yX4_which, Cond.instanceMethod yX4_which, Cond.selects RX4 yX4_which yX4_which, Cond.code yX4_which cX4_which 9 (some .int), Cond.instanceMethod yX1_refuse, Cond.code yX1_refuse cX1_refuse 5 (some .int), Cond.static yX4_isSheet, Cond.code yX4_isSheet cX4_isSheet 1 (some .boolean), Cond.static yX4_isLane, Cond.code yX4_isLane cX4_isLane 1 (some .boolean), Cond.methodLink RX1 35 yX1_holds, Cond.instanceMethod yX1_holds, Cond.code yX1_holds cX1_holds 4 (some .boolean), Cond.methodLink RX4 212 yX4_isAsFilmed, Cond.instanceMethod yX4_isAsFilmed, Cond.code yX4_isAsFilmed cX4_isAsFilmed 5 (some .boolean), Cond.instanceMethod yX1_peek]
set_option maxRecDepth 100000 in
theorem zW13_s : ∀ w ∈ zW13, w ∈ zBig := zBig_l (ns := [516, 2, 0, 0, 0, 0, 0, 0, 0, 0, 0, 0, 2, 0, 1, 0, 1, 0, 0, 1, 0, 0, 1, 0, 2]) rfl rfl
theorem m_o_yX4_image : Cond.code yX4_image cX4_image 1 (some .int) ∈ zBig := zW13_s _ (List.mem_of_getElem? (i := 0) rfl)
theorem m_i_yX0_take : Cond.instanceMethod yX0_take ∈ zBig := zW13_s _ (List.mem_of_getElem? (i := 1) rfl)
theorem m_o_yX0_take : Cond.code yX0_take cX0_take 2 none ∈ zBig := zW13_s _ (List.mem_of_getElem? (i := 2) rfl)
theorem m_m_RX0_60 : Cond.methodLink RX0 60 arraycopyName ∈ zBig := zW13_s _ (List.mem_of_getElem? (i := 3) rfl)
theorem m_m_RL_104 : Cond.methodLink RL 104 yX4_restore ∈ zBig := zW13_s _ (List.mem_of_getElem? (i := 4) rfl)
theorem m_i_yX4_restore : Cond.instanceMethod yX4_restore ∈ zBig := zW13_s _ (List.mem_of_getElem? (i := 5) rfl)
theorem m_e_yX4_restore : Cond.selects RX4 yX4_restore yX4_restore ∈ zBig := zW13_s _ (List.mem_of_getElem? (i := 6) rfl)
theorem m_o_yX4_restore : Cond.code yX4_restore cX4_restore 1 (some .int) ∈ zBig := zW13_s _ (List.mem_of_getElem? (i := 7) rfl)
theorem m_m_RL_108 : Cond.methodLink RL 108 yX4_which ∈ zBig := zW13_s _ (List.mem_of_getElem? (i := 8) rfl)
theorem m_i_yX4_which : Cond.instanceMethod yX4_which ∈ zBig := zW13_s _ (List.mem_of_getElem? (i := 9) rfl)
theorem m_e_yX4_which : Cond.selects RX4 yX4_which yX4_which ∈ zBig := zW13_s _ (List.mem_of_getElem? (i := 10) rfl)
theorem m_o_yX4_which : Cond.code yX4_which cX4_which 9 (some .int) ∈ zBig := zW13_s _ (List.mem_of_getElem? (i := 11) rfl)
theorem m_i_yX1_refuse : Cond.instanceMethod yX1_refuse ∈ zBig := zW13_s _ (List.mem_of_getElem? (i := 12) rfl)
theorem m_o_yX1_refuse : Cond.code yX1_refuse cX1_refuse 5 (some .int) ∈ zBig := zW13_s _ (List.mem_of_getElem? (i := 13) rfl)
theorem m_s_yX4_isSheet : Cond.static yX4_isSheet ∈ zBig := zW13_s _ (List.mem_of_getElem? (i := 14) rfl)
theorem m_o_yX4_isSheet : Cond.code yX4_isSheet cX4_isSheet 1 (some .boolean) ∈ zBig := zW13_s _ (List.mem_of_getElem? (i := 15) rfl)
theorem m_s_yX4_isLane : Cond.static yX4_isLane ∈ zBig := zW13_s _ (List.mem_of_getElem? (i := 16) rfl)
theorem m_o_yX4_isLane : Cond.code yX4_isLane cX4_isLane 1 (some .boolean) ∈ zBig := zW13_s _ (List.mem_of_getElem? (i := 17) rfl)
theorem m_m_RX1_35 : Cond.methodLink RX1 35 yX1_holds ∈ zBig := zW13_s _ (List.mem_of_getElem? (i := 18) rfl)
theorem m_i_yX1_holds : Cond.instanceMethod yX1_holds ∈ zBig := zW13_s _ (List.mem_of_getElem? (i := 19) rfl)
theorem m_o_yX1_holds : Cond.code yX1_holds cX1_holds 4 (some .boolean) ∈ zBig := zW13_s _ (List.mem_of_getElem? (i := 20) rfl)
theorem m_m_RX4_212 : Cond.methodLink RX4 212 yX4_isAsFilmed ∈ zBig := zW13_s _ (List.mem_of_getElem? (i := 21) rfl)
theorem m_i_yX4_isAsFilmed : Cond.instanceMethod yX4_isAsFilmed ∈ zBig := zW13_s _ (List.mem_of_getElem? (i := 22) rfl)
theorem m_o_yX4_isAsFilmed : Cond.code yX4_isAsFilmed cX4_isAsFilmed 5 (some .boolean) ∈ zBig := zW13_s _ (List.mem_of_getElem? (i := 23) rfl)
theorem m_i_yX1_peek : Cond.instanceMethod yX1_peek ∈ zBig := zW13_s _ (List.mem_of_getElem? (i := 24) rfl)
def zW14 : List Cond := [Cond.code yX1_peek cX1_peek 3 (some .long), Cond.methodLink RL 113 yX4_film, Cond.instanceMethod yX4_film, Cond.selects RX4 yX4_film yX4_film, Cond.code yX4_film cX4_film 7 (some .int), Cond.constantLong RX4 215 (-1), Cond.instanceMethod yX1_put, Cond.code yX1_put cX1_put 6 none, Cond.methodLink RL 117 yX4_sheet, Cond.instanceMethod yX4_sheet, Cond.selects RX4 yX4_sheet yX4_sheet, Cond.code yX4_sheet cX4_sheet 4 (some .int), Cond.methodLink RX4 221 yX4_isSheet, Cond.methodLink RX4 224 yX4_isLane, Cond.instanceMethod yX1_lay, Cond.code yX1_lay cX1_lay 4 none, Cond.methodLink RX1 29 yJ7_fill_bad5a, Cond.static yJ7_fill_bad5a, Cond.code yJ7_fill_bad5a cJ7_fill_bad5a 6 none, Cond.methodLink RJ7 13 yJ7_rangeCheck_23922, Cond.static yJ7_rangeCheck_23922, Cond.code yJ7_rangeCheck_23922 cJ7_rangeCheck_23922 3 none, Cond.methodLink RL 121 yX4_drop, Cond.instanceMethod yX4_drop, Cond.selects RX4 yX4_drop yX4_drop]
set_option maxRecDepth 100000 in
theorem zW14_s : ∀ w ∈ zW14, w ∈ zBig := zBig_l (ns := [551, 0, 0, 0, 0, 0, 2, 0, 0, 0, 0, 0, 0, 0, 2, 0, 0, 0, 0, 0, 0, 0, 0, 0, 0]) rfl rfl
theorem m_o_yX1_peek : Cond.code yX1_peek cX1_peek 3 (some .long) ∈ zBig := zW14_s _ (List.mem_of_getElem? (i := 0) rfl)
theorem m_m_RL_113 : Cond.methodLink RL 113 yX4_film ∈ zBig := zW14_s _ (List.mem_of_getElem? (i := 1) rfl)
theorem m_i_yX4_film : Cond.instanceMethod yX4_film ∈ zBig := zW14_s _ (List.mem_of_getElem? (i := 2) rfl)
theorem m_e_yX4_film : Cond.selects RX4 yX4_film yX4_film ∈ zBig := zW14_s _ (List.mem_of_getElem? (i := 3) rfl)
theorem m_o_yX4_film : Cond.code yX4_film cX4_film 7 (some .int) ∈ zBig := zW14_s _ (List.mem_of_getElem? (i := 4) rfl)
theorem m_k_RX4_215 : Cond.constantLong RX4 215 (-1) ∈ zBig := zW14_s _ (List.mem_of_getElem? (i := 5) rfl)
theorem m_i_yX1_put : Cond.instanceMethod yX1_put ∈ zBig := zW14_s _ (List.mem_of_getElem? (i := 6) rfl)
theorem m_o_yX1_put : Cond.code yX1_put cX1_put 6 none ∈ zBig := zW14_s _ (List.mem_of_getElem? (i := 7) rfl)
theorem m_m_RL_117 : Cond.methodLink RL 117 yX4_sheet ∈ zBig := zW14_s _ (List.mem_of_getElem? (i := 8) rfl)
theorem m_i_yX4_sheet : Cond.instanceMethod yX4_sheet ∈ zBig := zW14_s _ (List.mem_of_getElem? (i := 9) rfl)
theorem m_e_yX4_sheet : Cond.selects RX4 yX4_sheet yX4_sheet ∈ zBig := zW14_s _ (List.mem_of_getElem? (i := 10) rfl)
theorem m_o_yX4_sheet : Cond.code yX4_sheet cX4_sheet 4 (some .int) ∈ zBig := zW14_s _ (List.mem_of_getElem? (i := 11) rfl)
theorem m_m_RX4_221 : Cond.methodLink RX4 221 yX4_isSheet ∈ zBig := zW14_s _ (List.mem_of_getElem? (i := 12) rfl)
theorem m_m_RX4_224 : Cond.methodLink RX4 224 yX4_isLane ∈ zBig := zW14_s _ (List.mem_of_getElem? (i := 13) rfl)
theorem m_i_yX1_lay : Cond.instanceMethod yX1_lay ∈ zBig := zW14_s _ (List.mem_of_getElem? (i := 14) rfl)
theorem m_o_yX1_lay : Cond.code yX1_lay cX1_lay 4 none ∈ zBig := zW14_s _ (List.mem_of_getElem? (i := 15) rfl)
theorem m_m_RX1_29 : Cond.methodLink RX1 29 yJ7_fill_bad5a ∈ zBig := zW14_s _ (List.mem_of_getElem? (i := 16) rfl)
theorem m_s_yJ7_fill_bad5a : Cond.static yJ7_fill_bad5a ∈ zBig := zW14_s _ (List.mem_of_getElem? (i := 17) rfl)
theorem m_o_yJ7_fill_bad5a : Cond.code yJ7_fill_bad5a cJ7_fill_bad5a 6 none ∈ zBig := zW14_s _ (List.mem_of_getElem? (i := 18) rfl)
theorem m_m_RJ7_13 : Cond.methodLink RJ7 13 yJ7_rangeCheck_23922 ∈ zBig := zW14_s _ (List.mem_of_getElem? (i := 19) rfl)
theorem m_s_yJ7_rangeCheck_23922 : Cond.static yJ7_rangeCheck_23922 ∈ zBig := zW14_s _ (List.mem_of_getElem? (i := 20) rfl)
theorem m_o_yJ7_rangeCheck_23922 : Cond.code yJ7_rangeCheck_23922 cJ7_rangeCheck_23922 3 none ∈ zBig := zW14_s _ (List.mem_of_getElem? (i := 21) rfl)
theorem m_m_RL_121 : Cond.methodLink RL 121 yX4_drop ∈ zBig := zW14_s _ (List.mem_of_getElem? (i := 22) rfl)
theorem m_i_yX4_drop : Cond.instanceMethod yX4_drop ∈ zBig := zW14_s _ (List.mem_of_getElem? (i := 23) rfl)
theorem m_e_yX4_drop : Cond.selects RX4 yX4_drop yX4_drop ∈ zBig := zW14_s _ (List.mem_of_getElem? (i := 24) rfl)
def zW15 : List Cond := [Cond.code yX4_drop cX4_drop 2 (some .int), Cond.methodLink RL 125 yX4_item, Cond.instanceMethod yX4_item, Cond.selects RX4 yX4_item yX4_item, Cond.code yX4_item cX4_item 7 (some .int), Cond.methodLink RL 130 yX4_copy, Cond.instanceMethod yX4_copy, Cond.selects RX4 yX4_copy yX4_copy, Cond.code yX4_copy cX4_copy 6 (some .int), Cond.classLink RL 10 RX5, Cond.instantiable RX5 27, Cond.methodLink RL 12 yX5_init, Cond.instanceMethod yX5_init, Cond.code yX5_init cX5_init 2 none, Cond.methodLink RX5 1 objectInit, Cond.fieldLink RX5 7 "FishStepsModel" "w" "[I", Cond.fieldLink RX5 221 "FishStepsModel" "isKept" "Z", Cond.fieldLink RX5 13 "FishStepsModel" "tape" "[I", Cond.fieldLink RX5 114 "FishStepsModel" "taped" "I", Cond.fieldLink RX5 118 "FishStepsModel" "at" "I", Cond.fieldLink RX5 16 "FishStepsModel" "meant" "[I", Cond.fieldLink RX5 19 "FishStepsModel" "kinds" "[I", Cond.fieldLink RX5 22 "FishStepsModel" "row" "[I", Cond.fieldLink RX5 25 "FishStepsModel" "margins" "[I", Cond.fieldLink RX5 153 "FishStepsModel" "ringed" "I"]
set_option maxRecDepth 100000 in
theorem zW15_s : ∀ w ∈ zW15, w ∈ zBig := zBig_l (ns := [580, 0, 0, 0, 0, 0, 0, 0, 0, 1, 0, 0, 0, 0, 0, 0, 0, 0, 0, 0, 0, 0, 0, 0, 0]) rfl rfl
theorem m_o_yX4_drop : Cond.code yX4_drop cX4_drop 2 (some .int) ∈ zBig := zW15_s _ (List.mem_of_getElem? (i := 0) rfl)
theorem m_m_RL_125 : Cond.methodLink RL 125 yX4_item ∈ zBig := zW15_s _ (List.mem_of_getElem? (i := 1) rfl)
theorem m_i_yX4_item : Cond.instanceMethod yX4_item ∈ zBig := zW15_s _ (List.mem_of_getElem? (i := 2) rfl)
theorem m_e_yX4_item : Cond.selects RX4 yX4_item yX4_item ∈ zBig := zW15_s _ (List.mem_of_getElem? (i := 3) rfl)
theorem m_o_yX4_item : Cond.code yX4_item cX4_item 7 (some .int) ∈ zBig := zW15_s _ (List.mem_of_getElem? (i := 4) rfl)
theorem m_m_RL_130 : Cond.methodLink RL 130 yX4_copy ∈ zBig := zW15_s _ (List.mem_of_getElem? (i := 5) rfl)
theorem m_i_yX4_copy : Cond.instanceMethod yX4_copy ∈ zBig := zW15_s _ (List.mem_of_getElem? (i := 6) rfl)
theorem m_e_yX4_copy : Cond.selects RX4 yX4_copy yX4_copy ∈ zBig := zW15_s _ (List.mem_of_getElem? (i := 7) rfl)
theorem m_o_yX4_copy : Cond.code yX4_copy cX4_copy 6 (some .int) ∈ zBig := zW15_s _ (List.mem_of_getElem? (i := 8) rfl)
theorem m_c_RL_10 : Cond.classLink RL 10 RX5 ∈ zBig := zW15_s _ (List.mem_of_getElem? (i := 9) rfl)
theorem m_b_RX5 : Cond.instantiable RX5 27 ∈ zBig := zW15_s _ (List.mem_of_getElem? (i := 10) rfl)
theorem m_m_RL_12 : Cond.methodLink RL 12 yX5_init ∈ zBig := zW15_s _ (List.mem_of_getElem? (i := 11) rfl)
theorem m_i_yX5_init : Cond.instanceMethod yX5_init ∈ zBig := zW15_s _ (List.mem_of_getElem? (i := 12) rfl)
theorem m_o_yX5_init : Cond.code yX5_init cX5_init 2 none ∈ zBig := zW15_s _ (List.mem_of_getElem? (i := 13) rfl)
theorem m_m_RX5_1 : Cond.methodLink RX5 1 objectInit ∈ zBig := zW15_s _ (List.mem_of_getElem? (i := 14) rfl)
theorem m_f_RX5_7 : Cond.fieldLink RX5 7 "FishStepsModel" "w" "[I" ∈ zBig := zW15_s _ (List.mem_of_getElem? (i := 15) rfl)
theorem m_f_RX5_221 : Cond.fieldLink RX5 221 "FishStepsModel" "isKept" "Z" ∈ zBig := zW15_s _ (List.mem_of_getElem? (i := 16) rfl)
theorem m_f_RX5_13 : Cond.fieldLink RX5 13 "FishStepsModel" "tape" "[I" ∈ zBig := zW15_s _ (List.mem_of_getElem? (i := 17) rfl)
theorem m_f_RX5_114 : Cond.fieldLink RX5 114 "FishStepsModel" "taped" "I" ∈ zBig := zW15_s _ (List.mem_of_getElem? (i := 18) rfl)
theorem m_f_RX5_118 : Cond.fieldLink RX5 118 "FishStepsModel" "at" "I" ∈ zBig := zW15_s _ (List.mem_of_getElem? (i := 19) rfl)
theorem m_f_RX5_16 : Cond.fieldLink RX5 16 "FishStepsModel" "meant" "[I" ∈ zBig := zW15_s _ (List.mem_of_getElem? (i := 20) rfl)
theorem m_f_RX5_19 : Cond.fieldLink RX5 19 "FishStepsModel" "kinds" "[I" ∈ zBig := zW15_s _ (List.mem_of_getElem? (i := 21) rfl)
theorem m_f_RX5_22 : Cond.fieldLink RX5 22 "FishStepsModel" "row" "[I" ∈ zBig := zW15_s _ (List.mem_of_getElem? (i := 22) rfl)
theorem m_f_RX5_25 : Cond.fieldLink RX5 25 "FishStepsModel" "margins" "[I" ∈ zBig := zW15_s _ (List.mem_of_getElem? (i := 23) rfl)
theorem m_f_RX5_153 : Cond.fieldLink RX5 153 "FishStepsModel" "ringed" "I" ∈ zBig := zW15_s _ (List.mem_of_getElem? (i := 24) rfl)
def zW16 : List Cond := [Cond.fieldLink RX5 28 "FishStepsModel" "purses" "[I", Cond.fieldLink RX5 31 "FishStepsModel" "rooms" "[I", Cond.fieldLink RX5 34 "FishStepsModel" "gains" "[I", Cond.fieldLink RX5 147 "FishStepsModel" "all" "I", Cond.fieldLink RX5 37 "FishStepsModel" "whos" "[I", Cond.fieldLink RX5 40 "FishStepsModel" "prices" "[I", Cond.fieldLink RX5 43 "FishStepsModel" "breaths" "[I", Cond.fieldLink RX5 46 "FishStepsModel" "bells" "[I", Cond.fieldLink RX5 49 "FishStepsModel" "lastPrices" "[I", Cond.fieldLink RX5 52 "FishStepsModel" "coughed" "[I", Cond.fieldLink RX5 55 "FishStepsModel" "could" "[I", Cond.fieldLink RX5 58 "FishStepsModel" "byRows" "[I", Cond.fieldLink RX5 61 "FishStepsModel" "bestRow" "[I", Cond.fieldLink RX5 64 "FishStepsModel" "lanes" "[I", Cond.fieldLink RX5 67 "FishStepsModel" "sizes" "[I", Cond.fieldLink RX5 70 "FishStepsModel" "items" "[J", Cond.fieldLink RX5 74 "FishStepsModel" "hands" "[J", Cond.methodLink RL 17 yX5_rule, Cond.instanceMethod yX5_rule, Cond.selects RX5 yX5_rule yX5_rule, Cond.code yX5_rule cX5_rule 4 (some .int), Cond.constantLong RX5 81 4, Cond.methodLink RX5 77 yX5_in, Cond.static yX5_in, Cond.code yX5_in cX5_in 6 (some .boolean)]
set_option maxRecDepth 100000 in
theorem zW16_s : ∀ w ∈ zW16, w ∈ zBig := zBig_l (ns := [606, 0, 0, 0, 0, 0, 0, 0, 0, 0, 0, 0, 0, 0, 0, 0, 0, 55, 0, 0, 0, 0, 0, 0, 0]) rfl rfl
theorem m_f_RX5_28 : Cond.fieldLink RX5 28 "FishStepsModel" "purses" "[I" ∈ zBig := zW16_s _ (List.mem_of_getElem? (i := 0) rfl)
theorem m_f_RX5_31 : Cond.fieldLink RX5 31 "FishStepsModel" "rooms" "[I" ∈ zBig := zW16_s _ (List.mem_of_getElem? (i := 1) rfl)
theorem m_f_RX5_34 : Cond.fieldLink RX5 34 "FishStepsModel" "gains" "[I" ∈ zBig := zW16_s _ (List.mem_of_getElem? (i := 2) rfl)
theorem m_f_RX5_147 : Cond.fieldLink RX5 147 "FishStepsModel" "all" "I" ∈ zBig := zW16_s _ (List.mem_of_getElem? (i := 3) rfl)
theorem m_f_RX5_37 : Cond.fieldLink RX5 37 "FishStepsModel" "whos" "[I" ∈ zBig := zW16_s _ (List.mem_of_getElem? (i := 4) rfl)
theorem m_f_RX5_40 : Cond.fieldLink RX5 40 "FishStepsModel" "prices" "[I" ∈ zBig := zW16_s _ (List.mem_of_getElem? (i := 5) rfl)
theorem m_f_RX5_43 : Cond.fieldLink RX5 43 "FishStepsModel" "breaths" "[I" ∈ zBig := zW16_s _ (List.mem_of_getElem? (i := 6) rfl)
theorem m_f_RX5_46 : Cond.fieldLink RX5 46 "FishStepsModel" "bells" "[I" ∈ zBig := zW16_s _ (List.mem_of_getElem? (i := 7) rfl)
theorem m_f_RX5_49 : Cond.fieldLink RX5 49 "FishStepsModel" "lastPrices" "[I" ∈ zBig := zW16_s _ (List.mem_of_getElem? (i := 8) rfl)
theorem m_f_RX5_52 : Cond.fieldLink RX5 52 "FishStepsModel" "coughed" "[I" ∈ zBig := zW16_s _ (List.mem_of_getElem? (i := 9) rfl)
theorem m_f_RX5_55 : Cond.fieldLink RX5 55 "FishStepsModel" "could" "[I" ∈ zBig := zW16_s _ (List.mem_of_getElem? (i := 10) rfl)
theorem m_f_RX5_58 : Cond.fieldLink RX5 58 "FishStepsModel" "byRows" "[I" ∈ zBig := zW16_s _ (List.mem_of_getElem? (i := 11) rfl)
theorem m_f_RX5_61 : Cond.fieldLink RX5 61 "FishStepsModel" "bestRow" "[I" ∈ zBig := zW16_s _ (List.mem_of_getElem? (i := 12) rfl)
theorem m_f_RX5_64 : Cond.fieldLink RX5 64 "FishStepsModel" "lanes" "[I" ∈ zBig := zW16_s _ (List.mem_of_getElem? (i := 13) rfl)
theorem m_f_RX5_67 : Cond.fieldLink RX5 67 "FishStepsModel" "sizes" "[I" ∈ zBig := zW16_s _ (List.mem_of_getElem? (i := 14) rfl)
theorem m_f_RX5_70 : Cond.fieldLink RX5 70 "FishStepsModel" "items" "[J" ∈ zBig := zW16_s _ (List.mem_of_getElem? (i := 15) rfl)
theorem m_f_RX5_74 : Cond.fieldLink RX5 74 "FishStepsModel" "hands" "[J" ∈ zBig := zW16_s _ (List.mem_of_getElem? (i := 16) rfl)
theorem m_m_RL_17 : Cond.methodLink RL 17 yX5_rule ∈ zBig := zW16_s _ (List.mem_of_getElem? (i := 17) rfl)
theorem m_i_yX5_rule : Cond.instanceMethod yX5_rule ∈ zBig := zW16_s _ (List.mem_of_getElem? (i := 18) rfl)
theorem m_e_yX5_rule : Cond.selects RX5 yX5_rule yX5_rule ∈ zBig := zW16_s _ (List.mem_of_getElem? (i := 19) rfl)
theorem m_o_yX5_rule : Cond.code yX5_rule cX5_rule 4 (some .int) ∈ zBig := zW16_s _ (List.mem_of_getElem? (i := 20) rfl)
theorem m_k_RX5_81 : Cond.constantLong RX5 81 4 ∈ zBig := zW16_s _ (List.mem_of_getElem? (i := 21) rfl)
theorem m_m_RX5_77 : Cond.methodLink RX5 77 yX5_in ∈ zBig := zW16_s _ (List.mem_of_getElem? (i := 22) rfl)
theorem m_s_yX5_in : Cond.static yX5_in ∈ zBig := zW16_s _ (List.mem_of_getElem? (i := 23) rfl)
theorem m_o_yX5_in : Cond.code yX5_in cX5_in 6 (some .boolean) ∈ zBig := zW16_s _ (List.mem_of_getElem? (i := 24) rfl)
def zW17 : List Cond := [Cond.methodLink RX5 83 yX5_leastOf, Cond.static yX5_leastOf, Cond.code yX5_leastOf cX5_leastOf 1 (some .int), Cond.methodLink RX5 87 yX5_mostOf, Cond.static yX5_mostOf, Cond.code yX5_mostOf cX5_mostOf 1 (some .int), Cond.methodLink RL 21 yX5_buyer, Cond.instanceMethod yX5_buyer, Cond.selects RX5 yX5_buyer yX5_buyer, Cond.code yX5_buyer cX5_buyer 5 (some .int), Cond.constantLong RX5 90 999, Cond.methodLink RL 26 yX5_worth, Cond.instanceMethod yX5_worth, Cond.selects RX5 yX5_worth yX5_worth, Cond.code yX5_worth cX5_worth 6 (some .int), Cond.methodLink RX5 92 yX5_isBuyer, Cond.instanceMethod yX5_isBuyer, Cond.code yX5_isBuyer cX5_isBuyer 2 (some .boolean), Cond.constantLong RX5 96 3, Cond.constantLong RX5 98 99, Cond.methodLink RL 30 yX5_margin, Cond.instanceMethod yX5_margin, Cond.selects RX5 yX5_margin yX5_margin, Cond.code yX5_margin cX5_margin 4 (some .int), Cond.constantLong RX5 100 40]
set_option maxRecDepth 100000 in
theorem zW17_s : ∀ w ∈ zW17, w ∈ zBig := zBig_l (ns := [686, 0, 0, 0, 0, 0, 0, 0, 0, 0, 0, 0, 0, 0, 0, 0, 1, 0, 0, 0, 0, 0, 0, 0, 0]) rfl rfl
theorem m_m_RX5_83 : Cond.methodLink RX5 83 yX5_leastOf ∈ zBig := zW17_s _ (List.mem_of_getElem? (i := 0) rfl)
theorem m_s_yX5_leastOf : Cond.static yX5_leastOf ∈ zBig := zW17_s _ (List.mem_of_getElem? (i := 1) rfl)
theorem m_o_yX5_leastOf : Cond.code yX5_leastOf cX5_leastOf 1 (some .int) ∈ zBig := zW17_s _ (List.mem_of_getElem? (i := 2) rfl)
theorem m_m_RX5_87 : Cond.methodLink RX5 87 yX5_mostOf ∈ zBig := zW17_s _ (List.mem_of_getElem? (i := 3) rfl)
theorem m_s_yX5_mostOf : Cond.static yX5_mostOf ∈ zBig := zW17_s _ (List.mem_of_getElem? (i := 4) rfl)
theorem m_o_yX5_mostOf : Cond.code yX5_mostOf cX5_mostOf 1 (some .int) ∈ zBig := zW17_s _ (List.mem_of_getElem? (i := 5) rfl)
theorem m_m_RL_21 : Cond.methodLink RL 21 yX5_buyer ∈ zBig := zW17_s _ (List.mem_of_getElem? (i := 6) rfl)
theorem m_i_yX5_buyer : Cond.instanceMethod yX5_buyer ∈ zBig := zW17_s _ (List.mem_of_getElem? (i := 7) rfl)
theorem m_e_yX5_buyer : Cond.selects RX5 yX5_buyer yX5_buyer ∈ zBig := zW17_s _ (List.mem_of_getElem? (i := 8) rfl)
theorem m_o_yX5_buyer : Cond.code yX5_buyer cX5_buyer 5 (some .int) ∈ zBig := zW17_s _ (List.mem_of_getElem? (i := 9) rfl)
theorem m_k_RX5_90 : Cond.constantLong RX5 90 999 ∈ zBig := zW17_s _ (List.mem_of_getElem? (i := 10) rfl)
theorem m_m_RL_26 : Cond.methodLink RL 26 yX5_worth ∈ zBig := zW17_s _ (List.mem_of_getElem? (i := 11) rfl)
theorem m_i_yX5_worth : Cond.instanceMethod yX5_worth ∈ zBig := zW17_s _ (List.mem_of_getElem? (i := 12) rfl)
theorem m_e_yX5_worth : Cond.selects RX5 yX5_worth yX5_worth ∈ zBig := zW17_s _ (List.mem_of_getElem? (i := 13) rfl)
theorem m_o_yX5_worth : Cond.code yX5_worth cX5_worth 6 (some .int) ∈ zBig := zW17_s _ (List.mem_of_getElem? (i := 14) rfl)
theorem m_m_RX5_92 : Cond.methodLink RX5 92 yX5_isBuyer ∈ zBig := zW17_s _ (List.mem_of_getElem? (i := 15) rfl)
theorem m_i_yX5_isBuyer : Cond.instanceMethod yX5_isBuyer ∈ zBig := zW17_s _ (List.mem_of_getElem? (i := 16) rfl)
theorem m_o_yX5_isBuyer : Cond.code yX5_isBuyer cX5_isBuyer 2 (some .boolean) ∈ zBig := zW17_s _ (List.mem_of_getElem? (i := 17) rfl)
theorem m_k_RX5_96 : Cond.constantLong RX5 96 3 ∈ zBig := zW17_s _ (List.mem_of_getElem? (i := 18) rfl)
theorem m_k_RX5_98 : Cond.constantLong RX5 98 99 ∈ zBig := zW17_s _ (List.mem_of_getElem? (i := 19) rfl)
theorem m_m_RL_30 : Cond.methodLink RL 30 yX5_margin ∈ zBig := zW17_s _ (List.mem_of_getElem? (i := 20) rfl)
theorem m_i_yX5_margin : Cond.instanceMethod yX5_margin ∈ zBig := zW17_s _ (List.mem_of_getElem? (i := 21) rfl)
theorem m_e_yX5_margin : Cond.selects RX5 yX5_margin yX5_margin ∈ zBig := zW17_s _ (List.mem_of_getElem? (i := 22) rfl)
theorem m_o_yX5_margin : Cond.code yX5_margin cX5_margin 4 (some .int) ∈ zBig := zW17_s _ (List.mem_of_getElem? (i := 23) rfl)
theorem m_k_RX5_100 : Cond.constantLong RX5 100 40 ∈ zBig := zW17_s _ (List.mem_of_getElem? (i := 24) rfl)
def zW18 : List Cond := [Cond.methodLink RL 34 yX5_told, Cond.instanceMethod yX5_told, Cond.selects RX5 yX5_told yX5_told, Cond.code yX5_told cX5_told 3 (some .int), Cond.constantLong RX5 102 6, Cond.constant RX5 104 (-100001), Cond.methodLink RL 38 yX5_earn, Cond.instanceMethod yX5_earn, Cond.selects RX5 yX5_earn yX5_earn, Cond.code yX5_earn cX5_earn 3 (some .int), Cond.constant RX5 105 (-100003), Cond.methodLink RL 45 yX5_type, Cond.instanceMethod yX5_type, Cond.selects RX5 yX5_type yX5_type, Cond.code yX5_type cX5_type 5 (some .int), Cond.constantLong RX5 106 8, Cond.constantLong RX5 108 255, Cond.constantLong RX5 110 32, Cond.constantLong RX5 112 126, Cond.methodLink RL 50 yX5_rules, Cond.instanceMethod yX5_rules, Cond.selects RX5 yX5_rules yX5_rules, Cond.code yX5_rules cX5_rules 4 (some .int), Cond.methodLink RX5 136 yX5_lawFault, Cond.instanceMethod yX5_lawFault]
set_option maxRecDepth 100000 in
theorem zW18_s : ∀ w ∈ zW18, w ∈ zBig := zBig_l (ns := [712, 0, 0, 0, 0, 0, 0, 0, 0, 0, 0, 0, 0, 0, 0, 0, 0, 0, 0, 0, 0, 0, 0, 0, 1]) rfl rfl
theorem m_m_RL_34 : Cond.methodLink RL 34 yX5_told ∈ zBig := zW18_s _ (List.mem_of_getElem? (i := 0) rfl)
theorem m_i_yX5_told : Cond.instanceMethod yX5_told ∈ zBig := zW18_s _ (List.mem_of_getElem? (i := 1) rfl)
theorem m_e_yX5_told : Cond.selects RX5 yX5_told yX5_told ∈ zBig := zW18_s _ (List.mem_of_getElem? (i := 2) rfl)
theorem m_o_yX5_told : Cond.code yX5_told cX5_told 3 (some .int) ∈ zBig := zW18_s _ (List.mem_of_getElem? (i := 3) rfl)
theorem m_k_RX5_102 : Cond.constantLong RX5 102 6 ∈ zBig := zW18_s _ (List.mem_of_getElem? (i := 4) rfl)
theorem m_k_RX5_104 : Cond.constant RX5 104 (-100001) ∈ zBig := zW18_s _ (List.mem_of_getElem? (i := 5) rfl)
theorem m_m_RL_38 : Cond.methodLink RL 38 yX5_earn ∈ zBig := zW18_s _ (List.mem_of_getElem? (i := 6) rfl)
theorem m_i_yX5_earn : Cond.instanceMethod yX5_earn ∈ zBig := zW18_s _ (List.mem_of_getElem? (i := 7) rfl)
theorem m_e_yX5_earn : Cond.selects RX5 yX5_earn yX5_earn ∈ zBig := zW18_s _ (List.mem_of_getElem? (i := 8) rfl)
theorem m_o_yX5_earn : Cond.code yX5_earn cX5_earn 3 (some .int) ∈ zBig := zW18_s _ (List.mem_of_getElem? (i := 9) rfl)
theorem m_k_RX5_105 : Cond.constant RX5 105 (-100003) ∈ zBig := zW18_s _ (List.mem_of_getElem? (i := 10) rfl)
theorem m_m_RL_45 : Cond.methodLink RL 45 yX5_type ∈ zBig := zW18_s _ (List.mem_of_getElem? (i := 11) rfl)
theorem m_i_yX5_type : Cond.instanceMethod yX5_type ∈ zBig := zW18_s _ (List.mem_of_getElem? (i := 12) rfl)
theorem m_e_yX5_type : Cond.selects RX5 yX5_type yX5_type ∈ zBig := zW18_s _ (List.mem_of_getElem? (i := 13) rfl)
theorem m_o_yX5_type : Cond.code yX5_type cX5_type 5 (some .int) ∈ zBig := zW18_s _ (List.mem_of_getElem? (i := 14) rfl)
theorem m_k_RX5_106 : Cond.constantLong RX5 106 8 ∈ zBig := zW18_s _ (List.mem_of_getElem? (i := 15) rfl)
theorem m_k_RX5_108 : Cond.constantLong RX5 108 255 ∈ zBig := zW18_s _ (List.mem_of_getElem? (i := 16) rfl)
theorem m_k_RX5_110 : Cond.constantLong RX5 110 32 ∈ zBig := zW18_s _ (List.mem_of_getElem? (i := 17) rfl)
theorem m_k_RX5_112 : Cond.constantLong RX5 112 126 ∈ zBig := zW18_s _ (List.mem_of_getElem? (i := 18) rfl)
theorem m_m_RL_50 : Cond.methodLink RL 50 yX5_rules ∈ zBig := zW18_s _ (List.mem_of_getElem? (i := 19) rfl)
theorem m_i_yX5_rules : Cond.instanceMethod yX5_rules ∈ zBig := zW18_s _ (List.mem_of_getElem? (i := 20) rfl)
theorem m_e_yX5_rules : Cond.selects RX5 yX5_rules yX5_rules ∈ zBig := zW18_s _ (List.mem_of_getElem? (i := 21) rfl)
theorem m_o_yX5_rules : Cond.code yX5_rules cX5_rules 4 (some .int) ∈ zBig := zW18_s _ (List.mem_of_getElem? (i := 22) rfl)
theorem m_m_RX5_136 : Cond.methodLink RX5 136 yX5_lawFault ∈ zBig := zW18_s _ (List.mem_of_getElem? (i := 23) rfl)
theorem m_i_yX5_lawFault : Cond.instanceMethod yX5_lawFault ∈ zBig := zW18_s _ (List.mem_of_getElem? (i := 24) rfl)
def zW19 : List Cond := [Cond.code yX5_lawFault cX5_lawFault 5 (some .int), Cond.methodLink RX5 121 yX5_ahead, Cond.instanceMethod yX5_ahead, Cond.code yX5_ahead cX5_ahead 1 (some .int), Cond.methodLink RX5 125 yX5_ruleOf, Cond.static yX5_ruleOf, Cond.code yX5_ruleOf cX5_ruleOf 1 (some .int), Cond.constantLong RX5 128 48, Cond.constantLong RX5 130 57, Cond.methodLink RX5 132 yX5_lesser, Cond.static yX5_lesser, Cond.code yX5_lesser cX5_lesser 2 (some .int), Cond.methodLink RL 54 yX5_lots, Cond.instanceMethod yX5_lots, Cond.selects RX5 yX5_lots yX5_lots, Cond.code yX5_lots cX5_lots 4 (some .int), Cond.constantLong RX5 139 51, Cond.methodLink RL 59 yX5_count, Cond.instanceMethod yX5_count, Cond.selects RX5 yX5_count yX5_count, Cond.code yX5_count cX5_count 2 (some .int), Cond.methodLink RX5 141 yX5_owing, Cond.instanceMethod yX5_owing, Cond.code yX5_owing cX5_owing 3 (some .int), Cond.methodLink RX5 144 yX5_kindsToldOf]
set_option maxRecDepth 100000 in
theorem zW19_s : ∀ w ∈ zW19, w ∈ zBig := zBig_l (ns := [738, 0, 1, 0, 0, 0, 0, 0, 0, 0, 0, 0, 0, 0, 0, 0, 0, 0, 0, 0, 0, 0, 1, 0, 0]) rfl rfl
theorem m_o_yX5_lawFault : Cond.code yX5_lawFault cX5_lawFault 5 (some .int) ∈ zBig := zW19_s _ (List.mem_of_getElem? (i := 0) rfl)
theorem m_m_RX5_121 : Cond.methodLink RX5 121 yX5_ahead ∈ zBig := zW19_s _ (List.mem_of_getElem? (i := 1) rfl)
theorem m_i_yX5_ahead : Cond.instanceMethod yX5_ahead ∈ zBig := zW19_s _ (List.mem_of_getElem? (i := 2) rfl)
theorem m_o_yX5_ahead : Cond.code yX5_ahead cX5_ahead 1 (some .int) ∈ zBig := zW19_s _ (List.mem_of_getElem? (i := 3) rfl)
theorem m_m_RX5_125 : Cond.methodLink RX5 125 yX5_ruleOf ∈ zBig := zW19_s _ (List.mem_of_getElem? (i := 4) rfl)
theorem m_s_yX5_ruleOf : Cond.static yX5_ruleOf ∈ zBig := zW19_s _ (List.mem_of_getElem? (i := 5) rfl)
theorem m_o_yX5_ruleOf : Cond.code yX5_ruleOf cX5_ruleOf 1 (some .int) ∈ zBig := zW19_s _ (List.mem_of_getElem? (i := 6) rfl)
theorem m_k_RX5_128 : Cond.constantLong RX5 128 48 ∈ zBig := zW19_s _ (List.mem_of_getElem? (i := 7) rfl)
theorem m_k_RX5_130 : Cond.constantLong RX5 130 57 ∈ zBig := zW19_s _ (List.mem_of_getElem? (i := 8) rfl)
theorem m_m_RX5_132 : Cond.methodLink RX5 132 yX5_lesser ∈ zBig := zW19_s _ (List.mem_of_getElem? (i := 9) rfl)
theorem m_s_yX5_lesser : Cond.static yX5_lesser ∈ zBig := zW19_s _ (List.mem_of_getElem? (i := 10) rfl)
theorem m_o_yX5_lesser : Cond.code yX5_lesser cX5_lesser 2 (some .int) ∈ zBig := zW19_s _ (List.mem_of_getElem? (i := 11) rfl)
theorem m_m_RL_54 : Cond.methodLink RL 54 yX5_lots ∈ zBig := zW19_s _ (List.mem_of_getElem? (i := 12) rfl)
theorem m_i_yX5_lots : Cond.instanceMethod yX5_lots ∈ zBig := zW19_s _ (List.mem_of_getElem? (i := 13) rfl)
theorem m_e_yX5_lots : Cond.selects RX5 yX5_lots yX5_lots ∈ zBig := zW19_s _ (List.mem_of_getElem? (i := 14) rfl)
theorem m_o_yX5_lots : Cond.code yX5_lots cX5_lots 4 (some .int) ∈ zBig := zW19_s _ (List.mem_of_getElem? (i := 15) rfl)
theorem m_k_RX5_139 : Cond.constantLong RX5 139 51 ∈ zBig := zW19_s _ (List.mem_of_getElem? (i := 16) rfl)
theorem m_m_RL_59 : Cond.methodLink RL 59 yX5_count ∈ zBig := zW19_s _ (List.mem_of_getElem? (i := 17) rfl)
theorem m_i_yX5_count : Cond.instanceMethod yX5_count ∈ zBig := zW19_s _ (List.mem_of_getElem? (i := 18) rfl)
theorem m_e_yX5_count : Cond.selects RX5 yX5_count yX5_count ∈ zBig := zW19_s _ (List.mem_of_getElem? (i := 19) rfl)
theorem m_o_yX5_count : Cond.code yX5_count cX5_count 2 (some .int) ∈ zBig := zW19_s _ (List.mem_of_getElem? (i := 20) rfl)
theorem m_m_RX5_141 : Cond.methodLink RX5 141 yX5_owing ∈ zBig := zW19_s _ (List.mem_of_getElem? (i := 21) rfl)
theorem m_i_yX5_owing : Cond.instanceMethod yX5_owing ∈ zBig := zW19_s _ (List.mem_of_getElem? (i := 22) rfl)
theorem m_o_yX5_owing : Cond.code yX5_owing cX5_owing 3 (some .int) ∈ zBig := zW19_s _ (List.mem_of_getElem? (i := 23) rfl)
theorem m_m_RX5_144 : Cond.methodLink RX5 144 yX5_kindsToldOf ∈ zBig := zW19_s _ (List.mem_of_getElem? (i := 24) rfl)
def zW20 : List Cond := [Cond.instanceMethod yX5_kindsToldOf, Cond.code yX5_kindsToldOf cX5_kindsToldOf 3 (some .int), Cond.methodLink RL 63 yX5_lot, Cond.instanceMethod yX5_lot, Cond.selects RX5 yX5_lot yX5_lot, Cond.code yX5_lot cX5_lot 3 (some .int), Cond.methodLink RX5 194 yX5_hold, Cond.instanceMethod yX5_hold, Cond.code yX5_hold cX5_hold 3 none, Cond.methodLink RX5 191 yX5_goThrough, Cond.instanceMethod yX5_goThrough, Cond.code yX5_goThrough cX5_goThrough 3 none, Cond.methodLink RX5 184 yX5_openMorning, Cond.instanceMethod yX5_openMorning, Cond.code yX5_openMorning cX5_openMorning 2 none, Cond.methodLink RX5 187 yX5_cry, Cond.instanceMethod yX5_cry, Cond.code yX5_cry cX5_cry 13 none, Cond.methodLink RX5 172 yX5_listening, Cond.instanceMethod yX5_listening, Cond.code yX5_listening cX5_listening 5 (some .int), Cond.methodLink RX5 156 yX5_has, Cond.static yX5_has, Cond.code yX5_has cX5_has 2 (some .boolean), Cond.methodLink RX5 150 yX5_worthOf]
set_option maxRecDepth 100000 in
theorem zW20_s : ∀ w ∈ zW20, w ∈ zBig := zBig_l (ns := [766, 0, 0, 0, 0, 0, 0, 1, 0, 0, 1, 0, 0, 1, 0, 0, 1, 0, 0, 1, 0, 0, 0, 0, 0]) rfl rfl
theorem m_i_yX5_kindsToldOf : Cond.instanceMethod yX5_kindsToldOf ∈ zBig := zW20_s _ (List.mem_of_getElem? (i := 0) rfl)
theorem m_o_yX5_kindsToldOf : Cond.code yX5_kindsToldOf cX5_kindsToldOf 3 (some .int) ∈ zBig := zW20_s _ (List.mem_of_getElem? (i := 1) rfl)
theorem m_m_RL_63 : Cond.methodLink RL 63 yX5_lot ∈ zBig := zW20_s _ (List.mem_of_getElem? (i := 2) rfl)
theorem m_i_yX5_lot : Cond.instanceMethod yX5_lot ∈ zBig := zW20_s _ (List.mem_of_getElem? (i := 3) rfl)
theorem m_e_yX5_lot : Cond.selects RX5 yX5_lot yX5_lot ∈ zBig := zW20_s _ (List.mem_of_getElem? (i := 4) rfl)
theorem m_o_yX5_lot : Cond.code yX5_lot cX5_lot 3 (some .int) ∈ zBig := zW20_s _ (List.mem_of_getElem? (i := 5) rfl)
theorem m_m_RX5_194 : Cond.methodLink RX5 194 yX5_hold ∈ zBig := zW20_s _ (List.mem_of_getElem? (i := 6) rfl)
theorem m_i_yX5_hold : Cond.instanceMethod yX5_hold ∈ zBig := zW20_s _ (List.mem_of_getElem? (i := 7) rfl)
theorem m_o_yX5_hold : Cond.code yX5_hold cX5_hold 3 none ∈ zBig := zW20_s _ (List.mem_of_getElem? (i := 8) rfl)
theorem m_m_RX5_191 : Cond.methodLink RX5 191 yX5_goThrough ∈ zBig := zW20_s _ (List.mem_of_getElem? (i := 9) rfl)
theorem m_i_yX5_goThrough : Cond.instanceMethod yX5_goThrough ∈ zBig := zW20_s _ (List.mem_of_getElem? (i := 10) rfl)
theorem m_o_yX5_goThrough : Cond.code yX5_goThrough cX5_goThrough 3 none ∈ zBig := zW20_s _ (List.mem_of_getElem? (i := 11) rfl)
theorem m_m_RX5_184 : Cond.methodLink RX5 184 yX5_openMorning ∈ zBig := zW20_s _ (List.mem_of_getElem? (i := 12) rfl)
theorem m_i_yX5_openMorning : Cond.instanceMethod yX5_openMorning ∈ zBig := zW20_s _ (List.mem_of_getElem? (i := 13) rfl)
theorem m_o_yX5_openMorning : Cond.code yX5_openMorning cX5_openMorning 2 none ∈ zBig := zW20_s _ (List.mem_of_getElem? (i := 14) rfl)
theorem m_m_RX5_187 : Cond.methodLink RX5 187 yX5_cry ∈ zBig := zW20_s _ (List.mem_of_getElem? (i := 15) rfl)
theorem m_i_yX5_cry : Cond.instanceMethod yX5_cry ∈ zBig := zW20_s _ (List.mem_of_getElem? (i := 16) rfl)
theorem m_o_yX5_cry : Cond.code yX5_cry cX5_cry 13 none ∈ zBig := zW20_s _ (List.mem_of_getElem? (i := 17) rfl)
theorem m_m_RX5_172 : Cond.methodLink RX5 172 yX5_listening ∈ zBig := zW20_s _ (List.mem_of_getElem? (i := 18) rfl)
theorem m_i_yX5_listening : Cond.instanceMethod yX5_listening ∈ zBig := zW20_s _ (List.mem_of_getElem? (i := 19) rfl)
theorem m_o_yX5_listening : Cond.code yX5_listening cX5_listening 5 (some .int) ∈ zBig := zW20_s _ (List.mem_of_getElem? (i := 20) rfl)
theorem m_m_RX5_156 : Cond.methodLink RX5 156 yX5_has ∈ zBig := zW20_s _ (List.mem_of_getElem? (i := 21) rfl)
theorem m_s_yX5_has : Cond.static yX5_has ∈ zBig := zW20_s _ (List.mem_of_getElem? (i := 22) rfl)
theorem m_o_yX5_has : Cond.code yX5_has cX5_has 2 (some .boolean) ∈ zBig := zW20_s _ (List.mem_of_getElem? (i := 23) rfl)
theorem m_m_RX5_150 : Cond.methodLink RX5 150 yX5_worthOf ∈ zBig := zW20_s _ (List.mem_of_getElem? (i := 24) rfl)
def zW21 : List Cond := [Cond.instanceMethod yX5_worthOf, Cond.code yX5_worthOf cX5_worthOf 3 (some .int), Cond.constant RX5 175 100000, Cond.methodLink RX5 176 yX5_waits, Cond.instanceMethod yX5_waits, Cond.code yX5_waits cX5_waits 7 (some .int), Cond.methodLink RX5 160 yX5_marginOf, Cond.instanceMethod yX5_marginOf, Cond.code yX5_marginOf cX5_marginOf 2 (some .int), Cond.methodLink RX5 163 yX5_payOf, Cond.instanceMethod yX5_payOf, Cond.code yX5_payOf cX5_payOf 2 (some .int), Cond.methodLink RX5 166 yX5_up, Cond.static yX5_up, Cond.code yX5_up cX5_up 2 (some .int), Cond.methodLink RX5 169 yX5_greater, Cond.static yX5_greater, Cond.code yX5_greater cX5_greater 2 (some .int), Cond.methodLink RX5 180 yX5_sell, Cond.instanceMethod yX5_sell, Cond.code yX5_sell cX5_sell 4 none, Cond.methodLink RL 67 yX5_gain, Cond.instanceMethod yX5_gain, Cond.selects RX5 yX5_gain yX5_gain, Cond.code yX5_gain cX5_gain 2 (some .int)]
set_option maxRecDepth 100000 in
theorem zW21_s : ∀ w ∈ zW21, w ∈ zBig := zBig_l (ns := [797, 0, 0, 0, 1, 0, 0, 1, 0, 0, 1, 0, 0, 0, 0, 0, 0, 0, 0, 1, 0, 0, 0, 0, 0]) rfl rfl
theorem m_i_yX5_worthOf : Cond.instanceMethod yX5_worthOf ∈ zBig := zW21_s _ (List.mem_of_getElem? (i := 0) rfl)
theorem m_o_yX5_worthOf : Cond.code yX5_worthOf cX5_worthOf 3 (some .int) ∈ zBig := zW21_s _ (List.mem_of_getElem? (i := 1) rfl)
theorem m_k_RX5_175 : Cond.constant RX5 175 100000 ∈ zBig := zW21_s _ (List.mem_of_getElem? (i := 2) rfl)
theorem m_m_RX5_176 : Cond.methodLink RX5 176 yX5_waits ∈ zBig := zW21_s _ (List.mem_of_getElem? (i := 3) rfl)
theorem m_i_yX5_waits : Cond.instanceMethod yX5_waits ∈ zBig := zW21_s _ (List.mem_of_getElem? (i := 4) rfl)
theorem m_o_yX5_waits : Cond.code yX5_waits cX5_waits 7 (some .int) ∈ zBig := zW21_s _ (List.mem_of_getElem? (i := 5) rfl)
theorem m_m_RX5_160 : Cond.methodLink RX5 160 yX5_marginOf ∈ zBig := zW21_s _ (List.mem_of_getElem? (i := 6) rfl)
theorem m_i_yX5_marginOf : Cond.instanceMethod yX5_marginOf ∈ zBig := zW21_s _ (List.mem_of_getElem? (i := 7) rfl)
theorem m_o_yX5_marginOf : Cond.code yX5_marginOf cX5_marginOf 2 (some .int) ∈ zBig := zW21_s _ (List.mem_of_getElem? (i := 8) rfl)
theorem m_m_RX5_163 : Cond.methodLink RX5 163 yX5_payOf ∈ zBig := zW21_s _ (List.mem_of_getElem? (i := 9) rfl)
theorem m_i_yX5_payOf : Cond.instanceMethod yX5_payOf ∈ zBig := zW21_s _ (List.mem_of_getElem? (i := 10) rfl)
theorem m_o_yX5_payOf : Cond.code yX5_payOf cX5_payOf 2 (some .int) ∈ zBig := zW21_s _ (List.mem_of_getElem? (i := 11) rfl)
theorem m_m_RX5_166 : Cond.methodLink RX5 166 yX5_up ∈ zBig := zW21_s _ (List.mem_of_getElem? (i := 12) rfl)
theorem m_s_yX5_up : Cond.static yX5_up ∈ zBig := zW21_s _ (List.mem_of_getElem? (i := 13) rfl)
theorem m_o_yX5_up : Cond.code yX5_up cX5_up 2 (some .int) ∈ zBig := zW21_s _ (List.mem_of_getElem? (i := 14) rfl)
theorem m_m_RX5_169 : Cond.methodLink RX5 169 yX5_greater ∈ zBig := zW21_s _ (List.mem_of_getElem? (i := 15) rfl)
theorem m_s_yX5_greater : Cond.static yX5_greater ∈ zBig := zW21_s _ (List.mem_of_getElem? (i := 16) rfl)
theorem m_o_yX5_greater : Cond.code yX5_greater cX5_greater 2 (some .int) ∈ zBig := zW21_s _ (List.mem_of_getElem? (i := 17) rfl)
theorem m_m_RX5_180 : Cond.methodLink RX5 180 yX5_sell ∈ zBig := zW21_s _ (List.mem_of_getElem? (i := 18) rfl)
theorem m_i_yX5_sell : Cond.instanceMethod yX5_sell ∈ zBig := zW21_s _ (List.mem_of_getElem? (i := 19) rfl)
theorem m_o_yX5_sell : Cond.code yX5_sell cX5_sell 4 none ∈ zBig := zW21_s _ (List.mem_of_getElem? (i := 20) rfl)
theorem m_m_RL_67 : Cond.methodLink RL 67 yX5_gain ∈ zBig := zW21_s _ (List.mem_of_getElem? (i := 21) rfl)
theorem m_i_yX5_gain : Cond.instanceMethod yX5_gain ∈ zBig := zW21_s _ (List.mem_of_getElem? (i := 22) rfl)
theorem m_e_yX5_gain : Cond.selects RX5 yX5_gain yX5_gain ∈ zBig := zW21_s _ (List.mem_of_getElem? (i := 23) rfl)
theorem m_o_yX5_gain : Cond.code yX5_gain cX5_gain 2 (some .int) ∈ zBig := zW21_s _ (List.mem_of_getElem? (i := 24) rfl)
def zW22 : List Cond := [Cond.methodLink RL 71 yX5_till, Cond.instanceMethod yX5_till, Cond.selects RX5 yX5_till yX5_till, Cond.code yX5_till cX5_till 3 (some .int), Cond.constantLong RX5 197 2, Cond.methodLink RX5 199 yX5_rise, Cond.instanceMethod yX5_rise, Cond.code yX5_rise cX5_rise 7 none, Cond.methodLink RX5 202 yX5_open, Cond.instanceMethod yX5_open, Cond.code yX5_open cX5_open 6 none, Cond.methodLink RL 75 yX5_morning, Cond.instanceMethod yX5_morning, Cond.selects RX5 yX5_morning yX5_morning, Cond.code yX5_morning cX5_morning 2 (some .int), Cond.methodLink RX5 205 yX5_hear, Cond.instanceMethod yX5_hear, Cond.code yX5_hear cX5_hear 5 none, Cond.methodLink RL 79 yX5_span, Cond.instanceMethod yX5_span, Cond.selects RX5 yX5_span yX5_span, Cond.code yX5_span cX5_span 4 (some .int), Cond.methodLink RL 83 yX5_hush, Cond.instanceMethod yX5_hush, Cond.selects RX5 yX5_hush yX5_hush]
set_option maxRecDepth 100000 in
theorem zW22_s : ∀ w ∈ zW22, w ∈ zBig := zBig_l (ns := [826, 0, 0, 0, 0, 0, 1, 0, 0, 1, 0, 0, 0, 0, 0, 0, 1, 0, 0, 0, 0, 0, 0, 0, 0]) rfl rfl
theorem m_m_RL_71 : Cond.methodLink RL 71 yX5_till ∈ zBig := zW22_s _ (List.mem_of_getElem? (i := 0) rfl)
theorem m_i_yX5_till : Cond.instanceMethod yX5_till ∈ zBig := zW22_s _ (List.mem_of_getElem? (i := 1) rfl)
theorem m_e_yX5_till : Cond.selects RX5 yX5_till yX5_till ∈ zBig := zW22_s _ (List.mem_of_getElem? (i := 2) rfl)
theorem m_o_yX5_till : Cond.code yX5_till cX5_till 3 (some .int) ∈ zBig := zW22_s _ (List.mem_of_getElem? (i := 3) rfl)
theorem m_k_RX5_197 : Cond.constantLong RX5 197 2 ∈ zBig := zW22_s _ (List.mem_of_getElem? (i := 4) rfl)
theorem m_m_RX5_199 : Cond.methodLink RX5 199 yX5_rise ∈ zBig := zW22_s _ (List.mem_of_getElem? (i := 5) rfl)
theorem m_i_yX5_rise : Cond.instanceMethod yX5_rise ∈ zBig := zW22_s _ (List.mem_of_getElem? (i := 6) rfl)
theorem m_o_yX5_rise : Cond.code yX5_rise cX5_rise 7 none ∈ zBig := zW22_s _ (List.mem_of_getElem? (i := 7) rfl)
theorem m_m_RX5_202 : Cond.methodLink RX5 202 yX5_open ∈ zBig := zW22_s _ (List.mem_of_getElem? (i := 8) rfl)
theorem m_i_yX5_open : Cond.instanceMethod yX5_open ∈ zBig := zW22_s _ (List.mem_of_getElem? (i := 9) rfl)
theorem m_o_yX5_open : Cond.code yX5_open cX5_open 6 none ∈ zBig := zW22_s _ (List.mem_of_getElem? (i := 10) rfl)
theorem m_m_RL_75 : Cond.methodLink RL 75 yX5_morning ∈ zBig := zW22_s _ (List.mem_of_getElem? (i := 11) rfl)
theorem m_i_yX5_morning : Cond.instanceMethod yX5_morning ∈ zBig := zW22_s _ (List.mem_of_getElem? (i := 12) rfl)
theorem m_e_yX5_morning : Cond.selects RX5 yX5_morning yX5_morning ∈ zBig := zW22_s _ (List.mem_of_getElem? (i := 13) rfl)
theorem m_o_yX5_morning : Cond.code yX5_morning cX5_morning 2 (some .int) ∈ zBig := zW22_s _ (List.mem_of_getElem? (i := 14) rfl)
theorem m_m_RX5_205 : Cond.methodLink RX5 205 yX5_hear ∈ zBig := zW22_s _ (List.mem_of_getElem? (i := 15) rfl)
theorem m_i_yX5_hear : Cond.instanceMethod yX5_hear ∈ zBig := zW22_s _ (List.mem_of_getElem? (i := 16) rfl)
theorem m_o_yX5_hear : Cond.code yX5_hear cX5_hear 5 none ∈ zBig := zW22_s _ (List.mem_of_getElem? (i := 17) rfl)
theorem m_m_RL_79 : Cond.methodLink RL 79 yX5_span ∈ zBig := zW22_s _ (List.mem_of_getElem? (i := 18) rfl)
theorem m_i_yX5_span : Cond.instanceMethod yX5_span ∈ zBig := zW22_s _ (List.mem_of_getElem? (i := 19) rfl)
theorem m_e_yX5_span : Cond.selects RX5 yX5_span yX5_span ∈ zBig := zW22_s _ (List.mem_of_getElem? (i := 20) rfl)
theorem m_o_yX5_span : Cond.code yX5_span cX5_span 4 (some .int) ∈ zBig := zW22_s _ (List.mem_of_getElem? (i := 21) rfl)
theorem m_m_RL_83 : Cond.methodLink RL 83 yX5_hush ∈ zBig := zW22_s _ (List.mem_of_getElem? (i := 22) rfl)
theorem m_i_yX5_hush : Cond.instanceMethod yX5_hush ∈ zBig := zW22_s _ (List.mem_of_getElem? (i := 23) rfl)
theorem m_e_yX5_hush : Cond.selects RX5 yX5_hush yX5_hush ∈ zBig := zW22_s _ (List.mem_of_getElem? (i := 24) rfl)
def zW23 : List Cond := [Cond.code yX5_hush cX5_hush 3 (some .int), Cond.methodLink RL 87 yX5_best, Cond.instanceMethod yX5_best, Cond.selects RX5 yX5_best yX5_best, Cond.code yX5_best cX5_best 6 (some .int), Cond.methodLink RL 91 yX5_rests, Cond.instanceMethod yX5_rests, Cond.selects RX5 yX5_rests yX5_rests, Cond.code yX5_rests cX5_rests 7 (some .int), Cond.constantLong RX5 208 (-1), Cond.methodLink RX5 210 yX5_isResting, Cond.instanceMethod yX5_isResting, Cond.code yX5_isResting cX5_isResting 6 (some .boolean), Cond.methodLink RL 95 yX5_order, Cond.instanceMethod yX5_order, Cond.selects RX5 yX5_order yX5_order, Cond.code yX5_order cX5_order 6 (some .int), Cond.constantLong RX5 213 5, Cond.methodLink RX5 215 yX5_nextRow, Cond.instanceMethod yX5_nextRow, Cond.code yX5_nextRow cX5_nextRow 6 (some .boolean), Cond.methodLink RL 99 yX5_ring, Cond.instanceMethod yX5_ring, Cond.selects RX5 yX5_ring yX5_ring, Cond.code yX5_ring cX5_ring 3 (some .int)]
set_option maxRecDepth 100000 in
theorem zW23_s : ∀ w ∈ zW23, w ∈ zBig := zBig_l (ns := [854, 0, 0, 0, 0, 0, 0, 0, 0, 0, 0, 1, 0, 0, 0, 0, 0, 0, 0, 1, 0, 0, 0, 0, 0]) rfl rfl
theorem m_o_yX5_hush : Cond.code yX5_hush cX5_hush 3 (some .int) ∈ zBig := zW23_s _ (List.mem_of_getElem? (i := 0) rfl)
theorem m_m_RL_87 : Cond.methodLink RL 87 yX5_best ∈ zBig := zW23_s _ (List.mem_of_getElem? (i := 1) rfl)
theorem m_i_yX5_best : Cond.instanceMethod yX5_best ∈ zBig := zW23_s _ (List.mem_of_getElem? (i := 2) rfl)
theorem m_e_yX5_best : Cond.selects RX5 yX5_best yX5_best ∈ zBig := zW23_s _ (List.mem_of_getElem? (i := 3) rfl)
theorem m_o_yX5_best : Cond.code yX5_best cX5_best 6 (some .int) ∈ zBig := zW23_s _ (List.mem_of_getElem? (i := 4) rfl)
theorem m_m_RL_91 : Cond.methodLink RL 91 yX5_rests ∈ zBig := zW23_s _ (List.mem_of_getElem? (i := 5) rfl)
theorem m_i_yX5_rests : Cond.instanceMethod yX5_rests ∈ zBig := zW23_s _ (List.mem_of_getElem? (i := 6) rfl)
theorem m_e_yX5_rests : Cond.selects RX5 yX5_rests yX5_rests ∈ zBig := zW23_s _ (List.mem_of_getElem? (i := 7) rfl)
theorem m_o_yX5_rests : Cond.code yX5_rests cX5_rests 7 (some .int) ∈ zBig := zW23_s _ (List.mem_of_getElem? (i := 8) rfl)
theorem m_k_RX5_208 : Cond.constantLong RX5 208 (-1) ∈ zBig := zW23_s _ (List.mem_of_getElem? (i := 9) rfl)
theorem m_m_RX5_210 : Cond.methodLink RX5 210 yX5_isResting ∈ zBig := zW23_s _ (List.mem_of_getElem? (i := 10) rfl)
theorem m_i_yX5_isResting : Cond.instanceMethod yX5_isResting ∈ zBig := zW23_s _ (List.mem_of_getElem? (i := 11) rfl)
theorem m_o_yX5_isResting : Cond.code yX5_isResting cX5_isResting 6 (some .boolean) ∈ zBig := zW23_s _ (List.mem_of_getElem? (i := 12) rfl)
theorem m_m_RL_95 : Cond.methodLink RL 95 yX5_order ∈ zBig := zW23_s _ (List.mem_of_getElem? (i := 13) rfl)
theorem m_i_yX5_order : Cond.instanceMethod yX5_order ∈ zBig := zW23_s _ (List.mem_of_getElem? (i := 14) rfl)
theorem m_e_yX5_order : Cond.selects RX5 yX5_order yX5_order ∈ zBig := zW23_s _ (List.mem_of_getElem? (i := 15) rfl)
theorem m_o_yX5_order : Cond.code yX5_order cX5_order 6 (some .int) ∈ zBig := zW23_s _ (List.mem_of_getElem? (i := 16) rfl)
theorem m_k_RX5_213 : Cond.constantLong RX5 213 5 ∈ zBig := zW23_s _ (List.mem_of_getElem? (i := 17) rfl)
theorem m_m_RX5_215 : Cond.methodLink RX5 215 yX5_nextRow ∈ zBig := zW23_s _ (List.mem_of_getElem? (i := 18) rfl)
theorem m_i_yX5_nextRow : Cond.instanceMethod yX5_nextRow ∈ zBig := zW23_s _ (List.mem_of_getElem? (i := 19) rfl)
theorem m_o_yX5_nextRow : Cond.code yX5_nextRow cX5_nextRow 6 (some .boolean) ∈ zBig := zW23_s _ (List.mem_of_getElem? (i := 20) rfl)
theorem m_m_RL_99 : Cond.methodLink RL 99 yX5_ring ∈ zBig := zW23_s _ (List.mem_of_getElem? (i := 21) rfl)
theorem m_i_yX5_ring : Cond.instanceMethod yX5_ring ∈ zBig := zW23_s _ (List.mem_of_getElem? (i := 22) rfl)
theorem m_e_yX5_ring : Cond.selects RX5 yX5_ring yX5_ring ∈ zBig := zW23_s _ (List.mem_of_getElem? (i := 23) rfl)
theorem m_o_yX5_ring : Cond.code yX5_ring cX5_ring 3 (some .int) ∈ zBig := zW23_s _ (List.mem_of_getElem? (i := 24) rfl)
def zW24 : List Cond := [Cond.methodLink RX5 218 yX5_together, Cond.instanceMethod yX5_together, Cond.code yX5_together cX5_together 4 (some .int), Cond.methodLink RL 103 yX5_image, Cond.instanceMethod yX5_image, Cond.selects RX5 yX5_image yX5_image, Cond.code yX5_image cX5_image 2 (some .int), Cond.methodLink RL 107 yX5_restore, Cond.instanceMethod yX5_restore, Cond.selects RX5 yX5_restore yX5_restore, Cond.code yX5_restore cX5_restore 2 (some .int), Cond.methodLink RL 112 yX5_which, Cond.instanceMethod yX5_which, Cond.selects RX5 yX5_which yX5_which, Cond.code yX5_which cX5_which 9 (some .int), Cond.methodLink RX5 225 yX5_isSheet, Cond.static yX5_isSheet, Cond.code yX5_isSheet cX5_isSheet 1 (some .boolean), Cond.methodLink RX5 228 yX5_bars, Cond.instanceMethod yX5_bars, Cond.code yX5_bars cX5_bars 5 (some .int), Cond.methodLink RX5 231 yX5_isSo, Cond.instanceMethod yX5_isSo, Cond.code yX5_isSo cX5_isSo 6 (some .boolean), Cond.methodLink RL 116 yX5_film]
set_option maxRecDepth 100000 in
theorem zW24_s : ∀ w ∈ zW24, w ∈ zBig := zBig_l (ns := [881, 1, 0, 0, 0, 0, 0, 0, 0, 0, 0, 0, 0, 0, 0, 0, 0, 0, 0, 1, 0, 0, 1, 0, 0]) rfl rfl
theorem m_m_RX5_218 : Cond.methodLink RX5 218 yX5_together ∈ zBig := zW24_s _ (List.mem_of_getElem? (i := 0) rfl)
theorem m_i_yX5_together : Cond.instanceMethod yX5_together ∈ zBig := zW24_s _ (List.mem_of_getElem? (i := 1) rfl)
theorem m_o_yX5_together : Cond.code yX5_together cX5_together 4 (some .int) ∈ zBig := zW24_s _ (List.mem_of_getElem? (i := 2) rfl)
theorem m_m_RL_103 : Cond.methodLink RL 103 yX5_image ∈ zBig := zW24_s _ (List.mem_of_getElem? (i := 3) rfl)
theorem m_i_yX5_image : Cond.instanceMethod yX5_image ∈ zBig := zW24_s _ (List.mem_of_getElem? (i := 4) rfl)
theorem m_e_yX5_image : Cond.selects RX5 yX5_image yX5_image ∈ zBig := zW24_s _ (List.mem_of_getElem? (i := 5) rfl)
theorem m_o_yX5_image : Cond.code yX5_image cX5_image 2 (some .int) ∈ zBig := zW24_s _ (List.mem_of_getElem? (i := 6) rfl)
theorem m_m_RL_107 : Cond.methodLink RL 107 yX5_restore ∈ zBig := zW24_s _ (List.mem_of_getElem? (i := 7) rfl)
theorem m_i_yX5_restore : Cond.instanceMethod yX5_restore ∈ zBig := zW24_s _ (List.mem_of_getElem? (i := 8) rfl)
theorem m_e_yX5_restore : Cond.selects RX5 yX5_restore yX5_restore ∈ zBig := zW24_s _ (List.mem_of_getElem? (i := 9) rfl)
theorem m_o_yX5_restore : Cond.code yX5_restore cX5_restore 2 (some .int) ∈ zBig := zW24_s _ (List.mem_of_getElem? (i := 10) rfl)
theorem m_m_RL_112 : Cond.methodLink RL 112 yX5_which ∈ zBig := zW24_s _ (List.mem_of_getElem? (i := 11) rfl)
theorem m_i_yX5_which : Cond.instanceMethod yX5_which ∈ zBig := zW24_s _ (List.mem_of_getElem? (i := 12) rfl)
theorem m_e_yX5_which : Cond.selects RX5 yX5_which yX5_which ∈ zBig := zW24_s _ (List.mem_of_getElem? (i := 13) rfl)
theorem m_o_yX5_which : Cond.code yX5_which cX5_which 9 (some .int) ∈ zBig := zW24_s _ (List.mem_of_getElem? (i := 14) rfl)
theorem m_m_RX5_225 : Cond.methodLink RX5 225 yX5_isSheet ∈ zBig := zW24_s _ (List.mem_of_getElem? (i := 15) rfl)
theorem m_s_yX5_isSheet : Cond.static yX5_isSheet ∈ zBig := zW24_s _ (List.mem_of_getElem? (i := 16) rfl)
theorem m_o_yX5_isSheet : Cond.code yX5_isSheet cX5_isSheet 1 (some .boolean) ∈ zBig := zW24_s _ (List.mem_of_getElem? (i := 17) rfl)
theorem m_m_RX5_228 : Cond.methodLink RX5 228 yX5_bars ∈ zBig := zW24_s _ (List.mem_of_getElem? (i := 18) rfl)
theorem m_i_yX5_bars : Cond.instanceMethod yX5_bars ∈ zBig := zW24_s _ (List.mem_of_getElem? (i := 19) rfl)
theorem m_o_yX5_bars : Cond.code yX5_bars cX5_bars 5 (some .int) ∈ zBig := zW24_s _ (List.mem_of_getElem? (i := 20) rfl)
theorem m_m_RX5_231 : Cond.methodLink RX5 231 yX5_isSo ∈ zBig := zW24_s _ (List.mem_of_getElem? (i := 21) rfl)
theorem m_i_yX5_isSo : Cond.instanceMethod yX5_isSo ∈ zBig := zW24_s _ (List.mem_of_getElem? (i := 22) rfl)
theorem m_o_yX5_isSo : Cond.code yX5_isSo cX5_isSo 6 (some .boolean) ∈ zBig := zW24_s _ (List.mem_of_getElem? (i := 23) rfl)
theorem m_m_RL_116 : Cond.methodLink RL 116 yX5_film ∈ zBig := zW24_s _ (List.mem_of_getElem? (i := 24) rfl)
def zW25 : List Cond := [Cond.instanceMethod yX5_film, Cond.selects RX5 yX5_film yX5_film, Cond.code yX5_film cX5_film 6 (some .int), Cond.methodLink RL 120 yX5_sheet, Cond.instanceMethod yX5_sheet, Cond.selects RX5 yX5_sheet yX5_sheet, Cond.code yX5_sheet cX5_sheet 5 (some .int), Cond.methodLink RL 124 yX5_drop, Cond.instanceMethod yX5_drop, Cond.selects RX5 yX5_drop yX5_drop, Cond.code yX5_drop cX5_drop 2 (some .int), Cond.methodLink RL 129 yX5_item, Cond.instanceMethod yX5_item, Cond.selects RX5 yX5_item yX5_item, Cond.code yX5_item cX5_item 7 (some .int), Cond.methodLink RX5 234 yX5_cut, Cond.static yX5_cut, Cond.code yX5_cut cX5_cut 3 (some .long), Cond.methodLink RL 134 yX5_copy, Cond.instanceMethod yX5_copy, Cond.selects RX5 yX5_copy yX5_copy, Cond.code yX5_copy cX5_copy 8 (some .int), Cond.constantLong RL 39 4294967295]
set_option maxRecDepth 100000 in
theorem zW25_s : ∀ w ∈ zW25, w ∈ zBig := zBig_l (ns := [909, 0, 0, 0, 0, 0, 0, 0, 0, 0, 0, 0, 0, 0, 0, 0, 0, 0, 0, 0, 0, 0, 0]) rfl rfl
theorem m_i_yX5_film : Cond.instanceMethod yX5_film ∈ zBig := zW25_s _ (List.mem_of_getElem? (i := 0) rfl)
theorem m_e_yX5_film : Cond.selects RX5 yX5_film yX5_film ∈ zBig := zW25_s _ (List.mem_of_getElem? (i := 1) rfl)
theorem m_o_yX5_film : Cond.code yX5_film cX5_film 6 (some .int) ∈ zBig := zW25_s _ (List.mem_of_getElem? (i := 2) rfl)
theorem m_m_RL_120 : Cond.methodLink RL 120 yX5_sheet ∈ zBig := zW25_s _ (List.mem_of_getElem? (i := 3) rfl)
theorem m_i_yX5_sheet : Cond.instanceMethod yX5_sheet ∈ zBig := zW25_s _ (List.mem_of_getElem? (i := 4) rfl)
theorem m_e_yX5_sheet : Cond.selects RX5 yX5_sheet yX5_sheet ∈ zBig := zW25_s _ (List.mem_of_getElem? (i := 5) rfl)
theorem m_o_yX5_sheet : Cond.code yX5_sheet cX5_sheet 5 (some .int) ∈ zBig := zW25_s _ (List.mem_of_getElem? (i := 6) rfl)
theorem m_m_RL_124 : Cond.methodLink RL 124 yX5_drop ∈ zBig := zW25_s _ (List.mem_of_getElem? (i := 7) rfl)
theorem m_i_yX5_drop : Cond.instanceMethod yX5_drop ∈ zBig := zW25_s _ (List.mem_of_getElem? (i := 8) rfl)
theorem m_e_yX5_drop : Cond.selects RX5 yX5_drop yX5_drop ∈ zBig := zW25_s _ (List.mem_of_getElem? (i := 9) rfl)
theorem m_o_yX5_drop : Cond.code yX5_drop cX5_drop 2 (some .int) ∈ zBig := zW25_s _ (List.mem_of_getElem? (i := 10) rfl)
theorem m_m_RL_129 : Cond.methodLink RL 129 yX5_item ∈ zBig := zW25_s _ (List.mem_of_getElem? (i := 11) rfl)
theorem m_i_yX5_item : Cond.instanceMethod yX5_item ∈ zBig := zW25_s _ (List.mem_of_getElem? (i := 12) rfl)
theorem m_e_yX5_item : Cond.selects RX5 yX5_item yX5_item ∈ zBig := zW25_s _ (List.mem_of_getElem? (i := 13) rfl)
theorem m_o_yX5_item : Cond.code yX5_item cX5_item 7 (some .int) ∈ zBig := zW25_s _ (List.mem_of_getElem? (i := 14) rfl)
theorem m_m_RX5_234 : Cond.methodLink RX5 234 yX5_cut ∈ zBig := zW25_s _ (List.mem_of_getElem? (i := 15) rfl)
theorem m_s_yX5_cut : Cond.static yX5_cut ∈ zBig := zW25_s _ (List.mem_of_getElem? (i := 16) rfl)
theorem m_o_yX5_cut : Cond.code yX5_cut cX5_cut 3 (some .long) ∈ zBig := zW25_s _ (List.mem_of_getElem? (i := 17) rfl)
theorem m_m_RL_134 : Cond.methodLink RL 134 yX5_copy ∈ zBig := zW25_s _ (List.mem_of_getElem? (i := 18) rfl)
theorem m_i_yX5_copy : Cond.instanceMethod yX5_copy ∈ zBig := zW25_s _ (List.mem_of_getElem? (i := 19) rfl)
theorem m_e_yX5_copy : Cond.selects RX5 yX5_copy yX5_copy ∈ zBig := zW25_s _ (List.mem_of_getElem? (i := 20) rfl)
theorem m_o_yX5_copy : Cond.code yX5_copy cX5_copy 8 (some .int) ∈ zBig := zW25_s _ (List.mem_of_getElem? (i := 21) rfl)
theorem m_k_RL_39 : Cond.constantLong RL 39 4294967295 ∈ zBig := zW25_s _ (List.mem_of_getElem? (i := 22) rfl)
theorem m_e_yX0_isThere : Cond.selects RX0 yX0_isThere yX0_isThere ∈ zBig := zBig_s 0 rfl rfl
theorem m_e_yX0_worthOf : Cond.selects RX0 yX0_worthOf yX0_worthOf ∈ zBig := zBig_s 1 rfl rfl
theorem m_e_yX3_append : Cond.selects RX3 yX3_append yX3_append ∈ zBig := zBig_s 2 rfl rfl
theorem m_e_yX3_readLaw : Cond.selects RX3 yX3_readLaw yX3_readLaw ∈ zBig := zBig_s 3 rfl rfl
theorem m_e_yX3_behindBlanks : Cond.selects RX3 yX3_behindBlanks yX3_behindBlanks ∈ zBig := zBig_s 4 rfl rfl
theorem m_e_yX3_charAt : Cond.selects RX3 yX3_charAt yX3_charAt ∈ zBig := zBig_s 5 rfl rfl
theorem m_e_yX3_ruleAt : Cond.selects RX3 yX3_ruleAt yX3_ruleAt ∈ zBig := zBig_s 6 rfl rfl
theorem m_e_yX3_behindDigits : Cond.selects RX3 yX3_behindDigits yX3_behindDigits ∈ zBig := zBig_s 7 rfl rfl
theorem m_e_yX3_numberAt : Cond.selects RX3 yX3_numberAt yX3_numberAt ∈ zBig := zBig_s 8 rfl rfl
theorem m_e_yX3_readLots : Cond.selects RX3 yX3_readLots yX3_readLots ∈ zBig := zBig_s 9 rfl rfl
theorem m_e_yX0_countOwing : Cond.selects RX0 yX0_countOwing yX0_countOwing ∈ zBig := zBig_s 10 rfl rfl
theorem m_e_yX0_countKinds : Cond.selects RX0 yX0_countKinds yX0_countKinds ∈ zBig := zBig_s 11 rfl rfl
theorem m_e_yX2_fallAsTold : Cond.selects RX2 yX2_fallAsTold yX2_fallAsTold ∈ zBig := zBig_s 12 rfl rfl
theorem m_e_yX2_takeMargins : Cond.selects RX2 yX2_takeMargins yX2_takeMargins ∈ zBig := zBig_s 13 rfl rfl
theorem m_e_yX2_fall : Cond.selects RX2 yX2_fall yX2_fall ∈ zBig := zBig_s 14 rfl rfl
theorem m_e_yX2_begin : Cond.selects RX2 yX2_begin yX2_begin ∈ zBig := zBig_s 15 rfl rfl
theorem m_e_yX2_fallLot : Cond.selects RX2 yX2_fallLot yX2_fallLot ∈ zBig := zBig_s 16 rfl rfl
theorem m_e_yX2_ready : Cond.selects RX2 yX2_ready yX2_ready ∈ zBig := zBig_s 17 rfl rfl
theorem m_e_yX2_charge : Cond.selects RX2 yX2_charge yX2_charge ∈ zBig := zBig_s 18 rfl rfl
theorem m_e_yX2_silentOf : Cond.selects RX2 yX2_silentOf yX2_silentOf ∈ zBig := zBig_s 19 rfl rfl
theorem m_e_yX2_coughsAt : Cond.selects RX2 yX2_coughsAt yX2_coughsAt ∈ zBig := zBig_s 20 rfl rfl
theorem m_e_yX2_nextCough : Cond.selects RX2 yX2_nextCough yX2_nextCough ∈ zBig := zBig_s 21 rfl rfl
theorem m_e_yX2_settle : Cond.selects RX2 yX2_settle yX2_settle ∈ zBig := zBig_s 22 rfl rfl
theorem m_e_yX2_tillBy : Cond.selects RX2 yX2_tillBy yX2_tillBy ∈ zBig := zBig_s 23 rfl rfl
theorem m_e_yX2_riseLot : Cond.selects RX2 yX2_riseLot yX2_riseLot ∈ zBig := zBig_s 24 rfl rfl
theorem m_e_yX2_openSealed : Cond.selects RX2 yX2_openSealed yX2_openSealed ∈ zBig := zBig_s 25 rfl rfl
theorem m_e_yX2_hear : Cond.selects RX2 yX2_hear yX2_hear ∈ zBig := zBig_s 26 rfl rfl
theorem m_e_yX0_narrowSpan : Cond.selects RX0 yX0_narrowSpan yX0_narrowSpan ∈ zBig := zBig_s 27 rfl rfl
theorem m_e_yX0_widenSpans : Cond.selects RX0 yX0_widenSpans yX0_widenSpans ∈ zBig := zBig_s 28 rfl rfl
theorem m_e_yX4_countRests : Cond.selects RX4 yX4_countRests yX4_countRests ∈ zBig := zBig_s 29 rfl rfl
theorem m_e_yX4_digitOf : Cond.selects RX4 yX4_digitOf yX4_digitOf ∈ zBig := zBig_s 30 rfl rfl
theorem m_e_yX4_digitShift : Cond.selects RX4 yX4_digitShift yX4_digitShift ∈ zBig := zBig_s 31 rfl rfl
theorem m_e_yX4_isAtRest : Cond.selects RX4 yX4_isAtRest yX4_isAtRest ∈ zBig := zBig_s 32 rfl rfl
theorem m_e_yX4_findBestRow : Cond.selects RX4 yX4_findBestRow yX4_findBestRow ∈ zBig := zBig_s 33 rfl rfl
theorem m_e_yX4_isFirstOfItsLike : Cond.selects RX4 yX4_isFirstOfItsLike yX4_isFirstOfItsLike ∈ zBig := zBig_s 34 rfl rfl
theorem m_e_yX0_kindOf : Cond.selects RX0 yX0_kindOf yX0_kindOf ∈ zBig := zBig_s 35 rfl rfl
theorem m_e_yX4_tillOfRow : Cond.selects RX4 yX4_tillOfRow yX4_tillOfRow ∈ zBig := zBig_s 36 rfl rfl
theorem m_e_yX4_nextRow : Cond.selects RX4 yX4_nextRow yX4_nextRow ∈ zBig := zBig_s 37 rfl rfl
theorem m_e_yX4_swapInRow : Cond.selects RX4 yX4_swapInRow yX4_swapInRow ∈ zBig := zBig_s 38 rfl rfl
theorem m_e_yX4_isRing : Cond.selects RX4 yX4_isRing yX4_isRing ∈ zBig := zBig_s 39 rfl rfl
theorem m_e_yX2_gainOf : Cond.selects RX2 yX2_gainOf yX2_gainOf ∈ zBig := zBig_s 40 rfl rfl
theorem m_e_yX0_take : Cond.selects RX0 yX0_take yX0_take ∈ zBig := zBig_s 41 rfl rfl
theorem m_e_yX1_refuse : Cond.selects RX1 yX1_refuse yX1_refuse ∈ zBig := zBig_s 42 rfl rfl
theorem m_e_yX1_holds : Cond.selects RX1 yX1_holds yX1_holds ∈ zBig := zBig_s 43 rfl rfl
theorem m_e_yX4_isAsFilmed : Cond.selects RX4 yX4_isAsFilmed yX4_isAsFilmed ∈ zBig := zBig_s 44 rfl rfl
theorem m_e_yX1_peek : Cond.selects RX1 yX1_peek yX1_peek ∈ zBig := zBig_s 45 rfl rfl
theorem m_e_yX1_put : Cond.selects RX1 yX1_put yX1_put ∈ zBig := zBig_s 46 rfl rfl
theorem m_e_yX1_lay : Cond.selects RX1 yX1_lay yX1_lay ∈ zBig := zBig_s 47 rfl rfl
theorem m_e_yX5_isBuyer : Cond.selects RX5 yX5_isBuyer yX5_isBuyer ∈ zBig := zBig_s 48 rfl rfl
theorem m_e_yX5_lawFault : Cond.selects RX5 yX5_lawFault yX5_lawFault ∈ zBig := zBig_s 49 rfl rfl
theorem m_e_yX5_ahead : Cond.selects RX5 yX5_ahead yX5_ahead ∈ zBig := zBig_s 50 rfl rfl
theorem m_e_yX5_owing : Cond.selects RX5 yX5_owing yX5_owing ∈ zBig := zBig_s 51 rfl rfl
theorem m_e_yX5_kindsToldOf : Cond.selects RX5 yX5_kindsToldOf yX5_kindsToldOf ∈ zBig := zBig_s 52 rfl rfl
theorem m_e_yX5_hold : Cond.selects RX5 yX5_hold yX5_hold ∈ zBig := zBig_s 53 rfl rfl
theorem m_e_yX5_goThrough : Cond.selects RX5 yX5_goThrough yX5_goThrough ∈ zBig := zBig_s 54 rfl rfl
theorem m_e_yX5_openMorning : Cond.selects RX5 yX5_openMorning yX5_openMorning ∈ zBig := zBig_s 55 rfl rfl
theorem m_e_yX5_cry : Cond.selects RX5 yX5_cry yX5_cry ∈ zBig := zBig_s 56 rfl rfl
theorem m_e_yX5_listening : Cond.selects RX5 yX5_listening yX5_listening ∈ zBig := zBig_s 57 rfl rfl
theorem m_e_yX5_worthOf : Cond.selects RX5 yX5_worthOf yX5_worthOf ∈ zBig := zBig_s 58 rfl rfl
theorem m_e_yX5_waits : Cond.selects RX5 yX5_waits yX5_waits ∈ zBig := zBig_s 59 rfl rfl
theorem m_e_yX5_marginOf : Cond.selects RX5 yX5_marginOf yX5_marginOf ∈ zBig := zBig_s 60 rfl rfl
theorem m_e_yX5_payOf : Cond.selects RX5 yX5_payOf yX5_payOf ∈ zBig := zBig_s 61 rfl rfl
theorem m_e_yX5_sell : Cond.selects RX5 yX5_sell yX5_sell ∈ zBig := zBig_s 62 rfl rfl
theorem m_e_yX5_rise : Cond.selects RX5 yX5_rise yX5_rise ∈ zBig := zBig_s 63 rfl rfl
theorem m_e_yX5_open : Cond.selects RX5 yX5_open yX5_open ∈ zBig := zBig_s 64 rfl rfl
theorem m_e_yX5_hear : Cond.selects RX5 yX5_hear yX5_hear ∈ zBig := zBig_s 65 rfl rfl
theorem m_e_yX5_isResting : Cond.selects RX5 yX5_isResting yX5_isResting ∈ zBig := zBig_s 66 rfl rfl
theorem m_e_yX5_nextRow : Cond.selects RX5 yX5_nextRow yX5_nextRow ∈ zBig := zBig_s 67 rfl rfl
theorem m_e_yX5_together : Cond.selects RX5 yX5_together yX5_together ∈ zBig := zBig_s 68 rfl rfl
theorem m_e_yX5_bars : Cond.selects RX5 yX5_bars yX5_bars ∈ zBig := zBig_s 69 rfl rfl
theorem m_e_yX5_isSo : Cond.selects RX5 yX5_isSo yX5_isSo ∈ zBig := zBig_s 70 rfl rfl
theorem zl_idx {l : List Cond} {ix : List Nat} (h : l.map some = ix.map (fun i => tables_1[i]?)) : ∀ w ∈ l, w ∈ tables_1 := fun w hw => by
  have m : some w ∈ l.map some := List.mem_map.mpr ⟨w, hw, rfl⟩
  rw [h] at m
  obtain ⟨i, _, e⟩ := List.mem_map.mp m
  exact List.mem_of_getElem? e
theorem zl_X0 : ∀ w ∈ u_ws RX0 TX0 11, w ∈ zBig := fun w h => List.mem_filter.mpr ⟨List.mem_append_right _ (zl_idx (l := u_ws RX0 TX0 11) (ix := [66, 68, 70, 72, 74, 76, 78, 80, 82, 84, 86]) (by decide +kernel) w h), (by decide +kernel : ∀ w ∈ u_ws RX0 TX0 11, goodWord w = true) w h⟩
theorem zl_X1 : ∀ w ∈ u_ws RX1 TX1 3, w ∈ zBig := fun w h => List.mem_filter.mpr ⟨List.mem_append_right _ (zl_idx (l := u_ws RX1 TX1 3) (ix := [167, 169, 171]) (by decide +kernel) w h), (by decide +kernel : ∀ w ∈ u_ws RX1 TX1 3, goodWord w = true) w h⟩
theorem zl_X2 : ∀ w ∈ u_ws RX2 TX2 12, w ∈ zBig := fun w h => List.mem_filter.mpr ⟨List.mem_append_right _ (zl_idx (l := u_ws RX2 TX2 12) (ix := [115, 117, 119, 121, 123, 125, 127, 129, 131, 133, 135, 137]) (by decide +kernel) w h), (by decide +kernel : ∀ w ∈ u_ws RX2 TX2 12, goodWord w = true) w h⟩
theorem zl_X3 : ∀ w ∈ u_ws RX3 TX3 2, w ∈ zBig := fun w h => List.mem_filter.mpr ⟨List.mem_append_right _ (zl_idx (l := u_ws RX3 TX3 2) (ix := [149, 151]) (by decide +kernel) w h), (by decide +kernel : ∀ w ∈ u_ws RX3 TX3 2, goodWord w = true) w h⟩
theorem zl_X4 : ∀ w ∈ u_ws RX4 TX4 12, w ∈ zBig := fun w h => List.mem_filter.mpr ⟨List.mem_append_right _ (zl_idx (l := u_ws RX4 TX4 12) (ix := [187, 189, 191, 193, 195, 197, 199, 201, 203, 205, 207, 209]) (by decide +kernel) w h), (by decide +kernel : ∀ w ∈ u_ws RX4 TX4 12, goodWord w = true) w h⟩
theorem zl_X5 : ∀ w ∈ u_ws RX5 TX5 27, w ∈ zBig := fun w h => List.mem_filter.mpr ⟨List.mem_append_right _ (zl_idx (l := u_ws RX5 TX5 27) (ix := [623, 625, 627, 629, 631, 633, 635, 637, 639, 641, 643, 645, 647, 649, 651, 653, 655, 657, 659, 661, 663, 665, 667, 669, 671, 673, 675]) (by decide +kernel) w h), (by decide +kernel : ∀ w ∈ u_ws RX5 TX5 27, goodWord w = true) w h⟩
def zNF : List (String × Nat × String × String × String) := [(RX0, 9, "FishSteps", "RULE_FIRST", "[I"), (RX4, 68, "FishSteps$Books", "law", "[I"), (RX2, 107, "FishSteps$Books", "law", "[I"), (RX2, 76, "FishSteps$Books", "lots", "I"), (RX4, 122, "FishSteps$Books", "lots", "I"), (RX2, 97, "FishSteps$Books", "kind", "[I"), (RX4, 113, "FishSteps$Books", "kind", "[I"), (RX4, 71, "FishSteps$Books", "buyers", "I"), (RX2, 140, "FishSteps$Books", "buyers", "I"), (RX4, 74, "FishSteps$Books", "sort", "[I"), (RX2, 134, "FishSteps$Books", "sort", "[I"), (RX2, 58, "FishSteps$Books", "purse", "[I"), (RX4, 77, "FishSteps$Books", "purse", "[I"), (RX2, 49, "FishSteps$Books", "margin", "[I"), (RX4, 90, "FishSteps$Books", "margin", "[I"), (RX4, 87, "FishSteps$Books", "worth", "[I"), (RX4, 176, "FishSteps$Books", "least", "[I"), (RX4, 179, "FishSteps$Books", "most", "[I"), (RX4, 125, "FishSteps$Books", "held", "I"), (RX4, 185, "FishSteps$Steps", "margin", "[I"), (RX4, 175, "FishSteps$Steps", "purse", "[I"), (RX4, 151, "FishSteps$Steps", "gained", "[I"), (RX4, 139, "FishSteps$Steps", "who", "[I"), (RX4, 142, "FishSteps$Steps", "price", "[I"), (RX4, 145, "FishSteps$Steps", "breath", "[I"), (RX4, 148, "FishSteps$Steps", "bells", "[I"), (RX4, 107, "FishSteps$Tape", "length", "I"), (RX4, 231, "FishSteps$Sheets", "lane", "[I"), (RX4, 234, "FishSteps$Sheets", "size", "[I"), (RX4, 241, "FishSteps$Sheets", "items", "[J")]
def zNM : List (String × Nat × MethodName) := [(RX4, 9, yX0_init), (RX4, 25, yX2_init), (RX4, 32, yX3_init), (RX4, 39, yX1_init), (RX4, 80, yX0_isThere), (RX4, 94, yX0_worthOf), (RX0, 70, yX4_isKind), (RX4, 99, yX3_append), (RX4, 103, yX3_readLaw), (RX3, 45, yX4_fitsRule), (RX4, 110, yX3_readLots), (RX3, 52, yX4_isKind), (RX4, 128, yX0_countOwing), (RX4, 132, yX0_countKinds), (RX4, 135, yX2_fallAsTold), (RX2, 137, yX0_worthOf), (RX4, 154, yX2_takeMargins), (RX4, 157, yX2_tillBy), (RX4, 161, yX2_begin), (RX4, 164, yX2_fallLot), (RX4, 168, yX2_hear), (RX2, 146, yX0_narrowSpan), (RX4, 172, yX2_settle), (RX4, 182, yX0_widenSpans), (RX4, 186, yX2_fall), (RX4, 283, yX0_kindOf), (RX4, 201, yX2_gainOf), (RX4, 205, yX0_take), (RX4, 208, yX1_refuse), (RX1, 22, yX4_isSheet), (RX1, 26, yX4_isLane), (RX4, 256, yX1_peek), (RX4, 217, yX1_put), (RX4, 227, yX1_lay), (RX4, 237, yX1_holds)]
