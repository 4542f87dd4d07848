/-! words, by their places in the tables; the classes' fields; the methods' names and words -/
theorem ev_mem {w : Cond} (i : Nat) (h : lw_tbl[i]? = some w) (g : goodWord w = true) : w ∈ ev_gd := List.mem_filter.mpr ⟨List.mem_of_getElem? h, g⟩
theorem ev_memN {w : Cond} (i : Nat) (h : lw_tbl[i]? = some w) (g : ev_nk w = true) : w ∈ ev_nw := List.mem_filter.mpr ⟨List.mem_of_getElem? h, g⟩
theorem ev_in0 : ∀ w ∈ u_ws RJ0 TJ0 4, w ∈ ev_gd := by decide +kernel
theorem ev_in1 : ∀ w ∈ u_ws RJ4 TJ4 4, w ∈ ev_gd := by decide +kernel
theorem ev_in2 : ∀ w ∈ u_ws RJ6 TJ6 1, w ∈ ev_gd := by decide +kernel
theorem ev_in3 : ∀ w ∈ u_ws RJx35411 TJx35411 4, w ∈ ev_gd := by decide +kernel
theorem ev_in4 : ∀ w ∈ u_ws RJx4a65c TJx4a65c 3, w ∈ ev_gd := by decide +kernel
theorem ev_in5 : ∀ w ∈ u_ws RX0 TX0 3, w ∈ ev_gd := by decide +kernel
theorem ev_in6 : ∀ w ∈ u_ws RX1 TX1 2, w ∈ ev_gd := by decide +kernel
theorem ev_in7 : ∀ w ∈ u_ws RX2 TX2 3, w ∈ ev_gd := by decide +kernel
theorem ev_in8 : ∀ w ∈ u_ws RX3 TX3 6, w ∈ ev_gd := by decide +kernel
theorem ev_in9 : ∀ w ∈ u_ws RX4 TX4 2, w ∈ ev_gd := by decide +kernel
theorem ev_in10 : ∀ w ∈ u_ws RX5 TX5 3, w ∈ ev_gd := by decide +kernel
theorem ev_in11 : ∀ w ∈ u_ws RX6 TX6 9, w ∈ ev_gd := by decide +kernel
theorem ev_in12 : ∀ w ∈ u_ws RX7 TX7 6, w ∈ ev_gd := by decide +kernel
theorem ev_in13 : ∀ w ∈ u_ws RX8 TX8 4, w ∈ ev_gd := by decide +kernel
theorem ev_in14 : ∀ w ∈ u_ws RX9 TX9 1, w ∈ ev_gd := by decide +kernel
theorem ev_in15 : ∀ w ∈ u_ws RX10 TX10 16, w ∈ ev_gd := by decide +kernel
theorem ev_in16 : ∀ w ∈ u_ws RX11 TX11 2, w ∈ ev_gd := by decide +kernel
theorem ev_in17 : ∀ w ∈ u_ws RX12 TX12 4, w ∈ ev_gd := by decide +kernel
theorem ev_in18 : ∀ w ∈ u_ws RX13 TX13 12, w ∈ ev_gd := by decide +kernel
def ev_ys : List (MethodName × List Cond) := [((⟨"java/lang/Math", "max", "(II)I"⟩ : MethodName), []),
  (yJ7_copyOf_1904c, Cond.code yJ7_copyOf_1904c cJ7_copyOf_1904c 2 (some (FieldType.array (FieldType.object "java/lang/Object"))) :: ev_gd),
  (yJ8_newLength_cabcc, Cond.code yJ8_newLength_cabcc cJ8_newLength_cabcc 4 (some FieldType.int) :: ev_gd),
  (yJx35411_checkForComodification_da8c8, Cond.code yJx35411_checkForComodification_da8c8 cJx35411_checkForComodification_da8c8 1 none :: ev_gd),
  (yJx35411_hasNext_aae02, Cond.code yJx35411_hasNext_aae02 cJx35411_hasNext_aae02 1 (some FieldType.boolean) :: ev_gd),
  (yJx35411_init_45d68, Cond.code yJx35411_init_45d68 cJx35411_init_45d68 2 none :: ev_gd),
  (yJx35411_next_0502b, Cond.code yJx35411_next_0502b cJx35411_next_0502b 3 (some (FieldType.object "java/lang/Object")) :: ev_gd),
  (yJx4a65c_add_72be8, Cond.code yJx4a65c_add_72be8 cJx4a65c_add_72be8 4 none :: ev_gd),
  (yJx4a65c_add_9ea2d, Cond.code yJx4a65c_add_9ea2d cJx4a65c_add_9ea2d 2 (some FieldType.boolean) :: ev_gd),
  (yJx4a65c_clear_da8c8, Cond.code yJx4a65c_clear_da8c8 cJx4a65c_clear_da8c8 4 none :: ev_gd),
  (yJx4a65c_grow_92f84, Cond.code yJx4a65c_grow_92f84 cJx4a65c_grow_92f84 4 (some (FieldType.array (FieldType.object "java/lang/Object"))) :: ev_gd),
  (yJx4a65c_grow_d5877, Cond.code yJx4a65c_grow_d5877 cJx4a65c_grow_d5877 1 (some (FieldType.array (FieldType.object "java/lang/Object"))) :: ev_gd),
  (yJx4a65c_init_da8c8, Cond.code yJx4a65c_init_da8c8 cJx4a65c_init_da8c8 1 none :: ev_gd),
  (yJx4a65c_iterator_32c93, Cond.code yJx4a65c_iterator_32c93 cJx4a65c_iterator_32c93 1 (some (FieldType.object "java/util/Iterator")) :: ev_gd),
  (yJx4a65c_size_8abf5, Cond.code yJx4a65c_size_8abf5 cJx4a65c_size_8abf5 1 (some FieldType.int) :: ev_gd),
  (yJxa1e45_init_da8c8, Cond.code yJxa1e45_init_da8c8 cJxa1e45_init_da8c8 1 none :: ev_gd),
  (yJxc12de_init_da8c8, Cond.code yJxc12de_init_da8c8 cJxc12de_init_da8c8 1 none :: ev_gd),
  (yL_commit, Cond.codeWith yL_commit cL_commit 3 (some FieldType.int) [((0), (9), (12), (21))] :: ev_gd),
  (yL_law, []),
  (yL_tell, Cond.codeWith yL_tell cL_tell 5 (some FieldType.int) [((0), (11), (14), (19)), ((0), (11), (18), (21))] :: ev_gd),
  (yL_unsay, Cond.codeWith yL_unsay cL_unsay 4 (some FieldType.int) [((0), (10), (13), (19)), ((0), (10), (16), (21))] :: ev_gd),
  (yX0_add, Cond.code yX0_add cX0_add 3 (some FieldType.int) :: ev_gd),
  (yX0_empty, Cond.code yX0_empty cX0_empty 2 (some FieldType.int) :: ev_gd),
  (yX0_init, Cond.code yX0_init cX0_init 1 none :: ev_gd),
  (yX10_at, Cond.code yX10_at cX10_at 3 (some FieldType.int) :: ev_gd),
  (yX10_broken, Cond.code yX10_broken cX10_broken 1 (some FieldType.int) :: ev_gd),
  (yX10_checkBatchRoom, Cond.code yX10_checkBatchRoom cX10_checkBatchRoom 1 none :: ev_gd),
  (yX10_checkTriple, Cond.code yX10_checkTriple cX10_checkTriple 1 none :: ev_gd),
  (yX10_commit, Cond.code yX10_commit cX10_commit 1 (some FieldType.int) :: ev_gd),
  (yX10_copy, Cond.code yX10_copy cX10_copy 4 none :: ev_gd),
  (yX10_fill, Cond.code yX10_fill cX10_fill 3 none :: ev_gd),
  (yX10_init, Cond.code yX10_init cX10_init 1 none :: ev_gd),
  (yX10_isIn, Cond.code yX10_isIn cX10_isIn 2 (some FieldType.boolean) :: ev_gd),
  (yX10_put, Cond.code yX10_put cX10_put 3 none :: ev_gd),
  (yX10_tell, Cond.code yX10_tell cX10_tell 3 (some FieldType.int) :: ev_gd),
  (yX10_toldChanged, Cond.code yX10_toldChanged cX10_toldChanged 1 none :: ev_gd),
  (yX10_tryBatch, Cond.code yX10_tryBatch cX10_tryBatch 1 none :: ev_gd),
  (yX10_unsay, Cond.code yX10_unsay cX10_unsay 2 (some FieldType.int) :: ev_gd),
  (yX11_init, Cond.code yX11_init cX11_init 1 none :: ev_gd),
  (yX12_holds, Cond.code yX12_holds cX12_holds 2 (some FieldType.boolean) :: ev_gd),
  (yX12_init, Cond.code yX12_init cX12_init 1 none :: ev_gd),
  (yX13_broken, Cond.code yX13_broken cX13_broken 10 (some FieldType.int) :: ev_gd),
  (yX13_broken_, Cond.code yX13_broken_ cX13_broken_ 1 (some FieldType.int) :: ev_gd),
  (yX13_commit, Cond.code yX13_commit cX13_commit 4 (some FieldType.int) :: ev_gd),
  (yX13_committed, Cond.code yX13_committed cX13_committed 8 (some (FieldType.object "java/util/ArrayList")) :: ev_gd),
  (yX13_digit, Cond.code yX13_digit cX13_digit 2 (some FieldType.int) :: ev_gd),
  (yX13_forget, Cond.code yX13_forget cX13_forget 1 none :: ev_gd),
  (yX13_init, Cond.code yX13_init cX13_init 1 none :: ev_gd),
  (yX13_is, Cond.code yX13_is cX13_is 3 (some FieldType.boolean) :: ev_gd),
  (yX13_isTriple, Cond.code yX13_isTriple cX13_isTriple 1 (some FieldType.boolean) :: ev_gd),
  (yX13_newBinding, Cond.code yX13_newBinding cX13_newBinding 0 (some (FieldType.array FieldType.int)) :: ev_gd),
  (yX13_place, Cond.code yX13_place cX13_place 6 (some FieldType.int) :: ev_gd),
  (yX13_place_, Cond.code yX13_place_ cX13_place_ 2 (some FieldType.int) :: ev_gd),
  (yX13_tell, Cond.code yX13_tell cX13_tell 3 (some FieldType.int) :: ev_gd),
  (yX13_thrown, Cond.code yX13_thrown cX13_thrown 1 (some FieldType.int) :: ev_gd),
  (yX13_told, Cond.code yX13_told cX13_told 7 (some (FieldType.array FieldType.boolean)) :: ev_gd),
  (yX13_unsay, Cond.code yX13_unsay cX13_unsay 2 (some FieldType.int) :: ev_gd),
  (yX1_init, Cond.code yX1_init cX1_init 1 none :: ev_gd),
  (yX2_init, Cond.code yX2_init cX2_init 1 none :: ev_gd),
  (yX3_init, Cond.code yX3_init cX3_init 1 none :: ev_gd),
  (yX4_headOf, Cond.code yX4_headOf cX4_headOf 2 (some FieldType.int) :: ev_gd),
  (yX4_headsOf, Cond.code yX4_headsOf cX4_headsOf 2 (some FieldType.int) :: ev_gd),
  (yX4_init, Cond.code yX4_init cX4_init 1 none :: ev_gd),
  (yX4_separate, Cond.code yX4_separate cX4_separate 2 none :: ev_gd),
  (yX5_init, Cond.code yX5_init cX5_init 1 none :: ev_gd),
  (yX6_init, Cond.code yX6_init cX6_init 1 none :: ev_gd),
  (yX7_begin, Cond.code yX7_begin cX7_begin 6 none :: ev_gd),
  (yX7_copyFrom, Cond.code yX7_copyFrom cX7_copyFrom 2 none :: ev_gd),
  (yX7_end, Cond.code yX7_end cX7_end 4 none :: ev_gd),
  (yX7_holdsIn, Cond.code yX7_holdsIn cX7_holdsIn 3 (some FieldType.boolean) :: ev_gd),
  (yX7_init, Cond.code yX7_init cX7_init 1 none :: ev_gd),
  (yX7_isOpen, Cond.code yX7_isOpen cX7_isOpen 2 (some FieldType.boolean) :: ev_gd),
  (yX7_openRowOf, Cond.code yX7_openRowOf cX7_openRowOf 3 (some FieldType.int) :: ev_gd),
  (yX7_take, Cond.code yX7_take cX7_take 7 none :: ev_gd),
  (yX8_init, Cond.code yX8_init cX8_init 1 none :: ev_gd),
  (yX9_brokenHeads, Cond.code yX9_brokenHeads cX9_brokenHeads 4 (some FieldType.int) :: ev_gd),
  (yX9_gather, Cond.code yX9_gather cX9_gather 6 none :: ev_gd),
  (yX9_init, Cond.code yX9_init cX9_init 1 none :: ev_gd),
  (yX9_isBrokenFor, Cond.code yX9_isBrokenFor cX9_isBrokenFor 5 (some FieldType.boolean) :: ev_gd)]
theorem ev_y1 : ev_ys[1]? = some (yJ7_copyOf_1904c, Cond.code yJ7_copyOf_1904c cJ7_copyOf_1904c 2 (some (FieldType.array (FieldType.object "java/lang/Object"))) :: ev_gd) := rfl
theorem ev_y2 : ev_ys[2]? = some (yJ8_newLength_cabcc, Cond.code yJ8_newLength_cabcc cJ8_newLength_cabcc 4 (some FieldType.int) :: ev_gd) := rfl
theorem ev_y3 : ev_ys[3]? = some (yJx35411_checkForComodification_da8c8, Cond.code yJx35411_checkForComodification_da8c8 cJx35411_checkForComodification_da8c8 1 none :: ev_gd) := rfl
theorem ev_y4 : ev_ys[4]? = some (yJx35411_hasNext_aae02, Cond.code yJx35411_hasNext_aae02 cJx35411_hasNext_aae02 1 (some FieldType.boolean) :: ev_gd) := rfl
theorem ev_y5 : ev_ys[5]? = some (yJx35411_init_45d68, Cond.code yJx35411_init_45d68 cJx35411_init_45d68 2 none :: ev_gd) := rfl
theorem ev_y6 : ev_ys[6]? = some (yJx35411_next_0502b, Cond.code yJx35411_next_0502b cJx35411_next_0502b 3 (some (FieldType.object "java/lang/Object")) :: ev_gd) := rfl
theorem ev_y7 : ev_ys[7]? = some (yJx4a65c_add_72be8, Cond.code yJx4a65c_add_72be8 cJx4a65c_add_72be8 4 none :: ev_gd) := rfl
theorem ev_y8 : ev_ys[8]? = some (yJx4a65c_add_9ea2d, Cond.code yJx4a65c_add_9ea2d cJx4a65c_add_9ea2d 2 (some FieldType.boolean) :: ev_gd) := rfl
theorem ev_y9 : ev_ys[9]? = some (yJx4a65c_clear_da8c8, Cond.code yJx4a65c_clear_da8c8 cJx4a65c_clear_da8c8 4 none :: ev_gd) := rfl
theorem ev_y10 : ev_ys[10]? = some (yJx4a65c_grow_92f84, Cond.code yJx4a65c_grow_92f84 cJx4a65c_grow_92f84 4 (some (FieldType.array (FieldType.object "java/lang/Object"))) :: ev_gd) := rfl
theorem ev_y11 : ev_ys[11]? = some (yJx4a65c_grow_d5877, Cond.code yJx4a65c_grow_d5877 cJx4a65c_grow_d5877 1 (some (FieldType.array (FieldType.object "java/lang/Object"))) :: ev_gd) := rfl
theorem ev_y12 : ev_ys[12]? = some (yJx4a65c_init_da8c8, Cond.code yJx4a65c_init_da8c8 cJx4a65c_init_da8c8 1 none :: ev_gd) := rfl
theorem ev_y13 : ev_ys[13]? = some (yJx4a65c_iterator_32c93, Cond.code yJx4a65c_iterator_32c93 cJx4a65c_iterator_32c93 1 (some (FieldType.object "java/util/Iterator")) :: ev_gd) := rfl
theorem ev_y14 : ev_ys[14]? = some (yJx4a65c_size_8abf5, Cond.code yJx4a65c_size_8abf5 cJx4a65c_size_8abf5 1 (some FieldType.int) :: ev_gd) := rfl
theorem ev_y15 : ev_ys[15]? = some (yJxa1e45_init_da8c8, Cond.code yJxa1e45_init_da8c8 cJxa1e45_init_da8c8 1 none :: ev_gd) := rfl
theorem ev_y16 : ev_ys[16]? = some (yJxc12de_init_da8c8, Cond.code yJxc12de_init_da8c8 cJxc12de_init_da8c8 1 none :: ev_gd) := rfl
theorem ev_y17 : ev_ys[17]? = some (yL_commit, Cond.codeWith yL_commit cL_commit 3 (some FieldType.int) [((0), (9), (12), (21))] :: ev_gd) := rfl
theorem ev_y19 : ev_ys[19]? = some (yL_tell, Cond.codeWith yL_tell cL_tell 5 (some FieldType.int) [((0), (11), (14), (19)), ((0), (11), (18), (21))] :: ev_gd) := rfl
theorem ev_y20 : ev_ys[20]? = some (yL_unsay, Cond.codeWith yL_unsay cL_unsay 4 (some FieldType.int) [((0), (10), (13), (19)), ((0), (10), (16), (21))] :: ev_gd) := rfl
theorem ev_y21 : ev_ys[21]? = some (yX0_add, Cond.code yX0_add cX0_add 3 (some FieldType.int) :: ev_gd) := rfl
theorem ev_y22 : ev_ys[22]? = some (yX0_empty, Cond.code yX0_empty cX0_empty 2 (some FieldType.int) :: ev_gd) := rfl
theorem ev_y23 : ev_ys[23]? = some (yX0_init, Cond.code yX0_init cX0_init 1 none :: ev_gd) := rfl
theorem ev_y24 : ev_ys[24]? = some (yX10_at, Cond.code yX10_at cX10_at 3 (some FieldType.int) :: ev_gd) := rfl
theorem ev_y25 : ev_ys[25]? = some (yX10_broken, Cond.code yX10_broken cX10_broken 1 (some FieldType.int) :: ev_gd) := rfl
theorem ev_y26 : ev_ys[26]? = some (yX10_checkBatchRoom, Cond.code yX10_checkBatchRoom cX10_checkBatchRoom 1 none :: ev_gd) := rfl
theorem ev_y27 : ev_ys[27]? = some (yX10_checkTriple, Cond.code yX10_checkTriple cX10_checkTriple 1 none :: ev_gd) := rfl
theorem ev_y28 : ev_ys[28]? = some (yX10_commit, Cond.code yX10_commit cX10_commit 1 (some FieldType.int) :: ev_gd) := rfl
theorem ev_y29 : ev_ys[29]? = some (yX10_copy, Cond.code yX10_copy cX10_copy 4 none :: ev_gd) := rfl
theorem ev_y30 : ev_ys[30]? = some (yX10_fill, Cond.code yX10_fill cX10_fill 3 none :: ev_gd) := rfl
theorem ev_y31 : ev_ys[31]? = some (yX10_init, Cond.code yX10_init cX10_init 1 none :: ev_gd) := rfl
theorem ev_y32 : ev_ys[32]? = some (yX10_isIn, Cond.code yX10_isIn cX10_isIn 2 (some FieldType.boolean) :: ev_gd) := rfl
theorem ev_y33 : ev_ys[33]? = some (yX10_put, Cond.code yX10_put cX10_put 3 none :: ev_gd) := rfl
theorem ev_y34 : ev_ys[34]? = some (yX10_tell, Cond.code yX10_tell cX10_tell 3 (some FieldType.int) :: ev_gd) := rfl
theorem ev_y35 : ev_ys[35]? = some (yX10_toldChanged, Cond.code yX10_toldChanged cX10_toldChanged 1 none :: ev_gd) := rfl
theorem ev_y36 : ev_ys[36]? = some (yX10_tryBatch, Cond.code yX10_tryBatch cX10_tryBatch 1 none :: ev_gd) := rfl
theorem ev_y37 : ev_ys[37]? = some (yX10_unsay, Cond.code yX10_unsay cX10_unsay 2 (some FieldType.int) :: ev_gd) := rfl
theorem ev_y38 : ev_ys[38]? = some (yX11_init, Cond.code yX11_init cX11_init 1 none :: ev_gd) := rfl
theorem ev_y39 : ev_ys[39]? = some (yX12_holds, Cond.code yX12_holds cX12_holds 2 (some FieldType.boolean) :: ev_gd) := rfl
theorem ev_y40 : ev_ys[40]? = some (yX12_init, Cond.code yX12_init cX12_init 1 none :: ev_gd) := rfl
theorem ev_y41 : ev_ys[41]? = some (yX13_broken, Cond.code yX13_broken cX13_broken 10 (some FieldType.int) :: ev_gd) := rfl
theorem ev_y42 : ev_ys[42]? = some (yX13_broken_, Cond.code yX13_broken_ cX13_broken_ 1 (some FieldType.int) :: ev_gd) := rfl
theorem ev_y43 : ev_ys[43]? = some (yX13_commit, Cond.code yX13_commit cX13_commit 4 (some FieldType.int) :: ev_gd) := rfl
theorem ev_y44 : ev_ys[44]? = some (yX13_committed, Cond.code yX13_committed cX13_committed 8 (some (FieldType.object "java/util/ArrayList")) :: ev_gd) := rfl
theorem ev_y45 : ev_ys[45]? = some (yX13_digit, Cond.code yX13_digit cX13_digit 2 (some FieldType.int) :: ev_gd) := rfl
theorem ev_y46 : ev_ys[46]? = some (yX13_forget, Cond.code yX13_forget cX13_forget 1 none :: ev_gd) := rfl
theorem ev_y47 : ev_ys[47]? = some (yX13_init, Cond.code yX13_init cX13_init 1 none :: ev_gd) := rfl
theorem ev_y48 : ev_ys[48]? = some (yX13_is, Cond.code yX13_is cX13_is 3 (some FieldType.boolean) :: ev_gd) := rfl
theorem ev_y49 : ev_ys[49]? = some (yX13_isTriple, Cond.code yX13_isTriple cX13_isTriple 1 (some FieldType.boolean) :: ev_gd) := rfl
theorem ev_y50 : ev_ys[50]? = some (yX13_newBinding, Cond.code yX13_newBinding cX13_newBinding 0 (some (FieldType.array FieldType.int)) :: ev_gd) := rfl
theorem ev_y51 : ev_ys[51]? = some (yX13_place, Cond.code yX13_place cX13_place 6 (some FieldType.int) :: ev_gd) := rfl
theorem ev_y52 : ev_ys[52]? = some (yX13_place_, Cond.code yX13_place_ cX13_place_ 2 (some FieldType.int) :: ev_gd) := rfl
theorem ev_y53 : ev_ys[53]? = some (yX13_tell, Cond.code yX13_tell cX13_tell 3 (some FieldType.int) :: ev_gd) := rfl
theorem ev_y54 : ev_ys[54]? = some (yX13_thrown, Cond.code yX13_thrown cX13_thrown 1 (some FieldType.int) :: ev_gd) := rfl
theorem ev_y55 : ev_ys[55]? = some (yX13_told, Cond.code yX13_told cX13_told 7 (some (FieldType.array FieldType.boolean)) :: ev_gd) := rfl
theorem ev_y56 : ev_ys[56]? = some (yX13_unsay, Cond.code yX13_unsay cX13_unsay 2 (some FieldType.int) :: ev_gd) := rfl
theorem ev_y57 : ev_ys[57]? = some (yX1_init, Cond.code yX1_init cX1_init 1 none :: ev_gd) := rfl
theorem ev_y58 : ev_ys[58]? = some (yX2_init, Cond.code yX2_init cX2_init 1 none :: ev_gd) := rfl
theorem ev_y59 : ev_ys[59]? = some (yX3_init, Cond.code yX3_init cX3_init 1 none :: ev_gd) := rfl
theorem ev_y60 : ev_ys[60]? = some (yX4_headOf, Cond.code yX4_headOf cX4_headOf 2 (some FieldType.int) :: ev_gd) := rfl
theorem ev_y61 : ev_ys[61]? = some (yX4_headsOf, Cond.code yX4_headsOf cX4_headsOf 2 (some FieldType.int) :: ev_gd) := rfl
theorem ev_y62 : ev_ys[62]? = some (yX4_init, Cond.code yX4_init cX4_init 1 none :: ev_gd) := rfl
theorem ev_y63 : ev_ys[63]? = some (yX4_separate, Cond.code yX4_separate cX4_separate 2 none :: ev_gd) := rfl
theorem ev_y64 : ev_ys[64]? = some (yX5_init, Cond.code yX5_init cX5_init 1 none :: ev_gd) := rfl
theorem ev_y65 : ev_ys[65]? = some (yX6_init, Cond.code yX6_init cX6_init 1 none :: ev_gd) := rfl
theorem ev_y66 : ev_ys[66]? = some (yX7_begin, Cond.code yX7_begin cX7_begin 6 none :: ev_gd) := rfl
theorem ev_y67 : ev_ys[67]? = some (yX7_copyFrom, Cond.code yX7_copyFrom cX7_copyFrom 2 none :: ev_gd) := rfl
theorem ev_y68 : ev_ys[68]? = some (yX7_end, Cond.code yX7_end cX7_end 4 none :: ev_gd) := rfl
theorem ev_y69 : ev_ys[69]? = some (yX7_holdsIn, Cond.code yX7_holdsIn cX7_holdsIn 3 (some FieldType.boolean) :: ev_gd) := rfl
theorem ev_y70 : ev_ys[70]? = some (yX7_init, Cond.code yX7_init cX7_init 1 none :: ev_gd) := rfl
theorem ev_y71 : ev_ys[71]? = some (yX7_isOpen, Cond.code yX7_isOpen cX7_isOpen 2 (some FieldType.boolean) :: ev_gd) := rfl
theorem ev_y72 : ev_ys[72]? = some (yX7_openRowOf, Cond.code yX7_openRowOf cX7_openRowOf 3 (some FieldType.int) :: ev_gd) := rfl
theorem ev_y73 : ev_ys[73]? = some (yX7_take, Cond.code yX7_take cX7_take 7 none :: ev_gd) := rfl
theorem ev_y74 : ev_ys[74]? = some (yX8_init, Cond.code yX8_init cX8_init 1 none :: ev_gd) := rfl
theorem ev_y75 : ev_ys[75]? = some (yX9_brokenHeads, Cond.code yX9_brokenHeads cX9_brokenHeads 4 (some FieldType.int) :: ev_gd) := rfl
theorem ev_y76 : ev_ys[76]? = some (yX9_gather, Cond.code yX9_gather cX9_gather 6 none :: ev_gd) := rfl
theorem ev_y77 : ev_ys[77]? = some (yX9_init, Cond.code yX9_init cX9_init 1 none :: ev_gd) := rfl
theorem ev_y78 : ev_ys[78]? = some (yX9_isBrokenFor, Cond.code yX9_isBrokenFor cX9_isBrokenFor 5 (some FieldType.boolean) :: ev_gd) := rfl
theorem ev_w1465 : (Jvm.Cond.methodLink "java/util/Arrays" (86 : Nat) ({ cls := "java/lang/Object", name := "getClass", desc := "()Ljava/lang/Class;" } : Jvm.MethodName)) ∈ ev_gd := ev_mem 1465 (by decide +kernel) rfl
theorem ev_w1928 : (Jvm.Cond.selects "[Ljava/lang/Object;" ({ cls := "java/lang/Object", name := "getClass", desc := "()Ljava/lang/Class;" } : Jvm.MethodName) ({ cls := "java/lang/Object", name := "getClass", desc := "()Ljava/lang/Class;" } : Jvm.MethodName)) ∈ ev_gd := ev_mem 1928 (by decide +kernel) rfl
theorem ev_w1466 : (Jvm.Cond.instanceMethod ({ cls := "java/lang/Object", name := "getClass", desc := "()Ljava/lang/Class;" } : Jvm.MethodName)) ∈ ev_gd := ev_mem 1466 (by decide +kernel) rfl
theorem ev_w1490 : (Jvm.Cond.native ({ cls := "java/lang/Object", name := "getClass", desc := "()Ljava/lang/Class;" } : Jvm.MethodName)) ∈ ev_gd := ev_mem 1490 (by decide +kernel) rfl
theorem ev_w1491 : (Jvm.Cond.methodLink "java/util/Arrays" (300 : Nat) ({ cls := "java/util/Arrays", name := "copyOf", desc := "([Ljava/lang/Object;ILjava/lang/Class;)[Ljava/lang/Object;" } : Jvm.MethodName)) ∈ ev_gd := ev_mem 1491 (by decide +kernel) rfl
theorem ev_w1492 : (Jvm.Cond.static ({ cls := "java/util/Arrays", name := "copyOf", desc := "([Ljava/lang/Object;ILjava/lang/Class;)[Ljava/lang/Object;" } : Jvm.MethodName)) ∈ ev_gd := ev_mem 1492 (by decide +kernel) rfl
theorem ev_w94 : (Jvm.Cond.initialized "java/util/Arrays") ∈ ev_gd := ev_mem 94 (by decide +kernel) rfl
theorem ev_w1493 : (Jvm.Cond.code ({ cls := "java/util/Arrays", name := "copyOf", desc := "([Ljava/lang/Object;ILjava/lang/Class;)[Ljava/lang/Object;" } : Jvm.MethodName) prog_44_method_120_code (4 : Nat) (Option.some (Jvm.ClassFile.FieldType.array (Jvm.ClassFile.FieldType.object "java/lang/Object")))) ∈ ev_gd := ev_mem 1493 (by decide +kernel) rfl
theorem ev_w1494 : (Jvm.Cond.classLink "java/util/Arrays" (110 : Nat) "[Ljava/lang/Object;") ∈ ev_gd := ev_mem 1494 (by decide +kernel) rfl
theorem ev_w1496 : (Jvm.Cond.classLink "java/util/Arrays" (2 : Nat) "java/lang/Object") ∈ ev_gd := ev_mem 1496 (by decide +kernel) rfl
theorem ev_w1132 : (Jvm.Cond.methodLink "java/util/Arrays" (304 : Nat) ({ cls := "java/lang/Math", name := "min", desc := "(II)I" } : Jvm.MethodName)) ∈ ev_gd := ev_mem 1132 (by decide +kernel) rfl
theorem ev_w587 : (Jvm.Cond.static ({ cls := "java/lang/Math", name := "min", desc := "(II)I" } : Jvm.MethodName)) ∈ ev_gd := ev_mem 587 (by decide +kernel) rfl
theorem ev_w93 : (Jvm.Cond.initialized "java/lang/Math") ∈ ev_gd := ev_mem 93 (by decide +kernel) rfl
theorem ev_w588 : (Jvm.Cond.code ({ cls := "java/lang/Math", name := "min", desc := "(II)I" } : Jvm.MethodName) prog_29_method_69_code (2 : Nat) (Option.some Jvm.ClassFile.FieldType.int)) ∈ ev_gd := ev_mem 588 (by decide +kernel) rfl
theorem ev_w1133 : (Jvm.Cond.methodLink "java/util/Arrays" (150 : Nat) ({ cls := "java/lang/System", name := "arraycopy", desc := "(Ljava/lang/Object;ILjava/lang/Object;II)V" } : Jvm.MethodName)) ∈ ev_gd := ev_mem 1133 (by decide +kernel) rfl
theorem ev_w1135 : (Jvm.Cond.native ({ cls := "java/lang/System", name := "arraycopy", desc := "(Ljava/lang/Object;ILjava/lang/Object;II)V" } : Jvm.MethodName)) ∈ ev_gd := ev_mem 1135 (by decide +kernel) rfl
theorem ev_w1134 : (Jvm.Cond.static ({ cls := "java/lang/System", name := "arraycopy", desc := "(Ljava/lang/Object;ILjava/lang/Object;II)V" } : Jvm.MethodName)) ∈ ev_gd := ev_mem 1134 (by decide +kernel) rfl
theorem ev_w95 : (Jvm.Cond.initialized "java/lang/System") ∈ ev_gd := ev_mem 95 (by decide +kernel) rfl
theorem ev_w1922 : (Jvm.Cond.castable "FactloomModel$Row" "java/lang/Object") ∈ ev_nw := ev_memN 1922 (by decide +kernel) rfl
theorem ev_w1930 : (Jvm.Cond.castable "[I" "java/lang/Object") ∈ ev_nw := ev_memN 1930 (by decide +kernel) rfl
theorem ev_w1116 : (Jvm.Cond.methodLink "jdk/internal/util/ArraysSupport" (194 : Nat) ({ cls := "java/lang/Math", name := "max", desc := "(II)I" } : Jvm.MethodName)) ∈ ev_gd := ev_mem 1116 (by decide +kernel) rfl
theorem ev_w682 : (Jvm.Cond.static ({ cls := "java/lang/Math", name := "max", desc := "(II)I" } : Jvm.MethodName)) ∈ ev_gd := ev_mem 682 (by decide +kernel) rfl
theorem ev_w683 : (Jvm.Cond.code ({ cls := "java/lang/Math", name := "max", desc := "(II)I" } : Jvm.MethodName) prog_29_method_65_code (2 : Nat) (Option.some Jvm.ClassFile.FieldType.int)) ∈ ev_gd := ev_mem 683 (by decide +kernel) rfl
theorem ev_w1117 : (Jvm.Cond.constant "jdk/internal/util/ArraysSupport" (200 : Nat) (2147483639 : Int32)) ∈ ev_gd := ev_mem 1117 (by decide +kernel) rfl
theorem ev_w1532 : (Jvm.Cond.fieldLink "java/util/ArrayList$Itr" (1 : Nat) "java/util/ArrayList$Itr" "this$0" "Ljava/util/ArrayList;") ∈ ev_gd := ev_mem 1532 (by decide +kernel) rfl
theorem ev_w1373 : (Jvm.Cond.fieldLink "java/util/ArrayList$Itr" (17 : Nat) "java/util/ArrayList" "modCount" "I") ∈ ev_gd := ev_mem 1373 (by decide +kernel) rfl
theorem ev_w1374 : (Jvm.Cond.sameField "java/util/ArrayList" "java/util/AbstractList" "modCount" "I") ∈ ev_gd := ev_mem 1374 (by decide +kernel) rfl
theorem ev_w1531 : (Jvm.Cond.fieldLink "java/util/ArrayList$Itr" (22 : Nat) "java/util/ArrayList$Itr" "expectedModCount" "I") ∈ ev_gd := ev_mem 1531 (by decide +kernel) rfl
theorem ev_w1529 : (Jvm.Cond.fieldLink "java/util/ArrayList$Itr" (25 : Nat) "java/util/ArrayList$Itr" "cursor" "I") ∈ ev_gd := ev_mem 1529 (by decide +kernel) rfl
theorem ev_w1370 : (Jvm.Cond.fieldLinkNest "java/util/ArrayList$Itr" (28 : Nat) "java/util/ArrayList" "size" "I" "java/util/ArrayList") ∈ ev_nw := ev_memN 1370 (by decide +kernel) rfl
theorem ev_w1528 : (Jvm.Cond.methodLink "java/util/ArrayList$Itr" (7 : Nat) ({ cls := "java/lang/Object", name := "<init>", desc := "()V" } : Jvm.MethodName)) ∈ ev_gd := ev_mem 1528 (by decide +kernel) rfl
theorem ev_w115 : (Jvm.Cond.instanceMethod ({ cls := "java/lang/Object", name := "<init>", desc := "()V" } : Jvm.MethodName)) ∈ ev_gd := ev_mem 115 (by decide +kernel) rfl
theorem ev_w116 : (Jvm.Cond.code ({ cls := "java/lang/Object", name := "<init>", desc := "()V" } : Jvm.MethodName) object_method_1_code (1 : Nat) (Option.none : Option Jvm.ClassFile.FieldType)) ∈ ev_gd := ev_mem 116 (by decide +kernel) rfl
theorem ev_w1530 : (Jvm.Cond.fieldLink "java/util/ArrayList$Itr" (13 : Nat) "java/util/ArrayList$Itr" "lastRet" "I") ∈ ev_gd := ev_mem 1530 (by decide +kernel) rfl
theorem ev_w1564 : (Jvm.Cond.code ({ cls := "java/util/ArrayList$Itr", name := "checkForComodification", desc := "()V" } : Jvm.MethodName) prog_43_method_6_code (1 : Nat) (Option.none : Option Jvm.ClassFile.FieldType)) ∈ ev_gd := ev_mem 1564 (by decide +kernel) rfl
theorem ev_w98 : (Jvm.Cond.initialized "java/util/ArrayList$Itr") ∈ ev_gd := ev_mem 98 (by decide +kernel) rfl
theorem ev_w1561 : (Jvm.Cond.methodLink "java/util/ArrayList$Itr" (31 : Nat) ({ cls := "java/util/ArrayList$Itr", name := "checkForComodification", desc := "()V" } : Jvm.MethodName)) ∈ ev_gd := ev_mem 1561 (by decide +kernel) rfl
theorem ev_w1562 : (Jvm.Cond.instanceMethod ({ cls := "java/util/ArrayList$Itr", name := "checkForComodification", desc := "()V" } : Jvm.MethodName)) ∈ ev_gd := ev_mem 1562 (by decide +kernel) rfl
theorem ev_w1563 : (Jvm.Cond.selects "java/util/ArrayList$Itr" ({ cls := "java/util/ArrayList$Itr", name := "checkForComodification", desc := "()V" } : Jvm.MethodName) ({ cls := "java/util/ArrayList$Itr", name := "checkForComodification", desc := "()V" } : Jvm.MethodName)) ∈ ev_gd := ev_mem 1563 (by decide +kernel) rfl
theorem ev_w1369 : (Jvm.Cond.fieldLink "java/util/ArrayList$Itr" (37 : Nat) "java/util/ArrayList" "elementData" "[Ljava/lang/Object;") ∈ ev_gd := ev_mem 1369 (by decide +kernel) rfl
theorem ev_w1456 : (Jvm.Cond.code ({ cls := "java/util/ArrayList", name := "grow", desc := "()[Ljava/lang/Object;" } : Jvm.MethodName) prog_42_method_7_code (1 : Nat) (Option.some (Jvm.ClassFile.FieldType.array (Jvm.ClassFile.FieldType.object "java/lang/Object")))) ∈ ev_gd := ev_mem 1456 (by decide +kernel) rfl
theorem ev_w85 : (Jvm.Cond.initialized "java/util/ArrayList") ∈ ev_gd := ev_mem 85 (by decide +kernel) rfl
theorem ev_w1453 : (Jvm.Cond.methodLink "java/util/ArrayList" (129 : Nat) ({ cls := "java/util/ArrayList", name := "grow", desc := "()[Ljava/lang/Object;" } : Jvm.MethodName)) ∈ ev_gd := ev_mem 1453 (by decide +kernel) rfl
theorem ev_w1455 : (Jvm.Cond.instanceMethod ({ cls := "java/util/ArrayList", name := "grow", desc := "()[Ljava/lang/Object;" } : Jvm.MethodName)) ∈ ev_gd := ev_mem 1455 (by decide +kernel) rfl
theorem ev_w39 : (Cond.selects "java/util/ArrayList" ⟨"java/util/ArrayList", "grow", "()[Ljava/lang/Object;"⟩ ⟨"java/util/ArrayList", "grow", "()[Ljava/lang/Object;"⟩) ∈ ev_gd := ev_mem 39 (by decide +kernel) rfl
theorem ev_w1371 : (Jvm.Cond.fieldLink "java/util/ArrayList" (48 : Nat) "java/util/ArrayList" "size" "I") ∈ ev_gd := ev_mem 1371 (by decide +kernel) rfl
theorem ev_w1375 : (Jvm.Cond.fieldLink "java/util/ArrayList" (63 : Nat) "java/util/ArrayList" "modCount" "I") ∈ ev_gd := ev_mem 1375 (by decide +kernel) rfl
theorem ev_w1368 : (Jvm.Cond.fieldLink "java/util/ArrayList" (9 : Nat) "java/util/ArrayList" "elementData" "[Ljava/lang/Object;") ∈ ev_gd := ev_mem 1368 (by decide +kernel) rfl
theorem ev_w1452 : (Jvm.Cond.code ({ cls := "java/util/ArrayList", name := "add", desc := "(Ljava/lang/Object;[Ljava/lang/Object;I)V" } : Jvm.MethodName) prog_42_method_24_code (4 : Nat) (Option.none : Option Jvm.ClassFile.FieldType)) ∈ ev_gd := ev_mem 1452 (by decide +kernel) rfl
theorem ev_w1449 : (Jvm.Cond.methodLink "java/util/ArrayList" (131 : Nat) ({ cls := "java/util/ArrayList", name := "add", desc := "(Ljava/lang/Object;[Ljava/lang/Object;I)V" } : Jvm.MethodName)) ∈ ev_gd := ev_mem 1449 (by decide +kernel) rfl
theorem ev_w1451 : (Jvm.Cond.instanceMethod ({ cls := "java/util/ArrayList", name := "add", desc := "(Ljava/lang/Object;[Ljava/lang/Object;I)V" } : Jvm.MethodName)) ∈ ev_gd := ev_mem 1451 (by decide +kernel) rfl
theorem ev_w38 : (Cond.selects "java/util/ArrayList" ⟨"java/util/ArrayList", "add", "(Ljava/lang/Object;[Ljava/lang/Object;I)V"⟩ ⟨"java/util/ArrayList", "add", "(Ljava/lang/Object;[Ljava/lang/Object;I)V"⟩) ∈ ev_gd := ev_mem 38 (by decide +kernel) rfl
theorem ev_w1366 : (Jvm.Cond.fieldLink "java/util/ArrayList" (39 : Nat) "java/util/ArrayList" "DEFAULTCAPACITY_EMPTY_ELEMENTDATA" "[Ljava/lang/Object;") ∈ ev_gd := ev_mem 1366 (by decide +kernel) rfl
theorem ev_w1115 : (Jvm.Cond.code ({ cls := "jdk/internal/util/ArraysSupport", name := "newLength", desc := "(III)I" } : Jvm.MethodName) prog_51_method_27_code (4 : Nat) (Option.some Jvm.ClassFile.FieldType.int)) ∈ ev_gd := ev_mem 1115 (by decide +kernel) rfl
theorem ev_w92 : (Jvm.Cond.initialized "jdk/internal/util/ArraysSupport") ∈ ev_gd := ev_mem 92 (by decide +kernel) rfl
theorem ev_w1461 : (Jvm.Cond.methodLink "java/util/ArrayList" (73 : Nat) ({ cls := "jdk/internal/util/ArraysSupport", name := "newLength", desc := "(III)I" } : Jvm.MethodName)) ∈ ev_gd := ev_mem 1461 (by decide +kernel) rfl
theorem ev_w1114 : (Jvm.Cond.static ({ cls := "jdk/internal/util/ArraysSupport", name := "newLength", desc := "(III)I" } : Jvm.MethodName)) ∈ ev_gd := ev_mem 1114 (by decide +kernel) rfl
theorem ev_w1464 : (Jvm.Cond.code ({ cls := "java/util/Arrays", name := "copyOf", desc := "([Ljava/lang/Object;I)[Ljava/lang/Object;" } : Jvm.MethodName) prog_44_method_119_code (2 : Nat) (Option.some (Jvm.ClassFile.FieldType.array (Jvm.ClassFile.FieldType.object "java/lang/Object")))) ∈ ev_gd := ev_mem 1464 (by decide +kernel) rfl
theorem ev_w1462 : (Jvm.Cond.methodLink "java/util/ArrayList" (66 : Nat) ({ cls := "java/util/Arrays", name := "copyOf", desc := "([Ljava/lang/Object;I)[Ljava/lang/Object;" } : Jvm.MethodName)) ∈ ev_gd := ev_mem 1462 (by decide +kernel) rfl
theorem ev_w1463 : (Jvm.Cond.static ({ cls := "java/util/Arrays", name := "copyOf", desc := "([Ljava/lang/Object;I)[Ljava/lang/Object;" } : Jvm.MethodName)) ∈ ev_gd := ev_mem 1463 (by decide +kernel) rfl
theorem ev_w1497 : (Jvm.Cond.methodLink "java/util/ArrayList" (79 : Nat) ({ cls := "java/lang/Math", name := "max", desc := "(II)I" } : Jvm.MethodName)) ∈ ev_gd := ev_mem 1497 (by decide +kernel) rfl
theorem ev_w1498 : (Jvm.Cond.classLink "java/util/ArrayList" (7 : Nat) "java/lang/Object") ∈ ev_gd := ev_mem 1498 (by decide +kernel) rfl
theorem ev_w1460 : (Jvm.Cond.code ({ cls := "java/util/ArrayList", name := "grow", desc := "(I)[Ljava/lang/Object;" } : Jvm.MethodName) prog_42_method_6_code (4 : Nat) (Option.some (Jvm.ClassFile.FieldType.array (Jvm.ClassFile.FieldType.object "java/lang/Object")))) ∈ ev_gd := ev_mem 1460 (by decide +kernel) rfl
theorem ev_w1457 : (Jvm.Cond.methodLink "java/util/ArrayList" (69 : Nat) ({ cls := "java/util/ArrayList", name := "grow", desc := "(I)[Ljava/lang/Object;" } : Jvm.MethodName)) ∈ ev_gd := ev_mem 1457 (by decide +kernel) rfl
theorem ev_w1459 : (Jvm.Cond.instanceMethod ({ cls := "java/util/ArrayList", name := "grow", desc := "(I)[Ljava/lang/Object;" } : Jvm.MethodName)) ∈ ev_gd := ev_mem 1459 (by decide +kernel) rfl
theorem ev_w40 : (Cond.selects "java/util/ArrayList" ⟨"java/util/ArrayList", "grow", "(I)[Ljava/lang/Object;"⟩ ⟨"java/util/ArrayList", "grow", "(I)[Ljava/lang/Object;"⟩) ∈ ev_gd := ev_mem 40 (by decide +kernel) rfl
theorem ev_w1361 : (Jvm.Cond.code ({ cls := "java/util/AbstractList", name := "<init>", desc := "()V" } : Jvm.MethodName) prog_41_method_1_code (1 : Nat) (Option.none : Option Jvm.ClassFile.FieldType)) ∈ ev_gd := ev_mem 1361 (by decide +kernel) rfl
theorem ev_w84 : (Jvm.Cond.initialized "java/util/AbstractList") ∈ ev_gd := ev_mem 84 (by decide +kernel) rfl
theorem ev_w1359 : (Jvm.Cond.methodLink "java/util/ArrayList" (1 : Nat) ({ cls := "java/util/AbstractList", name := "<init>", desc := "()V" } : Jvm.MethodName)) ∈ ev_gd := ev_mem 1359 (by decide +kernel) rfl
theorem ev_w1360 : (Jvm.Cond.instanceMethod ({ cls := "java/util/AbstractList", name := "<init>", desc := "()V" } : Jvm.MethodName)) ∈ ev_gd := ev_mem 1360 (by decide +kernel) rfl
theorem ev_w1523 : (Jvm.Cond.classLink "java/util/ArrayList" (267 : Nat) "java/util/ArrayList$Itr") ∈ ev_gd := ev_mem 1523 (by decide +kernel) rfl
theorem ev_w1524 : (Jvm.Cond.instantiable "java/util/ArrayList$Itr" (4 : Nat)) ∈ ev_gd := ev_mem 1524 (by decide +kernel) rfl
theorem ev_w1527 : (Jvm.Cond.code ({ cls := "java/util/ArrayList$Itr", name := "<init>", desc := "(Ljava/util/ArrayList;)V" } : Jvm.MethodName) prog_43_method_1_code (2 : Nat) (Option.none : Option Jvm.ClassFile.FieldType)) ∈ ev_gd := ev_mem 1527 (by decide +kernel) rfl
theorem ev_w1525 : (Jvm.Cond.methodLink "java/util/ArrayList" (269 : Nat) ({ cls := "java/util/ArrayList$Itr", name := "<init>", desc := "(Ljava/util/ArrayList;)V" } : Jvm.MethodName)) ∈ ev_gd := ev_mem 1525 (by decide +kernel) rfl
theorem ev_w1526 : (Jvm.Cond.instanceMethod ({ cls := "java/util/ArrayList$Itr", name := "<init>", desc := "(Ljava/util/ArrayList;)V" } : Jvm.MethodName)) ∈ ev_gd := ev_mem 1526 (by decide +kernel) rfl
theorem ev_w1365 : (Jvm.Cond.methodLink "java/util/AbstractCollection" (1 : Nat) ({ cls := "java/lang/Object", name := "<init>", desc := "()V" } : Jvm.MethodName)) ∈ ev_gd := ev_mem 1365 (by decide +kernel) rfl
theorem ev_w1364 : (Jvm.Cond.code ({ cls := "java/util/AbstractCollection", name := "<init>", desc := "()V" } : Jvm.MethodName) prog_40_method_1_code (1 : Nat) (Option.none : Option Jvm.ClassFile.FieldType)) ∈ ev_gd := ev_mem 1364 (by decide +kernel) rfl
theorem ev_w83 : (Jvm.Cond.initialized "java/util/AbstractCollection") ∈ ev_gd := ev_mem 83 (by decide +kernel) rfl
theorem ev_w1362 : (Jvm.Cond.methodLink "java/util/AbstractList" (1 : Nat) ({ cls := "java/util/AbstractCollection", name := "<init>", desc := "()V" } : Jvm.MethodName)) ∈ ev_gd := ev_mem 1362 (by decide +kernel) rfl
theorem ev_w1363 : (Jvm.Cond.instanceMethod ({ cls := "java/util/AbstractCollection", name := "<init>", desc := "()V" } : Jvm.MethodName)) ∈ ev_gd := ev_mem 1363 (by decide +kernel) rfl
theorem ev_w1372 : (Jvm.Cond.fieldLink "java/util/AbstractList" (7 : Nat) "java/util/AbstractList" "modCount" "I") ∈ ev_gd := ev_mem 1372 (by decide +kernel) rfl
theorem ev_w897 : (Jvm.Cond.code ({ cls := "Factloom", name := "commit", desc := "()I" } : Jvm.MethodName) prog_1_method_5_code (1 : Nat) (Option.some Jvm.ClassFile.FieldType.int)) ∈ ev_gd := ev_mem 897 (by decide +kernel) rfl
theorem ev_w71 : (Jvm.Cond.initialized "Factloom") ∈ ev_gd := ev_mem 71 (by decide +kernel) rfl
theorem ev_w894 : (Jvm.Cond.methodLink "FactloomLaw" (27 : Nat) ({ cls := "Factloom", name := "commit", desc := "()I" } : Jvm.MethodName)) ∈ ev_gd := ev_mem 894 (by decide +kernel) rfl
theorem ev_w895 : (Jvm.Cond.instanceMethod ({ cls := "Factloom", name := "commit", desc := "()I" } : Jvm.MethodName)) ∈ ev_gd := ev_mem 895 (by decide +kernel) rfl
theorem ev_w896 : (Jvm.Cond.selects "Factloom" ({ cls := "Factloom", name := "commit", desc := "()I" } : Jvm.MethodName) ({ cls := "Factloom", name := "commit", desc := "()I" } : Jvm.MethodName)) ∈ ev_gd := ev_mem 896 (by decide +kernel) rfl
theorem ev_w771 : (Jvm.Cond.fieldLinkNest "FactloomLaw" (13 : Nat) "FactloomLaw$Out" "n" "J" "FactloomLaw") ∈ ev_nw := ev_memN 771 (by decide +kernel) rfl
theorem ev_w109 : (Jvm.Cond.classLink "FactloomLaw" (8 : Nat) "Factloom") ∈ ev_gd := ev_mem 109 (by decide +kernel) rfl
theorem ev_w110 : (Jvm.Cond.instantiable "Factloom" (16 : Nat)) ∈ ev_gd := ev_mem 110 (by decide +kernel) rfl
theorem ev_w113 : (Jvm.Cond.code ({ cls := "Factloom", name := "<init>", desc := "()V" } : Jvm.MethodName) prog_1_method_1_code (1 : Nat) (Option.none : Option Jvm.ClassFile.FieldType)) ∈ ev_gd := ev_mem 113 (by decide +kernel) rfl
theorem ev_w111 : (Jvm.Cond.methodLink "FactloomLaw" (86 : Nat) ({ cls := "Factloom", name := "<init>", desc := "()V" } : Jvm.MethodName)) ∈ ev_gd := ev_mem 111 (by decide +kernel) rfl
theorem ev_w112 : (Jvm.Cond.instanceMethod ({ cls := "Factloom", name := "<init>", desc := "()V" } : Jvm.MethodName)) ∈ ev_gd := ev_mem 112 (by decide +kernel) rfl
theorem ev_w1348 : (Jvm.Cond.classLink "FactloomLaw" (87 : Nat) "FactloomModel") ∈ ev_gd := ev_mem 1348 (by decide +kernel) rfl
theorem ev_w1349 : (Jvm.Cond.instantiable "FactloomModel" (12 : Nat)) ∈ ev_gd := ev_mem 1349 (by decide +kernel) rfl
theorem ev_w82 : (Jvm.Cond.initialized "FactloomModel") ∈ ev_gd := ev_mem 82 (by decide +kernel) rfl
theorem ev_w1352 : (Jvm.Cond.code ({ cls := "FactloomModel", name := "<init>", desc := "()V" } : Jvm.MethodName) prog_14_method_1_code (1 : Nat) (Option.none : Option Jvm.ClassFile.FieldType)) ∈ ev_gd := ev_mem 1352 (by decide +kernel) rfl
theorem ev_w1350 : (Jvm.Cond.methodLink "FactloomLaw" (89 : Nat) ({ cls := "FactloomModel", name := "<init>", desc := "()V" } : Jvm.MethodName)) ∈ ev_gd := ev_mem 1350 (by decide +kernel) rfl
theorem ev_w1351 : (Jvm.Cond.instanceMethod ({ cls := "FactloomModel", name := "<init>", desc := "()V" } : Jvm.MethodName)) ∈ ev_gd := ev_mem 1351 (by decide +kernel) rfl
theorem ev_w765 : (Jvm.Cond.classLink "FactloomLaw" (14 : Nat) "FactloomLaw$Out") ∈ ev_gd := ev_mem 765 (by decide +kernel) rfl
theorem ev_w766 : (Jvm.Cond.instantiable "FactloomLaw$Out" (2 : Nat)) ∈ ev_gd := ev_mem 766 (by decide +kernel) rfl
theorem ev_w86 : (Jvm.Cond.initialized "FactloomLaw$Out") ∈ ev_gd := ev_mem 86 (by decide +kernel) rfl
theorem ev_w769 : (Jvm.Cond.code ({ cls := "FactloomLaw$Out", name := "<init>", desc := "()V" } : Jvm.MethodName) prog_13_method_1_code (1 : Nat) (Option.none : Option Jvm.ClassFile.FieldType)) ∈ ev_gd := ev_mem 769 (by decide +kernel) rfl
theorem ev_w767 : (Jvm.Cond.methodLinkNest "FactloomLaw" (90 : Nat) ({ cls := "FactloomLaw$Out", name := "<init>", desc := "()V" } : Jvm.MethodName) "FactloomLaw") ∈ ev_nw := ev_memN 767 (by decide +kernel) rfl
theorem ev_w768 : (Jvm.Cond.instanceMethod ({ cls := "FactloomLaw$Out", name := "<init>", desc := "()V" } : Jvm.MethodName)) ∈ ev_gd := ev_mem 768 (by decide +kernel) rfl
theorem ev_w780 : (Jvm.Cond.codeWith ({ cls := "FactloomLaw", name := "tell", desc := "(LFactloom;IILFactloomLaw$Out;)I" } : Jvm.MethodName) method_2_code (5 : Nat) (Option.some Jvm.ClassFile.FieldType.int) [((0 : Nat), (11 : Nat), (14 : Nat), (19 : Nat)), ((0 : Nat), (11 : Nat), (18 : Nat), (21 : Nat))]) ∈ ev_gd := ev_mem 780 (by decide +kernel) rfl
theorem ev_w70 : (Jvm.Cond.initialized "FactloomLaw") ∈ ev_gd := ev_mem 70 (by decide +kernel) rfl
theorem ev_w778 : (Jvm.Cond.methodLink "FactloomLaw" (91 : Nat) ({ cls := "FactloomLaw", name := "tell", desc := "(LFactloom;IILFactloomLaw$Out;)I" } : Jvm.MethodName)) ∈ ev_gd := ev_mem 778 (by decide +kernel) rfl
theorem ev_w779 : (Jvm.Cond.static ({ cls := "FactloomLaw", name := "tell", desc := "(LFactloom;IILFactloomLaw$Out;)I" } : Jvm.MethodName)) ∈ ev_gd := ev_mem 779 (by decide +kernel) rfl
theorem ev_w1427 : (Jvm.Cond.code ({ cls := "FactloomModel", name := "tell", desc := "(II)I" } : Jvm.MethodName) prog_14_method_18_code (3 : Nat) (Option.some Jvm.ClassFile.FieldType.int)) ∈ ev_gd := ev_mem 1427 (by decide +kernel) rfl
theorem ev_w1424 : (Jvm.Cond.methodLink "FactloomLaw" (96 : Nat) ({ cls := "FactloomModel", name := "tell", desc := "(II)I" } : Jvm.MethodName)) ∈ ev_gd := ev_mem 1424 (by decide +kernel) rfl
theorem ev_w1425 : (Jvm.Cond.instanceMethod ({ cls := "FactloomModel", name := "tell", desc := "(II)I" } : Jvm.MethodName)) ∈ ev_gd := ev_mem 1425 (by decide +kernel) rfl
theorem ev_w1426 : (Jvm.Cond.selects "FactloomModel" ({ cls := "FactloomModel", name := "tell", desc := "(II)I" } : Jvm.MethodName) ({ cls := "FactloomModel", name := "tell", desc := "(II)I" } : Jvm.MethodName)) ∈ ev_gd := ev_mem 1426 (by decide +kernel) rfl
theorem ev_w886 : (Jvm.Cond.codeWith ({ cls := "FactloomLaw", name := "unsay", desc := "(LFactloom;ILFactloomLaw$Out;)I" } : Jvm.MethodName) method_3_code (4 : Nat) (Option.some Jvm.ClassFile.FieldType.int) [((0 : Nat), (10 : Nat), (13 : Nat), (19 : Nat)), ((0 : Nat), (10 : Nat), (16 : Nat), (21 : Nat))]) ∈ ev_gd := ev_mem 886 (by decide +kernel) rfl
theorem ev_w884 : (Jvm.Cond.methodLink "FactloomLaw" (97 : Nat) ({ cls := "FactloomLaw", name := "unsay", desc := "(LFactloom;ILFactloomLaw$Out;)I" } : Jvm.MethodName)) ∈ ev_gd := ev_mem 884 (by decide +kernel) rfl
theorem ev_w885 : (Jvm.Cond.static ({ cls := "FactloomLaw", name := "unsay", desc := "(LFactloom;ILFactloomLaw$Out;)I" } : Jvm.MethodName)) ∈ ev_gd := ev_mem 885 (by decide +kernel) rfl
theorem ev_w1502 : (Jvm.Cond.code ({ cls := "FactloomModel", name := "unsay", desc := "(I)I" } : Jvm.MethodName) prog_14_method_19_code (2 : Nat) (Option.some Jvm.ClassFile.FieldType.int)) ∈ ev_gd := ev_mem 1502 (by decide +kernel) rfl
theorem ev_w1499 : (Jvm.Cond.methodLink "FactloomLaw" (100 : Nat) ({ cls := "FactloomModel", name := "unsay", desc := "(I)I" } : Jvm.MethodName)) ∈ ev_gd := ev_mem 1499 (by decide +kernel) rfl
theorem ev_w1500 : (Jvm.Cond.instanceMethod ({ cls := "FactloomModel", name := "unsay", desc := "(I)I" } : Jvm.MethodName)) ∈ ev_gd := ev_mem 1500 (by decide +kernel) rfl
theorem ev_w1501 : (Jvm.Cond.selects "FactloomModel" ({ cls := "FactloomModel", name := "unsay", desc := "(I)I" } : Jvm.MethodName) ({ cls := "FactloomModel", name := "unsay", desc := "(I)I" } : Jvm.MethodName)) ∈ ev_gd := ev_mem 1501 (by decide +kernel) rfl
theorem ev_w1423 : (Jvm.Cond.code ({ cls := "FactloomModel", name := "thrown", desc := "()I" } : Jvm.MethodName) prog_14_method_2_code (1 : Nat) (Option.some Jvm.ClassFile.FieldType.int)) ∈ ev_gd := ev_mem 1423 (by decide +kernel) rfl
theorem ev_w1420 : (Jvm.Cond.methodLink "FactloomLaw" (101 : Nat) ({ cls := "FactloomModel", name := "thrown", desc := "()I" } : Jvm.MethodName)) ∈ ev_gd := ev_mem 1420 (by decide +kernel) rfl
theorem ev_w1421 : (Jvm.Cond.instanceMethod ({ cls := "FactloomModel", name := "thrown", desc := "()I" } : Jvm.MethodName)) ∈ ev_gd := ev_mem 1421 (by decide +kernel) rfl
theorem ev_w1422 : (Jvm.Cond.selects "FactloomModel" ({ cls := "FactloomModel", name := "thrown", desc := "()I" } : Jvm.MethodName) ({ cls := "FactloomModel", name := "thrown", desc := "()I" } : Jvm.MethodName)) ∈ ev_gd := ev_mem 1422 (by decide +kernel) rfl
theorem ev_w893 : (Jvm.Cond.codeWith ({ cls := "FactloomLaw", name := "commit", desc := "(LFactloom;LFactloomLaw$Out;)I" } : Jvm.MethodName) method_4_code (3 : Nat) (Option.some Jvm.ClassFile.FieldType.int) [((0 : Nat), (9 : Nat), (12 : Nat), (21 : Nat))]) ∈ ev_gd := ev_mem 893 (by decide +kernel) rfl
theorem ev_w891 : (Jvm.Cond.methodLink "FactloomLaw" (108 : Nat) ({ cls := "FactloomLaw", name := "commit", desc := "(LFactloom;LFactloomLaw$Out;)I" } : Jvm.MethodName)) ∈ ev_gd := ev_mem 891 (by decide +kernel) rfl
theorem ev_w892 : (Jvm.Cond.static ({ cls := "FactloomLaw", name := "commit", desc := "(LFactloom;LFactloomLaw$Out;)I" } : Jvm.MethodName)) ∈ ev_gd := ev_mem 892 (by decide +kernel) rfl
theorem ev_w1514 : (Jvm.Cond.code ({ cls := "FactloomModel", name := "commit", desc := "()I" } : Jvm.MethodName) prog_14_method_22_code (4 : Nat) (Option.some Jvm.ClassFile.FieldType.int)) ∈ ev_gd := ev_mem 1514 (by decide +kernel) rfl
theorem ev_w1511 : (Jvm.Cond.methodLink "FactloomLaw" (111 : Nat) ({ cls := "FactloomModel", name := "commit", desc := "()I" } : Jvm.MethodName)) ∈ ev_gd := ev_mem 1511 (by decide +kernel) rfl
theorem ev_w1512 : (Jvm.Cond.instanceMethod ({ cls := "FactloomModel", name := "commit", desc := "()I" } : Jvm.MethodName)) ∈ ev_gd := ev_mem 1512 (by decide +kernel) rfl
theorem ev_w1513 : (Jvm.Cond.selects "FactloomModel" ({ cls := "FactloomModel", name := "commit", desc := "()I" } : Jvm.MethodName) ({ cls := "FactloomModel", name := "commit", desc := "()I" } : Jvm.MethodName)) ∈ ev_gd := ev_mem 1513 (by decide +kernel) rfl
theorem ev_w655 : (Jvm.Cond.code ({ cls := "Factloom", name := "broken", desc := "()I" } : Jvm.MethodName) prog_1_method_24_code (1 : Nat) (Option.some Jvm.ClassFile.FieldType.int)) ∈ ev_gd := ev_mem 655 (by decide +kernel) rfl
theorem ev_w652 : (Jvm.Cond.methodLink "FactloomLaw" (173 : Nat) ({ cls := "Factloom", name := "broken", desc := "()I" } : Jvm.MethodName)) ∈ ev_gd := ev_mem 652 (by decide +kernel) rfl
theorem ev_w653 : (Jvm.Cond.instanceMethod ({ cls := "Factloom", name := "broken", desc := "()I" } : Jvm.MethodName)) ∈ ev_gd := ev_mem 653 (by decide +kernel) rfl
theorem ev_w654 : (Jvm.Cond.selects "Factloom" ({ cls := "Factloom", name := "broken", desc := "()I" } : Jvm.MethodName) ({ cls := "Factloom", name := "broken", desc := "()I" } : Jvm.MethodName)) ∈ ev_gd := ev_mem 654 (by decide +kernel) rfl
theorem ev_w1867 : (Jvm.Cond.code ({ cls := "FactloomModel", name := "broken", desc := "()I" } : Jvm.MethodName) prog_14_method_65_code (1 : Nat) (Option.some Jvm.ClassFile.FieldType.int)) ∈ ev_gd := ev_mem 1867 (by decide +kernel) rfl
theorem ev_w1864 : (Jvm.Cond.methodLink "FactloomLaw" (176 : Nat) ({ cls := "FactloomModel", name := "broken", desc := "()I" } : Jvm.MethodName)) ∈ ev_gd := ev_mem 1864 (by decide +kernel) rfl
theorem ev_w1865 : (Jvm.Cond.instanceMethod ({ cls := "FactloomModel", name := "broken", desc := "()I" } : Jvm.MethodName)) ∈ ev_gd := ev_mem 1865 (by decide +kernel) rfl
theorem ev_w1866 : (Jvm.Cond.selects "FactloomModel" ({ cls := "FactloomModel", name := "broken", desc := "()I" } : Jvm.MethodName) ({ cls := "FactloomModel", name := "broken", desc := "()I" } : Jvm.MethodName)) ∈ ev_gd := ev_mem 1866 (by decide +kernel) rfl
theorem ev_w786 : (Jvm.Cond.code ({ cls := "Factloom", name := "tell", desc := "(II)I" } : Jvm.MethodName) prog_1_method_2_code (3 : Nat) (Option.some Jvm.ClassFile.FieldType.int)) ∈ ev_gd := ev_mem 786 (by decide +kernel) rfl
theorem ev_w783 : (Jvm.Cond.methodLink "FactloomLaw" (7 : Nat) ({ cls := "Factloom", name := "tell", desc := "(II)I" } : Jvm.MethodName)) ∈ ev_gd := ev_mem 783 (by decide +kernel) rfl
theorem ev_w784 : (Jvm.Cond.instanceMethod ({ cls := "Factloom", name := "tell", desc := "(II)I" } : Jvm.MethodName)) ∈ ev_gd := ev_mem 784 (by decide +kernel) rfl
theorem ev_w785 : (Jvm.Cond.selects "Factloom" ({ cls := "Factloom", name := "tell", desc := "(II)I" } : Jvm.MethodName) ({ cls := "Factloom", name := "tell", desc := "(II)I" } : Jvm.MethodName)) ∈ ev_gd := ev_mem 785 (by decide +kernel) rfl
theorem ev_w890 : (Jvm.Cond.code ({ cls := "Factloom", name := "unsay", desc := "(I)I" } : Jvm.MethodName) prog_1_method_3_code (2 : Nat) (Option.some Jvm.ClassFile.FieldType.int)) ∈ ev_gd := ev_mem 890 (by decide +kernel) rfl
theorem ev_w887 : (Jvm.Cond.methodLink "FactloomLaw" (23 : Nat) ({ cls := "Factloom", name := "unsay", desc := "(I)I" } : Jvm.MethodName)) ∈ ev_gd := ev_mem 887 (by decide +kernel) rfl
theorem ev_w888 : (Jvm.Cond.instanceMethod ({ cls := "Factloom", name := "unsay", desc := "(I)I" } : Jvm.MethodName)) ∈ ev_gd := ev_mem 888 (by decide +kernel) rfl
theorem ev_w889 : (Jvm.Cond.selects "Factloom" ({ cls := "Factloom", name := "unsay", desc := "(I)I" } : Jvm.MethodName) ({ cls := "Factloom", name := "unsay", desc := "(I)I" } : Jvm.MethodName)) ∈ ev_gd := ev_mem 889 (by decide +kernel) rfl
theorem ev_w143 : (Jvm.Cond.fieldLink "Factloom$Batch" (9 : Nat) "Factloom$Batch" "triples" "[I") ∈ ev_gd := ev_mem 143 (by decide +kernel) rfl
theorem ev_w147 : (Jvm.Cond.fieldLink "Factloom$Batch" (18 : Nat) "Factloom$Batch" "count" "I") ∈ ev_gd := ev_mem 147 (by decide +kernel) rfl
theorem ev_w440 : (Jvm.Cond.code ({ cls := "Factloom", name := "put", desc := "([III)V" } : Jvm.MethodName) prog_1_method_52_code (3 : Nat) (Option.none : Option Jvm.ClassFile.FieldType)) ∈ ev_gd := ev_mem 440 (by decide +kernel) rfl
theorem ev_w883 : (Jvm.Cond.methodLinkNest "Factloom$Batch" (22 : Nat) ({ cls := "Factloom", name := "put", desc := "([III)V" } : Jvm.MethodName) "Factloom") ∈ ev_nw := ev_memN 883 (by decide +kernel) rfl
theorem ev_w439 : (Jvm.Cond.static ({ cls := "Factloom", name := "put", desc := "([III)V" } : Jvm.MethodName)) ∈ ev_gd := ev_mem 439 (by decide +kernel) rfl
theorem ev_w145 : (Jvm.Cond.fieldLink "Factloom$Batch" (15 : Nat) "Factloom$Batch" "trusts" "[I") ∈ ev_gd := ev_mem 145 (by decide +kernel) rfl
theorem ev_w142 : (Jvm.Cond.methodLink "Factloom$Batch" (3 : Nat) ({ cls := "java/lang/Object", name := "<init>", desc := "()V" } : Jvm.MethodName)) ∈ ev_gd := ev_mem 142 (by decide +kernel) rfl
theorem ev_w136 : (Jvm.Cond.arrayClass Jvm.ClassFile.FieldType.int) ∈ ev_gd := ev_mem 136 (by decide +kernel) rfl
theorem ev_w659 : (Jvm.Cond.code ({ cls := "Factloom", name := "tryBatch", desc := "()V" } : Jvm.MethodName) prog_1_method_35_code (1 : Nat) (Option.none : Option Jvm.ClassFile.FieldType)) ∈ ev_gd := ev_mem 659 (by decide +kernel) rfl
theorem ev_w656 : (Jvm.Cond.methodLink "Factloom" (112 : Nat) ({ cls := "Factloom", name := "tryBatch", desc := "()V" } : Jvm.MethodName)) ∈ ev_gd := ev_mem 656 (by decide +kernel) rfl
theorem ev_w658 : (Jvm.Cond.instanceMethod ({ cls := "Factloom", name := "tryBatch", desc := "()V" } : Jvm.MethodName)) ∈ ev_gd := ev_mem 658 (by decide +kernel) rfl
theorem ev_w19 : (Cond.selects "Factloom" ⟨"Factloom", "tryBatch", "()V"⟩ ⟨"Factloom", "tryBatch", "()V"⟩) ∈ ev_gd := ev_mem 19 (by decide +kernel) rfl
theorem ev_w353 : (Jvm.Cond.fieldLink "Factloom" (40 : Nat) "Factloom" "toldElse" "LFactloom$ToldTable;") ∈ ev_gd := ev_mem 353 (by decide +kernel) rfl
theorem ev_w348 : (Jvm.Cond.fieldLink "Factloom" (10 : Nat) "Factloom" "names" "LFactloom$Names;") ∈ ev_gd := ev_mem 348 (by decide +kernel) rfl
theorem ev_w687 : (Jvm.Cond.code ({ cls := "Factloom$ToldTable", name := "brokenHeads", desc := "(LFactloom$Names;)I" } : Jvm.MethodName) prog_11_method_5_code (4 : Nat) (Option.some Jvm.ClassFile.FieldType.int)) ∈ ev_gd := ev_mem 687 (by decide +kernel) rfl
theorem ev_w75 : (Jvm.Cond.initialized "Factloom$ToldTable") ∈ ev_gd := ev_mem 75 (by decide +kernel) rfl
theorem ev_w684 : (Jvm.Cond.methodLink "Factloom" (120 : Nat) ({ cls := "Factloom$ToldTable", name := "brokenHeads", desc := "(LFactloom$Names;)I" } : Jvm.MethodName)) ∈ ev_gd := ev_mem 684 (by decide +kernel) rfl
theorem ev_w685 : (Jvm.Cond.instanceMethod ({ cls := "Factloom$ToldTable", name := "brokenHeads", desc := "(LFactloom$Names;)I" } : Jvm.MethodName)) ∈ ev_gd := ev_mem 685 (by decide +kernel) rfl
theorem ev_w686 : (Jvm.Cond.selects "Factloom$ToldTable" ({ cls := "Factloom$ToldTable", name := "brokenHeads", desc := "(LFactloom$Names;)I" } : Jvm.MethodName) ({ cls := "Factloom$ToldTable", name := "brokenHeads", desc := "(LFactloom$Names;)I" } : Jvm.MethodName)) ∈ ev_gd := ev_mem 686 (by decide +kernel) rfl
theorem ev_w349 : (Jvm.Cond.fieldLink "Factloom" (19 : Nat) "Factloom" "batch" "LFactloom$Batch;") ∈ ev_gd := ev_mem 349 (by decide +kernel) rfl
theorem ev_w149 : (Jvm.Cond.fieldLinkNest "Factloom" (342 : Nat) "Factloom$Batch" "count" "I" "Factloom") ∈ ev_nw := ev_memN 149 (by decide +kernel) rfl
theorem ev_w360 : (Jvm.Cond.fieldLink "Factloom" (103 : Nat) "Factloom" "moment" "I") ∈ ev_gd := ev_mem 360 (by decide +kernel) rfl
theorem ev_w351 : (Jvm.Cond.fieldLink "Factloom" (30 : Nat) "Factloom" "tried" "LFactloom$Rows;") ∈ ev_gd := ev_mem 351 (by decide +kernel) rfl
theorem ev_w174 : (Jvm.Cond.fieldLinkNest "Factloom" (115 : Nat) "Factloom$Rows" "count" "I" "Factloom") ∈ ev_nw := ev_memN 174 (by decide +kernel) rfl
theorem ev_w350 : (Jvm.Cond.fieldLink "Factloom" (26 : Nat) "Factloom" "rows" "LFactloom$Rows;") ∈ ev_gd := ev_mem 350 (by decide +kernel) rfl
theorem ev_w663 : (Jvm.Cond.code ({ cls := "Factloom$Rows", name := "copyFrom", desc := "(LFactloom$Rows;)V" } : Jvm.MethodName) prog_9_method_2_code (2 : Nat) (Option.none : Option Jvm.ClassFile.FieldType)) ∈ ev_gd := ev_mem 663 (by decide +kernel) rfl
theorem ev_w74 : (Jvm.Cond.initialized "Factloom$Rows") ∈ ev_gd := ev_mem 74 (by decide +kernel) rfl
theorem ev_w660 : (Jvm.Cond.methodLink "Factloom" (126 : Nat) ({ cls := "Factloom$Rows", name := "copyFrom", desc := "(LFactloom$Rows;)V" } : Jvm.MethodName)) ∈ ev_gd := ev_mem 660 (by decide +kernel) rfl
theorem ev_w661 : (Jvm.Cond.instanceMethod ({ cls := "Factloom$Rows", name := "copyFrom", desc := "(LFactloom$Rows;)V" } : Jvm.MethodName)) ∈ ev_gd := ev_mem 661 (by decide +kernel) rfl
theorem ev_w662 : (Jvm.Cond.selects "Factloom$Rows" ({ cls := "Factloom$Rows", name := "copyFrom", desc := "(LFactloom$Rows;)V" } : Jvm.MethodName) ({ cls := "Factloom$Rows", name := "copyFrom", desc := "(LFactloom$Rows;)V" } : Jvm.MethodName)) ∈ ev_gd := ev_mem 662 (by decide +kernel) rfl
theorem ev_w404 : (Jvm.Cond.code ({ cls := "Factloom$Batch", name := "empty", desc := "()I" } : Jvm.MethodName) prog_2_method_3_code (2 : Nat) (Option.some Jvm.ClassFile.FieldType.int)) ∈ ev_gd := ev_mem 404 (by decide +kernel) rfl
theorem ev_w73 : (Jvm.Cond.initialized "Factloom$Batch") ∈ ev_gd := ev_mem 73 (by decide +kernel) rfl
theorem ev_w401 : (Jvm.Cond.methodLink "Factloom" (99 : Nat) ({ cls := "Factloom$Batch", name := "empty", desc := "()I" } : Jvm.MethodName)) ∈ ev_gd := ev_mem 401 (by decide +kernel) rfl
theorem ev_w402 : (Jvm.Cond.instanceMethod ({ cls := "Factloom$Batch", name := "empty", desc := "()I" } : Jvm.MethodName)) ∈ ev_gd := ev_mem 402 (by decide +kernel) rfl
theorem ev_w403 : (Jvm.Cond.selects "Factloom$Batch" ({ cls := "Factloom$Batch", name := "empty", desc := "()I" } : Jvm.MethodName) ({ cls := "Factloom$Batch", name := "empty", desc := "()I" } : Jvm.MethodName)) ∈ ev_gd := ev_mem 403 (by decide +kernel) rfl
theorem ev_w448 : (Jvm.Cond.code ({ cls := "Factloom", name := "toldChanged", desc := "()V" } : Jvm.MethodName) prog_1_method_32_code (1 : Nat) (Option.none : Option Jvm.ClassFile.FieldType)) ∈ ev_gd := ev_mem 448 (by decide +kernel) rfl
theorem ev_w445 : (Jvm.Cond.methodLink "Factloom" (130 : Nat) ({ cls := "Factloom", name := "toldChanged", desc := "()V" } : Jvm.MethodName)) ∈ ev_gd := ev_mem 445 (by decide +kernel) rfl
theorem ev_w447 : (Jvm.Cond.instanceMethod ({ cls := "Factloom", name := "toldChanged", desc := "()V" } : Jvm.MethodName)) ∈ ev_gd := ev_mem 447 (by decide +kernel) rfl
theorem ev_w2 : (Cond.selects "Factloom" ⟨"Factloom", "toldChanged", "()V"⟩ ⟨"Factloom", "toldChanged", "()V"⟩) ∈ ev_gd := ev_mem 2 (by decide +kernel) rfl
theorem ev_w114 : (Jvm.Cond.methodLink "Factloom" (1 : Nat) ({ cls := "java/lang/Object", name := "<init>", desc := "()V" } : Jvm.MethodName)) ∈ ev_gd := ev_mem 114 (by decide +kernel) rfl
theorem ev_w117 : (Jvm.Cond.classLink "Factloom" (7 : Nat) "Factloom$Names") ∈ ev_gd := ev_mem 117 (by decide +kernel) rfl
theorem ev_w118 : (Jvm.Cond.instantiable "Factloom$Names" (2 : Nat)) ∈ ev_gd := ev_mem 118 (by decide +kernel) rfl
theorem ev_w72 : (Jvm.Cond.initialized "Factloom$Names") ∈ ev_gd := ev_mem 72 (by decide +kernel) rfl
theorem ev_w121 : (Jvm.Cond.code ({ cls := "Factloom$Names", name := "<init>", desc := "()V" } : Jvm.MethodName) prog_6_method_1_code (1 : Nat) (Option.none : Option Jvm.ClassFile.FieldType)) ∈ ev_gd := ev_mem 121 (by decide +kernel) rfl
theorem ev_w119 : (Jvm.Cond.methodLink "Factloom" (9 : Nat) ({ cls := "Factloom$Names", name := "<init>", desc := "()V" } : Jvm.MethodName)) ∈ ev_gd := ev_mem 119 (by decide +kernel) rfl
theorem ev_w120 : (Jvm.Cond.instanceMethod ({ cls := "Factloom$Names", name := "<init>", desc := "()V" } : Jvm.MethodName)) ∈ ev_gd := ev_mem 120 (by decide +kernel) rfl
theorem ev_w137 : (Jvm.Cond.classLink "Factloom" (16 : Nat) "Factloom$Batch") ∈ ev_gd := ev_mem 137 (by decide +kernel) rfl
theorem ev_w138 : (Jvm.Cond.instantiable "Factloom$Batch" (3 : Nat)) ∈ ev_gd := ev_mem 138 (by decide +kernel) rfl
theorem ev_w141 : (Jvm.Cond.code ({ cls := "Factloom$Batch", name := "<init>", desc := "()V" } : Jvm.MethodName) prog_2_method_1_code (1 : Nat) (Option.none : Option Jvm.ClassFile.FieldType)) ∈ ev_gd := ev_mem 141 (by decide +kernel) rfl
theorem ev_w139 : (Jvm.Cond.methodLinkNest "Factloom" (18 : Nat) ({ cls := "Factloom$Batch", name := "<init>", desc := "()V" } : Jvm.MethodName) "Factloom") ∈ ev_nw := ev_memN 139 (by decide +kernel) rfl
theorem ev_w140 : (Jvm.Cond.instanceMethod ({ cls := "Factloom$Batch", name := "<init>", desc := "()V" } : Jvm.MethodName)) ∈ ev_gd := ev_mem 140 (by decide +kernel) rfl
theorem ev_w157 : (Jvm.Cond.classLink "Factloom" (23 : Nat) "Factloom$Rows") ∈ ev_gd := ev_mem 157 (by decide +kernel) rfl
theorem ev_w158 : (Jvm.Cond.instantiable "Factloom$Rows" (6 : Nat)) ∈ ev_gd := ev_mem 158 (by decide +kernel) rfl
theorem ev_w161 : (Jvm.Cond.code ({ cls := "Factloom$Rows", name := "<init>", desc := "()V" } : Jvm.MethodName) prog_9_method_1_code (1 : Nat) (Option.none : Option Jvm.ClassFile.FieldType)) ∈ ev_gd := ev_mem 161 (by decide +kernel) rfl
theorem ev_w159 : (Jvm.Cond.methodLinkNest "Factloom" (25 : Nat) ({ cls := "Factloom$Rows", name := "<init>", desc := "()V" } : Jvm.MethodName) "Factloom") ∈ ev_nw := ev_memN 159 (by decide +kernel) rfl
theorem ev_w160 : (Jvm.Cond.instanceMethod ({ cls := "Factloom$Rows", name := "<init>", desc := "()V" } : Jvm.MethodName)) ∈ ev_gd := ev_mem 160 (by decide +kernel) rfl
theorem ev_w188 : (Jvm.Cond.classLink "Factloom" (33 : Nat) "Factloom$ToldTable") ∈ ev_gd := ev_mem 188 (by decide +kernel) rfl
theorem ev_w189 : (Jvm.Cond.instantiable "Factloom$ToldTable" (1 : Nat)) ∈ ev_gd := ev_mem 189 (by decide +kernel) rfl
theorem ev_w192 : (Jvm.Cond.code ({ cls := "Factloom$ToldTable", name := "<init>", desc := "()V" } : Jvm.MethodName) prog_11_method_1_code (1 : Nat) (Option.none : Option Jvm.ClassFile.FieldType)) ∈ ev_gd := ev_mem 192 (by decide +kernel) rfl
theorem ev_w190 : (Jvm.Cond.methodLinkNest "Factloom" (35 : Nat) ({ cls := "Factloom$ToldTable", name := "<init>", desc := "()V" } : Jvm.MethodName) "Factloom") ∈ ev_nw := ev_memN 190 (by decide +kernel) rfl
theorem ev_w191 : (Jvm.Cond.instanceMethod ({ cls := "Factloom$ToldTable", name := "<init>", desc := "()V" } : Jvm.MethodName)) ∈ ev_gd := ev_mem 191 (by decide +kernel) rfl
theorem ev_w352 : (Jvm.Cond.fieldLink "Factloom" (36 : Nat) "Factloom" "toldNow" "LFactloom$ToldTable;") ∈ ev_gd := ev_mem 352 (by decide +kernel) rfl
theorem ev_w198 : (Jvm.Cond.classLink "Factloom" (43 : Nat) "Factloom$Rules") ∈ ev_gd := ev_mem 198 (by decide +kernel) rfl
theorem ev_w199 : (Jvm.Cond.instantiable "Factloom$Rules" (4 : Nat)) ∈ ev_gd := ev_mem 199 (by decide +kernel) rfl
theorem ev_w76 : (Jvm.Cond.initialized "Factloom$Rules") ∈ ev_gd := ev_mem 76 (by decide +kernel) rfl
theorem ev_w202 : (Jvm.Cond.code ({ cls := "Factloom$Rules", name := "<init>", desc := "()V" } : Jvm.MethodName) prog_10_method_1_code (1 : Nat) (Option.none : Option Jvm.ClassFile.FieldType)) ∈ ev_gd := ev_mem 202 (by decide +kernel) rfl
theorem ev_w200 : (Jvm.Cond.methodLinkNest "Factloom" (45 : Nat) ({ cls := "Factloom$Rules", name := "<init>", desc := "()V" } : Jvm.MethodName) "Factloom") ∈ ev_nw := ev_memN 200 (by decide +kernel) rfl
theorem ev_w201 : (Jvm.Cond.instanceMethod ({ cls := "Factloom$Rules", name := "<init>", desc := "()V" } : Jvm.MethodName)) ∈ ev_gd := ev_mem 201 (by decide +kernel) rfl
theorem ev_w354 : (Jvm.Cond.fieldLink "Factloom" (46 : Nat) "Factloom" "rules" "LFactloom$Rules;") ∈ ev_gd := ev_mem 354 (by decide +kernel) rfl
theorem ev_w223 : (Jvm.Cond.classLink "Factloom" (50 : Nat) "Factloom$Grounds") ∈ ev_gd := ev_mem 223 (by decide +kernel) rfl
theorem ev_w224 : (Jvm.Cond.instantiable "Factloom$Grounds" (6 : Nat)) ∈ ev_gd := ev_mem 224 (by decide +kernel) rfl
theorem ev_w77 : (Jvm.Cond.initialized "Factloom$Grounds") ∈ ev_gd := ev_mem 77 (by decide +kernel) rfl
theorem ev_w227 : (Jvm.Cond.code ({ cls := "Factloom$Grounds", name := "<init>", desc := "()V" } : Jvm.MethodName) prog_5_method_1_code (1 : Nat) (Option.none : Option Jvm.ClassFile.FieldType)) ∈ ev_gd := ev_mem 227 (by decide +kernel) rfl
theorem ev_w225 : (Jvm.Cond.methodLinkNest "Factloom" (52 : Nat) ({ cls := "Factloom$Grounds", name := "<init>", desc := "()V" } : Jvm.MethodName) "Factloom") ∈ ev_nw := ev_memN 225 (by decide +kernel) rfl
theorem ev_w226 : (Jvm.Cond.instanceMethod ({ cls := "Factloom$Grounds", name := "<init>", desc := "()V" } : Jvm.MethodName)) ∈ ev_gd := ev_mem 226 (by decide +kernel) rfl
theorem ev_w355 : (Jvm.Cond.fieldLink "Factloom" (53 : Nat) "Factloom" "grounds" "LFactloom$Grounds;") ∈ ev_gd := ev_mem 355 (by decide +kernel) rfl
theorem ev_w272 : (Jvm.Cond.classLink "Factloom" (57 : Nat) "Factloom$Depths") ∈ ev_gd := ev_mem 272 (by decide +kernel) rfl
theorem ev_w273 : (Jvm.Cond.instantiable "Factloom$Depths" (3 : Nat)) ∈ ev_gd := ev_mem 273 (by decide +kernel) rfl
theorem ev_w79 : (Jvm.Cond.initialized "Factloom$Depths") ∈ ev_gd := ev_mem 79 (by decide +kernel) rfl
theorem ev_w276 : (Jvm.Cond.code ({ cls := "Factloom$Depths", name := "<init>", desc := "()V" } : Jvm.MethodName) prog_4_method_1_code (1 : Nat) (Option.none : Option Jvm.ClassFile.FieldType)) ∈ ev_gd := ev_mem 276 (by decide +kernel) rfl
theorem ev_w274 : (Jvm.Cond.methodLinkNest "Factloom" (59 : Nat) ({ cls := "Factloom$Depths", name := "<init>", desc := "()V" } : Jvm.MethodName) "Factloom") ∈ ev_nw := ev_memN 274 (by decide +kernel) rfl
theorem ev_w275 : (Jvm.Cond.instanceMethod ({ cls := "Factloom$Depths", name := "<init>", desc := "()V" } : Jvm.MethodName)) ∈ ev_gd := ev_mem 275 (by decide +kernel) rfl
theorem ev_w356 : (Jvm.Cond.fieldLink "Factloom" (60 : Nat) "Factloom" "depths" "LFactloom$Depths;") ∈ ev_gd := ev_mem 356 (by decide +kernel) rfl
theorem ev_w357 : (Jvm.Cond.fieldLink "Factloom" (64 : Nat) "Factloom" "depthsWithout" "LFactloom$Depths;") ∈ ev_gd := ev_mem 357 (by decide +kernel) rfl
theorem ev_w290 : (Jvm.Cond.classLink "Factloom" (67 : Nat) "Factloom$Origins") ∈ ev_gd := ev_mem 290 (by decide +kernel) rfl
theorem ev_w291 : (Jvm.Cond.instantiable "Factloom$Origins" (3 : Nat)) ∈ ev_gd := ev_mem 291 (by decide +kernel) rfl
theorem ev_w80 : (Jvm.Cond.initialized "Factloom$Origins") ∈ ev_gd := ev_mem 80 (by decide +kernel) rfl
theorem ev_w294 : (Jvm.Cond.code ({ cls := "Factloom$Origins", name := "<init>", desc := "()V" } : Jvm.MethodName) prog_7_method_1_code (1 : Nat) (Option.none : Option Jvm.ClassFile.FieldType)) ∈ ev_gd := ev_mem 294 (by decide +kernel) rfl
theorem ev_w292 : (Jvm.Cond.methodLinkNest "Factloom" (69 : Nat) ({ cls := "Factloom$Origins", name := "<init>", desc := "()V" } : Jvm.MethodName) "Factloom") ∈ ev_nw := ev_memN 292 (by decide +kernel) rfl
theorem ev_w293 : (Jvm.Cond.instanceMethod ({ cls := "Factloom$Origins", name := "<init>", desc := "()V" } : Jvm.MethodName)) ∈ ev_gd := ev_mem 293 (by decide +kernel) rfl
theorem ev_w358 : (Jvm.Cond.fieldLink "Factloom" (70 : Nat) "Factloom" "origins" "LFactloom$Origins;") ∈ ev_gd := ev_mem 358 (by decide +kernel) rfl
theorem ev_w309 : (Jvm.Cond.classLink "Factloom" (74 : Nat) "Factloom$Question") ∈ ev_gd := ev_mem 309 (by decide +kernel) rfl
theorem ev_w310 : (Jvm.Cond.instantiable "Factloom$Question" (9 : Nat)) ∈ ev_gd := ev_mem 310 (by decide +kernel) rfl
theorem ev_w81 : (Jvm.Cond.initialized "Factloom$Question") ∈ ev_gd := ev_mem 81 (by decide +kernel) rfl
theorem ev_w313 : (Jvm.Cond.code ({ cls := "Factloom$Question", name := "<init>", desc := "()V" } : Jvm.MethodName) prog_8_method_1_code (1 : Nat) (Option.none : Option Jvm.ClassFile.FieldType)) ∈ ev_gd := ev_mem 313 (by decide +kernel) rfl
theorem ev_w311 : (Jvm.Cond.methodLinkNest "Factloom" (76 : Nat) ({ cls := "Factloom$Question", name := "<init>", desc := "()V" } : Jvm.MethodName) "Factloom") ∈ ev_nw := ev_memN 311 (by decide +kernel) rfl
theorem ev_w312 : (Jvm.Cond.instanceMethod ({ cls := "Factloom$Question", name := "<init>", desc := "()V" } : Jvm.MethodName)) ∈ ev_gd := ev_mem 312 (by decide +kernel) rfl
theorem ev_w359 : (Jvm.Cond.fieldLink "Factloom" (77 : Nat) "Factloom" "question" "LFactloom$Question;") ∈ ev_gd := ev_mem 359 (by decide +kernel) rfl
theorem ev_w789 : (Jvm.Cond.code ({ cls := "Factloom", name := "checkTriple", desc := "(I)V" } : Jvm.MethodName) prog_1_method_45_code (1 : Nat) (Option.none : Option Jvm.ClassFile.FieldType)) ∈ ev_gd := ev_mem 789 (by decide +kernel) rfl
theorem ev_w787 : (Jvm.Cond.methodLink "Factloom" (81 : Nat) ({ cls := "Factloom", name := "checkTriple", desc := "(I)V" } : Jvm.MethodName)) ∈ ev_gd := ev_mem 787 (by decide +kernel) rfl
theorem ev_w788 : (Jvm.Cond.static ({ cls := "Factloom", name := "checkTriple", desc := "(I)V" } : Jvm.MethodName)) ∈ ev_gd := ev_mem 788 (by decide +kernel) rfl
theorem ev_w862 : (Jvm.Cond.code ({ cls := "Factloom", name := "checkBatchRoom", desc := "()V" } : Jvm.MethodName) prog_1_method_50_code (1 : Nat) (Option.none : Option Jvm.ClassFile.FieldType)) ∈ ev_gd := ev_mem 862 (by decide +kernel) rfl
theorem ev_w859 : (Jvm.Cond.methodLink "Factloom" (92 : Nat) ({ cls := "Factloom", name := "checkBatchRoom", desc := "()V" } : Jvm.MethodName)) ∈ ev_gd := ev_mem 859 (by decide +kernel) rfl
theorem ev_w861 : (Jvm.Cond.instanceMethod ({ cls := "Factloom", name := "checkBatchRoom", desc := "()V" } : Jvm.MethodName)) ∈ ev_gd := ev_mem 861 (by decide +kernel) rfl
theorem ev_w34 : (Cond.selects "Factloom" ⟨"Factloom", "checkBatchRoom", "()V"⟩ ⟨"Factloom", "checkBatchRoom", "()V"⟩) ∈ ev_gd := ev_mem 34 (by decide +kernel) rfl
theorem ev_w882 : (Jvm.Cond.code ({ cls := "Factloom$Batch", name := "add", desc := "(II)I" } : Jvm.MethodName) prog_2_method_2_code (3 : Nat) (Option.some Jvm.ClassFile.FieldType.int)) ∈ ev_gd := ev_mem 882 (by decide +kernel) rfl
theorem ev_w879 : (Jvm.Cond.methodLink "Factloom" (95 : Nat) ({ cls := "Factloom$Batch", name := "add", desc := "(II)I" } : Jvm.MethodName)) ∈ ev_gd := ev_mem 879 (by decide +kernel) rfl
theorem ev_w880 : (Jvm.Cond.instanceMethod ({ cls := "Factloom$Batch", name := "add", desc := "(II)I" } : Jvm.MethodName)) ∈ ev_gd := ev_mem 880 (by decide +kernel) rfl
theorem ev_w881 : (Jvm.Cond.selects "Factloom$Batch" ({ cls := "Factloom$Batch", name := "add", desc := "(II)I" } : Jvm.MethodName) ({ cls := "Factloom$Batch", name := "add", desc := "(II)I" } : Jvm.MethodName)) ∈ ev_gd := ev_mem 881 (by decide +kernel) rfl
theorem ev_w452 : (Jvm.Cond.code ({ cls := "Factloom$ToldTable", name := "gather", desc := "(LFactloom$Rows;I)V" } : Jvm.MethodName) prog_11_method_2_code (6 : Nat) (Option.none : Option Jvm.ClassFile.FieldType)) ∈ ev_gd := ev_mem 452 (by decide +kernel) rfl
theorem ev_w449 : (Jvm.Cond.methodLink "Factloom" (212 : Nat) ({ cls := "Factloom$ToldTable", name := "gather", desc := "(LFactloom$Rows;I)V" } : Jvm.MethodName)) ∈ ev_gd := ev_mem 449 (by decide +kernel) rfl
theorem ev_w450 : (Jvm.Cond.instanceMethod ({ cls := "Factloom$ToldTable", name := "gather", desc := "(LFactloom$Rows;I)V" } : Jvm.MethodName)) ∈ ev_gd := ev_mem 450 (by decide +kernel) rfl
theorem ev_w451 : (Jvm.Cond.selects "Factloom$ToldTable" ({ cls := "Factloom$ToldTable", name := "gather", desc := "(LFactloom$Rows;I)V" } : Jvm.MethodName) ({ cls := "Factloom$ToldTable", name := "gather", desc := "(LFactloom$Rows;I)V" } : Jvm.MethodName)) ∈ ev_gd := ev_mem 451 (by decide +kernel) rfl
theorem ev_w362 : (Jvm.Cond.fieldLink "Factloom" (306 : Nat) "Factloom" "heldFresh" "Z") ∈ ev_gd := ev_mem 362 (by decide +kernel) rfl
theorem ev_w363 : (Jvm.Cond.fieldLink "Factloom" (188 : Nat) "Factloom" "answersFresh" "Z") ∈ ev_gd := ev_mem 363 (by decide +kernel) rfl
theorem ev_w668 : (Jvm.Cond.code ({ cls := "Factloom$Rows", name := "take", desc := "(LFactloom$Batch;ILFactloom$Names;)V" } : Jvm.MethodName) prog_9_method_4_code (7 : Nat) (Option.none : Option Jvm.ClassFile.FieldType)) ∈ ev_gd := ev_mem 668 (by decide +kernel) rfl
theorem ev_w665 : (Jvm.Cond.methodLink "Factloom" (321 : Nat) ({ cls := "Factloom$Rows", name := "take", desc := "(LFactloom$Batch;ILFactloom$Names;)V" } : Jvm.MethodName)) ∈ ev_gd := ev_mem 665 (by decide +kernel) rfl
theorem ev_w666 : (Jvm.Cond.instanceMethod ({ cls := "Factloom$Rows", name := "take", desc := "(LFactloom$Batch;ILFactloom$Names;)V" } : Jvm.MethodName)) ∈ ev_gd := ev_mem 666 (by decide +kernel) rfl
theorem ev_w667 : (Jvm.Cond.selects "Factloom$Rows" ({ cls := "Factloom$Rows", name := "take", desc := "(LFactloom$Batch;ILFactloom$Names;)V" } : Jvm.MethodName) ({ cls := "Factloom$Rows", name := "take", desc := "(LFactloom$Batch;ILFactloom$Names;)V" } : Jvm.MethodName)) ∈ ev_gd := ev_mem 667 (by decide +kernel) rfl
theorem ev_w770 : (Jvm.Cond.methodLink "FactloomLaw$Out" (1 : Nat) ({ cls := "java/lang/Object", name := "<init>", desc := "()V" } : Jvm.MethodName)) ∈ ev_gd := ev_mem 770 (by decide +kernel) rfl
theorem ev_w1573 : (Jvm.Cond.fieldLink "FactloomModel$Row" (15 : Nat) "FactloomModel$Row" "from" "I") ∈ ev_gd := ev_mem 1573 (by decide +kernel) rfl
theorem ev_w1575 : (Jvm.Cond.fieldLink "FactloomModel$Row" (9 : Nat) "FactloomModel$Row" "till" "I") ∈ ev_gd := ev_mem 1575 (by decide +kernel) rfl
theorem ev_w1570 : (Jvm.Cond.methodLink "FactloomModel$Row" (3 : Nat) ({ cls := "java/lang/Object", name := "<init>", desc := "()V" } : Jvm.MethodName)) ∈ ev_gd := ev_mem 1570 (by decide +kernel) rfl
theorem ev_w1610 : (Jvm.Cond.code ({ cls := "FactloomModel", name := "told", desc := "(Ljava/util/ArrayList;II)[Z" } : Jvm.MethodName) prog_14_method_27_code (7 : Nat) (Option.some (Jvm.ClassFile.FieldType.array Jvm.ClassFile.FieldType.boolean))) ∈ ev_gd := ev_mem 1610 (by decide +kernel) rfl
theorem ev_w1607 : (Jvm.Cond.methodLink "FactloomModel" (143 : Nat) ({ cls := "FactloomModel", name := "told", desc := "(Ljava/util/ArrayList;II)[Z" } : Jvm.MethodName)) ∈ ev_gd := ev_mem 1607 (by decide +kernel) rfl
theorem ev_w1609 : (Jvm.Cond.instanceMethod ({ cls := "FactloomModel", name := "told", desc := "(Ljava/util/ArrayList;II)[Z" } : Jvm.MethodName)) ∈ ev_gd := ev_mem 1609 (by decide +kernel) rfl
theorem ev_w45 : (Cond.selects "FactloomModel" ⟨"FactloomModel", "told", "(Ljava/util/ArrayList;II)[Z"⟩ ⟨"FactloomModel", "told", "(Ljava/util/ArrayList;II)[Z"⟩) ∈ ev_gd := ev_mem 45 (by decide +kernel) rfl
theorem ev_w1391 : (Jvm.Cond.fieldLink "FactloomModel" (147 : Nat) "FactloomModel" "singles" "I") ∈ ev_gd := ev_mem 1391 (by decide +kernel) rfl
theorem ev_w1384 : (Jvm.Cond.fieldLink "FactloomModel" (7 : Nat) "FactloomModel" "heads" "[I") ∈ ev_gd := ev_mem 1384 (by decide +kernel) rfl
theorem ev_w1383 : (Jvm.Cond.fieldLink "FactloomModel" (33 : Nat) "FactloomModel" "thrown" "I") ∈ ev_gd := ev_mem 1383 (by decide +kernel) rfl
theorem ev_w1518 : (Jvm.Cond.code ({ cls := "FactloomModel", name := "committed", desc := "()Ljava/util/ArrayList;" } : Jvm.MethodName) prog_14_method_21_code (8 : Nat) (Option.some (Jvm.ClassFile.FieldType.object "java/util/ArrayList"))) ∈ ev_gd := ev_mem 1518 (by decide +kernel) rfl
theorem ev_w1515 : (Jvm.Cond.methodLink "FactloomModel" (117 : Nat) ({ cls := "FactloomModel", name := "committed", desc := "()Ljava/util/ArrayList;" } : Jvm.MethodName)) ∈ ev_gd := ev_mem 1515 (by decide +kernel) rfl
theorem ev_w1517 : (Jvm.Cond.instanceMethod ({ cls := "FactloomModel", name := "committed", desc := "()Ljava/util/ArrayList;" } : Jvm.MethodName)) ∈ ev_gd := ev_mem 1517 (by decide +kernel) rfl
theorem ev_w41 : (Cond.selects "FactloomModel" ⟨"FactloomModel", "committed", "()Ljava/util/ArrayList;"⟩ ⟨"FactloomModel", "committed", "()Ljava/util/ArrayList;"⟩) ∈ ev_gd := ev_mem 41 (by decide +kernel) rfl
theorem ev_w1385 : (Jvm.Cond.fieldLink "FactloomModel" (74 : Nat) "FactloomModel" "moment" "I") ∈ ev_gd := ev_mem 1385 (by decide +kernel) rfl
theorem ev_w1606 : (Jvm.Cond.code ({ cls := "FactloomModel", name := "broken", desc := "(Ljava/util/ArrayList;I)I" } : Jvm.MethodName) prog_14_method_28_code (10 : Nat) (Option.some Jvm.ClassFile.FieldType.int)) ∈ ev_gd := ev_mem 1606 (by decide +kernel) rfl
theorem ev_w1603 : (Jvm.Cond.methodLink "FactloomModel" (121 : Nat) ({ cls := "FactloomModel", name := "broken", desc := "(Ljava/util/ArrayList;I)I" } : Jvm.MethodName)) ∈ ev_gd := ev_mem 1603 (by decide +kernel) rfl
theorem ev_w1605 : (Jvm.Cond.instanceMethod ({ cls := "FactloomModel", name := "broken", desc := "(Ljava/util/ArrayList;I)I" } : Jvm.MethodName)) ∈ ev_gd := ev_mem 1605 (by decide +kernel) rfl
theorem ev_w44 : (Cond.selects "FactloomModel" ⟨"FactloomModel", "broken", "(Ljava/util/ArrayList;I)I"⟩ ⟨"FactloomModel", "broken", "(Ljava/util/ArrayList;I)I"⟩) ∈ ev_gd := ev_mem 44 (by decide +kernel) rfl
theorem ev_w1444 : (Jvm.Cond.code ({ cls := "java/util/ArrayList", name := "size", desc := "()I" } : Jvm.MethodName) prog_42_method_8_code (1 : Nat) (Option.some Jvm.ClassFile.FieldType.int)) ∈ ev_gd := ev_mem 1444 (by decide +kernel) rfl
theorem ev_w1441 : (Jvm.Cond.methodLink "FactloomModel" (63 : Nat) ({ cls := "java/util/ArrayList", name := "size", desc := "()I" } : Jvm.MethodName)) ∈ ev_gd := ev_mem 1441 (by decide +kernel) rfl
theorem ev_w1442 : (Jvm.Cond.instanceMethod ({ cls := "java/util/ArrayList", name := "size", desc := "()I" } : Jvm.MethodName)) ∈ ev_gd := ev_mem 1442 (by decide +kernel) rfl
theorem ev_w1443 : (Jvm.Cond.selects "java/util/ArrayList" ({ cls := "java/util/ArrayList", name := "size", desc := "()I" } : Jvm.MethodName) ({ cls := "java/util/ArrayList", name := "size", desc := "()I" } : Jvm.MethodName)) ∈ ev_gd := ev_mem 1443 (by decide +kernel) rfl
theorem ev_w1386 : (Jvm.Cond.fieldLink "FactloomModel" (16 : Nat) "FactloomModel" "rows" "Ljava/util/ArrayList;") ∈ ev_gd := ev_mem 1386 (by decide +kernel) rfl
theorem ev_w1510 : (Jvm.Cond.code ({ cls := "java/util/ArrayList", name := "clear", desc := "()V" } : Jvm.MethodName) prog_42_method_40_code (4 : Nat) (Option.none : Option Jvm.ClassFile.FieldType)) ∈ ev_gd := ev_mem 1510 (by decide +kernel) rfl
theorem ev_w1507 : (Jvm.Cond.methodLink "FactloomModel" (71 : Nat) ({ cls := "java/util/ArrayList", name := "clear", desc := "()V" } : Jvm.MethodName)) ∈ ev_gd := ev_mem 1507 (by decide +kernel) rfl
theorem ev_w1508 : (Jvm.Cond.instanceMethod ({ cls := "java/util/ArrayList", name := "clear", desc := "()V" } : Jvm.MethodName)) ∈ ev_gd := ev_mem 1508 (by decide +kernel) rfl
theorem ev_w1509 : (Jvm.Cond.selects "java/util/ArrayList" ({ cls := "java/util/ArrayList", name := "clear", desc := "()V" } : Jvm.MethodName) ({ cls := "java/util/ArrayList", name := "clear", desc := "()V" } : Jvm.MethodName)) ∈ ev_gd := ev_mem 1509 (by decide +kernel) rfl
theorem ev_w1522 : (Jvm.Cond.code ({ cls := "java/util/ArrayList", name := "iterator", desc := "()Ljava/util/Iterator;" } : Jvm.MethodName) prog_42_method_55_code (1 : Nat) (Option.some (Jvm.ClassFile.FieldType.object "java/util/Iterator"))) ∈ ev_gd := ev_mem 1522 (by decide +kernel) rfl
theorem ev_w1519 : (Jvm.Cond.methodLink "FactloomModel" (77 : Nat) ({ cls := "java/util/ArrayList", name := "iterator", desc := "()Ljava/util/Iterator;" } : Jvm.MethodName)) ∈ ev_gd := ev_mem 1519 (by decide +kernel) rfl
theorem ev_w1520 : (Jvm.Cond.instanceMethod ({ cls := "java/util/ArrayList", name := "iterator", desc := "()Ljava/util/Iterator;" } : Jvm.MethodName)) ∈ ev_gd := ev_mem 1520 (by decide +kernel) rfl
theorem ev_w1521 : (Jvm.Cond.selects "java/util/ArrayList" ({ cls := "java/util/ArrayList", name := "iterator", desc := "()Ljava/util/Iterator;" } : Jvm.MethodName) ({ cls := "java/util/ArrayList", name := "iterator", desc := "()Ljava/util/Iterator;" } : Jvm.MethodName)) ∈ ev_gd := ev_mem 1521 (by decide +kernel) rfl
theorem ev_w1551 : (Jvm.Cond.code ({ cls := "java/util/ArrayList$Itr", name := "hasNext", desc := "()Z" } : Jvm.MethodName) prog_43_method_2_code (1 : Nat) (Option.some Jvm.ClassFile.FieldType.boolean)) ∈ ev_gd := ev_mem 1551 (by decide +kernel) rfl
theorem ev_w1543 : (Jvm.Cond.methodLink "FactloomModel" (81 : Nat) ({ cls := "java/util/Iterator", name := "hasNext", desc := "()Z" } : Jvm.MethodName)) ∈ ev_gd := ev_mem 1543 (by decide +kernel) rfl
theorem ev_w1547 : (Jvm.Cond.selects "java/util/ArrayList$Itr" ({ cls := "java/util/Iterator", name := "hasNext", desc := "()Z" } : Jvm.MethodName) ({ cls := "java/util/ArrayList$Itr", name := "hasNext", desc := "()Z" } : Jvm.MethodName)) ∈ ev_gd := ev_mem 1547 (by decide +kernel) rfl
theorem ev_w1549 : (Jvm.Cond.instanceMethod ({ cls := "java/util/ArrayList$Itr", name := "hasNext", desc := "()Z" } : Jvm.MethodName)) ∈ ev_gd := ev_mem 1549 (by decide +kernel) rfl
theorem ev_w1560 : (Jvm.Cond.code ({ cls := "java/util/ArrayList$Itr", name := "next", desc := "()Ljava/lang/Object;" } : Jvm.MethodName) prog_43_method_3_code (3 : Nat) (Option.some (Jvm.ClassFile.FieldType.object "java/lang/Object"))) ∈ ev_gd := ev_mem 1560 (by decide +kernel) rfl
theorem ev_w1553 : (Jvm.Cond.methodLink "FactloomModel" (87 : Nat) ({ cls := "java/util/Iterator", name := "next", desc := "()Ljava/lang/Object;" } : Jvm.MethodName)) ∈ ev_gd := ev_mem 1553 (by decide +kernel) rfl
theorem ev_w1556 : (Jvm.Cond.selects "java/util/ArrayList$Itr" ({ cls := "java/util/Iterator", name := "next", desc := "()Ljava/lang/Object;" } : Jvm.MethodName) ({ cls := "java/util/ArrayList$Itr", name := "next", desc := "()Ljava/lang/Object;" } : Jvm.MethodName)) ∈ ev_gd := ev_mem 1556 (by decide +kernel) rfl
theorem ev_w1558 : (Jvm.Cond.instanceMethod ({ cls := "java/util/ArrayList$Itr", name := "next", desc := "()Ljava/lang/Object;" } : Jvm.MethodName)) ∈ ev_gd := ev_mem 1558 (by decide +kernel) rfl
theorem ev_w1565 : (Jvm.Cond.classLink "FactloomModel" (91 : Nat) "FactloomModel$Row") ∈ ev_gd := ev_mem 1565 (by decide +kernel) rfl
theorem ev_w1448 : (Jvm.Cond.code ({ cls := "java/util/ArrayList", name := "add", desc := "(Ljava/lang/Object;)Z" } : Jvm.MethodName) prog_42_method_25_code (2 : Nat) (Option.some Jvm.ClassFile.FieldType.boolean)) ∈ ev_gd := ev_mem 1448 (by decide +kernel) rfl
theorem ev_w1445 : (Jvm.Cond.methodLink "FactloomModel" (67 : Nat) ({ cls := "java/util/ArrayList", name := "add", desc := "(Ljava/lang/Object;)Z" } : Jvm.MethodName)) ∈ ev_gd := ev_mem 1445 (by decide +kernel) rfl
theorem ev_w1446 : (Jvm.Cond.instanceMethod ({ cls := "java/util/ArrayList", name := "add", desc := "(Ljava/lang/Object;)Z" } : Jvm.MethodName)) ∈ ev_gd := ev_mem 1446 (by decide +kernel) rfl
theorem ev_w1447 : (Jvm.Cond.selects "java/util/ArrayList" ({ cls := "java/util/ArrayList", name := "add", desc := "(Ljava/lang/Object;)Z" } : Jvm.MethodName) ({ cls := "java/util/ArrayList", name := "add", desc := "(Ljava/lang/Object;)Z" } : Jvm.MethodName)) ∈ ev_gd := ev_mem 1447 (by decide +kernel) rfl
theorem ev_w1387 : (Jvm.Cond.fieldLink "FactloomModel" (20 : Nat) "FactloomModel" "batch" "Ljava/util/ArrayList;") ∈ ev_gd := ev_mem 1387 (by decide +kernel) rfl
theorem ev_w1614 : (Jvm.Cond.code ({ cls := "FactloomModel", name := "forget", desc := "()V" } : Jvm.MethodName) prog_14_method_23_code (1 : Nat) (Option.none : Option Jvm.ClassFile.FieldType)) ∈ ev_gd := ev_mem 1614 (by decide +kernel) rfl
theorem ev_w1611 : (Jvm.Cond.methodLink "FactloomModel" (125 : Nat) ({ cls := "FactloomModel", name := "forget", desc := "()V" } : Jvm.MethodName)) ∈ ev_gd := ev_mem 1611 (by decide +kernel) rfl
theorem ev_w1613 : (Jvm.Cond.instanceMethod ({ cls := "FactloomModel", name := "forget", desc := "()V" } : Jvm.MethodName)) ∈ ev_gd := ev_mem 1613 (by decide +kernel) rfl
theorem ev_w46 : (Cond.selects "FactloomModel" ⟨"FactloomModel", "forget", "()V"⟩ ⟨"FactloomModel", "forget", "()V"⟩) ∈ ev_gd := ev_mem 46 (by decide +kernel) rfl
theorem ev_w1354 : (Jvm.Cond.classLink "FactloomModel" (13 : Nat) "java/util/ArrayList") ∈ ev_gd := ev_mem 1354 (by decide +kernel) rfl
theorem ev_w1355 : (Jvm.Cond.instantiable "java/util/ArrayList" (3 : Nat)) ∈ ev_gd := ev_mem 1355 (by decide +kernel) rfl
theorem ev_w1358 : (Jvm.Cond.code ({ cls := "java/util/ArrayList", name := "<init>", desc := "()V" } : Jvm.MethodName) prog_42_method_2_code (1 : Nat) (Option.none : Option Jvm.ClassFile.FieldType)) ∈ ev_gd := ev_mem 1358 (by decide +kernel) rfl
theorem ev_w1356 : (Jvm.Cond.methodLink "FactloomModel" (15 : Nat) ({ cls := "java/util/ArrayList", name := "<init>", desc := "()V" } : Jvm.MethodName)) ∈ ev_gd := ev_mem 1356 (by decide +kernel) rfl
theorem ev_w1357 : (Jvm.Cond.instanceMethod ({ cls := "java/util/ArrayList", name := "<init>", desc := "()V" } : Jvm.MethodName)) ∈ ev_gd := ev_mem 1357 (by decide +kernel) rfl
theorem ev_w1566 : (Jvm.Cond.instantiable "FactloomModel$Row" (4 : Nat)) ∈ ev_gd := ev_mem 1566 (by decide +kernel) rfl
theorem ev_w99 : (Jvm.Cond.initialized "FactloomModel$Row") ∈ ev_gd := ev_mem 99 (by decide +kernel) rfl
theorem ev_w1569 : (Jvm.Cond.code ({ cls := "FactloomModel$Row", name := "<init>", desc := "()V" } : Jvm.MethodName) prog_15_method_1_code (1 : Nat) (Option.none : Option Jvm.ClassFile.FieldType)) ∈ ev_gd := ev_mem 1569 (by decide +kernel) rfl
theorem ev_w1567 : (Jvm.Cond.methodLinkNest "FactloomModel" (93 : Nat) ({ cls := "FactloomModel$Row", name := "<init>", desc := "()V" } : Jvm.MethodName) "FactloomModel") ∈ ev_nw := ev_memN 1567 (by decide +kernel) rfl
theorem ev_w1568 : (Jvm.Cond.instanceMethod ({ cls := "FactloomModel$Row", name := "<init>", desc := "()V" } : Jvm.MethodName)) ∈ ev_gd := ev_mem 1568 (by decide +kernel) rfl
theorem ev_w1571 : (Jvm.Cond.fieldLinkNest "FactloomModel" (94 : Nat) "FactloomModel$Row" "triple" "I" "FactloomModel") ∈ ev_nw := ev_memN 1571 (by decide +kernel) rfl
theorem ev_w1572 : (Jvm.Cond.fieldLinkNest "FactloomModel" (97 : Nat) "FactloomModel$Row" "trust" "I" "FactloomModel") ∈ ev_nw := ev_memN 1572 (by decide +kernel) rfl
theorem ev_w1574 : (Jvm.Cond.fieldLinkNest "FactloomModel" (100 : Nat) "FactloomModel$Row" "from" "I" "FactloomModel") ∈ ev_nw := ev_memN 1574 (by decide +kernel) rfl
theorem ev_w1576 : (Jvm.Cond.fieldLinkNest "FactloomModel" (103 : Nat) "FactloomModel$Row" "till" "I" "FactloomModel") ∈ ev_nw := ev_memN 1576 (by decide +kernel) rfl
theorem ev_w1586 : (Jvm.Cond.classLink "FactloomModel" (106 : Nat) "[I") ∈ ev_gd := ev_mem 1586 (by decide +kernel) rfl
theorem ev_w1590 : (Jvm.Cond.code ({ cls := "FactloomModel$Row", name := "holds", desc := "(I)Z" } : Jvm.MethodName) prog_15_method_2_code (2 : Nat) (Option.some Jvm.ClassFile.FieldType.boolean)) ∈ ev_gd := ev_mem 1590 (by decide +kernel) rfl
theorem ev_w1587 : (Jvm.Cond.methodLink "FactloomModel" (107 : Nat) ({ cls := "FactloomModel$Row", name := "holds", desc := "(I)Z" } : Jvm.MethodName)) ∈ ev_gd := ev_mem 1587 (by decide +kernel) rfl
theorem ev_w1588 : (Jvm.Cond.instanceMethod ({ cls := "FactloomModel$Row", name := "holds", desc := "(I)Z" } : Jvm.MethodName)) ∈ ev_gd := ev_mem 1588 (by decide +kernel) rfl
theorem ev_w1589 : (Jvm.Cond.selects "FactloomModel$Row" ({ cls := "FactloomModel$Row", name := "holds", desc := "(I)Z" } : Jvm.MethodName) ({ cls := "FactloomModel$Row", name := "holds", desc := "(I)Z" } : Jvm.MethodName)) ∈ ev_gd := ev_mem 1589 (by decide +kernel) rfl
theorem ev_w1594 : (Jvm.Cond.code ({ cls := "FactloomModel", name := "place", desc := "(I)I" } : Jvm.MethodName) prog_14_method_13_code (2 : Nat) (Option.some Jvm.ClassFile.FieldType.int)) ∈ ev_gd := ev_mem 1594 (by decide +kernel) rfl
theorem ev_w1591 : (Jvm.Cond.methodLink "FactloomModel" (110 : Nat) ({ cls := "FactloomModel", name := "place", desc := "(I)I" } : Jvm.MethodName)) ∈ ev_gd := ev_mem 1591 (by decide +kernel) rfl
theorem ev_w1593 : (Jvm.Cond.instanceMethod ({ cls := "FactloomModel", name := "place", desc := "(I)I" } : Jvm.MethodName)) ∈ ev_gd := ev_mem 1593 (by decide +kernel) rfl
theorem ev_w42 : (Cond.selects "FactloomModel" ⟨"FactloomModel", "place", "(I)I"⟩ ⟨"FactloomModel", "place", "(I)I"⟩) ∈ ev_gd := ev_mem 42 (by decide +kernel) rfl
theorem ev_w1392 : (Jvm.Cond.fieldLink "FactloomModel" (128 : Nat) "FactloomModel" "known" "[I") ∈ ev_gd := ev_mem 1392 (by decide +kernel) rfl
theorem ev_w1393 : (Jvm.Cond.fieldLink "FactloomModel" (131 : Nat) "FactloomModel" "best" "[I") ∈ ev_gd := ev_mem 1393 (by decide +kernel) rfl
theorem ev_w1353 : (Jvm.Cond.methodLink "FactloomModel" (1 : Nat) ({ cls := "java/lang/Object", name := "<init>", desc := "()V" } : Jvm.MethodName)) ∈ ev_gd := ev_mem 1353 (by decide +kernel) rfl
theorem ev_w1388 : (Jvm.Cond.fieldLink "FactloomModel" (23 : Nat) "FactloomModel" "rules" "Ljava/util/ArrayList;") ∈ ev_gd := ev_mem 1388 (by decide +kernel) rfl
theorem ev_w1389 : (Jvm.Cond.fieldLink "FactloomModel" (26 : Nat) "FactloomModel" "patterns" "Ljava/util/ArrayList;") ∈ ev_gd := ev_mem 1389 (by decide +kernel) rfl
theorem ev_w1390 : (Jvm.Cond.fieldLink "FactloomModel" (29 : Nat) "FactloomModel" "not" "I") ∈ ev_gd := ev_mem 1390 (by decide +kernel) rfl
theorem ev_w1433 : (Jvm.Cond.code ({ cls := "FactloomModel", name := "is", desc := "(III)Z" } : Jvm.MethodName) prog_14_method_4_code (3 : Nat) (Option.some Jvm.ClassFile.FieldType.boolean)) ∈ ev_gd := ev_mem 1433 (by decide +kernel) rfl
theorem ev_w1431 : (Jvm.Cond.methodLink "FactloomModel" (36 : Nat) ({ cls := "FactloomModel", name := "is", desc := "(III)Z" } : Jvm.MethodName)) ∈ ev_gd := ev_mem 1431 (by decide +kernel) rfl
theorem ev_w1432 : (Jvm.Cond.static ({ cls := "FactloomModel", name := "is", desc := "(III)Z" } : Jvm.MethodName)) ∈ ev_gd := ev_mem 1432 (by decide +kernel) rfl
theorem ev_w1436 : (Jvm.Cond.code ({ cls := "FactloomModel", name := "digit", desc := "(II)I" } : Jvm.MethodName) prog_14_method_5_code (2 : Nat) (Option.some Jvm.ClassFile.FieldType.int)) ∈ ev_gd := ev_mem 1436 (by decide +kernel) rfl
theorem ev_w1434 : (Jvm.Cond.methodLink "FactloomModel" (40 : Nat) ({ cls := "FactloomModel", name := "digit", desc := "(II)I" } : Jvm.MethodName)) ∈ ev_gd := ev_mem 1434 (by decide +kernel) rfl
theorem ev_w1435 : (Jvm.Cond.static ({ cls := "FactloomModel", name := "digit", desc := "(II)I" } : Jvm.MethodName)) ∈ ev_gd := ev_mem 1435 (by decide +kernel) rfl
theorem ev_w1597 : (Jvm.Cond.code ({ cls := "FactloomModel", name := "newBinding", desc := "()[I" } : Jvm.MethodName) prog_14_method_12_code (0 : Nat) (Option.some (Jvm.ClassFile.FieldType.array Jvm.ClassFile.FieldType.int))) ∈ ev_gd := ev_mem 1597 (by decide +kernel) rfl
theorem ev_w1595 : (Jvm.Cond.methodLink "FactloomModel" (44 : Nat) ({ cls := "FactloomModel", name := "newBinding", desc := "()[I" } : Jvm.MethodName)) ∈ ev_gd := ev_mem 1595 (by decide +kernel) rfl
theorem ev_w1596 : (Jvm.Cond.static ({ cls := "FactloomModel", name := "newBinding", desc := "()[I" } : Jvm.MethodName)) ∈ ev_gd := ev_mem 1596 (by decide +kernel) rfl
theorem ev_w1601 : (Jvm.Cond.code ({ cls := "FactloomModel", name := "place", desc := "(I[I)I" } : Jvm.MethodName) prog_14_method_11_code (6 : Nat) (Option.some Jvm.ClassFile.FieldType.int)) ∈ ev_gd := ev_mem 1601 (by decide +kernel) rfl
theorem ev_w1598 : (Jvm.Cond.methodLink "FactloomModel" (48 : Nat) ({ cls := "FactloomModel", name := "place", desc := "(I[I)I" } : Jvm.MethodName)) ∈ ev_gd := ev_mem 1598 (by decide +kernel) rfl
theorem ev_w1600 : (Jvm.Cond.instanceMethod ({ cls := "FactloomModel", name := "place", desc := "(I[I)I" } : Jvm.MethodName)) ∈ ev_gd := ev_mem 1600 (by decide +kernel) rfl
theorem ev_w43 : (Cond.selects "FactloomModel" ⟨"FactloomModel", "place", "(I[I)I"⟩ ⟨"FactloomModel", "place", "(I[I)I"⟩) ∈ ev_gd := ev_mem 43 (by decide +kernel) rfl
theorem ev_w1430 : (Jvm.Cond.code ({ cls := "FactloomModel", name := "isTriple", desc := "(I)Z" } : Jvm.MethodName) prog_14_method_6_code (1 : Nat) (Option.some Jvm.ClassFile.FieldType.boolean)) ∈ ev_gd := ev_mem 1430 (by decide +kernel) rfl
theorem ev_w1428 : (Jvm.Cond.methodLink "FactloomModel" (56 : Nat) ({ cls := "FactloomModel", name := "isTriple", desc := "(I)Z" } : Jvm.MethodName)) ∈ ev_gd := ev_mem 1428 (by decide +kernel) rfl
theorem ev_w1429 : (Jvm.Cond.static ({ cls := "FactloomModel", name := "isTriple", desc := "(I)Z" } : Jvm.MethodName)) ∈ ev_gd := ev_mem 1429 (by decide +kernel) rfl
theorem ev_w1615 : (Jvm.Cond.arrayClass Jvm.ClassFile.FieldType.boolean) ∈ ev_gd := ev_mem 1615 (by decide +kernel) rfl
theorem ev_w234 : (Jvm.Cond.methodLink "Factloom$Binding" (3 : Nat) ({ cls := "java/lang/Object", name := "<init>", desc := "()V" } : Jvm.MethodName)) ∈ ev_gd := ev_mem 234 (by decide +kernel) rfl
theorem ev_w235 : (Jvm.Cond.fieldLink "Factloom$Binding" (9 : Nat) "Factloom$Binding" "meaning" "[I") ∈ ev_gd := ev_mem 235 (by decide +kernel) rfl
theorem ev_w277 : (Jvm.Cond.methodLink "Factloom$Depths" (3 : Nat) ({ cls := "java/lang/Object", name := "<init>", desc := "()V" } : Jvm.MethodName)) ∈ ev_gd := ev_mem 277 (by decide +kernel) rfl
theorem ev_w278 : (Jvm.Cond.fieldLink "Factloom$Depths" (9 : Nat) "Factloom$Depths" "depth" "[I") ∈ ev_gd := ev_mem 278 (by decide +kernel) rfl
theorem ev_w228 : (Jvm.Cond.methodLink "Factloom$Grounds" (3 : Nat) ({ cls := "java/lang/Object", name := "<init>", desc := "()V" } : Jvm.MethodName)) ∈ ev_gd := ev_mem 228 (by decide +kernel) rfl
theorem ev_w242 : (Jvm.Cond.fieldLink "Factloom$Grounds" (9 : Nat) "Factloom$Grounds" "ruleOf" "[I") ∈ ev_gd := ev_mem 242 (by decide +kernel) rfl
theorem ev_w244 : (Jvm.Cond.fieldLink "Factloom$Grounds" (15 : Nat) "Factloom$Grounds" "made" "[I") ∈ ev_gd := ev_mem 244 (by decide +kernel) rfl
theorem ev_w247 : (Jvm.Cond.fieldLink "Factloom$Grounds" (18 : Nat) "Factloom$Grounds" "one" "[I") ∈ ev_gd := ev_mem 247 (by decide +kernel) rfl
theorem ev_w251 : (Jvm.Cond.fieldLink "Factloom$Grounds" (21 : Nat) "Factloom$Grounds" "other" "[I") ∈ ev_gd := ev_mem 251 (by decide +kernel) rfl
theorem ev_w229 : (Jvm.Cond.classLink "Factloom$Grounds" (24 : Nat) "Factloom$Binding") ∈ ev_gd := ev_mem 229 (by decide +kernel) rfl
theorem ev_w230 : (Jvm.Cond.instantiable "Factloom$Binding" (2 : Nat)) ∈ ev_gd := ev_mem 230 (by decide +kernel) rfl
theorem ev_w78 : (Jvm.Cond.initialized "Factloom$Binding") ∈ ev_gd := ev_mem 78 (by decide +kernel) rfl
theorem ev_w233 : (Jvm.Cond.code ({ cls := "Factloom$Binding", name := "<init>", desc := "()V" } : Jvm.MethodName) prog_3_method_1_code (1 : Nat) (Option.none : Option Jvm.ClassFile.FieldType)) ∈ ev_gd := ev_mem 233 (by decide +kernel) rfl
theorem ev_w231 : (Jvm.Cond.methodLinkNest "Factloom$Grounds" (26 : Nat) ({ cls := "Factloom$Binding", name := "<init>", desc := "()V" } : Jvm.MethodName) "Factloom") ∈ ev_nw := ev_memN 231 (by decide +kernel) rfl
theorem ev_w232 : (Jvm.Cond.instanceMethod ({ cls := "Factloom$Binding", name := "<init>", desc := "()V" } : Jvm.MethodName)) ∈ ev_gd := ev_mem 232 (by decide +kernel) rfl
theorem ev_w255 : (Jvm.Cond.fieldLink "Factloom$Grounds" (27 : Nat) "Factloom$Grounds" "binding" "LFactloom$Binding;") ∈ ev_gd := ev_mem 255 (by decide +kernel) rfl
theorem ev_w127 : (Jvm.Cond.fieldLink "Factloom$Names" (9 : Nat) "Factloom$Names" "heads" "[I") ∈ ev_gd := ev_mem 127 (by decide +kernel) rfl
theorem ev_w423 : (Jvm.Cond.code ({ cls := "Factloom", name := "at", desc := "([III)I" } : Jvm.MethodName) prog_1_method_51_code (3 : Nat) (Option.some Jvm.ClassFile.FieldType.int)) ∈ ev_gd := ev_mem 423 (by decide +kernel) rfl
theorem ev_w421 : (Jvm.Cond.methodLinkNest "Factloom$Names" (32 : Nat) ({ cls := "Factloom", name := "at", desc := "([III)I" } : Jvm.MethodName) "Factloom") ∈ ev_nw := ev_memN 421 (by decide +kernel) rfl
theorem ev_w422 : (Jvm.Cond.static ({ cls := "Factloom", name := "at", desc := "([III)I" } : Jvm.MethodName)) ∈ ev_gd := ev_mem 422 (by decide +kernel) rfl
theorem ev_w420 : (Jvm.Cond.code ({ cls := "Factloom$Names", name := "headOf", desc := "(I)I" } : Jvm.MethodName) prog_6_method_5_code (2 : Nat) (Option.some Jvm.ClassFile.FieldType.int)) ∈ ev_gd := ev_mem 420 (by decide +kernel) rfl
theorem ev_w417 : (Jvm.Cond.methodLink "Factloom$Names" (18 : Nat) ({ cls := "Factloom$Names", name := "headOf", desc := "(I)I" } : Jvm.MethodName)) ∈ ev_gd := ev_mem 417 (by decide +kernel) rfl
theorem ev_w418 : (Jvm.Cond.instanceMethod ({ cls := "Factloom$Names", name := "headOf", desc := "(I)I" } : Jvm.MethodName)) ∈ ev_gd := ev_mem 418 (by decide +kernel) rfl
theorem ev_w419 : (Jvm.Cond.selects "Factloom$Names" ({ cls := "Factloom$Names", name := "headOf", desc := "(I)I" } : Jvm.MethodName) ({ cls := "Factloom$Names", name := "headOf", desc := "(I)I" } : Jvm.MethodName)) ∈ ev_gd := ev_mem 419 (by decide +kernel) rfl
theorem ev_w122 : (Jvm.Cond.methodLink "Factloom$Names" (3 : Nat) ({ cls := "java/lang/Object", name := "<init>", desc := "()V" } : Jvm.MethodName)) ∈ ev_gd := ev_mem 122 (by decide +kernel) rfl
theorem ev_w126 : (Jvm.Cond.code ({ cls := "Factloom$Names", name := "separate", desc := "()V" } : Jvm.MethodName) prog_6_method_2_code (2 : Nat) (Option.none : Option Jvm.ClassFile.FieldType)) ∈ ev_gd := ev_mem 126 (by decide +kernel) rfl
theorem ev_w123 : (Jvm.Cond.methodLink "Factloom$Names" (15 : Nat) ({ cls := "Factloom$Names", name := "separate", desc := "()V" } : Jvm.MethodName)) ∈ ev_gd := ev_mem 123 (by decide +kernel) rfl
theorem ev_w124 : (Jvm.Cond.instanceMethod ({ cls := "Factloom$Names", name := "separate", desc := "()V" } : Jvm.MethodName)) ∈ ev_gd := ev_mem 124 (by decide +kernel) rfl
theorem ev_w125 : (Jvm.Cond.selects "Factloom$Names" ({ cls := "Factloom$Names", name := "separate", desc := "()V" } : Jvm.MethodName) ({ cls := "Factloom$Names", name := "separate", desc := "()V" } : Jvm.MethodName)) ∈ ev_gd := ev_mem 125 (by decide +kernel) rfl
theorem ev_w295 : (Jvm.Cond.methodLink "Factloom$Origins" (3 : Nat) ({ cls := "java/lang/Object", name := "<init>", desc := "()V" } : Jvm.MethodName)) ∈ ev_gd := ev_mem 295 (by decide +kernel) rfl
theorem ev_w296 : (Jvm.Cond.fieldLink "Factloom$Origins" (9 : Nat) "Factloom$Origins" "ways" "[I") ∈ ev_gd := ev_mem 296 (by decide +kernel) rfl
theorem ev_w298 : (Jvm.Cond.fieldLink "Factloom$Origins" (15 : Nat) "Factloom$Origins" "first" "[I") ∈ ev_gd := ev_mem 298 (by decide +kernel) rfl
theorem ev_w300 : (Jvm.Cond.fieldLink "Factloom$Origins" (18 : Nat) "Factloom$Origins" "merit" "[I") ∈ ev_gd := ev_mem 300 (by decide +kernel) rfl
theorem ev_w314 : (Jvm.Cond.methodLink "Factloom$Question" (3 : Nat) ({ cls := "java/lang/Object", name := "<init>", desc := "()V" } : Jvm.MethodName)) ∈ ev_gd := ev_mem 314 (by decide +kernel) rfl
theorem ev_w317 : (Jvm.Cond.fieldLink "Factloom$Question" (9 : Nat) "Factloom$Question" "patterns" "[I") ∈ ev_gd := ev_mem 317 (by decide +kernel) rfl
theorem ev_w318 : (Jvm.Cond.fieldLink "Factloom$Question" (15 : Nat) "Factloom$Question" "sizes" "[I") ∈ ev_gd := ev_mem 318 (by decide +kernel) rfl
theorem ev_w319 : (Jvm.Cond.fieldLink "Factloom$Question" (18 : Nat) "Factloom$Question" "found" "[I") ∈ ev_gd := ev_mem 319 (by decide +kernel) rfl
theorem ev_w315 : (Jvm.Cond.classLink "Factloom$Question" (21 : Nat) "Factloom$Binding") ∈ ev_gd := ev_mem 315 (by decide +kernel) rfl
theorem ev_w316 : (Jvm.Cond.methodLinkNest "Factloom$Question" (23 : Nat) ({ cls := "Factloom$Binding", name := "<init>", desc := "()V" } : Jvm.MethodName) "Factloom") ∈ ev_nw := ev_memN 316 (by decide +kernel) rfl
theorem ev_w321 : (Jvm.Cond.fieldLink "Factloom$Question" (24 : Nat) "Factloom$Question" "outer" "LFactloom$Binding;") ∈ ev_gd := ev_mem 321 (by decide +kernel) rfl
theorem ev_w322 : (Jvm.Cond.fieldLink "Factloom$Question" (28 : Nat) "Factloom$Question" "inner" "LFactloom$Binding;") ∈ ev_gd := ev_mem 322 (by decide +kernel) rfl
theorem ev_w326 : (Jvm.Cond.fieldLink "Factloom$Question" (31 : Nat) "Factloom$Question" "notPattern" "I") ∈ ev_gd := ev_mem 326 (by decide +kernel) rfl
theorem ev_w680 : (Jvm.Cond.code ({ cls := "Factloom$Rows", name := "openRowOf", desc := "(I)I" } : Jvm.MethodName) prog_9_method_7_code (3 : Nat) (Option.some Jvm.ClassFile.FieldType.int)) ∈ ev_gd := ev_mem 680 (by decide +kernel) rfl
theorem ev_w677 : (Jvm.Cond.methodLink "Factloom$Rows" (66 : Nat) ({ cls := "Factloom$Rows", name := "openRowOf", desc := "(I)I" } : Jvm.MethodName)) ∈ ev_gd := ev_mem 677 (by decide +kernel) rfl
theorem ev_w679 : (Jvm.Cond.instanceMethod ({ cls := "Factloom$Rows", name := "openRowOf", desc := "(I)I" } : Jvm.MethodName)) ∈ ev_gd := ev_mem 679 (by decide +kernel) rfl
theorem ev_w22 : (Cond.selects "Factloom$Rows" ⟨"Factloom$Rows", "openRowOf", "(I)I"⟩ ⟨"Factloom$Rows", "openRowOf", "(I)I"⟩) ∈ ev_gd := ev_mem 22 (by decide +kernel) rfl
theorem ev_w167 : (Jvm.Cond.fieldLink "Factloom$Rows" (18 : Nat) "Factloom$Rows" "trusts" "[I") ∈ ev_gd := ev_mem 167 (by decide +kernel) rfl
theorem ev_w433 : (Jvm.Cond.methodLinkNest "Factloom$Rows" (35 : Nat) ({ cls := "Factloom", name := "at", desc := "([III)I" } : Jvm.MethodName) "Factloom") ∈ ev_nw := ev_memN 433 (by decide +kernel) rfl
theorem ev_w438 : (Jvm.Cond.methodLinkNest "Factloom$Rows" (45 : Nat) ({ cls := "Factloom", name := "put", desc := "([III)V" } : Jvm.MethodName) "Factloom") ∈ ev_nw := ev_memN 438 (by decide +kernel) rfl
theorem ev_w163 : (Jvm.Cond.fieldLink "Factloom$Rows" (11 : Nat) "Factloom$Rows" "triples" "[I") ∈ ev_gd := ev_mem 163 (by decide +kernel) rfl
theorem ev_w171 : (Jvm.Cond.fieldLink "Factloom$Rows" (27 : Nat) "Factloom$Rows" "count" "I") ∈ ev_gd := ev_mem 171 (by decide +kernel) rfl
theorem ev_w164 : (Jvm.Cond.fieldLink "Factloom$Rows" (15 : Nat) "Factloom$Rows" "heads" "[I") ∈ ev_gd := ev_mem 164 (by decide +kernel) rfl
theorem ev_w169 : (Jvm.Cond.fieldLink "Factloom$Rows" (21 : Nat) "Factloom$Rows" "since" "[I") ∈ ev_gd := ev_mem 169 (by decide +kernel) rfl
theorem ev_w170 : (Jvm.Cond.fieldLink "Factloom$Rows" (24 : Nat) "Factloom$Rows" "till" "[I") ∈ ev_gd := ev_mem 170 (by decide +kernel) rfl
theorem ev_w616 : (Jvm.Cond.code ({ cls := "Factloom", name := "copy", desc := "([I[II)V" } : Jvm.MethodName) prog_1_method_54_code (4 : Nat) (Option.none : Option Jvm.ClassFile.FieldType)) ∈ ev_gd := ev_mem 616 (by decide +kernel) rfl
theorem ev_w664 : (Jvm.Cond.methodLinkNest "Factloom$Rows" (31 : Nat) ({ cls := "Factloom", name := "copy", desc := "([I[II)V" } : Jvm.MethodName) "Factloom") ∈ ev_nw := ev_memN 664 (by decide +kernel) rfl
theorem ev_w615 : (Jvm.Cond.static ({ cls := "Factloom", name := "copy", desc := "([I[II)V" } : Jvm.MethodName)) ∈ ev_gd := ev_mem 615 (by decide +kernel) rfl
theorem ev_w463 : (Jvm.Cond.code ({ cls := "Factloom$Rows", name := "isOpen", desc := "(I)Z" } : Jvm.MethodName) prog_9_method_8_code (2 : Nat) (Option.some Jvm.ClassFile.FieldType.boolean)) ∈ ev_gd := ev_mem 463 (by decide +kernel) rfl
theorem ev_w460 : (Jvm.Cond.methodLink "Factloom$Rows" (62 : Nat) ({ cls := "Factloom$Rows", name := "isOpen", desc := "(I)Z" } : Jvm.MethodName)) ∈ ev_gd := ev_mem 460 (by decide +kernel) rfl
theorem ev_w461 : (Jvm.Cond.instanceMethod ({ cls := "Factloom$Rows", name := "isOpen", desc := "(I)Z" } : Jvm.MethodName)) ∈ ev_gd := ev_mem 461 (by decide +kernel) rfl
theorem ev_w462 : (Jvm.Cond.selects "Factloom$Rows" ({ cls := "Factloom$Rows", name := "isOpen", desc := "(I)Z" } : Jvm.MethodName) ({ cls := "Factloom$Rows", name := "isOpen", desc := "(I)Z" } : Jvm.MethodName)) ∈ ev_gd := ev_mem 462 (by decide +kernel) rfl
theorem ev_w162 : (Jvm.Cond.methodLink "Factloom$Rows" (3 : Nat) ({ cls := "java/lang/Object", name := "<init>", desc := "()V" } : Jvm.MethodName)) ∈ ev_gd := ev_mem 162 (by decide +kernel) rfl
theorem ev_w148 : (Jvm.Cond.fieldLinkNest "Factloom$Rows" (49 : Nat) "Factloom$Batch" "count" "I" "Factloom") ∈ ev_nw := ev_memN 148 (by decide +kernel) rfl
theorem ev_w144 : (Jvm.Cond.fieldLinkNest "Factloom$Rows" (52 : Nat) "Factloom$Batch" "triples" "[I" "Factloom") ∈ ev_nw := ev_memN 144 (by decide +kernel) rfl
theorem ev_w146 : (Jvm.Cond.fieldLinkNest "Factloom$Rows" (53 : Nat) "Factloom$Batch" "trusts" "[I" "Factloom") ∈ ev_nw := ev_memN 146 (by decide +kernel) rfl
theorem ev_w437 : (Jvm.Cond.code ({ cls := "Factloom$Names", name := "headsOf", desc := "(I)I" } : Jvm.MethodName) prog_6_method_6_code (2 : Nat) (Option.some Jvm.ClassFile.FieldType.int)) ∈ ev_gd := ev_mem 437 (by decide +kernel) rfl
theorem ev_w434 : (Jvm.Cond.methodLink "Factloom$Rows" (39 : Nat) ({ cls := "Factloom$Names", name := "headsOf", desc := "(I)I" } : Jvm.MethodName)) ∈ ev_gd := ev_mem 434 (by decide +kernel) rfl
theorem ev_w435 : (Jvm.Cond.instanceMethod ({ cls := "Factloom$Names", name := "headsOf", desc := "(I)I" } : Jvm.MethodName)) ∈ ev_gd := ev_mem 435 (by decide +kernel) rfl
theorem ev_w436 : (Jvm.Cond.selects "Factloom$Names" ({ cls := "Factloom$Names", name := "headsOf", desc := "(I)I" } : Jvm.MethodName) ({ cls := "Factloom$Names", name := "headsOf", desc := "(I)I" } : Jvm.MethodName)) ∈ ev_gd := ev_mem 436 (by decide +kernel) rfl
theorem ev_w672 : (Jvm.Cond.code ({ cls := "Factloom$Rows", name := "end", desc := "(II)V" } : Jvm.MethodName) prog_9_method_5_code (4 : Nat) (Option.none : Option Jvm.ClassFile.FieldType)) ∈ ev_gd := ev_mem 672 (by decide +kernel) rfl
theorem ev_w669 : (Jvm.Cond.methodLink "Factloom$Rows" (54 : Nat) ({ cls := "Factloom$Rows", name := "end", desc := "(II)V" } : Jvm.MethodName)) ∈ ev_gd := ev_mem 669 (by decide +kernel) rfl
theorem ev_w671 : (Jvm.Cond.instanceMethod ({ cls := "Factloom$Rows", name := "end", desc := "(II)V" } : Jvm.MethodName)) ∈ ev_gd := ev_mem 671 (by decide +kernel) rfl
theorem ev_w20 : (Cond.selects "Factloom$Rows" ⟨"Factloom$Rows", "end", "(II)V"⟩ ⟨"Factloom$Rows", "end", "(II)V"⟩) ∈ ev_gd := ev_mem 20 (by decide +kernel) rfl
theorem ev_w676 : (Jvm.Cond.code ({ cls := "Factloom$Rows", name := "begin", desc := "(IIII)V" } : Jvm.MethodName) prog_9_method_6_code (6 : Nat) (Option.none : Option Jvm.ClassFile.FieldType)) ∈ ev_gd := ev_mem 676 (by decide +kernel) rfl
theorem ev_w673 : (Jvm.Cond.methodLink "Factloom$Rows" (58 : Nat) ({ cls := "Factloom$Rows", name := "begin", desc := "(IIII)V" } : Jvm.MethodName)) ∈ ev_gd := ev_mem 673 (by decide +kernel) rfl
theorem ev_w675 : (Jvm.Cond.instanceMethod ({ cls := "Factloom$Rows", name := "begin", desc := "(IIII)V" } : Jvm.MethodName)) ∈ ev_gd := ev_mem 675 (by decide +kernel) rfl
theorem ev_w21 : (Cond.selects "Factloom$Rows" ⟨"Factloom$Rows", "begin", "(IIII)V"⟩ ⟨"Factloom$Rows", "begin", "(IIII)V"⟩) ∈ ev_gd := ev_mem 21 (by decide +kernel) rfl
theorem ev_w203 : (Jvm.Cond.methodLink "Factloom$Rules" (3 : Nat) ({ cls := "java/lang/Object", name := "<init>", desc := "()V" } : Jvm.MethodName)) ∈ ev_gd := ev_mem 203 (by decide +kernel) rfl
theorem ev_w204 : (Jvm.Cond.fieldLink "Factloom$Rules" (9 : Nat) "Factloom$Rules" "made" "[I") ∈ ev_gd := ev_mem 204 (by decide +kernel) rfl
theorem ev_w206 : (Jvm.Cond.fieldLink "Factloom$Rules" (15 : Nat) "Factloom$Rules" "one" "[I") ∈ ev_gd := ev_mem 206 (by decide +kernel) rfl
theorem ev_w208 : (Jvm.Cond.fieldLink "Factloom$Rules" (18 : Nat) "Factloom$Rules" "other" "[I") ∈ ev_gd := ev_mem 208 (by decide +kernel) rfl
theorem ev_w691 : (Jvm.Cond.code ({ cls := "Factloom$ToldTable", name := "isBrokenFor", desc := "(ILFactloom$Names;)Z" } : Jvm.MethodName) prog_11_method_6_code (5 : Nat) (Option.some Jvm.ClassFile.FieldType.boolean)) ∈ ev_gd := ev_mem 691 (by decide +kernel) rfl
theorem ev_w688 : (Jvm.Cond.methodLink "Factloom$ToldTable" (49 : Nat) ({ cls := "Factloom$ToldTable", name := "isBrokenFor", desc := "(ILFactloom$Names;)Z" } : Jvm.MethodName)) ∈ ev_gd := ev_mem 688 (by decide +kernel) rfl
theorem ev_w690 : (Jvm.Cond.instanceMethod ({ cls := "Factloom$ToldTable", name := "isBrokenFor", desc := "(ILFactloom$Names;)Z" } : Jvm.MethodName)) ∈ ev_gd := ev_mem 690 (by decide +kernel) rfl
theorem ev_w23 : (Cond.selects "Factloom$ToldTable" ⟨"Factloom$ToldTable", "isBrokenFor", "(ILFactloom$Names;)Z"⟩ ⟨"Factloom$ToldTable", "isBrokenFor", "(ILFactloom$Names;)Z"⟩) ∈ ev_gd := ev_mem 23 (by decide +kernel) rfl
theorem ev_w194 : (Jvm.Cond.fieldLink "Factloom$ToldTable" (9 : Nat) "Factloom$ToldTable" "thirds" "[I") ∈ ev_gd := ev_mem 194 (by decide +kernel) rfl
theorem ev_w455 : (Jvm.Cond.code ({ cls := "Factloom", name := "fill", desc := "([II)V" } : Jvm.MethodName) prog_1_method_53_code (3 : Nat) (Option.none : Option Jvm.ClassFile.FieldType)) ∈ ev_gd := ev_mem 455 (by decide +kernel) rfl
theorem ev_w453 : (Jvm.Cond.methodLinkNest "Factloom$ToldTable" (15 : Nat) ({ cls := "Factloom", name := "fill", desc := "([II)V" } : Jvm.MethodName) "Factloom") ∈ ev_nw := ev_memN 453 (by decide +kernel) rfl
theorem ev_w454 : (Jvm.Cond.static ({ cls := "Factloom", name := "fill", desc := "([II)V" } : Jvm.MethodName)) ∈ ev_gd := ev_mem 454 (by decide +kernel) rfl
theorem ev_w172 : (Jvm.Cond.fieldLinkNest "Factloom$ToldTable" (19 : Nat) "Factloom$Rows" "count" "I" "Factloom") ∈ ev_nw := ev_memN 172 (by decide +kernel) rfl
theorem ev_w459 : (Jvm.Cond.code ({ cls := "Factloom$Rows", name := "holdsIn", desc := "(II)Z" } : Jvm.MethodName) prog_9_method_9_code (3 : Nat) (Option.some Jvm.ClassFile.FieldType.boolean)) ∈ ev_gd := ev_mem 459 (by decide +kernel) rfl
theorem ev_w456 : (Jvm.Cond.methodLink "Factloom$ToldTable" (25 : Nat) ({ cls := "Factloom$Rows", name := "holdsIn", desc := "(II)Z" } : Jvm.MethodName)) ∈ ev_gd := ev_mem 456 (by decide +kernel) rfl
theorem ev_w457 : (Jvm.Cond.instanceMethod ({ cls := "Factloom$Rows", name := "holdsIn", desc := "(II)Z" } : Jvm.MethodName)) ∈ ev_gd := ev_mem 457 (by decide +kernel) rfl
theorem ev_w458 : (Jvm.Cond.selects "Factloom$Rows" ({ cls := "Factloom$Rows", name := "holdsIn", desc := "(II)Z" } : Jvm.MethodName) ({ cls := "Factloom$Rows", name := "holdsIn", desc := "(II)Z" } : Jvm.MethodName)) ∈ ev_gd := ev_mem 458 (by decide +kernel) rfl
theorem ev_w165 : (Jvm.Cond.fieldLinkNest "Factloom$ToldTable" (29 : Nat) "Factloom$Rows" "heads" "[I" "Factloom") ∈ ev_nw := ev_memN 165 (by decide +kernel) rfl
theorem ev_w464 : (Jvm.Cond.methodLinkNest "Factloom$ToldTable" (32 : Nat) ({ cls := "Factloom", name := "at", desc := "([III)I" } : Jvm.MethodName) "Factloom") ∈ ev_nw := ev_memN 464 (by decide +kernel) rfl
theorem ev_w465 : (Jvm.Cond.methodLinkNest "Factloom$ToldTable" (36 : Nat) ({ cls := "Factloom", name := "put", desc := "([III)V" } : Jvm.MethodName) "Factloom") ∈ ev_nw := ev_memN 465 (by decide +kernel) rfl
theorem ev_w193 : (Jvm.Cond.methodLink "Factloom$ToldTable" (3 : Nat) ({ cls := "java/lang/Object", name := "<init>", desc := "()V" } : Jvm.MethodName)) ∈ ev_gd := ev_mem 193 (by decide +kernel) rfl
theorem ev_w692 : (Jvm.Cond.methodLink "Factloom$ToldTable" (53 : Nat) ({ cls := "Factloom$Names", name := "headOf", desc := "(I)I" } : Jvm.MethodName)) ∈ ev_gd := ev_mem 692 (by decide +kernel) rfl
theorem ev_w129 : (Jvm.Cond.fieldLinkNest "Factloom$ToldTable" (58 : Nat) "Factloom$Names" "singles" "I" "Factloom") ∈ ev_nw := ev_memN 129 (by decide +kernel) rfl
theorem ev_w510 : (Jvm.Cond.code ({ cls := "Factloom", name := "isIn", desc := "(II)Z" } : Jvm.MethodName) prog_1_method_55_code (2 : Nat) (Option.some Jvm.ClassFile.FieldType.boolean)) ∈ ev_gd := ev_mem 510 (by decide +kernel) rfl
theorem ev_w537 : (Jvm.Cond.methodLinkNest "Factloom$ToldTable" (40 : Nat) ({ cls := "Factloom", name := "isIn", desc := "(II)Z" } : Jvm.MethodName) "Factloom") ∈ ev_nw := ev_memN 537 (by decide +kernel) rfl
theorem ev_w509 : (Jvm.Cond.static ({ cls := "Factloom", name := "isIn", desc := "(II)Z" } : Jvm.MethodName)) ∈ ev_gd := ev_mem 509 (by decide +kernel) rfl
theorem ev_dn0 : ((⟨"java/lang/Math", "max", "(II)I"⟩ : MethodName)).cls ≠ "java/lang/invoke/MethodHandle" ∧ ((⟨"java/lang/Math", "max", "(II)I"⟩ : MethodName)).cls ≠ "java/lang/invoke/VarHandle" ∧ (parseMethodDescriptor ((⟨"java/lang/Math", "max", "(II)I"⟩ : MethodName)).desc).map (fun d => d.parameters.length) = some 2 := ⟨by decide +kernel, by decide +kernel, by decide +kernel⟩
theorem ev_dn1 : (yJ7_copyOf_1904c).cls ≠ "java/lang/invoke/MethodHandle" ∧ (yJ7_copyOf_1904c).cls ≠ "java/lang/invoke/VarHandle" ∧ (parseMethodDescriptor (yJ7_copyOf_1904c).desc).map (fun d => d.parameters.length) = some 2 := ⟨by decide +kernel, by decide +kernel, by decide +kernel⟩
theorem ev_dn2 : (yJ8_newLength_cabcc).cls ≠ "java/lang/invoke/MethodHandle" ∧ (yJ8_newLength_cabcc).cls ≠ "java/lang/invoke/VarHandle" ∧ (parseMethodDescriptor (yJ8_newLength_cabcc).desc).map (fun d => d.parameters.length) = some 3 := ⟨by decide +kernel, by decide +kernel, by decide +kernel⟩
theorem ev_dn3 : (yJx35411_checkForComodification_da8c8).cls ≠ "java/lang/invoke/MethodHandle" ∧ (yJx35411_checkForComodification_da8c8).cls ≠ "java/lang/invoke/VarHandle" ∧ (parseMethodDescriptor (yJx35411_checkForComodification_da8c8).desc).map (fun d => d.parameters.length) = some 0 := ⟨by decide +kernel, by decide +kernel, by decide +kernel⟩
theorem ev_dn4 : (yJx35411_hasNext_aae02).cls ≠ "java/lang/invoke/MethodHandle" ∧ (yJx35411_hasNext_aae02).cls ≠ "java/lang/invoke/VarHandle" ∧ (parseMethodDescriptor (yJx35411_hasNext_aae02).desc).map (fun d => d.parameters.length) = some 0 := ⟨by decide +kernel, by decide +kernel, by decide +kernel⟩
theorem ev_dn5 : (yJx35411_init_45d68).cls ≠ "java/lang/invoke/MethodHandle" ∧ (yJx35411_init_45d68).cls ≠ "java/lang/invoke/VarHandle" ∧ (parseMethodDescriptor (yJx35411_init_45d68).desc).map (fun d => d.parameters.length) = some 1 := ⟨by decide +kernel, by decide +kernel, by decide +kernel⟩
theorem ev_dn6 : (yJx35411_next_0502b).cls ≠ "java/lang/invoke/MethodHandle" ∧ (yJx35411_next_0502b).cls ≠ "java/lang/invoke/VarHandle" ∧ (parseMethodDescriptor (yJx35411_next_0502b).desc).map (fun d => d.parameters.length) = some 0 := ⟨by decide +kernel, by decide +kernel, by decide +kernel⟩
theorem ev_dn7 : (yJx4a65c_add_72be8).cls ≠ "java/lang/invoke/MethodHandle" ∧ (yJx4a65c_add_72be8).cls ≠ "java/lang/invoke/VarHandle" ∧ (parseMethodDescriptor (yJx4a65c_add_72be8).desc).map (fun d => d.parameters.length) = some 3 := ⟨by decide +kernel, by decide +kernel, by decide +kernel⟩
theorem ev_dn8 : (yJx4a65c_add_9ea2d).cls ≠ "java/lang/invoke/MethodHandle" ∧ (yJx4a65c_add_9ea2d).cls ≠ "java/lang/invoke/VarHandle" ∧ (parseMethodDescriptor (yJx4a65c_add_9ea2d).desc).map (fun d => d.parameters.length) = some 1 := ⟨by decide +kernel, by decide +kernel, by decide +kernel⟩
theorem ev_dn9 : (yJx4a65c_clear_da8c8).cls ≠ "java/lang/invoke/MethodHandle" ∧ (yJx4a65c_clear_da8c8).cls ≠ "java/lang/invoke/VarHandle" ∧ (parseMethodDescriptor (yJx4a65c_clear_da8c8).desc).map (fun d => d.parameters.length) = some 0 := ⟨by decide +kernel, by decide +kernel, by decide +kernel⟩
theorem ev_dn10 : (yJx4a65c_grow_92f84).cls ≠ "java/lang/invoke/MethodHandle" ∧ (yJx4a65c_grow_92f84).cls ≠ "java/lang/invoke/VarHandle" ∧ (parseMethodDescriptor (yJx4a65c_grow_92f84).desc).map (fun d => d.parameters.length) = some 1 := ⟨by decide +kernel, by decide +kernel, by decide +kernel⟩
theorem ev_dn11 : (yJx4a65c_grow_d5877).cls ≠ "java/lang/invoke/MethodHandle" ∧ (yJx4a65c_grow_d5877).cls ≠ "java/lang/invoke/VarHandle" ∧ (parseMethodDescriptor (yJx4a65c_grow_d5877).desc).map (fun d => d.parameters.length) = some 0 := ⟨by decide +kernel, by decide +kernel, by decide +kernel⟩
theorem ev_dn12 : (yJx4a65c_init_da8c8).cls ≠ "java/lang/invoke/MethodHandle" ∧ (yJx4a65c_init_da8c8).cls ≠ "java/lang/invoke/VarHandle" ∧ (parseMethodDescriptor (yJx4a65c_init_da8c8).desc).map (fun d => d.parameters.length) = some 0 := ⟨by decide +kernel, by decide +kernel, by decide +kernel⟩
theorem ev_dn13 : (yJx4a65c_iterator_32c93).cls ≠ "java/lang/invoke/MethodHandle" ∧ (yJx4a65c_iterator_32c93).cls ≠ "java/lang/invoke/VarHandle" ∧ (parseMethodDescriptor (yJx4a65c_iterator_32c93).desc).map (fun d => d.parameters.length) = some 0 := ⟨by decide +kernel, by decide +kernel, by decide +kernel⟩
theorem ev_dn14 : (yJx4a65c_size_8abf5).cls ≠ "java/lang/invoke/MethodHandle" ∧ (yJx4a65c_size_8abf5).cls ≠ "java/lang/invoke/VarHandle" ∧ (parseMethodDescriptor (yJx4a65c_size_8abf5).desc).map (fun d => d.parameters.length) = some 0 := ⟨by decide +kernel, by decide +kernel, by decide +kernel⟩
theorem ev_dn15 : (yJxa1e45_init_da8c8).cls ≠ "java/lang/invoke/MethodHandle" ∧ (yJxa1e45_init_da8c8).cls ≠ "java/lang/invoke/VarHandle" ∧ (parseMethodDescriptor (yJxa1e45_init_da8c8).desc).map (fun d => d.parameters.length) = some 0 := ⟨by decide +kernel, by decide +kernel, by decide +kernel⟩
theorem ev_dn16 : (yJxc12de_init_da8c8).cls ≠ "java/lang/invoke/MethodHandle" ∧ (yJxc12de_init_da8c8).cls ≠ "java/lang/invoke/VarHandle" ∧ (parseMethodDescriptor (yJxc12de_init_da8c8).desc).map (fun d => d.parameters.length) = some 0 := ⟨by decide +kernel, by decide +kernel, by decide +kernel⟩
theorem ev_dn17 : (yL_commit).cls ≠ "java/lang/invoke/MethodHandle" ∧ (yL_commit).cls ≠ "java/lang/invoke/VarHandle" ∧ (parseMethodDescriptor (yL_commit).desc).map (fun d => d.parameters.length) = some 2 := ⟨by decide +kernel, by decide +kernel, by decide +kernel⟩
theorem ev_dn18 : (yL_law).cls ≠ "java/lang/invoke/MethodHandle" ∧ (yL_law).cls ≠ "java/lang/invoke/VarHandle" ∧ (parseMethodDescriptor (yL_law).desc).map (fun d => d.parameters.length) = some 1 := ⟨by decide +kernel, by decide +kernel, by decide +kernel⟩
theorem ev_dn19 : (yL_tell).cls ≠ "java/lang/invoke/MethodHandle" ∧ (yL_tell).cls ≠ "java/lang/invoke/VarHandle" ∧ (parseMethodDescriptor (yL_tell).desc).map (fun d => d.parameters.length) = some 4 := ⟨by decide +kernel, by decide +kernel, by decide +kernel⟩
theorem ev_dn20 : (yL_unsay).cls ≠ "java/lang/invoke/MethodHandle" ∧ (yL_unsay).cls ≠ "java/lang/invoke/VarHandle" ∧ (parseMethodDescriptor (yL_unsay).desc).map (fun d => d.parameters.length) = some 3 := ⟨by decide +kernel, by decide +kernel, by decide +kernel⟩
theorem ev_dn21 : (yX0_add).cls ≠ "java/lang/invoke/MethodHandle" ∧ (yX0_add).cls ≠ "java/lang/invoke/VarHandle" ∧ (parseMethodDescriptor (yX0_add).desc).map (fun d => d.parameters.length) = some 2 := ⟨by decide +kernel, by decide +kernel, by decide +kernel⟩
theorem ev_dn22 : (yX0_empty).cls ≠ "java/lang/invoke/MethodHandle" ∧ (yX0_empty).cls ≠ "java/lang/invoke/VarHandle" ∧ (parseMethodDescriptor (yX0_empty).desc).map (fun d => d.parameters.length) = some 0 := ⟨by decide +kernel, by decide +kernel, by decide +kernel⟩
theorem ev_dn23 : (yX0_init).cls ≠ "java/lang/invoke/MethodHandle" ∧ (yX0_init).cls ≠ "java/lang/invoke/VarHandle" ∧ (parseMethodDescriptor (yX0_init).desc).map (fun d => d.parameters.length) = some 0 := ⟨by decide +kernel, by decide +kernel, by decide +kernel⟩
theorem ev_dn24 : (yX10_at).cls ≠ "java/lang/invoke/MethodHandle" ∧ (yX10_at).cls ≠ "java/lang/invoke/VarHandle" ∧ (parseMethodDescriptor (yX10_at).desc).map (fun d => d.parameters.length) = some 3 := ⟨by decide +kernel, by decide +kernel, by decide +kernel⟩
theorem ev_dn25 : (yX10_broken).cls ≠ "java/lang/invoke/MethodHandle" ∧ (yX10_broken).cls ≠ "java/lang/invoke/VarHandle" ∧ (parseMethodDescriptor (yX10_broken).desc).map (fun d => d.parameters.length) = some 0 := ⟨by decide +kernel, by decide +kernel, by decide +kernel⟩
theorem ev_dn26 : (yX10_checkBatchRoom).cls ≠ "java/lang/invoke/MethodHandle" ∧ (yX10_checkBatchRoom).cls ≠ "java/lang/invoke/VarHandle" ∧ (parseMethodDescriptor (yX10_checkBatchRoom).desc).map (fun d => d.parameters.length) = some 0 := ⟨by decide +kernel, by decide +kernel, by decide +kernel⟩
theorem ev_dn27 : (yX10_checkTriple).cls ≠ "java/lang/invoke/MethodHandle" ∧ (yX10_checkTriple).cls ≠ "java/lang/invoke/VarHandle" ∧ (parseMethodDescriptor (yX10_checkTriple).desc).map (fun d => d.parameters.length) = some 1 := ⟨by decide +kernel, by decide +kernel, by decide +kernel⟩
theorem ev_dn28 : (yX10_commit).cls ≠ "java/lang/invoke/MethodHandle" ∧ (yX10_commit).cls ≠ "java/lang/invoke/VarHandle" ∧ (parseMethodDescriptor (yX10_commit).desc).map (fun d => d.parameters.length) = some 0 := ⟨by decide +kernel, by decide +kernel, by decide +kernel⟩
theorem ev_dn29 : (yX10_copy).cls ≠ "java/lang/invoke/MethodHandle" ∧ (yX10_copy).cls ≠ "java/lang/invoke/VarHandle" ∧ (parseMethodDescriptor (yX10_copy).desc).map (fun d => d.parameters.length) = some 3 := ⟨by decide +kernel, by decide +kernel, by decide +kernel⟩
theorem ev_dn30 : (yX10_fill).cls ≠ "java/lang/invoke/MethodHandle" ∧ (yX10_fill).cls ≠ "java/lang/invoke/VarHandle" ∧ (parseMethodDescriptor (yX10_fill).desc).map (fun d => d.parameters.length) = some 2 := ⟨by decide +kernel, by decide +kernel, by decide +kernel⟩
theorem ev_dn31 : (yX10_init).cls ≠ "java/lang/invoke/MethodHandle" ∧ (yX10_init).cls ≠ "java/lang/invoke/VarHandle" ∧ (parseMethodDescriptor (yX10_init).desc).map (fun d => d.parameters.length) = some 0 := ⟨by decide +kernel, by decide +kernel, by decide +kernel⟩
theorem ev_dn32 : (yX10_isIn).cls ≠ "java/lang/invoke/MethodHandle" ∧ (yX10_isIn).cls ≠ "java/lang/invoke/VarHandle" ∧ (parseMethodDescriptor (yX10_isIn).desc).map (fun d => d.parameters.length) = some 2 := ⟨by decide +kernel, by decide +kernel, by decide +kernel⟩
theorem ev_dn33 : (yX10_put).cls ≠ "java/lang/invoke/MethodHandle" ∧ (yX10_put).cls ≠ "java/lang/invoke/VarHandle" ∧ (parseMethodDescriptor (yX10_put).desc).map (fun d => d.parameters.length) = some 3 := ⟨by decide +kernel, by decide +kernel, by decide +kernel⟩
theorem ev_dn34 : (yX10_tell).cls ≠ "java/lang/invoke/MethodHandle" ∧ (yX10_tell).cls ≠ "java/lang/invoke/VarHandle" ∧ (parseMethodDescriptor (yX10_tell).desc).map (fun d => d.parameters.length) = some 2 := ⟨by decide +kernel, by decide +kernel, by decide +kernel⟩
theorem ev_dn35 : (yX10_toldChanged).cls ≠ "java/lang/invoke/MethodHandle" ∧ (yX10_toldChanged).cls ≠ "java/lang/invoke/VarHandle" ∧ (parseMethodDescriptor (yX10_toldChanged).desc).map (fun d => d.parameters.length) = some 0 := ⟨by decide +kernel, by decide +kernel, by decide +kernel⟩
theorem ev_dn36 : (yX10_tryBatch).cls ≠ "java/lang/invoke/MethodHandle" ∧ (yX10_tryBatch).cls ≠ "java/lang/invoke/VarHandle" ∧ (parseMethodDescriptor (yX10_tryBatch).desc).map (fun d => d.parameters.length) = some 0 := ⟨by decide +kernel, by decide +kernel, by decide +kernel⟩
theorem ev_dn37 : (yX10_unsay).cls ≠ "java/lang/invoke/MethodHandle" ∧ (yX10_unsay).cls ≠ "java/lang/invoke/VarHandle" ∧ (parseMethodDescriptor (yX10_unsay).desc).map (fun d => d.parameters.length) = some 1 := ⟨by decide +kernel, by decide +kernel, by decide +kernel⟩
theorem ev_dn38 : (yX11_init).cls ≠ "java/lang/invoke/MethodHandle" ∧ (yX11_init).cls ≠ "java/lang/invoke/VarHandle" ∧ (parseMethodDescriptor (yX11_init).desc).map (fun d => d.parameters.length) = some 0 := ⟨by decide +kernel, by decide +kernel, by decide +kernel⟩
theorem ev_dn39 : (yX12_holds).cls ≠ "java/lang/invoke/MethodHandle" ∧ (yX12_holds).cls ≠ "java/lang/invoke/VarHandle" ∧ (parseMethodDescriptor (yX12_holds).desc).map (fun d => d.parameters.length) = some 1 := ⟨by decide +kernel, by decide +kernel, by decide +kernel⟩
theorem ev_dn40 : (yX12_init).cls ≠ "java/lang/invoke/MethodHandle" ∧ (yX12_init).cls ≠ "java/lang/invoke/VarHandle" ∧ (parseMethodDescriptor (yX12_init).desc).map (fun d => d.parameters.length) = some 0 := ⟨by decide +kernel, by decide +kernel, by decide +kernel⟩
theorem ev_dn41 : (yX13_broken).cls ≠ "java/lang/invoke/MethodHandle" ∧ (yX13_broken).cls ≠ "java/lang/invoke/VarHandle" ∧ (parseMethodDescriptor (yX13_broken).desc).map (fun d => d.parameters.length) = some 2 := ⟨by decide +kernel, by decide +kernel, by decide +kernel⟩
theorem ev_dn42 : (yX13_broken_).cls ≠ "java/lang/invoke/MethodHandle" ∧ (yX13_broken_).cls ≠ "java/lang/invoke/VarHandle" ∧ (parseMethodDescriptor (yX13_broken_).desc).map (fun d => d.parameters.length) = some 0 := ⟨by decide +kernel, by decide +kernel, by decide +kernel⟩
theorem ev_dn43 : (yX13_commit).cls ≠ "java/lang/invoke/MethodHandle" ∧ (yX13_commit).cls ≠ "java/lang/invoke/VarHandle" ∧ (parseMethodDescriptor (yX13_commit).desc).map (fun d => d.parameters.length) = some 0 := ⟨by decide +kernel, by decide +kernel, by decide +kernel⟩
theorem ev_dn44 : (yX13_committed).cls ≠ "java/lang/invoke/MethodHandle" ∧ (yX13_committed).cls ≠ "java/lang/invoke/VarHandle" ∧ (parseMethodDescriptor (yX13_committed).desc).map (fun d => d.parameters.length) = some 0 := ⟨by decide +kernel, by decide +kernel, by decide +kernel⟩
theorem ev_dn45 : (yX13_digit).cls ≠ "java/lang/invoke/MethodHandle" ∧ (yX13_digit).cls ≠ "java/lang/invoke/VarHandle" ∧ (parseMethodDescriptor (yX13_digit).desc).map (fun d => d.parameters.length) = some 2 := ⟨by decide +kernel, by decide +kernel, by decide +kernel⟩
theorem ev_dn46 : (yX13_forget).cls ≠ "java/lang/invoke/MethodHandle" ∧ (yX13_forget).cls ≠ "java/lang/invoke/VarHandle" ∧ (parseMethodDescriptor (yX13_forget).desc).map (fun d => d.parameters.length) = some 0 := ⟨by decide +kernel, by decide +kernel, by decide +kernel⟩
theorem ev_dn47 : (yX13_init).cls ≠ "java/lang/invoke/MethodHandle" ∧ (yX13_init).cls ≠ "java/lang/invoke/VarHandle" ∧ (parseMethodDescriptor (yX13_init).desc).map (fun d => d.parameters.length) = some 0 := ⟨by decide +kernel, by decide +kernel, by decide +kernel⟩
theorem ev_dn48 : (yX13_is).cls ≠ "java/lang/invoke/MethodHandle" ∧ (yX13_is).cls ≠ "java/lang/invoke/VarHandle" ∧ (parseMethodDescriptor (yX13_is).desc).map (fun d => d.parameters.length) = some 3 := ⟨by decide +kernel, by decide +kernel, by decide +kernel⟩
theorem ev_dn49 : (yX13_isTriple).cls ≠ "java/lang/invoke/MethodHandle" ∧ (yX13_isTriple).cls ≠ "java/lang/invoke/VarHandle" ∧ (parseMethodDescriptor (yX13_isTriple).desc).map (fun d => d.parameters.length) = some 1 := ⟨by decide +kernel, by decide +kernel, by decide +kernel⟩
theorem ev_dn50 : (yX13_newBinding).cls ≠ "java/lang/invoke/MethodHandle" ∧ (yX13_newBinding).cls ≠ "java/lang/invoke/VarHandle" ∧ (parseMethodDescriptor (yX13_newBinding).desc).map (fun d => d.parameters.length) = some 0 := ⟨by decide +kernel, by decide +kernel, by decide +kernel⟩
theorem ev_dn51 : (yX13_place).cls ≠ "java/lang/invoke/MethodHandle" ∧ (yX13_place).cls ≠ "java/lang/invoke/VarHandle" ∧ (parseMethodDescriptor (yX13_place).desc).map (fun d => d.parameters.length) = some 2 := ⟨by decide +kernel, by decide +kernel, by decide +kernel⟩
theorem ev_dn52 : (yX13_place_).cls ≠ "java/lang/invoke/MethodHandle" ∧ (yX13_place_).cls ≠ "java/lang/invoke/VarHandle" ∧ (parseMethodDescriptor (yX13_place_).desc).map (fun d => d.parameters.length) = some 1 := ⟨by decide +kernel, by decide +kernel, by decide +kernel⟩
theorem ev_dn53 : (yX13_tell).cls ≠ "java/lang/invoke/MethodHandle" ∧ (yX13_tell).cls ≠ "java/lang/invoke/VarHandle" ∧ (parseMethodDescriptor (yX13_tell).desc).map (fun d => d.parameters.length) = some 2 := ⟨by decide +kernel, by decide +kernel, by decide +kernel⟩
theorem ev_dn54 : (yX13_thrown).cls ≠ "java/lang/invoke/MethodHandle" ∧ (yX13_thrown).cls ≠ "java/lang/invoke/VarHandle" ∧ (parseMethodDescriptor (yX13_thrown).desc).map (fun d => d.parameters.length) = some 0 := ⟨by decide +kernel, by decide +kernel, by decide +kernel⟩
theorem ev_dn55 : (yX13_told).cls ≠ "java/lang/invoke/MethodHandle" ∧ (yX13_told).cls ≠ "java/lang/invoke/VarHandle" ∧ (parseMethodDescriptor (yX13_told).desc).map (fun d => d.parameters.length) = some 3 := ⟨by decide +kernel, by decide +kernel, by decide +kernel⟩
theorem ev_dn56 : (yX13_unsay).cls ≠ "java/lang/invoke/MethodHandle" ∧ (yX13_unsay).cls ≠ "java/lang/invoke/VarHandle" ∧ (parseMethodDescriptor (yX13_unsay).desc).map (fun d => d.parameters.length) = some 1 := ⟨by decide +kernel, by decide +kernel, by decide +kernel⟩
theorem ev_dn57 : (yX1_init).cls ≠ "java/lang/invoke/MethodHandle" ∧ (yX1_init).cls ≠ "java/lang/invoke/VarHandle" ∧ (parseMethodDescriptor (yX1_init).desc).map (fun d => d.parameters.length) = some 0 := ⟨by decide +kernel, by decide +kernel, by decide +kernel⟩
theorem ev_dn58 : (yX2_init).cls ≠ "java/lang/invoke/MethodHandle" ∧ (yX2_init).cls ≠ "java/lang/invoke/VarHandle" ∧ (parseMethodDescriptor (yX2_init).desc).map (fun d => d.parameters.length) = some 0 := ⟨by decide +kernel, by decide +kernel, by decide +kernel⟩
theorem ev_dn59 : (yX3_init).cls ≠ "java/lang/invoke/MethodHandle" ∧ (yX3_init).cls ≠ "java/lang/invoke/VarHandle" ∧ (parseMethodDescriptor (yX3_init).desc).map (fun d => d.parameters.length) = some 0 := ⟨by decide +kernel, by decide +kernel, by decide +kernel⟩
theorem ev_dn60 : (yX4_headOf).cls ≠ "java/lang/invoke/MethodHandle" ∧ (yX4_headOf).cls ≠ "java/lang/invoke/VarHandle" ∧ (parseMethodDescriptor (yX4_headOf).desc).map (fun d => d.parameters.length) = some 1 := ⟨by decide +kernel, by decide +kernel, by decide +kernel⟩
theorem ev_dn61 : (yX4_headsOf).cls ≠ "java/lang/invoke/MethodHandle" ∧ (yX4_headsOf).cls ≠ "java/lang/invoke/VarHandle" ∧ (parseMethodDescriptor (yX4_headsOf).desc).map (fun d => d.parameters.length) = some 1 := ⟨by decide +kernel, by decide +kernel, by decide +kernel⟩
theorem ev_dn62 : (yX4_init).cls ≠ "java/lang/invoke/MethodHandle" ∧ (yX4_init).cls ≠ "java/lang/invoke/VarHandle" ∧ (parseMethodDescriptor (yX4_init).desc).map (fun d => d.parameters.length) = some 0 := ⟨by decide +kernel, by decide +kernel, by decide +kernel⟩
theorem ev_dn63 : (yX4_separate).cls ≠ "java/lang/invoke/MethodHandle" ∧ (yX4_separate).cls ≠ "java/lang/invoke/VarHandle" ∧ (parseMethodDescriptor (yX4_separate).desc).map (fun d => d.parameters.length) = some 0 := ⟨by decide +kernel, by decide +kernel, by decide +kernel⟩
theorem ev_dn64 : (yX5_init).cls ≠ "java/lang/invoke/MethodHandle" ∧ (yX5_init).cls ≠ "java/lang/invoke/VarHandle" ∧ (parseMethodDescriptor (yX5_init).desc).map (fun d => d.parameters.length) = some 0 := ⟨by decide +kernel, by decide +kernel, by decide +kernel⟩
theorem ev_dn65 : (yX6_init).cls ≠ "java/lang/invoke/MethodHandle" ∧ (yX6_init).cls ≠ "java/lang/invoke/VarHandle" ∧ (parseMethodDescriptor (yX6_init).desc).map (fun d => d.parameters.length) = some 0 := ⟨by decide +kernel, by decide +kernel, by decide +kernel⟩
theorem ev_dn66 : (yX7_begin).cls ≠ "java/lang/invoke/MethodHandle" ∧ (yX7_begin).cls ≠ "java/lang/invoke/VarHandle" ∧ (parseMethodDescriptor (yX7_begin).desc).map (fun d => d.parameters.length) = some 4 := ⟨by decide +kernel, by decide +kernel, by decide +kernel⟩
theorem ev_dn67 : (yX7_copyFrom).cls ≠ "java/lang/invoke/MethodHandle" ∧ (yX7_copyFrom).cls ≠ "java/lang/invoke/VarHandle" ∧ (parseMethodDescriptor (yX7_copyFrom).desc).map (fun d => d.parameters.length) = some 1 := ⟨by decide +kernel, by decide +kernel, by decide +kernel⟩
theorem ev_dn68 : (yX7_end).cls ≠ "java/lang/invoke/MethodHandle" ∧ (yX7_end).cls ≠ "java/lang/invoke/VarHandle" ∧ (parseMethodDescriptor (yX7_end).desc).map (fun d => d.parameters.length) = some 2 := ⟨by decide +kernel, by decide +kernel, by decide +kernel⟩
theorem ev_dn69 : (yX7_holdsIn).cls ≠ "java/lang/invoke/MethodHandle" ∧ (yX7_holdsIn).cls ≠ "java/lang/invoke/VarHandle" ∧ (parseMethodDescriptor (yX7_holdsIn).desc).map (fun d => d.parameters.length) = some 2 := ⟨by decide +kernel, by decide +kernel, by decide +kernel⟩
theorem ev_dn70 : (yX7_init).cls ≠ "java/lang/invoke/MethodHandle" ∧ (yX7_init).cls ≠ "java/lang/invoke/VarHandle" ∧ (parseMethodDescriptor (yX7_init).desc).map (fun d => d.parameters.length) = some 0 := ⟨by decide +kernel, by decide +kernel, by decide +kernel⟩
theorem ev_dn71 : (yX7_isOpen).cls ≠ "java/lang/invoke/MethodHandle" ∧ (yX7_isOpen).cls ≠ "java/lang/invoke/VarHandle" ∧ (parseMethodDescriptor (yX7_isOpen).desc).map (fun d => d.parameters.length) = some 1 := ⟨by decide +kernel, by decide +kernel, by decide +kernel⟩
theorem ev_dn72 : (yX7_openRowOf).cls ≠ "java/lang/invoke/MethodHandle" ∧ (yX7_openRowOf).cls ≠ "java/lang/invoke/VarHandle" ∧ (parseMethodDescriptor (yX7_openRowOf).desc).map (fun d => d.parameters.length) = some 1 := ⟨by decide +kernel, by decide +kernel, by decide +kernel⟩
theorem ev_dn73 : (yX7_take).cls ≠ "java/lang/invoke/MethodHandle" ∧ (yX7_take).cls ≠ "java/lang/invoke/VarHandle" ∧ (parseMethodDescriptor (yX7_take).desc).map (fun d => d.parameters.length) = some 3 := ⟨by decide +kernel, by decide +kernel, by decide +kernel⟩
theorem ev_dn74 : (yX8_init).cls ≠ "java/lang/invoke/MethodHandle" ∧ (yX8_init).cls ≠ "java/lang/invoke/VarHandle" ∧ (parseMethodDescriptor (yX8_init).desc).map (fun d => d.parameters.length) = some 0 := ⟨by decide +kernel, by decide +kernel, by decide +kernel⟩
theorem ev_dn75 : (yX9_brokenHeads).cls ≠ "java/lang/invoke/MethodHandle" ∧ (yX9_brokenHeads).cls ≠ "java/lang/invoke/VarHandle" ∧ (parseMethodDescriptor (yX9_brokenHeads).desc).map (fun d => d.parameters.length) = some 1 := ⟨by decide +kernel, by decide +kernel, by decide +kernel⟩
theorem ev_dn76 : (yX9_gather).cls ≠ "java/lang/invoke/MethodHandle" ∧ (yX9_gather).cls ≠ "java/lang/invoke/VarHandle" ∧ (parseMethodDescriptor (yX9_gather).desc).map (fun d => d.parameters.length) = some 2 := ⟨by decide +kernel, by decide +kernel, by decide +kernel⟩
theorem ev_dn77 : (yX9_init).cls ≠ "java/lang/invoke/MethodHandle" ∧ (yX9_init).cls ≠ "java/lang/invoke/VarHandle" ∧ (parseMethodDescriptor (yX9_init).desc).map (fun d => d.parameters.length) = some 0 := ⟨by decide +kernel, by decide +kernel, by decide +kernel⟩
theorem ev_dn78 : (yX9_isBrokenFor).cls ≠ "java/lang/invoke/MethodHandle" ∧ (yX9_isBrokenFor).cls ≠ "java/lang/invoke/VarHandle" ∧ (parseMethodDescriptor (yX9_isBrokenFor).desc).map (fun d => d.parameters.length) = some 2 := ⟨by decide +kernel, by decide +kernel, by decide +kernel⟩
