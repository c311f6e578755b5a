theorem uw_0 : ∀ w ∈ u_ws RX0 TX0 6, am_w w := by
  have h : u_ws RX0 TX0 6 = [.laysFinal RX0 "SquareCuts$Draft" "left" "[I", .laysFinal RX0 "SquareCuts$Draft" "top" "[I", .laysFinal RX0 "SquareCuts$Draft" "size" "[I", .lays RX0 "SquareCuts$Draft" "total" "I", .lays RX0 "SquareCuts$Draft" "wide" "I", .lays RX0 "SquareCuts$Draft" "high" "I"] := by rfl
  rw [h]
  exact List.forall_mem_cons.mpr ⟨aw_1_191, List.forall_mem_cons.mpr ⟨aw_1_193, List.forall_mem_cons.mpr ⟨aw_1_195, List.forall_mem_cons.mpr ⟨aw_1_197, List.forall_mem_cons.mpr ⟨aw_1_199, List.forall_mem_cons.mpr ⟨aw_1_201, fun _ h => absurd h List.not_mem_nil⟩⟩⟩⟩⟩⟩
theorem fpX0_9 : am_FP RX0 9 0 0 2 (.array .int) true := ⟨_, _, _, tyX0, rfl, by decide, uw_0, aw_1_178, by decide, by decide, by decide, tyX0_ok, nmX0, rfl, rfl, rfl, fun _ => rfl⟩
theorem fpX0_15 : am_FP RX0 15 0 1 2 (.array .int) true := ⟨_, _, _, tyX0, rfl, by decide, uw_0, aw_1_180, by decide, by decide, by decide, tyX0_ok, nmX0, rfl, rfl, rfl, fun _ => rfl⟩
theorem fpX0_18 : am_FP RX0 18 0 2 2 (.array .int) true := ⟨_, _, _, tyX0, rfl, by decide, uw_0, aw_1_182, by decide, by decide, by decide, tyX0_ok, nmX0, rfl, rfl, rfl, fun _ => rfl⟩
theorem fpX0_21 : am_FP RX0 21 0 4 0 .int false := ⟨_, _, _, tyX0, rfl, by decide, uw_0, aw_1_187, by decide, by decide, by decide, tyX0_ok, nmX0, rfl, rfl, rfl, fun h => by cases h⟩
theorem fpX0_25 : am_FP RX0 25 0 5 0 .int false := ⟨_, _, _, tyX0, rfl, by decide, uw_0, aw_1_189, by decide, by decide, by decide, tyX0_ok, nmX0, rfl, rfl, rfl, fun h => by cases h⟩
theorem fpX0_28 : am_FP RX0 28 0 3 0 .int false := ⟨_, _, _, tyX0, rfl, by decide, uw_0, aw_1_185, by decide, by decide, by decide, tyX0_ok, nmX0, rfl, rfl, rfl, fun h => by cases h⟩
theorem flX0_28 : am_F RX0 28 0 3 0 := ⟨_, _, _, rfl, by decide, uw_0, aw_1_185, by decide, by decide, by decide⟩
theorem flX0_9 : am_F RX0 9 0 0 2 := ⟨_, _, _, rfl, by decide, uw_0, aw_1_178, by decide, by decide, by decide⟩
theorem flX0_15 : am_F RX0 15 0 1 2 := ⟨_, _, _, rfl, by decide, uw_0, aw_1_180, by decide, by decide, by decide⟩
theorem flX0_18 : am_F RX0 18 0 2 2 := ⟨_, _, _, rfl, by decide, uw_0, aw_1_182, by decide, by decide, by decide⟩
theorem uw_10 : ∀ w ∈ u_ws RX10 TX10 11, am_w w := by
  have h : u_ws RX10 TX10 11 = [.laysFinal RX10 "SquareCuts$Tiling" "kind" "I", .laysFinal RX10 "SquareCuts$Tiling" "fails" "Z", .laysFinal RX10 "SquareCuts$Tiling" "laidTillEnd" "I", .laysFinal RX10 "SquareCuts$Tiling" "net" "LSquareCuts$Net;", .laysFinal RX10 "SquareCuts$Tiling" "total" "I", .laysFinal RX10 "SquareCuts$Tiling" "wide" "I", .laysFinal RX10 "SquareCuts$Tiling" "high" "I", .laysFinal RX10 "SquareCuts$Tiling" "left" "[I", .laysFinal RX10 "SquareCuts$Tiling" "top" "[I", .laysFinal RX10 "SquareCuts$Tiling" "size" "[I", .lays RX10 "SquareCuts$Tiling" "knownParts" "I"] := by rfl
  rw [h]
  exact List.forall_mem_cons.mpr ⟨aw_2_235, List.forall_mem_cons.mpr ⟨aw_2_237, List.forall_mem_cons.mpr ⟨aw_2_239, List.forall_mem_cons.mpr ⟨aw_3_1, List.forall_mem_cons.mpr ⟨aw_3_3, List.forall_mem_cons.mpr ⟨aw_3_5, List.forall_mem_cons.mpr ⟨aw_3_7, List.forall_mem_cons.mpr ⟨aw_3_9, List.forall_mem_cons.mpr ⟨aw_3_11, List.forall_mem_cons.mpr ⟨aw_3_13, List.forall_mem_cons.mpr ⟨aw_3_15, fun _ h => absurd h List.not_mem_nil⟩⟩⟩⟩⟩⟩⟩⟩⟩⟩⟩
theorem flX0_31 : am_F RX0 31 10 4 0 := ⟨_, _, _, rfl, by decide, uw_10, aw_2_213, by decide, by decide, by decide⟩
theorem flX0_34 : am_F RX0 34 10 7 2 := ⟨_, _, _, rfl, by decide, uw_10, aw_2_223, by decide, by decide, by decide⟩
theorem flX0_35 : am_F RX0 35 10 8 2 := ⟨_, _, _, rfl, by decide, uw_10, aw_2_227, by decide, by decide, by decide⟩
theorem flX0_36 : am_F RX0 36 10 9 2 := ⟨_, _, _, rfl, by decide, uw_10, aw_2_232, by decide, by decide, by decide⟩
theorem cbX0_37 : am_CB RX0 37 yX0_add cX0_add 4 none 3 := ⟨aw_1_7, aw_2_178, ⟨by decide, by decide⟩, by decide +kernel⟩
theorem cvX0_37 : am_CV RX0 37 yX0_add cX0_add 4 none 3 0 := ⟨cbX0_37, aw_4_63, aw_2_176, aw_2_177, by decide, _, _, rfl⟩
theorem flX0_21 : am_F RX0 21 0 4 0 := ⟨_, _, _, rfl, by decide, uw_0, aw_1_187, by decide, by decide, by decide⟩
theorem flX0_25 : am_F RX0 25 0 5 0 := ⟨_, _, _, rfl, by decide, uw_0, aw_1_189, by decide, by decide, by decide⟩
theorem uw_1 : ∀ w ∈ u_ws RX1 TX1 2, am_w w := by
  have h : u_ws RX1 TX1 2 = [.laysFinal RX1 "SquareCuts$GroupLayer" "outline" "LSquareCuts$Outline;", .lays RX1 "SquareCuts$GroupLayer" "laidSquares" "I"] := by rfl
  rw [h]
  exact List.forall_mem_cons.mpr ⟨aw_1_120, List.forall_mem_cons.mpr ⟨aw_1_122, fun _ h => absurd h List.not_mem_nil⟩⟩
theorem flX1_20 : am_F RX1 20 1 1 0 := ⟨_, _, _, rfl, by decide, uw_1, aw_1_118, by decide, by decide, by decide⟩
theorem uw_2 : ∀ w ∈ u_ws RX2 TX2 6, am_w w := by
  have h : u_ws RX2 TX2 6 = [.laysFinal RX2 "SquareCuts$LineTable" "depth" "[I", .laysFinal RX2 "SquareCuts$LineTable" "left" "[I", .laysFinal RX2 "SquareCuts$LineTable" "right" "[I", .laysFinal RX2 "SquareCuts$LineTable" "flow" "[I", .lays RX2 "SquareCuts$LineTable" "rows" "I", .lays RX2 "SquareCuts$LineTable" "builtFor" "LSquareCuts$Tiling;"] := by rfl
  rw [h]
  exact List.forall_mem_cons.mpr ⟨aw_1_221, List.forall_mem_cons.mpr ⟨aw_1_223, List.forall_mem_cons.mpr ⟨aw_1_225, List.forall_mem_cons.mpr ⟨aw_1_227, List.forall_mem_cons.mpr ⟨aw_1_229, List.forall_mem_cons.mpr ⟨aw_1_231, fun _ h => absurd h List.not_mem_nil⟩⟩⟩⟩⟩⟩
theorem fpX2_11 : am_FP RX2 11 2 0 2 (.array .int) true := ⟨_, _, _, tyX2, rfl, by decide, uw_2, aw_1_210, by decide, by decide, by decide, tyX2_ok, nmX2, rfl, rfl, rfl, fun _ => rfl⟩
theorem fpX2_15 : am_FP RX2 15 2 1 2 (.array .int) true := ⟨_, _, _, tyX2, rfl, by decide, uw_2, aw_1_212, by decide, by decide, by decide, tyX2_ok, nmX2, rfl, rfl, rfl, fun _ => rfl⟩
theorem fpX2_18 : am_FP RX2 18 2 2 2 (.array .int) true := ⟨_, _, _, tyX2, rfl, by decide, uw_2, aw_1_214, by decide, by decide, by decide, tyX2_ok, nmX2, rfl, rfl, rfl, fun _ => rfl⟩
theorem fpX2_21 : am_FP RX2 21 2 3 2 (.array .int) true := ⟨_, _, _, tyX2, rfl, by decide, uw_2, aw_1_216, by decide, by decide, by decide, tyX2_ok, nmX2, rfl, rfl, rfl, fun _ => rfl⟩
theorem flX2_11 : am_F RX2 11 2 0 2 := ⟨_, _, _, rfl, by decide, uw_2, aw_1_210, by decide, by decide, by decide⟩
theorem flX2_15 : am_F RX2 15 2 1 2 := ⟨_, _, _, rfl, by decide, uw_2, aw_1_212, by decide, by decide, by decide⟩
theorem flX2_18 : am_F RX2 18 2 2 2 := ⟨_, _, _, rfl, by decide, uw_2, aw_1_214, by decide, by decide, by decide⟩
theorem flX2_21 : am_F RX2 21 2 3 2 := ⟨_, _, _, rfl, by decide, uw_2, aw_1_216, by decide, by decide, by decide⟩
theorem flX2_28 : am_F RX2 28 2 4 0 := ⟨_, _, _, rfl, by decide, uw_2, aw_1_218, by decide, by decide, by decide⟩
theorem fpX2_28 : am_FP RX2 28 2 4 0 .int false := ⟨_, _, _, tyX2, rfl, by decide, uw_2, aw_1_218, by decide, by decide, by decide, tyX2_ok, nmX2, rfl, rfl, rfl, fun h => by cases h⟩
theorem cbX2_57 : am_CB RX2 57 yX2_copyRow cX2_copyRow 3 none 2 := ⟨aw_1_8, aw_4_31, ⟨by decide, by decide⟩, by decide +kernel⟩
theorem cvX2_57 : am_CV RX2 57 yX2_copyRow cX2_copyRow 3 none 2 2 := ⟨cbX2_57, aw_4_28, aw_4_30, ps_31, by decide, _, _, rfl⟩
theorem uw_3 : ∀ w ∈ u_ws RX3 TX3 8, am_w w := by
  have h : u_ws RX3 TX3 8 = [.laysFinal RX3 "SquareCuts$Net" "points" "I", .laysFinal RX3 "SquareCuts$Net" "wires" "I", .laysFinal RX3 "SquareCuts$Net" "levels" "[I", .laysFinal RX3 "SquareCuts$Net" "currents" "[I", .lays RX3 "SquareCuts$Net" "trees" "J", .lays RX3 "SquareCuts$Net" "wide" "I", .lays RX3 "SquareCuts$Net" "high" "I", .lays RX3 "SquareCuts$Net" "layings" "I"] := by rfl
  rw [h]
  exact List.forall_mem_cons.mpr ⟨aw_3_58, List.forall_mem_cons.mpr ⟨aw_3_60, List.forall_mem_cons.mpr ⟨aw_3_62, List.forall_mem_cons.mpr ⟨aw_3_64, List.forall_mem_cons.mpr ⟨aw_3_66, List.forall_mem_cons.mpr ⟨aw_3_68, List.forall_mem_cons.mpr ⟨aw_3_70, List.forall_mem_cons.mpr ⟨aw_3_72, fun _ h => absurd h List.not_mem_nil⟩⟩⟩⟩⟩⟩⟩⟩
theorem fpX3_7 : am_FP RX3 7 3 0 0 .int true := ⟨_, _, _, tyX3, rfl, by decide, uw_3, aw_3_36, by decide, by decide, by decide, tyX3_ok, nmX3, rfl, rfl, rfl, fun _ => rfl⟩
theorem fpX3_13 : am_FP RX3 13 3 1 0 .int true := ⟨_, _, _, tyX3, rfl, by decide, uw_3, aw_3_39, by decide, by decide, by decide, tyX3_ok, nmX3, rfl, rfl, rfl, fun _ => rfl⟩
theorem fpX3_16 : am_FP RX3 16 3 2 2 (.array .int) true := ⟨_, _, _, tyX3, rfl, by decide, uw_3, aw_3_43, by decide, by decide, by decide, tyX3_ok, nmX3, rfl, rfl, rfl, fun _ => rfl⟩
theorem fpX3_20 : am_FP RX3 20 3 3 2 (.array .int) true := ⟨_, _, _, tyX3, rfl, by decide, uw_3, aw_3_46, by decide, by decide, by decide, tyX3_ok, nmX3, rfl, rfl, rfl, fun _ => rfl⟩
theorem uw_4 : ∀ w ∈ u_ws RX4 TX4 5, am_w w := by
  have h : u_ws RX4 TX4 5 = [.laysFinal RX4 "SquareCuts$NetLayer" "outlines" "[LSquareCuts$Outline;", .laysFinal RX4 "SquareCuts$NetLayer" "size" "[I", .laysFinal RX4 "SquareCuts$NetLayer" "chosen" "[I", .laysFinal RX4 "SquareCuts$NetLayer" "used" "[Z", .lays RX4 "SquareCuts$NetLayer" "squares" "I"] := by rfl
  rw [h]
  exact List.forall_mem_cons.mpr ⟨aw_1_161, List.forall_mem_cons.mpr ⟨aw_1_163, List.forall_mem_cons.mpr ⟨aw_1_165, List.forall_mem_cons.mpr ⟨aw_1_167, List.forall_mem_cons.mpr ⟨aw_1_169, fun _ h => absurd h List.not_mem_nil⟩⟩⟩⟩⟩
theorem fpX4_45 : am_FP RX4 45 4 4 0 .int false := ⟨_, _, _, tyX4, rfl, by decide, uw_4, aw_1_160, by decide, by decide, by decide, tyX4_ok, nmX4, rfl, rfl, rfl, fun h => by cases h⟩
theorem flX4_63 : am_F RX4 63 3 1 0 := ⟨_, _, _, rfl, by decide, uw_3, aw_3_40, by decide, by decide, by decide⟩
theorem flX4_17 : am_F RX4 17 4 1 2 := ⟨_, _, _, rfl, by decide, uw_4, aw_1_157, by decide, by decide, by decide⟩
theorem flX4_66 : am_F RX4 66 3 3 2 := ⟨_, _, _, rfl, by decide, uw_3, aw_3_47, by decide, by decide, by decide⟩
theorem flX4_24 : am_F RX4 24 4 3 2 := ⟨_, _, _, rfl, by decide, uw_4, aw_1_159, by decide, by decide, by decide⟩
theorem flX4_45 : am_F RX4 45 4 4 0 := ⟨_, _, _, rfl, by decide, uw_4, aw_1_160, by decide, by decide, by decide⟩
theorem uw_5 : ∀ w ∈ u_ws RX5 TX5 4, am_w w := by
  have h : u_ws RX5 TX5 4 = [.laysFinal RX5 "SquareCuts$NetSolver" "matrix" "[[J", .laysFinal RX5 "SquareCuts$NetSolver" "from" "[I", .laysFinal RX5 "SquareCuts$NetSolver" "to" "[I", .laysFinal RX5 "SquareCuts$NetSolver" "starts" "[I"] := by rfl
  rw [h]
  exact List.forall_mem_cons.mpr ⟨aw_1_138, List.forall_mem_cons.mpr ⟨aw_1_140, List.forall_mem_cons.mpr ⟨aw_1_142, List.forall_mem_cons.mpr ⟨aw_1_144, fun _ h => absurd h List.not_mem_nil⟩⟩⟩⟩
theorem fpX5_11 : am_FP RX5 11 5 0 2 (.array (.array .long)) true := ⟨_, _, _, tyX5, rfl, by decide, uw_5, aw_1_133, by decide, by decide, by decide, tyX5_ok, nmX5, rfl, rfl, rfl, fun _ => rfl⟩
theorem fpX5_16 : am_FP RX5 16 5 1 2 (.array .int) true := ⟨_, _, _, tyX5, rfl, by decide, uw_5, aw_1_134, by decide, by decide, by decide, tyX5_ok, nmX5, rfl, rfl, rfl, fun _ => rfl⟩
theorem fpX5_20 : am_FP RX5 20 5 2 2 (.array .int) true := ⟨_, _, _, tyX5, rfl, by decide, uw_5, aw_1_135, by decide, by decide, by decide, tyX5_ok, nmX5, rfl, rfl, rfl, fun _ => rfl⟩
theorem fpX5_23 : am_FP RX5 23 5 3 2 (.array .int) true := ⟨_, _, _, tyX5, rfl, by decide, uw_5, aw_1_136, by decide, by decide, by decide, tyX5_ok, nmX5, rfl, rfl, rfl, fun _ => rfl⟩
theorem flX5_11 : am_F RX5 11 5 0 2 := ⟨_, _, _, rfl, by decide, uw_5, aw_1_133, by decide, by decide, by decide⟩
theorem uw_6 : ∀ w ∈ u_ws RX6 TX6 4, am_w w := by
  have h : u_ws RX6 TX6 4 = [.laysFinal RX6 "SquareCuts$Outline" "end" "[I", .laysFinal RX6 "SquareCuts$Outline" "depth" "[I", .lays RX6 "SquareCuts$Outline" "notch" "I", .lays RX6 "SquareCuts$Outline" "pieces" "I"] := by rfl
  rw [h]
  exact List.forall_mem_cons.mpr ⟨aw_1_108, List.forall_mem_cons.mpr ⟨aw_1_110, List.forall_mem_cons.mpr ⟨aw_1_112, List.forall_mem_cons.mpr ⟨aw_1_114, fun _ h => absurd h List.not_mem_nil⟩⟩⟩⟩
theorem fpX6_7 : am_FP RX6 7 6 0 2 (.array .int) true := ⟨_, _, _, tyX6, rfl, by decide, uw_6, aw_1_103, by decide, by decide, by decide, tyX6_ok, nmX6, rfl, rfl, rfl, fun _ => rfl⟩
theorem fpX6_13 : am_FP RX6 13 6 1 2 (.array .int) true := ⟨_, _, _, tyX6, rfl, by decide, uw_6, aw_1_104, by decide, by decide, by decide, tyX6_ok, nmX6, rfl, rfl, rfl, fun _ => rfl⟩
theorem flX6_7 : am_F RX6 7 6 0 2 := ⟨_, _, _, rfl, by decide, uw_6, aw_1_103, by decide, by decide, by decide⟩
theorem flX6_13 : am_F RX6 13 6 1 2 := ⟨_, _, _, rfl, by decide, uw_6, aw_1_104, by decide, by decide, by decide⟩
theorem fpX6_16 : am_FP RX6 16 6 3 0 .int false := ⟨_, _, _, tyX6, rfl, by decide, uw_6, aw_1_106, by decide, by decide, by decide, tyX6_ok, nmX6, rfl, rfl, rfl, fun h => by cases h⟩
theorem fpX6_20 : am_FP RX6 20 6 2 0 .int false := ⟨_, _, _, tyX6, rfl, by decide, uw_6, aw_1_105, by decide, by decide, by decide, tyX6_ok, nmX6, rfl, rfl, rfl, fun h => by cases h⟩
theorem flX6_16 : am_F RX6 16 6 3 0 := ⟨_, _, _, rfl, by decide, uw_6, aw_1_106, by decide, by decide, by decide⟩
theorem flX6_20 : am_F RX6 20 6 2 0 := ⟨_, _, _, rfl, by decide, uw_6, aw_1_105, by decide, by decide, by decide⟩
theorem cbX6_35 : am_CB RX6 35 yX6_notchLeft cX6_notchLeft 1 (some .int) 0 := ⟨aw_1_4, aw_2_165, ⟨by decide, by decide⟩, by decide +kernel⟩
theorem cvX6_35 : am_CV RX6 35 yX6_notchLeft cX6_notchLeft 1 (some .int) 0 6 := ⟨cbX6_35, aw_2_162, aw_2_163, aw_2_164, by decide, _, _, rfl⟩
theorem uw_7 : ∀ w ∈ u_ws RX7 TX7 2, am_w w := by
  have h : u_ws RX7 TX7 2 = [.laysFinal RX7 "SquareCuts$Page" "bytes" "[B", .lays RX7 "SquareCuts$Page" "length" "I"] := by rfl
  rw [h]
  exact List.forall_mem_cons.mpr ⟨aw_2_4, List.forall_mem_cons.mpr ⟨aw_2_6, fun _ h => absurd h List.not_mem_nil⟩⟩
theorem fpX7_11 : am_FP RX7 11 7 0 2 (.array .byte) true := ⟨_, _, _, tyX7, rfl, by decide, uw_7, aw_2_0, by decide, by decide, by decide, tyX7_ok, nmX7, rfl, rfl, rfl, fun _ => rfl⟩
theorem flX7_15 : am_F RX7 15 7 1 0 := ⟨_, _, _, rfl, by decide, uw_7, aw_2_2, by decide, by decide, by decide⟩
theorem flX7_11 : am_F RX7 11 7 0 2 := ⟨_, _, _, rfl, by decide, uw_7, aw_2_0, by decide, by decide, by decide⟩
theorem fpX7_15 : am_FP RX7 15 7 1 0 .int false := ⟨_, _, _, tyX7, rfl, by decide, uw_7, aw_2_2, by decide, by decide, by decide, tyX7_ok, nmX7, rfl, rfl, rfl, fun h => by cases h⟩
theorem uw_8 : ∀ w ∈ u_ws RX8 TX8 13, am_w w := by
  have h : u_ws RX8 TX8 13 = [.laysFinal RX8 "SquareCuts$Reader" "tape" "[B", .lays RX8 "SquareCuts$Reader" "length" "I", .lays RX8 "SquareCuts$Reader" "place" "I", .lays RX8 "SquareCuts$Reader" "token" "I", .lays RX8 "SquareCuts$Reader" "start" "I", .lays RX8 "SquareCuts$Reader" "value" "J", .laysFinal RX8 "SquareCuts$Reader" "names" "[J", .lays RX8 "SquareCuts$Reader" "fed" "I", .lays RX8 "SquareCuts$Reader" "told" "I", .laysFinal RX8 "SquareCuts$Reader" "drawn" "[Z", .laysFinal RX8 "SquareCuts$Reader" "given" "[I", .laysFinal RX8 "SquareCuts$Reader" "numbers" "[[I", .laysFinal RX8 "SquareCuts$Reader" "groupOf" "[[I"] := by rfl
  rw [h]
  exact List.forall_mem_cons.mpr ⟨aw_1_60, List.forall_mem_cons.mpr ⟨aw_1_62, List.forall_mem_cons.mpr ⟨aw_1_64, List.forall_mem_cons.mpr ⟨aw_1_66, List.forall_mem_cons.mpr ⟨aw_1_68, List.forall_mem_cons.mpr ⟨aw_1_70, List.forall_mem_cons.mpr ⟨aw_1_72, List.forall_mem_cons.mpr ⟨aw_1_74, List.forall_mem_cons.mpr ⟨aw_1_76, List.forall_mem_cons.mpr ⟨aw_1_78, List.forall_mem_cons.mpr ⟨aw_1_80, List.forall_mem_cons.mpr ⟨aw_1_82, List.forall_mem_cons.mpr ⟨aw_1_84, fun _ h => absurd h List.not_mem_nil⟩⟩⟩⟩⟩⟩⟩⟩⟩⟩⟩⟩⟩
theorem fpX8_9 : am_FP RX8 9 8 0 2 (.array .byte) true := ⟨_, _, _, tyX8, rfl, by decide, uw_8, aw_1_41, by decide, by decide, by decide, tyX8_ok, nmX8, rfl, rfl, rfl, fun _ => rfl⟩
theorem fpX8_15 : am_FP RX8 15 8 6 2 (.array .long) true := ⟨_, _, _, tyX8, rfl, by decide, uw_8, aw_1_47, by decide, by decide, by decide, tyX8_ok, nmX8, rfl, rfl, rfl, fun _ => rfl⟩
theorem fpX8_19 : am_FP RX8 19 8 9 2 (.array .boolean) true := ⟨_, _, _, tyX8, rfl, by decide, uw_8, aw_1_52, by decide, by decide, by decide, tyX8_ok, nmX8, rfl, rfl, rfl, fun _ => rfl⟩
theorem fpX8_23 : am_FP RX8 23 8 10 2 (.array .int) true := ⟨_, _, _, tyX8, rfl, by decide, uw_8, aw_1_54, by decide, by decide, by decide, tyX8_ok, nmX8, rfl, rfl, rfl, fun _ => rfl⟩
theorem fpX8_29 : am_FP RX8 29 8 11 2 (.array (.array .int)) true := ⟨_, _, _, tyX8, rfl, by decide, uw_8, aw_1_56, by decide, by decide, by decide, tyX8_ok, nmX8, rfl, rfl, rfl, fun _ => rfl⟩
theorem fpX8_32 : am_FP RX8 32 8 12 2 (.array (.array .int)) true := ⟨_, _, _, tyX8, rfl, by decide, uw_8, aw_1_58, by decide, by decide, by decide, tyX8_ok, nmX8, rfl, rfl, rfl, fun _ => rfl⟩
theorem flX8_35 : am_F RX8 35 8 7 0 := ⟨_, _, _, rfl, by decide, uw_8, aw_1_49, by decide, by decide, by decide⟩
theorem flX8_9 : am_F RX8 9 8 0 2 := ⟨_, _, _, rfl, by decide, uw_8, aw_1_41, by decide, by decide, by decide⟩
theorem fpX8_35 : am_FP RX8 35 8 7 0 .int false := ⟨_, _, _, tyX8, rfl, by decide, uw_8, aw_1_49, by decide, by decide, by decide, tyX8_ok, nmX8, rfl, rfl, rfl, fun h => by cases h⟩
theorem flX8_23 : am_F RX8 23 8 10 2 := ⟨_, _, _, rfl, by decide, uw_8, aw_1_54, by decide, by decide, by decide⟩
theorem flX8_51 : am_F RX8 51 8 8 0 := ⟨_, _, _, rfl, by decide, uw_8, aw_1_50, by decide, by decide, by decide⟩
theorem flX8_29 : am_F RX8 29 8 11 2 := ⟨_, _, _, rfl, by decide, uw_8, aw_1_56, by decide, by decide, by decide⟩
theorem flX8_80 : am_F RX8 80 8 5 1 := ⟨_, _, _, rfl, by decide, uw_8, aw_1_46, by decide, by decide, by decide⟩
theorem flX8_15 : am_F RX8 15 8 6 2 := ⟨_, _, _, rfl, by decide, uw_8, aw_1_47, by decide, by decide, by decide⟩
theorem flX8_57 : am_F RX8 57 8 3 0 := ⟨_, _, _, rfl, by decide, uw_8, aw_1_44, by decide, by decide, by decide⟩
theorem flX8_104 : am_F RX8 104 8 4 0 := ⟨_, _, _, rfl, by decide, uw_8, aw_1_45, by decide, by decide, by decide⟩
theorem uw_9 : ∀ w ∈ u_ws RX9 TX9 3, am_w w := by
  have h : u_ws RX9 TX9 3 = [.laysFinal RX9 "SquareCuts$Shelf" "places" "[LSquareCuts$Tiling;", .lays RX9 "SquareCuts$Shelf" "held" "I", .lays RX9 "SquareCuts$Shelf" "isFilled" "Z"] := by rfl
  rw [h]
  exact List.forall_mem_cons.mpr ⟨aw_2_22, List.forall_mem_cons.mpr ⟨aw_2_24, List.forall_mem_cons.mpr ⟨aw_2_26, fun _ h => absurd h List.not_mem_nil⟩⟩⟩
theorem fpX9_11 : am_FP RX9 11 9 0 2 (.array (.object "SquareCuts$Tiling")) true := ⟨_, _, _, tyX9, rfl, by decide, uw_9, aw_2_17, by decide, by decide, by decide, tyX9_ok, nmX9, rfl, rfl, rfl, fun _ => rfl⟩
theorem fpX9_17 : am_FP RX9 17 9 1 0 .int false := ⟨_, _, _, tyX9, rfl, by decide, uw_9, aw_2_18, by decide, by decide, by decide, tyX9_ok, nmX9, rfl, rfl, rfl, fun h => by cases h⟩
theorem fpX9_21 : am_FP RX9 21 9 2 0 .boolean false := ⟨_, _, _, tyX9, rfl, by decide, uw_9, aw_2_20, by decide, by decide, by decide, tyX9_ok, nmX9, rfl, rfl, rfl, fun h => by cases h⟩
theorem flX9_17 : am_F RX9 17 9 1 0 := ⟨_, _, _, rfl, by decide, uw_9, aw_2_18, by decide, by decide, by decide⟩
theorem flX9_11 : am_F RX9 11 9 0 2 := ⟨_, _, _, rfl, by decide, uw_9, aw_2_17, by decide, by decide, by decide⟩
theorem flX9_25 : am_F RX9 25 10 1 0 := ⟨_, _, _, rfl, by decide, uw_10, aw_2_205, by decide, by decide, by decide⟩
theorem fpX10_9 : am_FP RX10 9 10 10 0 .int false := ⟨_, _, _, tyX10, rfl, by decide, uw_10, aw_2_234, by decide, by decide, by decide, tyX10_ok, nmX10, rfl, rfl, rfl, fun h => by cases h⟩
theorem fpX10_13 : am_FP RX10 13 10 0 0 .int true := ⟨_, _, _, tyX10, rfl, by decide, uw_10, aw_2_201, by decide, by decide, by decide, tyX10_ok, nmX10, rfl, rfl, rfl, fun _ => rfl⟩
theorem fpX10_16 : am_FP RX10 16 10 2 0 .int true := ⟨_, _, _, tyX10, rfl, by decide, uw_10, aw_2_206, by decide, by decide, by decide, tyX10_ok, nmX10, rfl, rfl, rfl, fun _ => rfl⟩
theorem fpX10_19 : am_FP RX10 19 10 3 2 (.object "SquareCuts$Net") true := ⟨_, _, _, tyX10, rfl, by decide, uw_10, aw_2_208, by decide, by decide, by decide, tyX10_ok, nmX10, rfl, rfl, rfl, fun _ => rfl⟩
theorem fpX10_23 : am_FP RX10 23 10 1 0 .boolean true := ⟨_, _, _, tyX10, rfl, by decide, uw_10, aw_2_203, by decide, by decide, by decide, tyX10_ok, nmX10, rfl, rfl, rfl, fun _ => rfl⟩
theorem flX10_27 : am_F RX10 27 0 3 0 := ⟨_, _, _, rfl, by decide, uw_0, aw_1_184, by decide, by decide, by decide⟩
theorem fpX10_32 : am_FP RX10 32 10 4 0 .int true := ⟨_, _, _, tyX10, rfl, by decide, uw_10, aw_2_210, by decide, by decide, by decide, tyX10_ok, nmX10, rfl, rfl, rfl, fun _ => rfl⟩
theorem flX10_33 : am_F RX10 33 0 4 0 := ⟨_, _, _, rfl, by decide, uw_0, aw_1_186, by decide, by decide, by decide⟩
theorem fpX10_36 : am_FP RX10 36 10 5 0 .int true := ⟨_, _, _, tyX10, rfl, by decide, uw_10, aw_2_215, by decide, by decide, by decide, tyX10_ok, nmX10, rfl, rfl, rfl, fun _ => rfl⟩
theorem flX10_37 : am_F RX10 37 0 5 0 := ⟨_, _, _, rfl, by decide, uw_0, aw_1_188, by decide, by decide, by decide⟩
theorem fpX10_40 : am_FP RX10 40 10 6 0 .int true := ⟨_, _, _, tyX10, rfl, by decide, uw_10, aw_2_218, by decide, by decide, by decide, tyX10_ok, nmX10, rfl, rfl, rfl, fun _ => rfl⟩
theorem flX10_32 : am_F RX10 32 10 4 0 := ⟨_, _, _, rfl, by decide, uw_10, aw_2_210, by decide, by decide, by decide⟩
theorem fpX10_41 : am_FP RX10 41 10 7 2 (.array .int) true := ⟨_, _, _, tyX10, rfl, by decide, uw_10, aw_2_221, by decide, by decide, by decide, tyX10_ok, nmX10, rfl, rfl, rfl, fun _ => rfl⟩
theorem fpX10_45 : am_FP RX10 45 10 8 2 (.array .int) true := ⟨_, _, _, tyX10, rfl, by decide, uw_10, aw_2_225, by decide, by decide, by decide, tyX10_ok, nmX10, rfl, rfl, rfl, fun _ => rfl⟩
theorem fpX10_48 : am_FP RX10 48 10 9 2 (.array .int) true := ⟨_, _, _, tyX10, rfl, by decide, uw_10, aw_2_229, by decide, by decide, by decide, tyX10_ok, nmX10, rfl, rfl, rfl, fun _ => rfl⟩
theorem flX10_41 : am_F RX10 41 10 7 2 := ⟨_, _, _, rfl, by decide, uw_10, aw_2_221, by decide, by decide, by decide⟩
theorem flX10_51 : am_F RX10 51 0 0 2 := ⟨_, _, _, rfl, by decide, uw_0, aw_1_179, by decide, by decide, by decide⟩
theorem flX10_45 : am_F RX10 45 10 8 2 := ⟨_, _, _, rfl, by decide, uw_10, aw_2_225, by decide, by decide, by decide⟩
theorem flX10_52 : am_F RX10 52 0 1 2 := ⟨_, _, _, rfl, by decide, uw_0, aw_1_181, by decide, by decide, by decide⟩
theorem flX10_48 : am_F RX10 48 10 9 2 := ⟨_, _, _, rfl, by decide, uw_10, aw_2_229, by decide, by decide, by decide⟩
theorem flX10_53 : am_F RX10 53 0 2 2 := ⟨_, _, _, rfl, by decide, uw_0, aw_1_183, by decide, by decide, by decide⟩
theorem cbX10_60 : am_CB RX10 60 yX10_right cX10_right 2 (some .int) 1 := ⟨aw_1_13, aw_3_166, ⟨by decide, by decide⟩, by decide +kernel⟩
theorem cvX10_60 : am_CV RX10 60 yX10_right cX10_right 2 (some .int) 1 10 := ⟨cbX10_60, aw_3_163, aw_3_164, aw_3_165, by decide, _, _, rfl⟩
theorem cbX10_64 : am_CB RX10 64 yX10_startsGroup cX10_startsGroup 2 (some .boolean) 1 := ⟨aw_1_13, aw_3_209, ⟨by decide, by decide⟩, by decide +kernel⟩
theorem cvX10_64 : am_CV RX10 64 yX10_startsGroup cX10_startsGroup 2 (some .boolean) 1 10 := ⟨cbX10_64, aw_3_231, aw_3_207, aw_3_208, by decide, _, _, rfl⟩
theorem cbX10_72 : am_CB RX10 72 yX10_bottom cX10_bottom 2 (some .int) 1 := ⟨aw_1_13, aw_3_170, ⟨by decide, by decide⟩, by decide +kernel⟩
theorem cvX10_72 : am_CV RX10 72 yX10_bottom cX10_bottom 2 (some .int) 1 10 := ⟨cbX10_72, aw_3_167, aw_3_168, aw_3_169, by decide, _, _, rfl⟩
theorem uw_11 : ∀ w ∈ u_ws RX11 TX11 12, am_w w := by
  have h : u_ws RX11 TX11 12 = [.laysFinal RX11 "SquareCuts" "reader" "LSquareCuts$Reader;", .laysFinal RX11 "SquareCuts" "groupLayer" "LSquareCuts$GroupLayer;", .laysFinal RX11 "SquareCuts" "solver" "LSquareCuts$NetSolver;", .laysFinal RX11 "SquareCuts" "netLayer" "LSquareCuts$NetLayer;", .laysFinal RX11 "SquareCuts" "draft" "LSquareCuts$Draft;", .laysFinal RX11 "SquareCuts" "otherDraft" "LSquareCuts$Draft;", .laysFinal RX11 "SquareCuts" "lineTable" "LSquareCuts$LineTable;", .laysFinal RX11 "SquareCuts" "page" "LSquareCuts$Page;", .laysFinal RX11 "SquareCuts" "shelf" "LSquareCuts$Shelf;", .laysFinal RX11 "SquareCuts" "firstKeep" "LSquareCuts$Shelf;", .laysFinal RX11 "SquareCuts" "secondKeep" "LSquareCuts$Shelf;", .lays RX11 "SquareCuts" "undoable" "I"] := by rfl
  rw [h]
  exact List.forall_mem_cons.mpr ⟨aw_2_41, List.forall_mem_cons.mpr ⟨aw_2_43, List.forall_mem_cons.mpr ⟨aw_2_45, List.forall_mem_cons.mpr ⟨aw_2_47, List.forall_mem_cons.mpr ⟨aw_2_49, List.forall_mem_cons.mpr ⟨aw_2_51, List.forall_mem_cons.mpr ⟨aw_2_53, List.forall_mem_cons.mpr ⟨aw_2_55, List.forall_mem_cons.mpr ⟨aw_2_57, List.forall_mem_cons.mpr ⟨aw_2_59, List.forall_mem_cons.mpr ⟨aw_2_61, List.forall_mem_cons.mpr ⟨aw_2_63, fun _ h => absurd h List.not_mem_nil⟩⟩⟩⟩⟩⟩⟩⟩⟩⟩⟩⟩
theorem flX11_12 : am_F RX11 12 11 0 2 := ⟨_, _, _, rfl, by decide, uw_11, aw_2_29, by decide, by decide, by decide⟩
theorem flX11_76 : am_F RX11 76 8 7 0 := ⟨_, _, _, rfl, by decide, uw_8, aw_1_48, by decide, by decide, by decide⟩
theorem cbX11_80 : am_CB RX11 80 yX8_takeFourBytes cX8_takeFourBytes 3 none 1 := ⟨aw_1_2, aw_2_73, ⟨by decide, by decide⟩, by decide +kernel⟩
theorem cvX11_80 : am_CV RX11 80 yX8_takeFourBytes cX8_takeFourBytes 3 none 1 8 := ⟨cbX11_80, aw_2_70, aw_2_71, aw_2_72, by decide, _, _, rfl⟩
theorem flX11_66 : am_F RX11 66 11 8 2 := ⟨_, _, _, rfl, by decide, uw_11, aw_2_37, by decide, by decide, by decide⟩
theorem cbX11_115 : am_CB RX11 115 yX9_find cX9_find 2 (some (.object "SquareCuts$Tiling")) 1 := ⟨aw_1_10, aw_3_150, ⟨by decide, by decide⟩, by decide +kernel⟩
theorem cvX11_115 : am_CV RX11 115 yX9_find cX9_find 2 (some (.object "SquareCuts$Tiling")) 1 9 := ⟨cbX11_115, aw_3_147, aw_3_148, aw_3_149, by decide, _, _, rfl⟩
theorem flX11_127 : am_F RX11 127 10 4 0 := ⟨_, _, _, rfl, by decide, uw_10, aw_2_214, by decide, by decide, by decide⟩
theorem flX11_154 : am_F RX11 154 10 7 2 := ⟨_, _, _, rfl, by decide, uw_10, aw_2_224, by decide, by decide, by decide⟩
theorem flX11_158 : am_F RX11 158 10 8 2 := ⟨_, _, _, rfl, by decide, uw_10, aw_2_228, by decide, by decide, by decide⟩
theorem flX11_161 : am_F RX11 161 10 9 2 := ⟨_, _, _, rfl, by decide, uw_10, aw_2_233, by decide, by decide, by decide⟩
theorem flX11_118 : am_F RX11 118 10 0 0 := ⟨_, _, _, rfl, by decide, uw_10, aw_2_202, by decide, by decide, by decide⟩
theorem flX11_166 : am_F RX11 166 10 2 0 := ⟨_, _, _, rfl, by decide, uw_10, aw_2_207, by decide, by decide, by decide⟩
theorem flX11_59 : am_F RX11 59 11 7 2 := ⟨_, _, _, rfl, by decide, uw_11, aw_2_36, by decide, by decide, by decide⟩
theorem flX11_179 : am_F RX11 179 7 1 0 := ⟨_, _, _, rfl, by decide, uw_7, aw_2_3, by decide, by decide, by decide⟩
theorem flX11_182 : am_F RX11 182 7 0 2 := ⟨_, _, _, rfl, by decide, uw_7, aw_2_1, by decide, by decide, by decide⟩
theorem flX11_191 : am_F RX11 191 10 3 2 := ⟨_, _, _, rfl, by decide, uw_10, aw_2_209, by decide, by decide, by decide⟩
theorem flX11_197 : am_F RX11 197 3 4 1 := ⟨_, _, _, rfl, by decide, uw_3, aw_3_51, by decide, by decide, by decide⟩
theorem flX11_220 : am_F RX11 220 3 7 0 := ⟨_, _, _, rfl, by decide, uw_3, aw_3_57, by decide, by decide, by decide⟩
theorem flX11_91 : am_F RX11 91 11 11 0 := ⟨_, _, _, rfl, by decide, uw_11, aw_2_40, by decide, by decide, by decide⟩
theorem cbX11_288 : am_CB RX11 288 yX9_dropLast cX9_dropLast 1 none 0 := ⟨aw_1_10, aw_4_123, ⟨by decide, by decide⟩, by decide +kernel⟩
theorem cvX11_288 : am_CV RX11 288 yX9_dropLast cX9_dropLast 1 none 0 9 := ⟨cbX11_288, aw_4_120, aw_4_121, aw_4_122, by decide, _, _, rfl⟩
theorem fpX11_91 : am_FP RX11 91 11 11 0 .int false := ⟨_, _, _, tyX11, rfl, by decide, uw_11, aw_2_40, by decide, by decide, by decide, tyX11_ok, nmX11, rfl, rfl, rfl, fun h => by cases h⟩
theorem flX11_73 : am_F RX11 73 11 10 2 := ⟨_, _, _, rfl, by decide, uw_11, aw_2_39, by decide, by decide, by decide⟩
theorem flX11_70 : am_F RX11 70 11 9 2 := ⟨_, _, _, rfl, by decide, uw_11, aw_2_38, by decide, by decide, by decide⟩
theorem flX11_291 : am_F RX11 291 9 2 0 := ⟨_, _, _, rfl, by decide, uw_9, aw_2_21, by decide, by decide, by decide⟩
theorem cbX11_294 : am_CB RX11 294 yX9_copyFrom cX9_copyFrom 3 none 1 := ⟨aw_1_10, aw_4_131, ⟨by decide, by decide⟩, by decide +kernel⟩
theorem cvX11_294 : am_CV RX11 294 yX9_copyFrom cX9_copyFrom 3 none 1 9 := ⟨cbX11_294, aw_4_128, aw_4_129, aw_4_130, by decide, _, _, rfl⟩
theorem flX11_123 : am_F RX11 123 10 1 0 := ⟨_, _, _, rfl, by decide, uw_10, aw_2_204, by decide, by decide, by decide⟩
theorem flX11_112 : am_F RX11 112 9 1 0 := ⟨_, _, _, rfl, by decide, uw_9, aw_2_19, by decide, by decide, by decide⟩
theorem uw_12 : ∀ w ∈ u_ws RX12 TX12 49, am_w w := by
  have h : u_ws RX12 TX12 49 = [.lays RX12 "SquareCutsModel" "thrown" "I", .laysFinal RX12 "SquareCutsModel" "tape" "[B", .lays RX12 "SquareCutsModel" "taped" "I", .lays RX12 "SquareCutsModel" "size" "I", .lays RX12 "SquareCutsModel" "from" "I", .lays RX12 "SquareCutsModel" "to" "I", .lays RX12 "SquareCutsModel" "token" "I", .lays RX12 "SquareCutsModel" "value" "I", .lays RX12 "SquareCutsModel" "word" "J", .lays RX12 "SquareCutsModel" "fault" "I", .lays RX12 "SquareCutsModel" "faultPlace" "I", .lays RX12 "SquareCutsModel" "readMany" "I", .laysFinal RX12 "SquareCutsModel" "readName" "[J", .laysFinal RX12 "SquareCutsModel" "readKind" "[I", .laysFinal RX12 "SquareCutsModel" "readCount" "[I", .laysFinal RX12 "SquareCutsModel" "readPoints" "[I", .laysFinal RX12 "SquareCutsModel" "readNumbers" "[I", .laysFinal RX12 "SquareCutsModel" "s" "[I", .lays RX12 "SquareCutsModel" "many" "I", .lays RX12 "SquareCutsModel" "undos" "I", .laysFinal RX12 "SquareCutsModel" "kept" "[I", .laysFinal RX12 "SquareCutsModel" "keptMany" "[I", .laysFinal RX12 "SquareCutsModel" "isKept" "[Z", .laysFinal RX12 "SquareCutsModel" "kind" "[I", .laysFinal RX12 "SquareCutsModel" "points" "[I", .laysFinal RX12 "SquareCutsModel" "wires" "[I", .laysFinal RX12 "SquareCutsModel" "ends" "[I", .laysFinal RX12 "SquareCutsModel" "laidMany" "[I", .laysFinal RX12 "SquareCutsModel" "layings" "[I", .laysFinal RX12 "SquareCutsModel" "trees" "[J", .laysFinal RX12 "SquareCutsModel" "levels" "[J", .laysFinal RX12 "SquareCutsModel" "currents" "[J", .laysFinal RX12 "SquareCutsModel" "pieces" "[I", .laysFinal RX12 "SquareCutsModel" "begins" "[I", .laysFinal RX12 "SquareCutsModel" "depths" "[I", .lays RX12 "SquareCutsModel" "wide" "I", .laysFinal RX12 "SquareCutsModel" "matrix" "[J", .laysFinal RX12 "SquareCutsModel" "isLaid" "[Z", .lays RX12 "SquareCutsModel" "wanted" "I", .lays RX12 "SquareCutsModel" "isOver" "Z", .lays RX12 "SquareCutsModel" "told" "I", .laysFinal RX12 "SquareCutsModel" "printed" "[B", .lays RX12 "SquareCutsModel" "printedMany" "I", .laysFinal RX12 "SquareCutsModel" "lineDepth" "[I", .laysFinal RX12 "SquareCutsModel" "lineLeft" "[I", .laysFinal RX12 "SquareCutsModel" "lineRight" "[I", .laysFinal RX12 "SquareCutsModel" "lineFlow" "[I", .lays RX12 "SquareCutsModel" "lines" "I", .laysFinal RX12 "SquareCutsModel" "row" "[I"] := by rfl
  rw [h]
  exact List.forall_mem_cons.mpr ⟨aw_5_44, List.forall_mem_cons.mpr ⟨aw_5_46, List.forall_mem_cons.mpr ⟨aw_5_48, List.forall_mem_cons.mpr ⟨aw_5_50, List.forall_mem_cons.mpr ⟨aw_5_52, List.forall_mem_cons.mpr ⟨aw_5_54, List.forall_mem_cons.mpr ⟨aw_5_56, List.forall_mem_cons.mpr ⟨aw_5_58, List.forall_mem_cons.mpr ⟨aw_5_60, List.forall_mem_cons.mpr ⟨aw_5_62, List.forall_mem_cons.mpr ⟨aw_5_64, List.forall_mem_cons.mpr ⟨aw_5_66, List.forall_mem_cons.mpr ⟨aw_5_68, List.forall_mem_cons.mpr ⟨aw_5_70, List.forall_mem_cons.mpr ⟨aw_5_72, List.forall_mem_cons.mpr ⟨aw_5_74, List.forall_mem_cons.mpr ⟨aw_5_76, List.forall_mem_cons.mpr ⟨aw_5_78, List.forall_mem_cons.mpr ⟨aw_5_80, List.forall_mem_cons.mpr ⟨aw_5_82, List.forall_mem_cons.mpr ⟨aw_5_84, List.forall_mem_cons.mpr ⟨aw_5_86, List.forall_mem_cons.mpr ⟨aw_5_88, List.forall_mem_cons.mpr ⟨aw_5_90, List.forall_mem_cons.mpr ⟨aw_5_92, List.forall_mem_cons.mpr ⟨aw_5_94, List.forall_mem_cons.mpr ⟨aw_5_96, List.forall_mem_cons.mpr ⟨aw_5_98, List.forall_mem_cons.mpr ⟨aw_5_100, List.forall_mem_cons.mpr ⟨aw_5_102, List.forall_mem_cons.mpr ⟨aw_5_104, List.forall_mem_cons.mpr ⟨aw_5_106, List.forall_mem_cons.mpr ⟨aw_5_108, List.forall_mem_cons.mpr ⟨aw_5_110, List.forall_mem_cons.mpr ⟨aw_5_112, List.forall_mem_cons.mpr ⟨aw_5_114, List.forall_mem_cons.mpr ⟨aw_5_116, List.forall_mem_cons.mpr ⟨aw_5_118, List.forall_mem_cons.mpr ⟨aw_5_120, List.forall_mem_cons.mpr ⟨aw_5_122, List.forall_mem_cons.mpr ⟨aw_5_124, List.forall_mem_cons.mpr ⟨aw_5_126, List.forall_mem_cons.mpr ⟨aw_5_128, List.forall_mem_cons.mpr ⟨aw_5_130, List.forall_mem_cons.mpr ⟨aw_5_132, List.forall_mem_cons.mpr ⟨aw_5_134, List.forall_mem_cons.mpr ⟨aw_5_136, List.forall_mem_cons.mpr ⟨aw_5_138, List.forall_mem_cons.mpr ⟨aw_5_140, fun _ h => absurd h List.not_mem_nil⟩⟩⟩⟩⟩⟩⟩⟩⟩⟩⟩⟩⟩⟩⟩⟩⟩⟩⟩⟩⟩⟩⟩⟩⟩⟩⟩⟩⟩⟩⟩⟩⟩⟩⟩⟩⟩⟩⟩⟩⟩⟩⟩⟩⟩⟩⟩⟩⟩
theorem fpX12_7 : am_FP RX12 7 12 1 2 (.array .byte) true := ⟨_, _, _, tyX12, rfl, by decide, uw_12, aw_4_236, by decide, by decide, by decide, tyX12_ok, nmX12, rfl, rfl, rfl, fun _ => rfl⟩
theorem fpX12_13 : am_FP RX12 13 12 12 2 (.array .long) true := ⟨_, _, _, tyX12, rfl, by decide, uw_12, aw_5_7, by decide, by decide, by decide, tyX12_ok, nmX12, rfl, rfl, rfl, fun _ => rfl⟩
theorem fpX12_17 : am_FP RX12 17 12 13 2 (.array .int) true := ⟨_, _, _, tyX12, rfl, by decide, uw_12, aw_5_8, by decide, by decide, by decide, tyX12_ok, nmX12, rfl, rfl, rfl, fun _ => rfl⟩
theorem fpX12_21 : am_FP RX12 21 12 14 2 (.array .int) true := ⟨_, _, _, tyX12, rfl, by decide, uw_12, aw_5_9, by decide, by decide, by decide, tyX12_ok, nmX12, rfl, rfl, rfl, fun _ => rfl⟩
theorem fpX12_24 : am_FP RX12 24 12 15 2 (.array .int) true := ⟨_, _, _, tyX12, rfl, by decide, uw_12, aw_5_10, by decide, by decide, by decide, tyX12_ok, nmX12, rfl, rfl, rfl, fun _ => rfl⟩
theorem fpX12_27 : am_FP RX12 27 12 16 2 (.array .int) true := ⟨_, _, _, tyX12, rfl, by decide, uw_12, aw_5_11, by decide, by decide, by decide, tyX12_ok, nmX12, rfl, rfl, rfl, fun _ => rfl⟩
theorem fpX12_30 : am_FP RX12 30 12 17 2 (.array .int) true := ⟨_, _, _, tyX12, rfl, by decide, uw_12, aw_5_12, by decide, by decide, by decide, tyX12_ok, nmX12, rfl, rfl, rfl, fun _ => rfl⟩
theorem fpX12_33 : am_FP RX12 33 12 20 2 (.array .int) true := ⟨_, _, _, tyX12, rfl, by decide, uw_12, aw_5_15, by decide, by decide, by decide, tyX12_ok, nmX12, rfl, rfl, rfl, fun _ => rfl⟩
theorem fpX12_36 : am_FP RX12 36 12 21 2 (.array .int) true := ⟨_, _, _, tyX12, rfl, by decide, uw_12, aw_5_16, by decide, by decide, by decide, tyX12_ok, nmX12, rfl, rfl, rfl, fun _ => rfl⟩
theorem fpX12_39 : am_FP RX12 39 12 22 2 (.array .boolean) true := ⟨_, _, _, tyX12, rfl, by decide, uw_12, aw_5_17, by decide, by decide, by decide, tyX12_ok, nmX12, rfl, rfl, rfl, fun _ => rfl⟩
theorem fpX12_43 : am_FP RX12 43 12 23 2 (.array .int) true := ⟨_, _, _, tyX12, rfl, by decide, uw_12, aw_5_18, by decide, by decide, by decide, tyX12_ok, nmX12, rfl, rfl, rfl, fun _ => rfl⟩
theorem fpX12_46 : am_FP RX12 46 12 24 2 (.array .int) true := ⟨_, _, _, tyX12, rfl, by decide, uw_12, aw_5_19, by decide, by decide, by decide, tyX12_ok, nmX12, rfl, rfl, rfl, fun _ => rfl⟩
theorem fpX12_49 : am_FP RX12 49 12 25 2 (.array .int) true := ⟨_, _, _, tyX12, rfl, by decide, uw_12, aw_5_20, by decide, by decide, by decide, tyX12_ok, nmX12, rfl, rfl, rfl, fun _ => rfl⟩
theorem fpX12_52 : am_FP RX12 52 12 26 2 (.array .int) true := ⟨_, _, _, tyX12, rfl, by decide, uw_12, aw_5_21, by decide, by decide, by decide, tyX12_ok, nmX12, rfl, rfl, rfl, fun _ => rfl⟩
theorem fpX12_55 : am_FP RX12 55 12 27 2 (.array .int) true := ⟨_, _, _, tyX12, rfl, by decide, uw_12, aw_5_22, by decide, by decide, by decide, tyX12_ok, nmX12, rfl, rfl, rfl, fun _ => rfl⟩
theorem fpX12_58 : am_FP RX12 58 12 28 2 (.array .int) true := ⟨_, _, _, tyX12, rfl, by decide, uw_12, aw_5_23, by decide, by decide, by decide, tyX12_ok, nmX12, rfl, rfl, rfl, fun _ => rfl⟩
theorem fpX12_61 : am_FP RX12 61 12 29 2 (.array .long) true := ⟨_, _, _, tyX12, rfl, by decide, uw_12, aw_5_24, by decide, by decide, by decide, tyX12_ok, nmX12, rfl, rfl, rfl, fun _ => rfl⟩
theorem fpX12_64 : am_FP RX12 64 12 30 2 (.array .long) true := ⟨_, _, _, tyX12, rfl, by decide, uw_12, aw_5_25, by decide, by decide, by decide, tyX12_ok, nmX12, rfl, rfl, rfl, fun _ => rfl⟩
theorem fpX12_67 : am_FP RX12 67 12 31 2 (.array .long) true := ⟨_, _, _, tyX12, rfl, by decide, uw_12, aw_5_26, by decide, by decide, by decide, tyX12_ok, nmX12, rfl, rfl, rfl, fun _ => rfl⟩
theorem fpX12_70 : am_FP RX12 70 12 32 2 (.array .int) true := ⟨_, _, _, tyX12, rfl, by decide, uw_12, aw_5_27, by decide, by decide, by decide, tyX12_ok, nmX12, rfl, rfl, rfl, fun _ => rfl⟩
theorem fpX12_73 : am_FP RX12 73 12 33 2 (.array .int) true := ⟨_, _, _, tyX12, rfl, by decide, uw_12, aw_5_28, by decide, by decide, by decide, tyX12_ok, nmX12, rfl, rfl, rfl, fun _ => rfl⟩
theorem fpX12_76 : am_FP RX12 76 12 34 2 (.array .int) true := ⟨_, _, _, tyX12, rfl, by decide, uw_12, aw_5_29, by decide, by decide, by decide, tyX12_ok, nmX12, rfl, rfl, rfl, fun _ => rfl⟩
theorem fpX12_79 : am_FP RX12 79 12 36 2 (.array .long) true := ⟨_, _, _, tyX12, rfl, by decide, uw_12, aw_5_31, by decide, by decide, by decide, tyX12_ok, nmX12, rfl, rfl, rfl, fun _ => rfl⟩
theorem fpX12_82 : am_FP RX12 82 12 37 2 (.array .boolean) true := ⟨_, _, _, tyX12, rfl, by decide, uw_12, aw_5_32, by decide, by decide, by decide, tyX12_ok, nmX12, rfl, rfl, rfl, fun _ => rfl⟩
theorem fpX12_85 : am_FP RX12 85 12 41 2 (.array .byte) true := ⟨_, _, _, tyX12, rfl, by decide, uw_12, aw_5_36, by decide, by decide, by decide, tyX12_ok, nmX12, rfl, rfl, rfl, fun _ => rfl⟩
theorem fpX12_88 : am_FP RX12 88 12 43 2 (.array .int) true := ⟨_, _, _, tyX12, rfl, by decide, uw_12, aw_5_38, by decide, by decide, by decide, tyX12_ok, nmX12, rfl, rfl, rfl, fun _ => rfl⟩
theorem fpX12_91 : am_FP RX12 91 12 44 2 (.array .int) true := ⟨_, _, _, tyX12, rfl, by decide, uw_12, aw_5_39, by decide, by decide, by decide, tyX12_ok, nmX12, rfl, rfl, rfl, fun _ => rfl⟩
theorem fpX12_94 : am_FP RX12 94 12 45 2 (.array .int) true := ⟨_, _, _, tyX12, rfl, by decide, uw_12, aw_5_40, by decide, by decide, by decide, tyX12_ok, nmX12, rfl, rfl, rfl, fun _ => rfl⟩
theorem fpX12_97 : am_FP RX12 97 12 46 2 (.array .int) true := ⟨_, _, _, tyX12, rfl, by decide, uw_12, aw_5_41, by decide, by decide, by decide, tyX12_ok, nmX12, rfl, rfl, rfl, fun _ => rfl⟩
theorem fpX12_100 : am_FP RX12 100 12 48 2 (.array .int) true := ⟨_, _, _, tyX12, rfl, by decide, uw_12, aw_5_43, by decide, by decide, by decide, tyX12_ok, nmX12, rfl, rfl, rfl, fun _ => rfl⟩
theorem flX12_103 : am_F RX12 103 12 0 0 := ⟨_, _, _, rfl, by decide, uw_12, aw_4_235, by decide, by decide, by decide⟩
theorem flX12_7 : am_F RX12 7 12 1 2 := ⟨_, _, _, rfl, by decide, uw_12, aw_4_236, by decide, by decide, by decide⟩
theorem flX12_107 : am_F RX12 107 12 2 0 := ⟨_, _, _, rfl, by decide, uw_12, aw_4_237, by decide, by decide, by decide⟩
theorem fpX12_107 : am_FP RX12 107 12 2 0 .int false := ⟨_, _, _, tyX12, rfl, by decide, uw_12, aw_4_237, by decide, by decide, by decide, tyX12_ok, nmX12, rfl, rfl, rfl, fun h => by cases h⟩
theorem fpX12_103 : am_FP RX12 103 12 0 0 .int false := ⟨_, _, _, tyX12, rfl, by decide, uw_12, aw_4_235, by decide, by decide, by decide, tyX12_ok, nmX12, rfl, rfl, rfl, fun h => by cases h⟩
theorem cbX12_110 : am_CB RX12 110 yX12_puts cX12_puts 3 none 1 := ⟨aw_1_11, aw_5_154, ⟨by decide, by decide⟩, by decide +kernel⟩
theorem cvX12_110 : am_CV RX12 110 yX12_puts cX12_puts 3 none 1 12 := ⟨cbX12_110, aw_5_151, aw_5_153, ps_37, by decide, _, _, rfl⟩
theorem flX12_114 : am_F RX12 114 12 3 0 := ⟨_, _, _, rfl, by decide, uw_12, aw_4_238, by decide, by decide, by decide⟩
theorem flX12_117 : am_F RX12 117 12 5 0 := ⟨_, _, _, rfl, by decide, uw_12, aw_5_0, by decide, by decide, by decide⟩
theorem fpX12_120 : am_FP RX12 120 12 4 0 .int false := ⟨_, _, _, tyX12, rfl, by decide, uw_12, aw_4_239, by decide, by decide, by decide, tyX12_ok, nmX12, rfl, rfl, rfl, fun h => by cases h⟩
theorem flX12_120 : am_F RX12 120 12 4 0 := ⟨_, _, _, rfl, by decide, uw_12, aw_4_239, by decide, by decide, by decide⟩
theorem cbX12_123 : am_CB RX12 123 yX12_see cX12_see 2 (some .int) 1 := ⟨aw_1_11, aw_5_169, ⟨by decide, by decide⟩, by decide +kernel⟩
theorem cvX12_123 : am_CV RX12 123 yX12_see cX12_see 2 (some .int) 1 12 := ⟨cbX12_123, aw_5_166, aw_5_168, ps_39, by decide, _, _, rfl⟩
theorem fpX12_117 : am_FP RX12 117 12 5 0 .int false := ⟨_, _, _, tyX12, rfl, by decide, uw_12, aw_5_0, by decide, by decide, by decide, tyX12_ok, nmX12, rfl, rfl, rfl, fun h => by cases h⟩
theorem fpX12_127 : am_FP RX12 127 12 6 0 .int false := ⟨_, _, _, tyX12, rfl, by decide, uw_12, aw_5_1, by decide, by decide, by decide, tyX12_ok, nmX12, rfl, rfl, rfl, fun h => by cases h⟩
theorem fpX12_130 : am_FP RX12 130 12 7 0 .int false := ⟨_, _, _, tyX12, rfl, by decide, uw_12, aw_5_2, by decide, by decide, by decide, tyX12_ok, nmX12, rfl, rfl, rfl, fun h => by cases h⟩
theorem fpX12_133 : am_FP RX12 133 12 8 1 .long false := ⟨_, _, _, tyX12, rfl, by decide, uw_12, aw_5_3, by decide, by decide, by decide, tyX12_ok, nmX12, rfl, rfl, rfl, fun h => by cases h⟩
theorem cbX12_141 : am_CB RX12 141 yX12_within cX12_within 6 (some .boolean) 3 := ⟨aw_1_11, aw_5_161, ⟨by decide, by decide⟩, by decide +kernel⟩
theorem csX12_141 : am_CS RX12 141 yX12_within cX12_within 6 (some .boolean) 3 := ⟨cbX12_141, aw_5_159, aw_5_160⟩
theorem flX12_130 : am_F RX12 130 12 7 0 := ⟨_, _, _, rfl, by decide, uw_12, aw_5_2, by decide, by decide, by decide⟩
theorem flX12_133 : am_F RX12 133 12 8 1 := ⟨_, _, _, rfl, by decide, uw_12, aw_5_3, by decide, by decide, by decide⟩
theorem flX12_151 : am_F RX12 151 12 9 0 := ⟨_, _, _, rfl, by decide, uw_12, aw_5_4, by decide, by decide, by decide⟩
theorem fpX12_151 : am_FP RX12 151 12 9 0 .int false := ⟨_, _, _, tyX12, rfl, by decide, uw_12, aw_5_4, by decide, by decide, by decide, tyX12_ok, nmX12, rfl, rfl, rfl, fun h => by cases h⟩
theorem fpX12_154 : am_FP RX12 154 12 10 0 .int false := ⟨_, _, _, tyX12, rfl, by decide, uw_12, aw_5_5, by decide, by decide, by decide, tyX12_ok, nmX12, rfl, rfl, rfl, fun h => by cases h⟩
theorem flX12_127 : am_F RX12 127 12 6 0 := ⟨_, _, _, rfl, by decide, uw_12, aw_5_1, by decide, by decide, by decide⟩
theorem cbX12_186 : am_CB RX12 186 yX12_must cX12_must 3 (some .boolean) 2 := ⟨aw_1_11, aw_5_239, ⟨by decide, by decide⟩, by decide +kernel⟩
theorem cvX12_186 : am_CV RX12 186 yX12_must cX12_must 3 (some .boolean) 2 12 := ⟨cbX12_186, aw_5_236, aw_5_238, ps_42, by decide, _, _, rfl⟩
theorem cbX12_190 : am_CB RX12 190 yX12_steps cX12_steps 2 none 0 := ⟨aw_1_11, aw_5_165, ⟨by decide, by decide⟩, by decide +kernel⟩
theorem cvX12_190 : am_CV RX12 190 yX12_steps cX12_steps 2 none 0 12 := ⟨cbX12_190, aw_5_162, aw_5_164, ps_38, by decide, _, _, rfl⟩
theorem flX12_21 : am_F RX12 21 12 14 2 := ⟨_, _, _, rfl, by decide, uw_12, aw_5_9, by decide, by decide, by decide⟩
theorem flX12_179 : am_F RX12 179 12 11 0 := ⟨_, _, _, rfl, by decide, uw_12, aw_5_6, by decide, by decide, by decide⟩
theorem flX12_27 : am_F RX12 27 12 16 2 := ⟨_, _, _, rfl, by decide, uw_12, aw_5_11, by decide, by decide, by decide⟩
theorem flX12_30 : am_F RX12 30 12 17 2 := ⟨_, _, _, rfl, by decide, uw_12, aw_5_12, by decide, by decide, by decide⟩
theorem fpX12_209 : am_FP RX12 209 12 35 0 .int false := ⟨_, _, _, tyX12, rfl, by decide, uw_12, aw_5_30, by decide, by decide, by decide, tyX12_ok, nmX12, rfl, rfl, rfl, fun h => by cases h⟩
theorem flX12_70 : am_F RX12 70 12 32 2 := ⟨_, _, _, rfl, by decide, uw_12, aw_5_27, by decide, by decide, by decide⟩
theorem flX12_73 : am_F RX12 73 12 33 2 := ⟨_, _, _, rfl, by decide, uw_12, aw_5_28, by decide, by decide, by decide⟩
theorem flX12_76 : am_F RX12 76 12 34 2 := ⟨_, _, _, rfl, by decide, uw_12, aw_5_29, by decide, by decide, by decide⟩
theorem flX12_209 : am_F RX12 209 12 35 0 := ⟨_, _, _, rfl, by decide, uw_12, aw_5_30, by decide, by decide, by decide⟩
theorem cbX12_212 : am_CB RX12 212 yX12_endOf cX12_endOf 3 (some .int) 2 := ⟨aw_1_11, aw_6_53, ⟨by decide, by decide⟩, by decide +kernel⟩
theorem cvX12_212 : am_CV RX12 212 yX12_endOf cX12_endOf 3 (some .int) 2 12 := ⟨cbX12_212, aw_6_50, aw_6_52, ps_55, by decide, _, _, rfl⟩
theorem cbX12_216 : am_CB RX12 216 yX12_notchAt cX12_notchAt 4 (some .int) 1 := ⟨aw_1_11, aw_6_45, ⟨by decide, by decide⟩, by decide +kernel⟩
theorem cvX12_216 : am_CV RX12 216 yX12_notchAt cX12_notchAt 4 (some .int) 1 12 := ⟨cbX12_216, aw_6_42, aw_6_44, ps_53, by decide, _, _, rfl⟩
theorem cbX12_219 : am_CB RX12 219 yX12_appends cX12_appends 5 none 3 := ⟨aw_1_11, aw_6_69, ⟨by decide, by decide⟩, by decide +kernel⟩
theorem cvX12_219 : am_CV RX12 219 yX12_appends cX12_appends 5 none 3 12 := ⟨cbX12_219, aw_6_66, aw_6_68, ps_59, by decide, _, _, rfl⟩
theorem cbX12_223 : am_CB RX12 223 yX12_widthOf cX12_widthOf 3 (some .int) 2 := ⟨aw_1_11, aw_6_49, ⟨by decide, by decide⟩, by decide +kernel⟩
theorem cvX12_223 : am_CV RX12 223 yX12_widthOf cX12_widthOf 3 (some .int) 2 12 := ⟨cbX12_223, aw_6_46, aw_6_48, ps_54, by decide, _, _, rfl⟩
theorem cbX12_226 : am_CB RX12 226 yX12_put cX12_put 4 none 3 := ⟨aw_1_11, aw_6_29, ⟨by decide, by decide⟩, by decide +kernel⟩
theorem cvX12_226 : am_CV RX12 226 yX12_put cX12_put 4 none 3 12 := ⟨cbX12_226, aw_6_26, aw_6_28, ps_49, by decide, _, _, rfl⟩
theorem cbX12_229 : am_CB RX12 229 yX12_groupSum cX12_groupSum 5 (some .int) 2 := ⟨aw_1_11, aw_6_37, ⟨by decide, by decide⟩, by decide +kernel⟩
theorem cvX12_229 : am_CV RX12 229 yX12_groupSum cX12_groupSum 5 (some .int) 2 12 := ⟨cbX12_229, aw_6_34, aw_6_36, ps_51, by decide, _, _, rfl⟩
theorem cbX12_232 : am_CB RX12 232 yX12_laysOutline cX12_laysOutline 2 none 1 := ⟨aw_1_11, aw_6_41, ⟨by decide, by decide⟩, by decide +kernel⟩
theorem cvX12_232 : am_CV RX12 232 yX12_laysOutline cX12_laysOutline 2 none 1 12 := ⟨cbX12_232, aw_6_38, aw_6_40, ps_52, by decide, _, _, rfl⟩
theorem flX12_55 : am_F RX12 55 12 27 2 := ⟨_, _, _, rfl, by decide, uw_12, aw_5_22, by decide, by decide, by decide⟩
theorem cbX12_235 : am_CB RX12 235 yX12_fails cX12_fails 3 none 1 := ⟨aw_1_11, aw_6_57, ⟨by decide, by decide⟩, by decide +kernel⟩
theorem cvX12_235 : am_CV RX12 235 yX12_fails cX12_fails 3 none 1 12 := ⟨cbX12_235, aw_6_54, aw_6_56, ps_56, by decide, _, _, rfl⟩
theorem cbX12_238 : am_CB RX12 238 yX12_squares cX12_squares 6 none 4 := ⟨aw_1_11, aw_6_61, ⟨by decide, by decide⟩, by decide +kernel⟩
theorem cvX12_238 : am_CV RX12 238 yX12_squares cX12_squares 6 none 4 12 := ⟨cbX12_238, aw_6_58, aw_6_60, ps_57, by decide, _, _, rfl⟩
theorem cbX12_242 : am_CB RX12 242 yX12_laysOn cX12_laysOn 6 none 2 := ⟨aw_1_11, aw_6_65, ⟨by decide, by decide⟩, by decide +kernel⟩
theorem cvX12_242 : am_CV RX12 242 yX12_laysOn cX12_laysOn 6 none 2 12 := ⟨cbX12_242, aw_6_62, aw_6_64, ps_58, by decide, _, _, rfl⟩
theorem flX12_79 : am_F RX12 79 12 36 2 := ⟨_, _, _, rfl, by decide, uw_12, aw_5_31, by decide, by decide, by decide⟩
theorem flX12_64 : am_F RX12 64 12 30 2 := ⟨_, _, _, rfl, by decide, uw_12, aw_5_25, by decide, by decide, by decide⟩
theorem flX12_52 : am_F RX12 52 12 26 2 := ⟨_, _, _, rfl, by decide, uw_12, aw_5_21, by decide, by decide, by decide⟩
theorem flX12_67 : am_F RX12 67 12 31 2 := ⟨_, _, _, rfl, by decide, uw_12, aw_5_26, by decide, by decide, by decide⟩
theorem flX12_264 : am_F RX12 264 12 38 0 := ⟨_, _, _, rfl, by decide, uw_12, aw_5_33, by decide, by decide, by decide⟩
theorem flX12_49 : am_F RX12 49 12 25 2 := ⟨_, _, _, rfl, by decide, uw_12, aw_5_20, by decide, by decide, by decide⟩
theorem flX12_267 : am_F RX12 267 12 39 0 := ⟨_, _, _, rfl, by decide, uw_12, aw_5_34, by decide, by decide, by decide⟩
theorem cbX12_271 : am_CB RX12 271 yX12_sizeOf cX12_sizeOf 3 (some .int) 2 := ⟨aw_1_11, aw_6_101, ⟨by decide, by decide⟩, by decide +kernel⟩
theorem cvX12_271 : am_CV RX12 271 yX12_sizeOf cX12_sizeOf 3 (some .int) 2 12 := ⟨cbX12_271, aw_6_98, aw_6_100, ps_66, by decide, _, _, rfl⟩
theorem flX12_82 : am_F RX12 82 12 37 2 := ⟨_, _, _, rfl, by decide, uw_12, aw_5_32, by decide, by decide, by decide⟩
theorem cbX12_274 : am_CB RX12 274 yX12_topOf cX12_topOf 7 (some .long) 2 := ⟨aw_1_11, aw_6_105, ⟨by decide, by decide⟩, by decide +kernel⟩
theorem cvX12_274 : am_CV RX12 274 yX12_topOf cX12_topOf 7 (some .long) 2 12 := ⟨cbX12_274, aw_6_102, aw_6_104, ps_67, by decide, _, _, rfl⟩
theorem flX12_58 : am_F RX12 58 12 28 2 := ⟨_, _, _, rfl, by decide, uw_12, aw_5_23, by decide, by decide, by decide⟩
theorem cbX12_278 : am_CB RX12 278 yX12_goes cX12_goes 8 (some .boolean) 2 := ⟨aw_1_11, aw_6_97, ⟨by decide, by decide⟩, by decide +kernel⟩
theorem cvX12_278 : am_CV RX12 278 yX12_goes cX12_goes 8 (some .boolean) 2 12 := ⟨cbX12_278, aw_6_94, aw_6_96, ps_65, by decide, _, _, rfl⟩
theorem fpX12_267 : am_FP RX12 267 12 39 0 .boolean false := ⟨_, _, _, tyX12, rfl, by decide, uw_12, aw_5_34, by decide, by decide, by decide, tyX12_ok, nmX12, rfl, rfl, rfl, fun h => by cases h⟩
theorem flX12_285 : am_F RX12 285 12 18 0 := ⟨_, _, _, rfl, by decide, uw_12, aw_5_13, by decide, by decide, by decide⟩
theorem cbX12_306 : am_CB RX12 306 yX12_of cX12_of 3 (some .int) 2 := ⟨aw_1_11, aw_6_126, ⟨by decide, by decide⟩, by decide +kernel⟩
theorem cvX12_306 : am_CV RX12 306 yX12_of cX12_of 3 (some .int) 2 12 := ⟨cbX12_306, aw_6_123, aw_6_125, ps_71, by decide, _, _, rfl⟩
theorem flX12_288 : am_F RX12 288 12 40 0 := ⟨_, _, _, rfl, by decide, uw_12, aw_5_35, by decide, by decide, by decide⟩
theorem flX12_43 : am_F RX12 43 12 23 2 := ⟨_, _, _, rfl, by decide, uw_12, aw_5_18, by decide, by decide, by decide⟩
theorem cbX12_309 : am_CB RX12 309 yX12_isPart cX12_isPart 12 (some .boolean) 5 := ⟨aw_1_11, aw_6_138, ⟨by decide, by decide⟩, by decide +kernel⟩
theorem cvX12_309 : am_CV RX12 309 yX12_isPart cX12_isPart 12 (some .boolean) 5 12 := ⟨cbX12_309, aw_6_135, aw_6_137, ps_74, by decide, _, _, rfl⟩
theorem cbX12_313 : am_CB RX12 313 yX12_corners cX12_corners 7 (some .int) 3 := ⟨aw_1_11, aw_6_146, ⟨by decide, by decide⟩, by decide +kernel⟩
theorem cvX12_313 : am_CV RX12 313 yX12_corners cX12_corners 7 (some .int) 3 12 := ⟨cbX12_313, aw_6_143, aw_6_145, ps_76, by decide, _, _, rfl⟩
theorem cbX12_316 : am_CB RX12 316 yX12_isRect cX12_isRect 2 (some .boolean) 1 := ⟨aw_1_11, aw_6_113, ⟨by decide, by decide⟩, by decide +kernel⟩
theorem cvX12_316 : am_CV RX12 316 yX12_isRect cX12_isRect 2 (some .boolean) 1 12 := ⟨cbX12_316, aw_6_110, aw_6_112, ps_68, by decide, _, _, rfl⟩
theorem cbX12_325 : am_CB RX12 325 yX12_doesFail cX12_doesFail 2 (some .boolean) 1 := ⟨aw_1_11, aw_6_122, ⟨by decide, by decide⟩, by decide +kernel⟩
theorem cvX12_325 : am_CV RX12 325 yX12_doesFail cX12_doesFail 2 (some .boolean) 1 12 := ⟨cbX12_325, aw_6_119, aw_6_121, ps_70, by decide, _, _, rfl⟩
theorem cbX12_328 : am_CB RX12 328 yX12_arePerfect cX12_arePerfect 5 (some .boolean) 1 := ⟨aw_1_11, aw_6_130, ⟨by decide, by decide⟩, by decide +kernel⟩
theorem cvX12_328 : am_CV RX12 328 yX12_arePerfect cX12_arePerfect 5 (some .boolean) 1 12 := ⟨cbX12_328, aw_6_127, aw_6_129, ps_72, by decide, _, _, rfl⟩
theorem cbX12_331 : am_CB RX12 331 yX12_partsOf cX12_partsOf 7 (some .int) 1 := ⟨aw_1_11, aw_6_134, ⟨by decide, by decide⟩, by decide +kernel⟩
theorem cvX12_331 : am_CV RX12 331 yX12_partsOf cX12_partsOf 7 (some .int) 1 12 := ⟨cbX12_331, aw_6_131, aw_6_133, ps_73, by decide, _, _, rfl⟩
theorem cbX12_334 : am_CB RX12 334 yX12_crossesOf cX12_crossesOf 4 (some .int) 1 := ⟨aw_1_11, aw_6_142, ⟨by decide, by decide⟩, by decide +kernel⟩
theorem cvX12_334 : am_CV RX12 334 yX12_crossesOf cX12_crossesOf 4 (some .int) 1 12 := ⟨cbX12_334, aw_6_139, aw_6_141, ps_75, by decide, _, _, rfl⟩
theorem cbX12_322 : am_CB RX12 322 yX12_kindOf cX12_kindOf 2 (some .int) 1 := ⟨aw_1_11, aw_6_118, ⟨by decide, by decide⟩, by decide +kernel⟩
theorem cvX12_322 : am_CV RX12 322 yX12_kindOf cX12_kindOf 2 (some .int) 1 12 := ⟨cbX12_322, aw_6_115, aw_6_117, ps_69, by decide, _, _, rfl⟩
theorem cbX12_337 : am_CB RX12 337 yX12_isSquare cX12_isSquare 3 (some .boolean) 2 := ⟨aw_1_11, aw_6_154, ⟨by decide, by decide⟩, by decide +kernel⟩
theorem cvX12_337 : am_CV RX12 337 yX12_isSquare cX12_isSquare 3 (some .boolean) 2 12 := ⟨cbX12_337, aw_6_151, aw_6_153, ps_77, by decide, _, _, rfl⟩
theorem flX12_85 : am_F RX12 85 12 41 2 := ⟨_, _, _, rfl, by decide, uw_12, aw_5_36, by decide, by decide, by decide⟩
theorem flX12_342 : am_F RX12 342 12 42 0 := ⟨_, _, _, rfl, by decide, uw_12, aw_5_37, by decide, by decide, by decide⟩
theorem fpX12_342 : am_FP RX12 342 12 42 0 .int false := ⟨_, _, _, tyX12, rfl, by decide, uw_12, aw_5_37, by decide, by decide, by decide, tyX12_ok, nmX12, rfl, rfl, rfl, fun h => by cases h⟩
theorem cbX12_345 : am_CB RX12 345 yX12_prints cX12_prints 2 none 1 := ⟨aw_1_11, aw_6_179, ⟨by decide, by decide⟩, by decide +kernel⟩
theorem cvX12_345 : am_CV RX12 345 yX12_prints cX12_prints 2 none 1 12 := ⟨cbX12_345, aw_6_176, aw_6_178, ps_79, by decide, _, _, rfl⟩
theorem cbX12_348 : am_CB RX12 348 yX12_isBeside cX12_isBeside 3 (some .boolean) 2 := ⟨aw_1_11, aw_6_175, ⟨by decide, by decide⟩, by decide +kernel⟩
theorem cvX12_348 : am_CV RX12 348 yX12_isBeside cX12_isBeside 3 (some .boolean) 2 12 := ⟨cbX12_348, aw_6_172, aw_6_174, ps_78, by decide, _, _, rfl⟩
theorem cbX12_351 : am_CB RX12 351 yX12_printsNumber cX12_printsNumber 3 none 1 := ⟨aw_1_11, aw_6_183, ⟨by decide, by decide⟩, by decide +kernel⟩
theorem cvX12_351 : am_CV RX12 351 yX12_printsNumber cX12_printsNumber 3 none 1 12 := ⟨cbX12_351, aw_6_180, aw_6_182, ps_80, by decide, _, _, rfl⟩
theorem cbX12_354 : am_CB RX12 354 yX12_isNet cX12_isNet 2 (some .boolean) 1 := ⟨aw_1_11, aw_6_199, ⟨by decide, by decide⟩, by decide +kernel⟩
theorem cvX12_354 : am_CV RX12 354 yX12_isNet cX12_isNet 2 (some .boolean) 1 12 := ⟨cbX12_354, aw_6_196, aw_6_198, ps_81, by decide, _, _, rfl⟩
theorem flX12_61 : am_F RX12 61 12 29 2 := ⟨_, _, _, rfl, by decide, uw_12, aw_5_24, by decide, by decide, by decide⟩
theorem flX12_46 : am_F RX12 46 12 24 2 := ⟨_, _, _, rfl, by decide, uw_12, aw_5_19, by decide, by decide, by decide⟩
theorem flX12_360 : am_F RX12 360 12 47 0 := ⟨_, _, _, rfl, by decide, uw_12, aw_5_42, by decide, by decide, by decide⟩
theorem fpX12_360 : am_FP RX12 360 12 47 0 .int false := ⟨_, _, _, tyX12, rfl, by decide, uw_12, aw_5_42, by decide, by decide, by decide, tyX12_ok, nmX12, rfl, rfl, rfl, fun h => by cases h⟩
theorem flX12_88 : am_F RX12 88 12 43 2 := ⟨_, _, _, rfl, by decide, uw_12, aw_5_38, by decide, by decide, by decide⟩
theorem flX12_91 : am_F RX12 91 12 44 2 := ⟨_, _, _, rfl, by decide, uw_12, aw_5_39, by decide, by decide, by decide⟩
theorem flX12_94 : am_F RX12 94 12 45 2 := ⟨_, _, _, rfl, by decide, uw_12, aw_5_40, by decide, by decide, by decide⟩
theorem flX12_97 : am_F RX12 97 12 46 2 := ⟨_, _, _, rfl, by decide, uw_12, aw_5_41, by decide, by decide, by decide⟩
theorem cbX12_363 : am_CB RX12 363 yX12_drops cX12_drops 3 none 1 := ⟨aw_1_11, aw_6_228, ⟨by decide, by decide⟩, by decide +kernel⟩
theorem cvX12_363 : am_CV RX12 363 yX12_drops cX12_drops 3 none 1 12 := ⟨cbX12_363, aw_6_225, aw_6_227, ps_84, by decide, _, _, rfl⟩
theorem cbX12_366 : am_CB RX12 366 yX12_comes cX12_comes 10 none 4 := ⟨aw_1_11, aw_6_224, ⟨by decide, by decide⟩, by decide +kernel⟩
theorem cvX12_366 : am_CV RX12 366 yX12_comes cX12_comes 10 none 4 12 := ⟨cbX12_366, aw_6_221, aw_6_223, ps_83, by decide, _, _, rfl⟩
theorem cbX12_369 : am_CB RX12 369 yX12_laysLines cX12_laysLines 5 none 1 := ⟨aw_1_11, aw_6_220, ⟨by decide, by decide⟩, by decide +kernel⟩
theorem cvX12_369 : am_CV RX12 369 yX12_laysLines cX12_laysLines 5 none 1 12 := ⟨cbX12_369, aw_6_217, aw_6_219, ps_82, by decide, _, _, rfl⟩
theorem flX12_100 : am_F RX12 100 12 48 2 := ⟨_, _, _, rfl, by decide, uw_12, aw_5_43, by decide, by decide, by decide⟩
theorem cbX12_374 : am_CB RX12 374 yX12_quarter cX12_quarter 4 none 0 := ⟨aw_1_11, aw_7_13, ⟨by decide, by decide⟩, by decide +kernel⟩
theorem cvX12_374 : am_CV RX12 374 yX12_quarter cX12_quarter 4 none 0 12 := ⟨cbX12_374, aw_7_10, aw_7_12, ps_87, by decide, _, _, rfl⟩
theorem cbX12_377 : am_CB RX12 377 yX12_isThere cX12_isThere 5 (some .boolean) 2 := ⟨aw_1_11, aw_7_21, ⟨by decide, by decide⟩, by decide +kernel⟩
theorem cvX12_377 : am_CV RX12 377 yX12_isThere cX12_isThere 5 (some .boolean) 2 12 := ⟨cbX12_377, aw_7_18, aw_7_20, ps_89, by decide, _, _, rfl⟩
theorem cbX12_380 : am_CB RX12 380 yX12_takes cX12_takes 3 none 1 := ⟨aw_1_11, aw_7_5, ⟨by decide, by decide⟩, by decide +kernel⟩
theorem cvX12_380 : am_CV RX12 380 yX12_takes cX12_takes 3 none 1 12 := ⟨cbX12_380, aw_7_2, aw_7_4, ps_85, by decide, _, _, rfl⟩
theorem cbX12_383 : am_CB RX12 383 yX12_turns cX12_turns 3 none 1 := ⟨aw_1_11, aw_7_9, ⟨by decide, by decide⟩, by decide +kernel⟩
theorem cvX12_383 : am_CV RX12 383 yX12_turns cX12_turns 3 none 1 12 := ⟨cbX12_383, aw_7_6, aw_7_8, ps_86, by decide, _, _, rfl⟩
theorem cbX12_386 : am_CB RX12 386 yX12_areAlike cX12_areAlike 3 (some .boolean) 1 := ⟨aw_1_11, aw_7_17, ⟨by decide, by decide⟩, by decide +kernel⟩
theorem cvX12_386 : am_CV RX12 386 yX12_areAlike cX12_areAlike 3 (some .boolean) 1 12 := ⟨cbX12_386, aw_7_14, aw_7_16, ps_88, by decide, _, _, rfl⟩
theorem fpX12_285 : am_FP RX12 285 12 18 0 .int false := ⟨_, _, _, tyX12, rfl, by decide, uw_12, aw_5_13, by decide, by decide, by decide, tyX12_ok, nmX12, rfl, rfl, rfl, fun h => by cases h⟩
theorem flX12_297 : am_F RX12 297 12 19 0 := ⟨_, _, _, rfl, by decide, uw_12, aw_5_14, by decide, by decide, by decide⟩
theorem fpX12_297 : am_FP RX12 297 12 19 0 .int false := ⟨_, _, _, tyX12, rfl, by decide, uw_12, aw_5_14, by decide, by decide, by decide, tyX12_ok, nmX12, rfl, rfl, rfl, fun h => by cases h⟩
theorem cbX12_389 : am_CB RX12 389 yX12_isAhead cX12_isAhead 3 (some .boolean) 2 := ⟨aw_1_11, aw_7_42, ⟨by decide, by decide⟩, by decide +kernel⟩
theorem cvX12_389 : am_CV RX12 389 yX12_isAhead cX12_isAhead 3 (some .boolean) 2 12 := ⟨cbX12_389, aw_7_39, aw_7_41, ps_93, by decide, _, _, rfl⟩
theorem cbX12_392 : am_CB RX12 392 yX12_trades cX12_trades 5 none 2 := ⟨aw_1_11, aw_7_46, ⟨by decide, by decide⟩, by decide +kernel⟩
theorem cvX12_392 : am_CV RX12 392 yX12_trades cX12_trades 5 none 2 12 := ⟨cbX12_392, aw_7_43, aw_7_45, ps_94, by decide, _, _, rfl⟩
theorem cbX12_397 : am_CB RX12 397 yX12_canMake cX12_canMake 2 (some .boolean) 1 := ⟨aw_1_11, aw_7_29, ⟨by decide, by decide⟩, by decide +kernel⟩
theorem cvX12_397 : am_CV RX12 397 yX12_canMake cX12_canMake 2 (some .boolean) 1 12 := ⟨cbX12_397, aw_7_26, aw_7_28, ps_90, by decide, _, _, rfl⟩
theorem cbX12_260 : am_CB RX12 260 yX12_common cX12_common 10 (some .long) 2 := ⟨aw_1_11, aw_6_93, ⟨by decide, by decide⟩, by decide +kernel⟩
theorem csX12_260 : am_CS RX12 260 yX12_common cX12_common 10 (some .long) 2 := ⟨cbX12_260, aw_6_91, aw_6_92⟩
theorem cbX12_400 : am_CB RX12 400 yX12_grows cX12_grows 3 none 1 := ⟨aw_1_11, aw_7_34, ⟨by decide, by decide⟩, by decide +kernel⟩
theorem cvX12_400 : am_CV RX12 400 yX12_grows cX12_grows 3 none 1 12 := ⟨cbX12_400, aw_7_31, aw_7_33, ps_91, by decide, _, _, rfl⟩
theorem cbX12_403 : am_CB RX12 403 yX12_makes cX12_makes 3 (some .int) 0 := ⟨aw_1_11, aw_7_38, ⟨by decide, by decide⟩, by decide +kernel⟩
theorem cvX12_403 : am_CV RX12 403 yX12_makes cX12_makes 3 (some .int) 0 12 := ⟨cbX12_403, aw_7_35, aw_7_37, ps_92, by decide, _, _, rfl⟩
theorem cbX12_408 : am_CB RX12 408 yX12_mayGrow cX12_mayGrow 3 (some .boolean) 1 := ⟨aw_1_11, aw_7_63, ⟨by decide, by decide⟩, by decide +kernel⟩
theorem cvX12_408 : am_CV RX12 408 yX12_mayGrow cX12_mayGrow 3 (some .boolean) 1 12 := ⟨cbX12_408, aw_7_60, aw_7_62, ps_95, by decide, _, _, rfl⟩
theorem flX12_39 : am_F RX12 39 12 22 2 := ⟨_, _, _, rfl, by decide, uw_12, aw_5_17, by decide, by decide, by decide⟩
theorem flX12_36 : am_F RX12 36 12 21 2 := ⟨_, _, _, rfl, by decide, uw_12, aw_5_16, by decide, by decide, by decide⟩
theorem flX12_33 : am_F RX12 33 12 20 2 := ⟨_, _, _, rfl, by decide, uw_12, aw_5_15, by decide, by decide, by decide⟩
theorem cbX0_57 : am_CB RX0 57 yX0_isBehind cX0_isBehind 4 (some .boolean) 3 := ⟨aw_1_7, aw_4_71, ⟨by decide, by decide⟩, by decide +kernel⟩
theorem cvX0_57 : am_CV RX0 57 yX0_isBehind cX0_isBehind 4 (some .boolean) 3 0 := ⟨cbX0_57, aw_4_68, aw_4_70, ps_33, by decide, _, _, rfl⟩
theorem nwX1_9 : am_NW RX1 9 6 4 := ⟨_, _, tyX6, rfl, aw_1_97, aw_1_98, aw_1_4, uw_6, tyX6_ok, by decide, by decide, fun j hj => match j, hj with | 0, _ => rfl | 1, _ => rfl | 2, _ => rfl | 3, _ => rfl | (j + 4), h => absurd h (by omega)⟩
theorem cbX1_11 : am_CB RX1 11 yX6_init cX6_init 2 none 1 := ⟨aw_1_4, aw_1_101, ⟨by decide, by decide⟩, by decide +kernel⟩
theorem ciX1_11 : am_CI RX1 11 yX6_init cX6_init 2 1 := ⟨cbX1_11, aw_1_99, aw_1_100, rfl⟩
theorem fpX1_14 : am_FP RX1 14 1 0 2 (.object "SquareCuts$Outline") true := ⟨_, _, _, tyX1, rfl, by decide, uw_1, aw_1_117, by decide, by decide, by decide, tyX1_ok, nmX1, rfl, rfl, rfl, fun _ => rfl⟩
theorem fpX4_11 : am_FP RX4 11 4 0 2 (.array (.object "SquareCuts$Outline")) true := ⟨_, _, _, tyX4, rfl, by decide, uw_4, aw_1_156, by decide, by decide, by decide, tyX4_ok, nmX4, rfl, rfl, rfl, fun _ => rfl⟩
theorem fpX4_17 : am_FP RX4 17 4 1 2 (.array .int) true := ⟨_, _, _, tyX4, rfl, by decide, uw_4, aw_1_157, by decide, by decide, by decide, tyX4_ok, nmX4, rfl, rfl, rfl, fun _ => rfl⟩
theorem fpX4_21 : am_FP RX4 21 4 2 2 (.array .int) true := ⟨_, _, _, tyX4, rfl, by decide, uw_4, aw_1_158, by decide, by decide, by decide, tyX4_ok, nmX4, rfl, rfl, rfl, fun _ => rfl⟩
theorem fpX4_24 : am_FP RX4 24 4 3 2 (.array .boolean) true := ⟨_, _, _, tyX4, rfl, by decide, uw_4, aw_1_159, by decide, by decide, by decide, tyX4_ok, nmX4, rfl, rfl, rfl, fun _ => rfl⟩
theorem flX4_11 : am_F RX4 11 4 0 2 := ⟨_, _, _, rfl, by decide, uw_4, aw_1_156, by decide, by decide, by decide⟩
theorem nwX4_9 : am_NW RX4 9 6 4 := ⟨_, _, tyX6, rfl, aw_1_153, aw_1_98, aw_1_4, uw_6, tyX6_ok, by decide, by decide, fun j hj => match j, hj with | 0, _ => rfl | 1, _ => rfl | 2, _ => rfl | 3, _ => rfl | (j + 4), h => absurd h (by omega)⟩
theorem cbX4_28 : am_CB RX4 28 yX6_init cX6_init 2 none 1 := ⟨aw_1_4, aw_1_101, ⟨by decide, by decide⟩, by decide +kernel⟩
theorem ciX4_28 : am_CI RX4 28 yX6_init cX6_init 2 1 := ⟨cbX4_28, aw_1_155, aw_1_100, rfl⟩
theorem flX4_75 : am_F RX4 75 3 6 0 := ⟨_, _, _, rfl, by decide, uw_3, aw_3_54, by decide, by decide, by decide⟩
theorem cbX4_78 : am_CB RX4 78 yX6_notchDepth cX6_notchDepth 1 (some .int) 0 := ⟨aw_1_4, aw_2_174, ⟨by decide, by decide⟩, by decide +kernel⟩
theorem cvX4_78 : am_CV RX4 78 yX6_notchDepth cX6_notchDepth 1 (some .int) 0 6 := ⟨cbX4_78, aw_3_117, aw_2_172, aw_2_173, by decide, _, _, rfl⟩
theorem cbX4_82 : am_CB RX4 82 yX6_notchWidth cX6_notchWidth 1 (some .int) 0 := ⟨aw_1_4, aw_2_161, ⟨by decide, by decide⟩, by decide +kernel⟩
theorem cvX4_82 : am_CV RX4 82 yX6_notchWidth cX6_notchWidth 1 (some .int) 0 6 := ⟨cbX4_82, aw_3_118, aw_2_159, aw_2_160, by decide, _, _, rfl⟩
theorem flX4_35 : am_F RX4 35 3 5 0 := ⟨_, _, _, rfl, by decide, uw_3, aw_3_52, by decide, by decide, by decide⟩
theorem cbX4_92 : am_CB RX4 92 yX0_begin cX0_begin 3 none 2 := ⟨aw_1_7, aw_2_153, ⟨by decide, by decide⟩, by decide +kernel⟩
theorem cvX4_92 : am_CV RX4 92 yX0_begin cX0_begin 3 none 2 0 := ⟨cbX4_92, aw_3_136, aw_2_151, aw_2_152, by decide, _, _, rfl⟩
theorem cbX4_97 : am_CB RX4 97 yX6_notchLeft cX6_notchLeft 1 (some .int) 0 := ⟨aw_1_4, aw_2_165, ⟨by decide, by decide⟩, by decide +kernel⟩
theorem cvX4_97 : am_CV RX4 97 yX6_notchLeft cX6_notchLeft 1 (some .int) 0 6 := ⟨cbX4_97, aw_3_137, aw_2_163, aw_2_164, by decide, _, _, rfl⟩
theorem flX4_21 : am_F RX4 21 4 2 2 := ⟨_, _, _, rfl, by decide, uw_4, aw_1_158, by decide, by decide, by decide⟩
theorem cbX4_100 : am_CB RX4 100 yX0_add cX0_add 4 none 3 := ⟨aw_1_7, aw_2_178, ⟨by decide, by decide⟩, by decide +kernel⟩
theorem cvX4_100 : am_CV RX4 100 yX0_add cX0_add 4 none 3 0 := ⟨cbX4_100, aw_3_138, aw_2_176, aw_2_177, by decide, _, _, rfl⟩
theorem cbX5_55 : am_CB RX5 55 yJ7_fill_d0a16 cJ7_fill_d0a16 5 none 2 := ⟨aw_1_15, aw_3_81, ⟨by decide, by decide⟩, by decide +kernel⟩
theorem csX5_55 : am_CS RX5 55 yJ7_fill_d0a16 cJ7_fill_d0a16 5 none 2 := ⟨cbX5_55, aw_3_79, aw_3_80⟩
theorem flX5_16 : am_F RX5 16 5 1 2 := ⟨_, _, _, rfl, by decide, uw_5, aw_1_134, by decide, by decide, by decide⟩
theorem flX5_20 : am_F RX5 20 5 2 2 := ⟨_, _, _, rfl, by decide, uw_5, aw_1_135, by decide, by decide, by decide⟩
theorem cbX5_61 : am_CB RX5 61 yX5_reduceRow cX5_reduceRow 11 none 4 := ⟨aw_1_5, aw_3_89, ⟨by decide, by decide⟩, by decide +kernel⟩
theorem cvX5_61 : am_CV RX5 61 yX5_reduceRow cX5_reduceRow 11 none 4 5 := ⟨cbX5_61, aw_3_86, aw_3_88, ps_19, by decide, _, _, rfl⟩
theorem flX5_65 : am_F RX5 65 3 0 0 := ⟨_, _, _, rfl, by decide, uw_3, aw_3_37, by decide, by decide, by decide⟩
theorem flX5_69 : am_F RX5 69 3 2 2 := ⟨_, _, _, rfl, by decide, uw_3, aw_3_44, by decide, by decide, by decide⟩
theorem flX5_72 : am_F RX5 72 3 1 0 := ⟨_, _, _, rfl, by decide, uw_3, aw_3_41, by decide, by decide, by decide⟩
theorem flX5_75 : am_F RX5 75 3 3 2 := ⟨_, _, _, rfl, by decide, uw_3, aw_3_48, by decide, by decide, by decide⟩
theorem cbX5_82 : am_CB RX5 82 yX11_greatestDivisor cX11_greatestDivisor 6 (some .int) 2 := ⟨aw_1_1, aw_3_99, ⟨by decide, by decide⟩, by decide +kernel⟩
theorem csX5_82 : am_CSN RX5 82 yX11_greatestDivisor cX11_greatestDivisor 6 (some .int) 2 "SquareCuts" := ⟨cbX5_82, an_3_97, aw_3_98⟩
theorem flX5_47 : am_F RX5 47 3 4 1 := ⟨_, _, _, rfl, by decide, uw_3, aw_3_50, by decide, by decide, by decide⟩
theorem fpX5_85 : am_FP RX5 85 3 5 0 .int false := ⟨_, _, _, tyX3, rfl, by decide, uw_3, aw_3_53, by decide, by decide, by decide, tyX3_ok, nmX3, rfl, rfl, rfl, fun h => by cases h⟩
theorem fpX5_88 : am_FP RX5 88 3 6 0 .int false := ⟨_, _, _, tyX3, rfl, by decide, uw_3, aw_3_55, by decide, by decide, by decide, tyX3_ok, nmX3, rfl, rfl, rfl, fun h => by cases h⟩
theorem flX5_23 : am_F RX5 23 5 3 2 := ⟨_, _, _, rfl, by decide, uw_5, aw_1_136, by decide, by decide, by decide⟩
theorem cbX6_43 : am_CB RX6 43 yX6_mergePieces cX6_mergePieces 3 none 0 := ⟨aw_1_4, aw_2_190, ⟨by decide, by decide⟩, by decide +kernel⟩
theorem cvX6_43 : am_CV RX6 43 yX6_mergePieces cX6_mergePieces 3 none 0 6 := ⟨cbX6_43, aw_2_187, aw_2_189, ps_14, by decide, _, _, rfl⟩
theorem cbX6_46 : am_CB RX6 46 yX6_findNotch cX6_findNotch 2 none 0 := ⟨aw_1_4, aw_2_194, ⟨by decide, by decide⟩, by decide +kernel⟩
theorem cvX6_46 : am_CV RX6 46 yX6_findNotch cX6_findNotch 2 none 0 6 := ⟨cbX6_46, aw_2_191, aw_2_193, ps_15, by decide, _, _, rfl⟩
theorem cbX6_39 : am_CB RX6 39 yX6_splitNotch cX6_splitNotch 4 none 2 := ⟨aw_1_4, aw_2_186, ⟨by decide, by decide⟩, by decide +kernel⟩
theorem cvX6_39 : am_CV RX6 39 yX6_splitNotch cX6_splitNotch 4 none 2 6 := ⟨cbX6_39, aw_2_183, aw_2_185, ps_13, by decide, _, _, rfl⟩
theorem cbX7_28 : am_CB RX7 28 yX7_put cX7_put 2 none 1 := ⟨aw_1_9, aw_3_213, ⟨by decide, by decide⟩, by decide +kernel⟩
theorem cvX7_28 : am_CV RX7 28 yX7_put cX7_put 2 none 1 7 := ⟨cbX7_28, aw_3_210, aw_3_212, ps_27, by decide, _, _, rfl⟩
theorem flX8_48 : am_F RX8 48 8 2 0 := ⟨_, _, _, rfl, by decide, uw_8, aw_1_43, by decide, by decide, by decide⟩
theorem flX8_45 : am_F RX8 45 8 1 0 := ⟨_, _, _, rfl, by decide, uw_8, aw_1_42, by decide, by decide, by decide⟩
theorem fpX8_104 : am_FP RX8 104 8 4 0 .int false := ⟨_, _, _, tyX8, rfl, by decide, uw_8, aw_1_45, by decide, by decide, by decide, tyX8_ok, nmX8, rfl, rfl, rfl, fun h => by cases h⟩
theorem fpX8_80 : am_FP RX8 80 8 5 1 .long false := ⟨_, _, _, tyX8, rfl, by decide, uw_8, aw_1_46, by decide, by decide, by decide, tyX8_ok, nmX8, rfl, rfl, rfl, fun h => by cases h⟩
theorem cbX8_107 : am_CB RX8 107 yX8_tokenBegunBy cX8_tokenBegunBy 1 (some .int) 1 := ⟨aw_1_2, aw_2_91, ⟨by decide, by decide⟩, by decide +kernel⟩
theorem csX8_107 : am_CS RX8 107 yX8_tokenBegunBy cX8_tokenBegunBy 1 (some .int) 1 := ⟨cbX8_107, aw_2_89, aw_2_90⟩
theorem fpX8_57 : am_FP RX8 57 8 3 0 .int false := ⟨_, _, _, tyX8, rfl, by decide, uw_8, aw_1_44, by decide, by decide, by decide, tyX8_ok, nmX8, rfl, rfl, rfl, fun h => by cases h⟩
theorem fpX8_48 : am_FP RX8 48 8 2 0 .int false := ⟨_, _, _, tyX8, rfl, by decide, uw_8, aw_1_43, by decide, by decide, by decide, tyX8_ok, nmX8, rfl, rfl, rfl, fun h => by cases h⟩
theorem cbX9_28 : am_CB RX9 28 yX10_isPerfect cX10_isPerfect 3 (some .boolean) 0 := ⟨aw_1_13, aw_3_154, ⟨by decide, by decide⟩, by decide +kernel⟩
theorem cvX9_28 : am_CV RX9 28 yX10_isPerfect cX10_isPerfect 3 (some .boolean) 0 10 := ⟨cbX9_28, aw_4_144, aw_3_152, aw_3_153, by decide, _, _, rfl⟩
theorem cbX10_54 : am_CB RX10 54 yX11_greatestDivisor cX11_greatestDivisor 6 (some .int) 2 := ⟨aw_1_1, aw_3_99, ⟨by decide, by decide⟩, by decide +kernel⟩
theorem csX10_54 : am_CSN RX10 54 yX11_greatestDivisor cX11_greatestDivisor 6 (some .int) 2 "SquareCuts" := ⟨cbX10_54, an_4_55, aw_3_98⟩
theorem flX10_9 : am_F RX10 9 10 10 0 := ⟨_, _, _, rfl, by decide, uw_10, aw_2_234, by decide, by decide, by decide⟩
theorem cbX10_68 : am_CB RX10 68 yX10_isPart cX10_isPart 10 (some .boolean) 2 := ⟨aw_1_13, aw_3_162, ⟨by decide, by decide⟩, by decide +kernel⟩
theorem cvX10_68 : am_CV RX10 68 yX10_isPart cX10_isPart 10 (some .boolean) 2 10 := ⟨cbX10_68, aw_3_159, aw_3_161, ps_25, by decide, _, _, rfl⟩
theorem cbX10_75 : am_CB RX10 75 yX10_cornersAt cX10_cornersAt 7 (some .int) 2 := ⟨aw_1_13, aw_3_178, ⟨by decide, by decide⟩, by decide +kernel⟩
theorem cvX10_75 : am_CV RX10 75 yX10_cornersAt cX10_cornersAt 7 (some .int) 2 10 := ⟨cbX10_75, aw_3_175, aw_3_177, ps_26, by decide, _, _, rfl⟩
theorem nwX11_9 : am_NW RX11 9 8 13 := ⟨_, _, tyX8, rfl, aw_1_33, aw_1_34, aw_1_2, uw_8, tyX8_ok, by decide, by decide, fun j hj => match j, hj with | 0, _ => rfl | 1, _ => rfl | 2, _ => rfl | 3, _ => rfl | 4, _ => rfl | 5, _ => rfl | 6, _ => rfl | 7, _ => rfl | 8, _ => rfl | 9, _ => rfl | 10, _ => rfl | 11, _ => rfl | 12, _ => rfl | (j + 13), h => absurd h (by omega)⟩
theorem cbX11_11 : am_CB RX11 11 yX8_init cX8_init 1 none 0 := ⟨aw_1_2, aw_1_37, ⟨by decide, by decide⟩, by decide +kernel⟩
theorem ciX11_11 : am_CIN RX11 11 yX8_init cX8_init 1 0 "SquareCuts" := ⟨cbX11_11, an_1_35, aw_1_36, rfl⟩
theorem fpX11_12 : am_FP RX11 12 11 0 2 (.object "SquareCuts$Reader") true := ⟨_, _, _, tyX11, rfl, by decide, uw_11, aw_2_29, by decide, by decide, by decide, tyX11_ok, nmX11, rfl, rfl, rfl, fun _ => rfl⟩
theorem nwX11_18 : am_NW RX11 18 1 2 := ⟨_, _, tyX1, rfl, aw_1_91, aw_1_92, aw_1_3, uw_1, tyX1_ok, by decide, by decide, fun j hj => match j, hj with | 0, _ => rfl | 1, _ => rfl | (j + 2), h => absurd h (by omega)⟩
theorem cbX11_20 : am_CB RX11 20 yX1_init cX1_init 1 none 0 := ⟨aw_1_3, aw_1_95, ⟨by decide, by decide⟩, by decide +kernel⟩
theorem ciX11_20 : am_CIN RX11 20 yX1_init cX1_init 1 0 "SquareCuts" := ⟨cbX11_20, an_1_93, aw_1_94, rfl⟩
theorem fpX11_21 : am_FP RX11 21 11 1 2 (.object "SquareCuts$GroupLayer") true := ⟨_, _, _, tyX11, rfl, by decide, uw_11, aw_2_30, by decide, by decide, by decide, tyX11_ok, nmX11, rfl, rfl, rfl, fun _ => rfl⟩
theorem nwX11_25 : am_NW RX11 25 5 4 := ⟨_, _, tyX5, rfl, aw_1_125, aw_1_126, aw_1_5, uw_5, tyX5_ok, by decide, by decide, fun j hj => match j, hj with | 0, _ => rfl | 1, _ => rfl | 2, _ => rfl | 3, _ => rfl | (j + 4), h => absurd h (by omega)⟩
theorem cbX11_27 : am_CB RX11 27 yX5_init cX5_init 1 none 0 := ⟨aw_1_5, aw_1_129, ⟨by decide, by decide⟩, by decide +kernel⟩
theorem ciX11_27 : am_CIN RX11 27 yX5_init cX5_init 1 0 "SquareCuts" := ⟨cbX11_27, an_1_127, aw_1_128, rfl⟩
theorem fpX11_28 : am_FP RX11 28 11 2 2 (.object "SquareCuts$NetSolver") true := ⟨_, _, _, tyX11, rfl, by decide, uw_11, aw_2_31, by decide, by decide, by decide, tyX11_ok, nmX11, rfl, rfl, rfl, fun _ => rfl⟩
theorem nwX11_32 : am_NW RX11 32 4 5 := ⟨_, _, tyX4, rfl, aw_1_147, aw_1_148, aw_1_6, uw_4, tyX4_ok, by decide, by decide, fun j hj => match j, hj with | 0, _ => rfl | 1, _ => rfl | 2, _ => rfl | 3, _ => rfl | 4, _ => rfl | (j + 5), h => absurd h (by omega)⟩
theorem cbX11_34 : am_CB RX11 34 yX4_init cX4_init 2 none 0 := ⟨aw_1_6, aw_1_151, ⟨by decide, by decide⟩, by decide +kernel⟩
theorem ciX11_34 : am_CI RX11 34 yX4_init cX4_init 2 0 := ⟨cbX11_34, aw_1_149, aw_1_150, rfl⟩
theorem fpX11_35 : am_FP RX11 35 11 3 2 (.object "SquareCuts$NetLayer") true := ⟨_, _, _, tyX11, rfl, by decide, uw_11, aw_2_32, by decide, by decide, by decide, tyX11_ok, nmX11, rfl, rfl, rfl, fun _ => rfl⟩
theorem nwX11_39 : am_NW RX11 39 0 6 := ⟨_, _, tyX0, rfl, aw_1_172, aw_1_173, aw_1_7, uw_0, tyX0_ok, by decide, by decide, fun j hj => match j, hj with | 0, _ => rfl | 1, _ => rfl | 2, _ => rfl | 3, _ => rfl | 4, _ => rfl | 5, _ => rfl | (j + 6), h => absurd h (by omega)⟩
theorem cbX11_41 : am_CB RX11 41 yX0_init cX0_init 1 none 0 := ⟨aw_1_7, aw_1_176, ⟨by decide, by decide⟩, by decide +kernel⟩
theorem ciX11_41 : am_CIN RX11 41 yX0_init cX0_init 1 0 "SquareCuts" := ⟨cbX11_41, an_1_174, aw_1_175, rfl⟩
theorem fpX11_42 : am_FP RX11 42 11 4 2 (.object "SquareCuts$Draft") true := ⟨_, _, _, tyX11, rfl, by decide, uw_11, aw_2_33, by decide, by decide, by decide, tyX11_ok, nmX11, rfl, rfl, rfl, fun _ => rfl⟩
theorem fpX11_46 : am_FP RX11 46 11 5 2 (.object "SquareCuts$Draft") true := ⟨_, _, _, tyX11, rfl, by decide, uw_11, aw_2_34, by decide, by decide, by decide, tyX11_ok, nmX11, rfl, rfl, rfl, fun _ => rfl⟩
theorem nwX11_49 : am_NW RX11 49 2 6 := ⟨_, _, tyX2, rfl, aw_1_204, aw_1_205, aw_1_8, uw_2, tyX2_ok, by decide, by decide, fun j hj => match j, hj with | 0, _ => rfl | 1, _ => rfl | 2, _ => rfl | 3, _ => rfl | 4, _ => rfl | 5, _ => rfl | (j + 6), h => absurd h (by omega)⟩
theorem cbX11_51 : am_CB RX11 51 yX2_init cX2_init 1 none 0 := ⟨aw_1_8, aw_1_208, ⟨by decide, by decide⟩, by decide +kernel⟩
theorem ciX11_51 : am_CIN RX11 51 yX2_init cX2_init 1 0 "SquareCuts" := ⟨cbX11_51, an_1_206, aw_1_207, rfl⟩
theorem fpX11_52 : am_FP RX11 52 11 6 2 (.object "SquareCuts$LineTable") true := ⟨_, _, _, tyX11, rfl, by decide, uw_11, aw_2_35, by decide, by decide, by decide, tyX11_ok, nmX11, rfl, rfl, rfl, fun _ => rfl⟩
theorem nwX11_56 : am_NW RX11 56 7 2 := ⟨_, _, tyX7, rfl, aw_1_234, aw_1_235, aw_1_9, uw_7, tyX7_ok, by decide, by decide, fun j hj => match j, hj with | 0, _ => rfl | 1, _ => rfl | (j + 2), h => absurd h (by omega)⟩
theorem cbX11_58 : am_CB RX11 58 yX7_init cX7_init 1 none 0 := ⟨aw_1_9, aw_1_238, ⟨by decide, by decide⟩, by decide +kernel⟩
theorem ciX11_58 : am_CIN RX11 58 yX7_init cX7_init 1 0 "SquareCuts" := ⟨cbX11_58, an_1_236, aw_1_237, rfl⟩
theorem fpX11_59 : am_FP RX11 59 11 7 2 (.object "SquareCuts$Page") true := ⟨_, _, _, tyX11, rfl, by decide, uw_11, aw_2_36, by decide, by decide, by decide, tyX11_ok, nmX11, rfl, rfl, rfl, fun _ => rfl⟩
theorem nwX11_63 : am_NW RX11 63 9 3 := ⟨_, _, tyX9, rfl, aw_2_9, aw_2_10, aw_1_10, uw_9, tyX9_ok, by decide, by decide, fun j hj => match j, hj with | 0, _ => rfl | 1, _ => rfl | 2, _ => rfl | (j + 3), h => absurd h (by omega)⟩
theorem cbX11_65 : am_CB RX11 65 yX9_init cX9_init 1 none 0 := ⟨aw_1_10, aw_2_13, ⟨by decide, by decide⟩, by decide +kernel⟩
theorem ciX11_65 : am_CIN RX11 65 yX9_init cX9_init 1 0 "SquareCuts" := ⟨cbX11_65, an_2_11, aw_2_12, rfl⟩
theorem fpX11_66 : am_FP RX11 66 11 8 2 (.object "SquareCuts$Shelf") true := ⟨_, _, _, tyX11, rfl, by decide, uw_11, aw_2_37, by decide, by decide, by decide, tyX11_ok, nmX11, rfl, rfl, rfl, fun _ => rfl⟩
theorem fpX11_70 : am_FP RX11 70 11 9 2 (.object "SquareCuts$Shelf") true := ⟨_, _, _, tyX11, rfl, by decide, uw_11, aw_2_38, by decide, by decide, by decide, tyX11_ok, nmX11, rfl, rfl, rfl, fun _ => rfl⟩
theorem fpX11_73 : am_FP RX11 73 11 10 2 (.object "SquareCuts$Shelf") true := ⟨_, _, _, tyX11, rfl, by decide, uw_11, aw_2_39, by decide, by decide, by decide, tyX11_ok, nmX11, rfl, rfl, rfl, fun _ => rfl⟩
theorem flX11_130 : am_F RX11 130 10 5 0 := ⟨_, _, _, rfl, by decide, uw_10, aw_2_216, by decide, by decide, by decide⟩
theorem flX11_133 : am_F RX11 133 10 6 0 := ⟨_, _, _, rfl, by decide, uw_10, aw_2_219, by decide, by decide, by decide⟩
theorem cbX11_136 : am_CB RX11 136 yX10_isPerfect cX10_isPerfect 3 (some .boolean) 0 := ⟨aw_1_13, aw_3_154, ⟨by decide, by decide⟩, by decide +kernel⟩
theorem cvX11_136 : am_CV RX11 136 yX10_isPerfect cX10_isPerfect 3 (some .boolean) 0 10 := ⟨cbX11_136, aw_3_151, aw_3_152, aw_3_153, by decide, _, _, rfl⟩
theorem cbX11_140 : am_CB RX11 140 yX10_parts cX10_parts 4 (some .int) 0 := ⟨aw_1_13, aw_3_158, ⟨by decide, by decide⟩, by decide +kernel⟩
theorem cvX11_140 : am_CV RX11 140 yX10_parts cX10_parts 4 (some .int) 0 10 := ⟨cbX11_140, aw_3_155, aw_3_156, aw_3_157, by decide, _, _, rfl⟩
theorem cbX11_144 : am_CB RX11 144 yX10_crosses cX10_crosses 3 (some .int) 0 := ⟨aw_1_13, aw_3_174, ⟨by decide, by decide⟩, by decide +kernel⟩
theorem cvX11_144 : am_CV RX11 144 yX10_crosses cX10_crosses 3 (some .int) 0 10 := ⟨cbX11_144, aw_3_171, aw_3_172, aw_3_173, by decide, _, _, rfl⟩
theorem cbX11_169 : am_CB RX11 169 yX11_refusalFor cX11_refusalFor 1 (some .int) 1 := ⟨aw_1_1, aw_3_189, ⟨by decide, by decide⟩, by decide +kernel⟩
theorem csX11_169 : am_CS RX11 169 yX11_refusalFor cX11_refusalFor 1 (some .int) 1 := ⟨cbX11_169, aw_3_187, aw_3_188⟩
theorem cbX11_173 : am_CB RX11 173 yX10_firstSmallest cX10_firstSmallest 3 (some .int) 0 := ⟨aw_1_13, aw_3_197, ⟨by decide, by decide⟩, by decide +kernel⟩
theorem cvX11_173 : am_CV RX11 173 yX10_firstSmallest cX10_firstSmallest 3 (some .int) 0 10 := ⟨cbX11_173, aw_3_194, aw_3_195, aw_3_196, by decide, _, _, rfl⟩
theorem cbX11_186 : am_CB RX11 186 yX10_codeGroups cX10_codeGroups 3 (some .int) 0 := ⟨aw_1_13, aw_3_230, ⟨by decide, by decide⟩, by decide +kernel⟩
theorem cvX11_186 : am_CV RX11 186 yX10_codeGroups cX10_codeGroups 3 (some .int) 0 10 := ⟨cbX11_186, aw_3_227, aw_3_228, aw_3_229, by decide, _, _, rfl⟩
theorem cbX11_203 : am_CB RX11 203 yX11_flowingNet cX11_flowingNet 3 (some (.object "SquareCuts$Net")) 1 := ⟨aw_1_1, aw_4_5, ⟨by decide, by decide⟩, by decide +kernel⟩
theorem cvX11_203 : am_CV RX11 203 yX11_flowingNet cX11_flowingNet 3 (some (.object "SquareCuts$Net")) 1 11 := ⟨cbX11_203, aw_4_2, aw_4_4, ps_29, by decide, _, _, rfl⟩
theorem flX11_207 : am_F RX11 207 3 1 0 := ⟨_, _, _, rfl, by decide, uw_3, aw_3_42, by decide, by decide, by decide⟩
theorem flX11_211 : am_F RX11 211 3 3 2 := ⟨_, _, _, rfl, by decide, uw_3, aw_3_49, by decide, by decide, by decide⟩
theorem flX11_214 : am_F RX11 214 3 0 0 := ⟨_, _, _, rfl, by decide, uw_3, aw_3_38, by decide, by decide, by decide⟩
theorem flX11_217 : am_F RX11 217 3 2 2 := ⟨_, _, _, rfl, by decide, uw_3, aw_3_45, by decide, by decide, by decide⟩
theorem cbX11_298 : am_CB RX11 298 yX9_failing cX9_failing 4 (some .int) 0 := ⟨aw_1_10, aw_4_139, ⟨by decide, by decide⟩, by decide +kernel⟩
theorem cvX11_298 : am_CV RX11 298 yX9_failing cX9_failing 4 (some .int) 0 9 := ⟨cbX11_298, aw_4_136, aw_4_137, aw_4_138, by decide, _, _, rfl⟩
theorem cbX11_301 : am_CB RX11 301 yX9_perfectOnes cX9_perfectOnes 4 (some .int) 0 := ⟨aw_1_10, aw_4_143, ⟨by decide, by decide⟩, by decide +kernel⟩
theorem cvX11_301 : am_CV RX11 301 yX9_perfectOnes cX9_perfectOnes 4 (some .int) 0 9 := ⟨cbX11_301, aw_4_140, aw_4_141, aw_4_142, by decide, _, _, rfl⟩
theorem flX11_42 : am_F RX11 42 11 4 2 := ⟨_, _, _, rfl, by decide, uw_11, aw_2_33, by decide, by decide, by decide⟩
theorem cbX11_335 : am_CB RX11 335 yX0_sortAsCode cX0_sortAsCode 6 none 0 := ⟨aw_1_7, aw_4_67, ⟨by decide, by decide⟩, by decide +kernel⟩
theorem cvX11_335 : am_CV RX11 335 yX0_sortAsCode cX0_sortAsCode 6 none 0 0 := ⟨cbX11_335, aw_4_98, aw_4_65, aw_4_66, by decide, _, _, rfl⟩
theorem nwX11_119 : am_NW RX11 119 10 11 := ⟨_, _, tyX10, rfl, aw_2_195, aw_2_196, aw_1_13, uw_10, tyX10_ok, by decide, by decide, fun j hj => match j, hj with | 0, _ => rfl | 1, _ => rfl | 2, _ => rfl | 3, _ => rfl | 4, _ => rfl | 5, _ => rfl | 6, _ => rfl | 7, _ => rfl | 8, _ => rfl | 9, _ => rfl | 10, _ => rfl | (j + 11), h => absurd h (by omega)⟩
theorem cbX11_321 : am_CB RX11 321 yX10_init cX10_init 6 none 4 := ⟨aw_1_13, aw_2_199, ⟨by decide, by decide⟩, by decide +kernel⟩
theorem ciX11_321 : am_CI RX11 321 yX10_init cX10_init 6 4 := ⟨cbX11_321, aw_2_197, aw_2_198, rfl⟩
theorem cbX11_108 : am_CB RX11 108 yX9_put cX9_put 2 none 1 := ⟨aw_1_10, aw_3_142, ⟨by decide, by decide⟩, by decide +kernel⟩
theorem cvX11_108 : am_CV RX11 108 yX9_put cX9_put 2 none 1 9 := ⟨cbX11_108, aw_3_139, aw_3_140, aw_3_141, by decide, _, _, rfl⟩
theorem cbX12_246 : am_CB RX12 246 yX12_adds cX12_adds 10 none 6 := ⟨aw_1_11, aw_6_85, ⟨by decide, by decide⟩, by decide +kernel⟩
theorem cvX12_246 : am_CV RX12 246 yX12_adds cX12_adds 10 none 6 12 := ⟨cbX12_246, aw_6_82, aw_6_84, ps_63, by decide, _, _, rfl⟩
theorem cbX12_252 : am_CB RX12 252 yX12_laysMatrix cX12_laysMatrix 8 (some .int) 3 := ⟨aw_1_11, aw_6_81, ⟨by decide, by decide⟩, by decide +kernel⟩
theorem cvX12_252 : am_CV RX12 252 yX12_laysMatrix cX12_laysMatrix 8 (some .int) 3 12 := ⟨cbX12_252, aw_6_78, aw_6_80, ps_62, by decide, _, _, rfl⟩
theorem cbX12_256 : am_CB RX12 256 yX12_determinant cX12_determinant 11 (some .long) 1 := ⟨aw_1_11, aw_6_90, ⟨by decide, by decide⟩, by decide +kernel⟩
theorem cvX12_256 : am_CV RX12 256 yX12_determinant cX12_determinant 11 (some .long) 1 12 := ⟨cbX12_256, aw_6_87, aw_6_89, ps_64, by decide, _, _, rfl⟩
theorem cbX12_282 : am_CB RX12 282 yX12_flows cX12_flows 5 none 1 := ⟨aw_1_11, aw_6_77, ⟨by decide, by decide⟩, by decide +kernel⟩
theorem cvX12_282 : am_CV RX12 282 yX12_flows cX12_flows 5 none 1 12 := ⟨cbX12_282, aw_6_74, aw_6_76, ps_61, by decide, _, _, rfl⟩
theorem fpX12_264 : am_FP RX12 264 12 38 0 .int false := ⟨_, _, _, tyX12, rfl, by decide, uw_12, aw_5_33, by decide, by decide, by decide, tyX12_ok, nmX12, rfl, rfl, rfl, fun h => by cases h⟩
theorem fpX12_288 : am_FP RX12 288 12 40 0 .int false := ⟨_, _, _, tyX12, rfl, by decide, uw_12, aw_5_35, by decide, by decide, by decide, tyX12_ok, nmX12, rfl, rfl, rfl, fun h => by cases h⟩
theorem flX12_17 : am_F RX12 17 12 13 2 := ⟨_, _, _, rfl, by decide, uw_12, aw_5_8, by decide, by decide, by decide⟩
theorem flX12_24 : am_F RX12 24 12 15 2 := ⟨_, _, _, rfl, by decide, uw_12, aw_5_10, by decide, by decide, by decide⟩
theorem cbX12_294 : am_CB RX12 294 yX12_nets cX12_nets 3 none 1 := ⟨aw_1_11, aw_6_73, ⟨by decide, by decide⟩, by decide +kernel⟩
theorem cvX12_294 : am_CV RX12 294 yX12_nets cX12_nets 3 none 1 12 := ⟨cbX12_294, aw_6_70, aw_6_72, ps_60, by decide, _, _, rfl⟩
theorem cbX12_291 : am_CB RX12 291 yX12_draws cX12_draws 5 none 1 := ⟨aw_1_11, aw_6_33, ⟨by decide, by decide⟩, by decide +kernel⟩
theorem cvX12_291 : am_CV RX12 291 yX12_draws cX12_draws 5 none 1 12 := ⟨cbX12_291, aw_6_30, aw_6_32, ps_50, by decide, _, _, rfl⟩
theorem cbJ0_335 : am_CB RJ0 335 yJ0_coder_7d493 cJ0_coder_7d493 1 (some .byte) 0 := ⟨aw_1_17, aw_5_194, ⟨by decide, by decide⟩, by decide +kernel⟩
theorem cvJ0_335 : am_CT RJ0 335 yJ0_coder_7d493 cJ0_coder_7d493 1 (some .byte) 0 := ⟨cbJ0_335, aw_5_191, aw_5_192, aw_5_193, rfl⟩
theorem cbJ0_1059 : am_CB RJ0 1059 yJ3_checkIndex_8e157 cJ3_checkIndex_8e157 3 (some .int) 3 := ⟨aw_1_19, aw_5_215, ⟨by decide, by decide⟩, by decide +kernel⟩
theorem csJ0_1059 : am_CS RJ0 1059 yJ3_checkIndex_8e157 cJ3_checkIndex_8e157 3 (some .int) 3 := ⟨cbJ0_1059, aw_5_213, aw_5_214⟩
theorem cbJ1_9 : am_CB RJ1 9 yJ0_checkIndex_df160 cJ0_checkIndex_df160 2 none 2 := ⟨aw_1_17, aw_5_210, ⟨by decide, by decide⟩, by decide +kernel⟩
theorem csJ1_9 : am_CS RJ1 9 yJ0_checkIndex_df160 cJ0_checkIndex_df160 2 none 2 := ⟨cbJ1_9, aw_5_208, aw_5_209⟩
theorem flX0_42 : am_F RX0 42 10 5 0 := ⟨_, _, _, rfl, by decide, uw_10, aw_2_217, by decide, by decide, by decide⟩
theorem flX0_41 : am_F RX0 41 10 6 0 := ⟨_, _, _, rfl, by decide, uw_10, aw_2_220, by decide, by decide, by decide⟩
theorem cbX0_43 : am_CB RX0 43 yX0_begin cX0_begin 3 none 2 := ⟨aw_1_7, aw_2_153, ⟨by decide, by decide⟩, by decide +kernel⟩
theorem cvX0_43 : am_CV RX0 43 yX0_begin cX0_begin 3 none 2 0 := ⟨cbX0_43, aw_4_60, aw_2_151, aw_2_152, by decide, _, _, rfl⟩
theorem cbX0_54 : am_CB RX0 54 yX0_sortAsCode cX0_sortAsCode 6 none 0 := ⟨aw_1_7, aw_4_67, ⟨by decide, by decide⟩, by decide +kernel⟩
theorem cvX0_54 : am_CV RX0 54 yX0_sortAsCode cX0_sortAsCode 6 none 0 0 := ⟨cbX0_54, aw_4_64, aw_4_65, aw_4_66, by decide, _, _, rfl⟩
theorem cbX0_47 : am_CB RX0 47 yX10_right cX10_right 2 (some .int) 1 := ⟨aw_1_13, aw_3_166, ⟨by decide, by decide⟩, by decide +kernel⟩
theorem cvX0_47 : am_CV RX0 47 yX10_right cX10_right 2 (some .int) 1 10 := ⟨cbX0_47, aw_4_61, aw_3_164, aw_3_165, by decide, _, _, rfl⟩
theorem cbX0_51 : am_CB RX0 51 yX10_bottom cX10_bottom 2 (some .int) 1 := ⟨aw_1_13, aw_3_170, ⟨by decide, by decide⟩, by decide +kernel⟩
theorem cvX0_51 : am_CV RX0 51 yX10_bottom cX10_bottom 2 (some .int) 1 10 := ⟨cbX0_51, aw_4_62, aw_3_168, aw_3_169, by decide, _, _, rfl⟩
theorem flX1_14 : am_F RX1 14 1 0 2 := ⟨_, _, _, rfl, by decide, uw_1, aw_1_117, by decide, by decide, by decide⟩
theorem cbX1_54 : am_CB RX1 54 yX6_notchLeft cX6_notchLeft 1 (some .int) 0 := ⟨aw_1_4, aw_2_165, ⟨by decide, by decide⟩, by decide +kernel⟩
theorem cvX1_54 : am_CV RX1 54 yX6_notchLeft cX6_notchLeft 1 (some .int) 0 6 := ⟨cbX1_54, aw_2_170, aw_2_163, aw_2_164, by decide, _, _, rfl⟩
theorem cbX1_45 : am_CB RX1 45 yX6_notchDepth cX6_notchDepth 1 (some .int) 0 := ⟨aw_1_4, aw_2_174, ⟨by decide, by decide⟩, by decide +kernel⟩
theorem cvX1_45 : am_CV RX1 45 yX6_notchDepth cX6_notchDepth 1 (some .int) 0 6 := ⟨cbX1_45, aw_2_171, aw_2_172, aw_2_173, by decide, _, _, rfl⟩
theorem cbX1_57 : am_CB RX1 57 yX0_add cX0_add 4 none 3 := ⟨aw_1_7, aw_2_178, ⟨by decide, by decide⟩, by decide +kernel⟩
theorem cvX1_57 : am_CV RX1 57 yX0_add cX0_add 4 none 3 0 := ⟨cbX1_57, aw_2_175, aw_2_176, aw_2_177, by decide, _, _, rfl⟩
theorem cbX1_61 : am_CB RX1 61 yX6_lay cX6_lay 3 none 1 := ⟨aw_1_4, aw_2_182, ⟨by decide, by decide⟩, by decide +kernel⟩
theorem cvX1_61 : am_CV RX1 61 yX6_lay cX6_lay 3 none 1 6 := ⟨cbX1_61, aw_2_179, aw_2_180, aw_2_181, by decide, _, _, rfl⟩
theorem fpX1_20 : am_FP RX1 20 1 1 0 .int false := ⟨_, _, _, tyX1, rfl, by decide, uw_1, aw_1_118, by decide, by decide, by decide, tyX1_ok, nmX1, rfl, rfl, rfl, fun h => by cases h⟩
theorem flX2_24 : am_F RX2 24 2 5 2 := ⟨_, _, _, rfl, by decide, uw_2, aw_1_220, by decide, by decide, by decide⟩
theorem fpX2_24 : am_FP RX2 24 2 5 2 (.object "SquareCuts$Tiling") false := ⟨_, _, _, tyX2, rfl, by decide, uw_2, aw_1_220, by decide, by decide, by decide, tyX2_ok, nmX2, rfl, rfl, rfl, fun h => by cases h⟩
theorem flX2_32 : am_F RX2 32 10 4 0 := ⟨_, _, _, rfl, by decide, uw_10, aw_2_212, by decide, by decide, by decide⟩
theorem flX2_37 : am_F RX2 37 10 8 2 := ⟨_, _, _, rfl, by decide, uw_10, aw_2_226, by decide, by decide, by decide⟩
theorem flX2_40 : am_F RX2 40 10 7 2 := ⟨_, _, _, rfl, by decide, uw_10, aw_2_222, by decide, by decide, by decide⟩
theorem cbX2_41 : am_CB RX2 41 yX10_right cX10_right 2 (some .int) 1 := ⟨aw_1_13, aw_3_166, ⟨by decide, by decide⟩, by decide +kernel⟩
theorem cvX2_41 : am_CV RX2 41 yX10_right cX10_right 2 (some .int) 1 10 := ⟨cbX2_41, aw_4_23, aw_3_164, aw_3_165, by decide, _, _, rfl⟩
theorem flX2_44 : am_F RX2 44 10 9 2 := ⟨_, _, _, rfl, by decide, uw_10, aw_2_230, by decide, by decide, by decide⟩
theorem cbX2_47 : am_CB RX2 47 yX2_insertSide cX2_insertSide 6 none 4 := ⟨aw_1_8, aw_4_27, ⟨by decide, by decide⟩, by decide +kernel⟩
theorem cvX2_47 : am_CV RX2 47 yX2_insertSide cX2_insertSide 6 none 4 2 := ⟨cbX2_47, aw_4_24, aw_4_26, ps_30, by decide, _, _, rfl⟩
theorem cbX2_54 : am_CB RX2 54 yX2_mergeSides cX2_mergeSides 3 none 0 := ⟨aw_1_8, aw_4_36, ⟨by decide, by decide⟩, by decide +kernel⟩
theorem cvX2_54 : am_CV RX2 54 yX2_mergeSides cX2_mergeSides 3 none 0 2 := ⟨cbX2_54, aw_4_33, aw_4_35, ps_32, by decide, _, _, rfl⟩
theorem cbX2_51 : am_CB RX2 51 yX10_bottom cX10_bottom 2 (some .int) 1 := ⟨aw_1_13, aw_3_170, ⟨by decide, by decide⟩, by decide +kernel⟩
theorem cvX2_51 : am_CV RX2 51 yX10_bottom cX10_bottom 2 (some .int) 1 10 := ⟨cbX2_51, aw_4_32, aw_3_168, aw_3_169, by decide, _, _, rfl⟩
theorem cbX4_85 : am_CB RX4 85 yX6_copyFrom cX6_copyFrom 2 none 1 := ⟨aw_1_4, aw_3_126, ⟨by decide, by decide⟩, by decide +kernel⟩
theorem cvX4_85 : am_CV RX4 85 yX6_copyFrom cX6_copyFrom 2 none 1 6 := ⟨cbX4_85, aw_3_123, aw_3_124, aw_3_125, by decide, _, _, rfl⟩
theorem cbX4_89 : am_CB RX4 89 yX6_lay cX6_lay 3 none 1 := ⟨aw_1_4, aw_2_182, ⟨by decide, by decide⟩, by decide +kernel⟩
theorem cvX4_89 : am_CV RX4 89 yX6_lay cX6_lay 3 none 1 6 := ⟨cbX4_89, aw_3_131, aw_2_180, aw_2_181, by decide, _, _, rfl⟩
theorem nwX5_35 : am_NW RX5 35 3 8 := ⟨_, _, tyX3, rfl, aw_3_30, aw_3_31, aw_1_14, uw_3, tyX3_ok, by decide, by decide, fun j hj => match j, hj with | 0, _ => rfl | 1, _ => rfl | 2, _ => rfl | 3, _ => rfl | 4, _ => rfl | 5, _ => rfl | 6, _ => rfl | 7, _ => rfl | (j + 8), h => absurd h (by omega)⟩
theorem cbX5_37 : am_CB RX5 37 yX3_init cX3_init 3 none 2 := ⟨aw_1_14, aw_3_34, ⟨by decide, by decide⟩, by decide +kernel⟩
theorem ciX5_37 : am_CI RX5 37 yX3_init cX3_init 3 2 := ⟨cbX5_37, aw_3_32, aw_3_33, rfl⟩
theorem cbX5_40 : am_CB RX5 40 yX5_fillMatrix cX5_fillMatrix 6 none 2 := ⟨aw_1_5, aw_3_78, ⟨by decide, by decide⟩, by decide +kernel⟩
theorem cvX5_40 : am_CV RX5 40 yX5_fillMatrix cX5_fillMatrix 6 none 2 5 := ⟨cbX5_40, aw_3_75, aw_3_77, ps_17, by decide, _, _, rfl⟩
theorem cbX5_43 : am_CB RX5 43 yX5_eliminate cX5_eliminate 8 (some .long) 1 := ⟨aw_1_5, aw_3_85, ⟨by decide, by decide⟩, by decide +kernel⟩
theorem cvX5_43 : am_CV RX5 43 yX5_eliminate cX5_eliminate 8 (some .long) 1 5 := ⟨cbX5_43, aw_3_82, aw_3_84, ps_18, by decide, _, _, rfl⟩
theorem fpX5_47 : am_FP RX5 47 3 4 1 .long false := ⟨_, _, _, tyX3, rfl, by decide, uw_3, aw_3_50, by decide, by decide, by decide, tyX3_ok, nmX3, rfl, rfl, rfl, fun h => by cases h⟩
theorem cbX5_51 : am_CB RX5 51 yX5_setFlow cX5_setFlow 5 none 1 := ⟨aw_1_5, aw_3_93, ⟨by decide, by decide⟩, by decide +kernel⟩
theorem cvX5_51 : am_CV RX5 51 yX5_setFlow cX5_setFlow 5 none 1 5 := ⟨cbX5_51, aw_3_90, aw_3_92, ps_20, by decide, _, _, rfl⟩
theorem flX7_19 : am_F RX7 19 10 4 0 := ⟨_, _, _, rfl, by decide, uw_10, aw_2_211, by decide, by decide, by decide⟩
theorem cbX7_24 : am_CB RX7 24 yX10_startsGroup cX10_startsGroup 2 (some .boolean) 1 := ⟨aw_1_13, aw_3_209, ⟨by decide, by decide⟩, by decide +kernel⟩
theorem cvX7_24 : am_CV RX7 24 yX10_startsGroup cX10_startsGroup 2 (some .boolean) 1 10 := ⟨cbX7_24, aw_3_206, aw_3_207, aw_3_208, by decide, _, _, rfl⟩
theorem flX7_32 : am_F RX7 32 10 9 2 := ⟨_, _, _, rfl, by decide, uw_10, aw_2_231, by decide, by decide, by decide⟩
theorem cbX7_36 : am_CB RX7 36 yX7_putNumber cX7_putNumber 3 none 1 := ⟨aw_1_9, aw_3_217, ⟨by decide, by decide⟩, by decide +kernel⟩
theorem cvX7_36 : am_CV RX7 36 yX7_putNumber cX7_putNumber 3 none 1 7 := ⟨cbX7_36, aw_3_214, aw_3_216, ps_28, by decide, _, _, rfl⟩
theorem cbX8_54 : am_CB RX8 54 yX8_nextToken cX8_nextToken 1 none 0 := ⟨aw_1_2, aw_2_88, ⟨by decide, by decide⟩, by decide +kernel⟩
theorem cvX8_54 : am_CV RX8 54 yX8_nextToken cX8_nextToken 1 none 0 8 := ⟨cbX8_54, aw_2_85, aw_2_87, ps_0, by decide, _, _, rfl⟩
theorem cbX8_72 : am_CB RX8 72 yX8_faultOf cX8_faultOf 2 (some .int) 1 := ⟨aw_1_2, aw_2_107, ⟨by decide, by decide⟩, by decide +kernel⟩
theorem cvX8_72 : am_CV RX8 72 yX8_faultOf cX8_faultOf 2 (some .int) 1 8 := ⟨cbX8_72, aw_2_104, aw_2_106, ps_3, by decide, _, _, rfl⟩
theorem flX8_32 : am_F RX8 32 8 12 2 := ⟨_, _, _, rfl, by decide, uw_8, aw_1_58, by decide, by decide, by decide⟩
theorem cbX8_93 : am_CB RX8 93 yX8_holdValue cX8_holdValue 2 none 0 := ⟨aw_1_2, aw_2_123, ⟨by decide, by decide⟩, by decide +kernel⟩
theorem cvX8_93 : am_CV RX8 93 yX8_holdValue cX8_holdValue 2 none 0 8 := ⟨cbX8_93, aw_2_120, aw_2_122, ps_7, by decide, _, _, rfl⟩
theorem cbX11_176 : am_CB RX11 176 yX7_write cX7_write 3 none 1 := ⟨aw_1_9, aw_3_205, ⟨by decide, by decide⟩, by decide +kernel⟩
theorem cvX11_176 : am_CV RX11 176 yX7_write cX7_write 3 none 1 7 := ⟨cbX11_176, aw_3_202, aw_3_203, aw_3_204, by decide, _, _, rfl⟩
theorem flX11_52 : am_F RX11 52 11 6 2 := ⟨_, _, _, rfl, by decide, uw_11, aw_2_35, by decide, by decide, by decide⟩
theorem cbX11_223 : am_CB RX11 223 yX2_build cX2_build 3 none 1 := ⟨aw_1_8, aw_4_22, ⟨by decide, by decide⟩, by decide +kernel⟩
theorem cvX11_223 : am_CV RX11 223 yX2_build cX2_build 3 none 1 2 := ⟨cbX11_223, aw_4_19, aw_4_20, aw_4_21, by decide, _, _, rfl⟩
theorem flX11_226 : am_F RX11 226 2 4 0 := ⟨_, _, _, rfl, by decide, uw_2, aw_1_219, by decide, by decide, by decide⟩
theorem flX11_233 : am_F RX11 233 2 0 2 := ⟨_, _, _, rfl, by decide, uw_2, aw_1_211, by decide, by decide, by decide⟩
theorem flX11_236 : am_F RX11 236 2 1 2 := ⟨_, _, _, rfl, by decide, uw_2, aw_1_213, by decide, by decide, by decide⟩
theorem flX11_237 : am_F RX11 237 2 2 2 := ⟨_, _, _, rfl, by decide, uw_2, aw_1_215, by decide, by decide, by decide⟩
theorem flX11_240 : am_F RX11 240 2 3 2 := ⟨_, _, _, rfl, by decide, uw_2, aw_1_217, by decide, by decide, by decide⟩
theorem cbX11_245 : am_CB RX11 245 yX10_bottom cX10_bottom 2 (some .int) 1 := ⟨aw_1_13, aw_3_170, ⟨by decide, by decide⟩, by decide +kernel⟩
theorem cvX11_245 : am_CV RX11 245 yX10_bottom cX10_bottom 2 (some .int) 1 10 := ⟨cbX11_245, aw_4_42, aw_3_168, aw_3_169, by decide, _, _, rfl⟩
theorem cbX11_248 : am_CB RX11 248 yX2_rowOf cX2_rowOf 4 (some .int) 2 := ⟨aw_1_8, aw_4_46, ⟨by decide, by decide⟩, by decide +kernel⟩
theorem cvX11_248 : am_CV RX11 248 yX2_rowOf cX2_rowOf 4 (some .int) 2 2 := ⟨cbX11_248, aw_4_43, aw_4_44, aw_4_45, by decide, _, _, rfl⟩
theorem cbX11_252 : am_CB RX11 252 yX10_commonDivisor cX10_commonDivisor 3 (some .int) 0 := ⟨aw_1_13, aw_4_54, ⟨by decide, by decide⟩, by decide +kernel⟩
theorem cvX11_252 : am_CV RX11 252 yX10_commonDivisor cX10_commonDivisor 3 (some .int) 0 10 := ⟨cbX11_252, aw_4_51, aw_4_52, aw_4_53, by decide, _, _, rfl⟩
theorem cbX11_255 : am_CB RX11 255 yX0_takeTurned cX0_takeTurned 14 none 3 := ⟨aw_1_7, aw_4_59, ⟨by decide, by decide⟩, by decide +kernel⟩
theorem cvX11_255 : am_CV RX11 255 yX0_takeTurned cX0_takeTurned 14 none 3 0 := ⟨cbX11_255, aw_4_56, aw_4_57, aw_4_58, by decide, _, _, rfl⟩
theorem flX11_46 : am_F RX11 46 11 5 2 := ⟨_, _, _, rfl, by decide, uw_11, aw_2_34, by decide, by decide, by decide⟩
theorem cbX11_259 : am_CB RX11 259 yX0_equalTo cX0_equalTo 3 (some .boolean) 1 := ⟨aw_1_7, aw_4_75, ⟨by decide, by decide⟩, by decide +kernel⟩
theorem cvX11_259 : am_CV RX11 259 yX0_equalTo cX0_equalTo 3 (some .boolean) 1 0 := ⟨cbX11_259, aw_4_72, aw_4_73, aw_4_74, by decide, _, _, rfl⟩
theorem cbX11_263 : am_CB RX11 263 yX11_usable cX11_usable 3 (some (.object "SquareCuts$Tiling")) 1 := ⟨aw_1_1, aw_4_83, ⟨by decide, by decide⟩, by decide +kernel⟩
theorem cvX11_263 : am_CV RX11 263 yX11_usable cX11_usable 3 (some (.object "SquareCuts$Tiling")) 1 11 := ⟨cbX11_263, aw_4_80, aw_4_82, ps_34, by decide, _, _, rfl⟩
theorem cbX11_266 : am_CB RX11 266 yX11_greatestDivisor cX11_greatestDivisor 6 (some .int) 2 := ⟨aw_1_1, aw_3_99, ⟨by decide, by decide⟩, by decide +kernel⟩
theorem csX11_266 : am_CS RX11 266 yX11_greatestDivisor cX11_greatestDivisor 6 (some .int) 2 := ⟨cbX11_266, aw_4_84, aw_3_98⟩
theorem cbX11_269 : am_CB RX11 269 yX11_isTooLarge cX11_isTooLarge 4 (some .boolean) 2 := ⟨aw_1_1, aw_4_87, ⟨by decide, by decide⟩, by decide +kernel⟩
theorem csX11_269 : am_CS RX11 269 yX11_isTooLarge cX11_isTooLarge 4 (some .boolean) 2 := ⟨cbX11_269, aw_4_85, aw_4_86⟩
theorem cbX11_273 : am_CB RX11 273 yX0_begin cX0_begin 3 none 2 := ⟨aw_1_7, aw_2_153, ⟨by decide, by decide⟩, by decide +kernel⟩
theorem cvX11_273 : am_CV RX11 273 yX0_begin cX0_begin 3 none 2 0 := ⟨cbX11_273, aw_4_89, aw_2_151, aw_2_152, by decide, _, _, rfl⟩
theorem cbX11_277 : am_CB RX11 277 yX0_addTimes cX0_addTimes 6 none 4 := ⟨aw_1_7, aw_4_93, ⟨by decide, by decide⟩, by decide +kernel⟩
theorem cvX11_277 : am_CV RX11 277 yX0_addTimes cX0_addTimes 6 none 4 0 := ⟨cbX11_277, aw_4_90, aw_4_91, aw_4_92, by decide, _, _, rfl⟩
theorem cbX11_281 : am_CB RX11 281 yX11_putMade cX11_putMade 1 (some .int) 0 := ⟨aw_1_1, aw_4_97, ⟨by decide, by decide⟩, by decide +kernel⟩
theorem cvX11_281 : am_CV RX11 281 yX11_putMade cX11_putMade 1 (some .int) 0 11 := ⟨cbX11_281, aw_4_94, aw_4_96, ps_35, by decide, _, _, rfl⟩
theorem cbX11_284 : am_CB RX11 284 yX0_add cX0_add 4 none 3 := ⟨aw_1_7, aw_2_178, ⟨by decide, by decide⟩, by decide +kernel⟩
theorem cvX11_284 : am_CV RX11 284 yX0_add cX0_add 4 none 3 0 := ⟨cbX11_284, aw_4_103, aw_2_176, aw_2_177, by decide, _, _, rfl⟩
theorem cbJ0_492 : am_CB RJ0 492 yJ0_isLatin1_aae02 cJ0_isLatin1_aae02 1 (some .boolean) 0 := ⟨aw_1_17, aw_5_204, ⟨by decide, by decide⟩, by decide +kernel⟩
theorem cvJ0_492 : am_CT RJ0 492 yJ0_isLatin1_aae02 cJ0_isLatin1_aae02 1 (some .boolean) 0 := ⟨cbJ0_492, aw_5_201, aw_5_202, aw_5_203, rfl⟩
theorem cbJ0_495 : am_CB RJ0 495 yJ1_charAt_3b067 cJ1_charAt_3b067 2 (some .char) 2 := ⟨aw_1_18, aw_5_207, ⟨by decide, by decide⟩, by decide +kernel⟩
theorem csJ0_495 : am_CS RJ0 495 yJ1_charAt_3b067 cJ1_charAt_3b067 2 (some .char) 2 := ⟨cbJ0_495, aw_5_205, aw_5_206⟩
theorem cbX1_24 : am_CB RX1 24 yX1_groupSum cX1_groupSum 6 (some .int) 3 := ⟨aw_1_3, aw_2_149, ⟨by decide, by decide⟩, by decide +kernel⟩
theorem cvX1_24 : am_CV RX1 24 yX1_groupSum cX1_groupSum 6 (some .int) 3 1 := ⟨cbX1_24, aw_2_146, aw_2_148, ps_11, by decide, _, _, rfl⟩
theorem cbX1_28 : am_CB RX1 28 yX0_begin cX0_begin 3 none 2 := ⟨aw_1_7, aw_2_153, ⟨by decide, by decide⟩, by decide +kernel⟩
theorem cvX1_28 : am_CV RX1 28 yX0_begin cX0_begin 3 none 2 0 := ⟨cbX1_28, aw_2_150, aw_2_151, aw_2_152, by decide, _, _, rfl⟩
theorem cbX1_34 : am_CB RX1 34 yX6_open cX6_open 2 none 1 := ⟨aw_1_4, aw_2_157, ⟨by decide, by decide⟩, by decide +kernel⟩
theorem cvX1_34 : am_CV RX1 34 yX6_open cX6_open 2 none 1 6 := ⟨cbX1_34, aw_2_154, aw_2_155, aw_2_156, by decide, _, _, rfl⟩
theorem cbX1_37 : am_CB RX1 37 yX6_notchWidth cX6_notchWidth 1 (some .int) 0 := ⟨aw_1_4, aw_2_161, ⟨by decide, by decide⟩, by decide +kernel⟩
theorem cvX1_37 : am_CV RX1 37 yX6_notchWidth cX6_notchWidth 1 (some .int) 0 6 := ⟨cbX1_37, aw_2_158, aw_2_159, aw_2_160, by decide, _, _, rfl⟩
theorem cbX1_41 : am_CB RX1 41 yX1_layGroup cX1_layGroup 7 none 4 := ⟨aw_1_3, aw_2_169, ⟨by decide, by decide⟩, by decide +kernel⟩
theorem cvX1_41 : am_CV RX1 41 yX1_layGroup cX1_layGroup 7 none 4 1 := ⟨cbX1_41, aw_2_166, aw_2_168, ps_12, by decide, _, _, rfl⟩
theorem fpX1_48 : am_FP RX1 48 0 5 0 .int false := ⟨_, _, _, tyX0, rfl, by decide, uw_0, aw_1_190, by decide, by decide, by decide, tyX0_ok, nmX0, rfl, rfl, rfl, fun h => by cases h⟩
theorem flX1_51 : am_F RX1 51 6 3 0 := ⟨_, _, _, rfl, by decide, uw_6, aw_1_107, by decide, by decide, by decide⟩
theorem cbX4_31 : am_CB RX4 31 yX4_takeSizes cX4_takeSizes 3 none 1 := ⟨aw_1_6, aw_3_109, ⟨by decide, by decide⟩, by decide +kernel⟩
theorem cvX4_31 : am_CV RX4 31 yX4_takeSizes cX4_takeSizes 3 none 1 4 := ⟨cbX4_31, aw_3_106, aw_3_108, ps_21, by decide, _, _, rfl⟩
theorem cbX4_41 : am_CB RX4 41 yX6_open cX6_open 2 none 1 := ⟨aw_1_4, aw_2_157, ⟨by decide, by decide⟩, by decide +kernel⟩
theorem cvX4_41 : am_CV RX4 41 yX6_open cX6_open 2 none 1 6 := ⟨cbX4_41, aw_3_111, aw_2_155, aw_2_156, by decide, _, _, rfl⟩
theorem cbX4_48 : am_CB RX4 48 yX4_nextFitting cX4_nextFitting 9 (some .int) 4 := ⟨aw_1_6, aw_3_116, ⟨by decide, by decide⟩, by decide +kernel⟩
theorem cvX4_48 : am_CV RX4 48 yX4_nextFitting cX4_nextFitting 9 (some .int) 4 4 := ⟨cbX4_48, aw_3_113, aw_3_115, ps_22, by decide, _, _, rfl⟩
theorem flX4_52 : am_F RX4 52 3 7 0 := ⟨_, _, _, rfl, by decide, uw_3, aw_3_56, by decide, by decide, by decide⟩
theorem fpX4_52 : am_FP RX4 52 3 7 0 .int false := ⟨_, _, _, tyX3, rfl, by decide, uw_3, aw_3_56, by decide, by decide, by decide, tyX3_ok, nmX3, rfl, rfl, rfl, fun h => by cases h⟩
theorem cbX4_55 : am_CB RX4 55 yX4_layWire cX4_layWire 3 none 2 := ⟨aw_1_6, aw_3_122, ⟨by decide, by decide⟩, by decide +kernel⟩
theorem cvX4_55 : am_CV RX4 55 yX4_layWire cX4_layWire 3 none 2 4 := ⟨cbX4_55, aw_3_119, aw_3_121, ps_23, by decide, _, _, rfl⟩
theorem cbX4_59 : am_CB RX4 59 yX4_fillDraft cX4_fillDraft 4 none 2 := ⟨aw_1_6, aw_3_135, ⟨by decide, by decide⟩, by decide +kernel⟩
theorem cvX4_59 : am_CV RX4 59 yX4_fillDraft cX4_fillDraft 4 none 2 4 := ⟨cbX4_59, aw_3_132, aw_3_134, ps_24, by decide, _, _, rfl⟩
theorem cbX8_90 : am_CB RX8 90 yX8_readGroup cX8_readGroup 3 (some .int) 1 := ⟨aw_1_2, aw_2_119, ⟨by decide, by decide⟩, by decide +kernel⟩
theorem cvX8_90 : am_CV RX8 90 yX8_readGroup cX8_readGroup 3 (some .int) 1 8 := ⟨cbX8_90, aw_2_116, aw_2_118, ps_6, by decide, _, _, rfl⟩
theorem cbX8_100 : am_CB RX8 100 yX8_readWire cX8_readWire 6 (some .int) 2 := ⟨aw_1_2, aw_2_133, ⟨by decide, by decide⟩, by decide +kernel⟩
theorem cvX8_100 : am_CV RX8 100 yX8_readWire cX8_readWire 6 (some .int) 2 8 := ⟨cbX8_100, aw_2_130, aw_2_132, ps_9, by decide, _, _, rfl⟩
theorem flX11_21 : am_F RX11 21 11 1 2 := ⟨_, _, _, rfl, by decide, uw_11, aw_2_30, by decide, by decide, by decide⟩
theorem flX11_304 : am_F RX11 304 8 11 2 := ⟨_, _, _, rfl, by decide, uw_8, aw_1_57, by decide, by decide, by decide⟩
theorem flX11_308 : am_F RX11 308 8 12 2 := ⟨_, _, _, rfl, by decide, uw_8, aw_1_59, by decide, by decide, by decide⟩
theorem flX11_311 : am_F RX11 311 8 10 2 := ⟨_, _, _, rfl, by decide, uw_8, aw_1_55, by decide, by decide, by decide⟩
theorem cbX11_314 : am_CB RX11 314 yX1_layGroups cX1_layGroups 7 (some .boolean) 4 := ⟨aw_1_3, aw_2_145, ⟨by decide, by decide⟩, by decide +kernel⟩
theorem cvX11_314 : am_CV RX11 314 yX1_layGroups cX1_layGroups 7 (some .boolean) 4 1 := ⟨cbX11_314, aw_2_142, aw_2_143, aw_2_144, by decide, _, _, rfl⟩
theorem flX11_318 : am_F RX11 318 1 1 0 := ⟨_, _, _, rfl, by decide, uw_1, aw_1_119, by decide, by decide, by decide⟩
theorem flX11_28 : am_F RX11 28 11 2 2 := ⟨_, _, _, rfl, by decide, uw_11, aw_2_31, by decide, by decide, by decide⟩
theorem cbX11_324 : am_CB RX11 324 yX5_solve cX5_solve 6 (some (.object "SquareCuts$Net")) 2 := ⟨aw_1_5, aw_3_25, ⟨by decide, by decide⟩, by decide +kernel⟩
theorem cvX11_324 : am_CV RX11 324 yX5_solve cX5_solve 6 (some (.object "SquareCuts$Net")) 2 5 := ⟨cbX11_324, aw_3_22, aw_3_23, aw_3_24, by decide, _, _, rfl⟩
theorem flX11_35 : am_F RX11 35 11 3 2 := ⟨_, _, _, rfl, by decide, uw_11, aw_2_32, by decide, by decide, by decide⟩
theorem flX11_328 : am_F RX11 328 5 3 2 := ⟨_, _, _, rfl, by decide, uw_5, aw_1_137, by decide, by decide, by decide⟩
theorem cbX11_331 : am_CB RX11 331 yX4_search cX4_search 8 (some .boolean) 3 := ⟨aw_1_6, aw_3_105, ⟨by decide, by decide⟩, by decide +kernel⟩
theorem cvX11_331 : am_CV RX11 331 yX4_search cX4_search 8 (some .boolean) 3 4 := ⟨cbX11_331, aw_3_102, aw_3_103, aw_3_104, by decide, _, _, rfl⟩
theorem cbX12_157 : am_CB RX12 157 yJ0_length_8abf5 cJ0_length_8abf5 1 (some .int) 0 := ⟨aw_1_17, aw_5_190, ⟨by decide, by decide⟩, by decide +kernel⟩
theorem cvX12_157 : am_CT RX12 157 yJ0_length_8abf5 cJ0_length_8abf5 1 (some .int) 0 := ⟨cbX12_157, aw_5_187, aw_5_188, aw_5_189, rfl⟩
theorem cbX12_163 : am_CB RX12 163 yJ0_charAt_5068e cJ0_charAt_5068e 2 (some .char) 1 := ⟨aw_1_17, aw_5_200, ⟨by decide, by decide⟩, by decide +kernel⟩
theorem cvX12_163 : am_CT RX12 163 yJ0_charAt_5068e cJ0_charAt_5068e 2 (some .char) 1 := ⟨cbX12_163, aw_5_197, aw_5_198, aw_5_199, rfl⟩
theorem cbX12_167 : am_CB RX12 167 yX12_spelled cX12_spelled 4 (some .long) 1 := ⟨aw_1_11, aw_5_186, ⟨by decide, by decide⟩, by decide +kernel⟩
theorem csX12_167 : am_CS RX12 167 yX12_spelled cX12_spelled 4 (some .long) 1 := ⟨cbX12_167, aw_5_184, aw_5_185⟩
theorem cbX12_173 : am_CB RX12 173 yX12_is cX12_is 2 (some .boolean) 1 := ⟨aw_1_11, aw_5_183, ⟨by decide, by decide⟩, by decide +kernel⟩
theorem cvX12_173 : am_CV RX12 173 yX12_is cX12_is 2 (some .boolean) 1 12 := ⟨cbX12_173, aw_5_180, aw_5_182, ps_41, by decide, _, _, rfl⟩
theorem cbX12_182 : am_CB RX12 182 yX12_isName cX12_isName 1 (some .boolean) 0 := ⟨aw_1_11, aw_6_11, ⟨by decide, by decide⟩, by decide +kernel⟩
theorem cvX12_182 : am_CV RX12 182 yX12_isName cX12_isName 1 (some .boolean) 0 12 := ⟨cbX12_182, aw_6_8, aw_6_10, ps_45, by decide, _, _, rfl⟩
theorem flX12_13 : am_F RX12 13 12 12 2 := ⟨_, _, _, rfl, by decide, uw_12, aw_5_7, by decide, by decide, by decide⟩
theorem cbX12_193 : am_CB RX12 193 yX12_newName cX12_newName 3 (some .boolean) 0 := ⟨aw_1_11, aw_6_7, ⟨by decide, by decide⟩, by decide +kernel⟩
theorem cvX12_193 : am_CV RX12 193 yX12_newName cX12_newName 3 (some .boolean) 0 12 := ⟨cbX12_193, aw_6_4, aw_6_6, ps_44, by decide, _, _, rfl⟩
theorem cbX12_196 : am_CB RX12 196 yX12_groupHere cX12_groupHere 2 (some .boolean) 0 := ⟨aw_1_11, aw_6_15, ⟨by decide, by decide⟩, by decide +kernel⟩
theorem cvX12_196 : am_CV RX12 196 yX12_groupHere cX12_groupHere 2 (some .boolean) 0 12 := ⟨cbX12_196, aw_6_12, aw_6_14, ps_46, by decide, _, _, rfl⟩
theorem cbX12_206 : am_CB RX12 206 yX12_netLine cX12_netLine 2 (some .boolean) 0 := ⟨aw_1_11, aw_6_19, ⟨by decide, by decide⟩, by decide +kernel⟩
theorem cvX12_206 : am_CV RX12 206 yX12_netLine cX12_netLine 2 (some .boolean) 0 12 := ⟨cbX12_206, aw_6_16, aw_6_18, ps_47, by decide, _, _, rfl⟩
theorem cbX12_203 : am_CB RX12 203 yX12_drawnLine cX12_drawnLine 1 (some .boolean) 0 := ⟨aw_1_11, aw_6_3, ⟨by decide, by decide⟩, by decide +kernel⟩
theorem cvX12_203 : am_CV RX12 203 yX12_drawnLine cX12_drawnLine 1 (some .boolean) 0 12 := ⟨cbX12_203, aw_6_0, aw_6_2, ps_43, by decide, _, _, rfl⟩
theorem fpX12_179 : am_FP RX12 179 12 11 0 .int false := ⟨_, _, _, tyX12, rfl, by decide, uw_12, aw_5_6, by decide, by decide, by decide, tyX12_ok, nmX12, rfl, rfl, rfl, fun h => by cases h⟩
theorem fpX12_114 : am_FP RX12 114 12 3 0 .int false := ⟨_, _, _, tyX12, rfl, by decide, uw_12, aw_4_238, by decide, by decide, by decide, tyX12_ok, nmX12, rfl, rfl, rfl, fun h => by cases h⟩
theorem cbX12_300 : am_CB RX12 300 yX12_lineHere cX12_lineHere 2 (some .boolean) 0 := ⟨aw_1_11, aw_5_178, ⟨by decide, by decide⟩, by decide +kernel⟩
theorem cvX12_300 : am_CV RX12 300 yX12_lineHere cX12_lineHere 2 (some .boolean) 0 12 := ⟨cbX12_300, aw_5_175, aw_5_177, ps_40, by decide, _, _, rfl⟩
theorem cbX12_303 : am_CB RX12 303 yX12_takesOver cX12_takesOver 3 none 0 := ⟨aw_1_11, aw_6_25, ⟨by decide, by decide⟩, by decide +kernel⟩
theorem cvX12_303 : am_CV RX12 303 yX12_takesOver cX12_takesOver 3 none 0 12 := ⟨cbX12_303, aw_6_22, aw_6_24, ps_48, by decide, _, _, rfl⟩
theorem flX12_154 : am_F RX12 154 12 10 0 := ⟨_, _, _, rfl, by decide, uw_12, aw_5_5, by decide, by decide, by decide⟩
theorem cbX8_66 : am_CB RX8 66 yX8_isWord cX8_isWord 3 (some .boolean) 1 := ⟨aw_1_2, aw_2_102, ⟨by decide, by decide⟩, by decide +kernel⟩
theorem cvX8_66 : am_CV RX8 66 yX8_isWord cX8_isWord 3 (some .boolean) 1 8 := ⟨cbX8_66, aw_2_99, aw_2_101, ps_2, by decide, _, _, rfl⟩
theorem cbX8_76 : am_CB RX8 76 yX8_isNameThere cX8_isNameThere 2 (some .boolean) 0 := ⟨aw_1_2, aw_2_111, ⟨by decide, by decide⟩, by decide +kernel⟩
theorem cvX8_76 : am_CV RX8 76 yX8_isNameThere cX8_isNameThere 2 (some .boolean) 0 8 := ⟨cbX8_76, aw_2_108, aw_2_110, ps_4, by decide, _, _, rfl⟩
theorem flX8_19 : am_F RX8 19 8 9 2 := ⟨_, _, _, rfl, by decide, uw_8, aw_1_52, by decide, by decide, by decide⟩
theorem cbX8_87 : am_CB RX8 87 yX8_readNet cX8_readNet 5 (some .int) 0 := ⟨aw_1_2, aw_2_127, ⟨by decide, by decide⟩, by decide +kernel⟩
theorem cvX8_87 : am_CV RX8 87 yX8_readNet cX8_readNet 5 (some .int) 0 8 := ⟨cbX8_87, aw_2_124, aw_2_126, ps_8, by decide, _, _, rfl⟩
theorem cbX8_84 : am_CB RX8 84 yX8_readGroups cX8_readGroups 3 (some .int) 0 := ⟨aw_1_2, aw_2_115, ⟨by decide, by decide⟩, by decide +kernel⟩
theorem cvX8_84 : am_CV RX8 84 yX8_readGroups cX8_readGroups 3 (some .int) 0 8 := ⟨cbX8_84, aw_2_112, aw_2_114, ps_5, by decide, _, _, rfl⟩
theorem fpX8_51 : am_FP RX8 51 8 8 0 .int false := ⟨_, _, _, tyX8, rfl, by decide, uw_8, aw_1_50, by decide, by decide, by decide, tyX8_ok, nmX8, rfl, rfl, rfl, fun h => by cases h⟩
theorem fpX8_45 : am_FP RX8 45 8 1 0 .int false := ⟨_, _, _, tyX8, rfl, by decide, uw_8, aw_1_42, by decide, by decide, by decide, tyX8_ok, nmX8, rfl, rfl, rfl, fun h => by cases h⟩
theorem cbX8_60 : am_CB RX8 60 yX8_readLine cX8_readLine 3 (some .int) 0 := ⟨aw_1_2, aw_2_97, ⟨by decide, by decide⟩, by decide +kernel⟩
theorem cvX8_60 : am_CV RX8 60 yX8_readLine cX8_readLine 3 (some .int) 0 8 := ⟨cbX8_60, aw_2_94, aw_2_96, ps_1, by decide, _, _, rfl⟩
theorem cbX11_84 : am_CB RX11 84 yX8_read cX8_read 4 (some .int) 1 := ⟨aw_1_2, aw_2_81, ⟨by decide, by decide⟩, by decide +kernel⟩
theorem cvX11_84 : am_CV RX11 84 yX8_read cX8_read 4 (some .int) 1 8 := ⟨cbX11_84, aw_2_78, aw_2_79, aw_2_80, by decide, _, _, rfl⟩
theorem cbX11_88 : am_CB RX11 88 yX9_clear cX9_clear 1 none 0 := ⟨aw_1_10, aw_2_137, ⟨by decide, by decide⟩, by decide +kernel⟩
theorem cvX11_88 : am_CV RX11 88 yX9_clear cX9_clear 1 none 0 9 := ⟨cbX11_88, aw_2_134, aw_2_135, aw_2_136, by decide, _, _, rfl⟩
theorem flX11_94 : am_F RX11 94 8 8 0 := ⟨_, _, _, rfl, by decide, uw_8, aw_1_51, by decide, by decide, by decide⟩
theorem flX11_97 : am_F RX11 97 8 9 2 := ⟨_, _, _, rfl, by decide, uw_8, aw_1_53, by decide, by decide, by decide⟩
theorem cbX11_105 : am_CB RX11 105 yX11_netTiling cX11_netTiling 4 (some (.object "SquareCuts$Tiling")) 1 := ⟨aw_1_1, aw_3_21, ⟨by decide, by decide⟩, by decide +kernel⟩
theorem cvX11_105 : am_CV RX11 105 yX11_netTiling cX11_netTiling 4 (some (.object "SquareCuts$Tiling")) 1 11 := ⟨cbX11_105, aw_3_18, aw_3_20, ps_16, by decide, _, _, rfl⟩
theorem cbX11_101 : am_CB RX11 101 yX11_drawnTiling cX11_drawnTiling 3 (some (.object "SquareCuts$Tiling")) 1 := ⟨aw_1_1, aw_2_141, ⟨by decide, by decide⟩, by decide +kernel⟩
theorem cvX11_101 : am_CV RX11 101 yX11_drawnTiling cX11_drawnTiling 3 (some (.object "SquareCuts$Tiling")) 1 11 := ⟨cbX11_101, aw_2_138, aw_2_140, ps_10, by decide, _, _, rfl⟩
