-- SquareCuts.grow
def fn11_grow_b21 (N : Nat)   (M : am_Mem) : Option (Int32 × am_Mem) :=
  some ((-1 : Int32), M)
def fn11_grow_b143 (N : Nat)  (r0 : Nat) (M : am_Mem) : Option (Int32 × am_Mem) :=
  am_ck (am_k M r0 11) (am_bd (fn11_putMade N M r0) (fun v2 M3 => some (v2, M3)))
def fn11_grow_b68 (N : Nat)  (r0 : Nat) (x2 : Int32) (r3 : Nat) (j6 : Int64) (j8 : Int64) (M : am_Mem) : Option (Int32 × am_Mem) :=
  am_bd (fn11_isTooLarge M j6 j8) (fun v1 M2 => if v1 = 0 then am_ck (am_k M2 r0 11) (am_ck (am_k M2 (am_R M2 r0 4) 0) (am_bd (fn0_begin M2 (am_R M2 r0 4) j6.toInt32 j8.toInt32) (fun v6 M7 => am_ck (am_k M7 r0 11) (am_ck (am_k M7 (am_R M7 r0 4) 0) (am_bd (fn0_addTimes N M7 (am_R M7 r0 4) r3 (1 : Int32) (0 : Int32) (0 : Int32)) (fun v11 M12 => if x2 = 0 then am_ck (am_k M12 r0 11) (am_ck (am_k M12 r3 10) (am_ck (am_k M12 (am_R M12 r0 4) 0) (am_bd (fn0_add M12 (am_R M12 r0 4) (am_I M12 r3 5) (0 : Int32) (am_I M12 r3 6)) (fun v17 M18 => fn11_grow_b143 N  r0 M18)))) else am_ck (am_k M12 r0 11) (am_ck (am_k M12 r3 10) (am_ck (am_k M12 (am_R M12 r0 4) 0) (am_bd (fn0_add M12 (am_R M12 r0 4) (0 : Int32) (am_I M12 r3 6) (am_I M12 r3 5)) (fun v23 M24 => fn11_grow_b143 N  r0 M24)))))))))) else some ((-1 : Int32), M2))
def fn11_grow_b66 (N : Nat)  (b0 : Int64) (r0 : Nat) (x2 : Int32) (r3 : Nat) (j6 : Int64) (M : am_Mem) : Option (Int32 × am_Mem) :=
  fn11_grow_b68 N  r0 x2 r3 j6 b0 M
def fn11_grow_b50 (N : Nat)  (b0 : Int64) (r0 : Nat) (x2 : Int32) (r3 : Nat) (j4 : Int64) (M : am_Mem) : Option (Int32 × am_Mem) :=
  if x2 = 0 then am_ck (am_k M r3 10) (fn11_grow_b66 N  ((am_I M r3 6).toInt64) r0 x2 r3 b0 M) else fn11_grow_b66 N  j4 r0 x2 r3 b0 M
def fn11_grow_b36 (N : Nat)  (r0 : Nat) (x2 : Int32) (r3 : Nat) (j4 : Int64) (M : am_Mem) : Option (Int32 × am_Mem) :=
  if x2 = 0 then fn11_grow_b50 N  j4 r0 x2 r3 j4 M else am_ck (am_k M r3 10) (fn11_grow_b50 N  ((am_I M r3 5).toInt64) r0 x2 r3 j4 M)
def fn11_grow_b0 (N : Nat)  (r0 : Nat) (x1 : Int32) (x2 : Int32) (M : am_Mem) : Option (Int32 × am_Mem) :=
  am_ck (am_k M r0 11) (am_bd (fn11_usable M r0 x1) (fun v2 M3 => if v2 = 0 then fn11_grow_b21 N   M3 else am_ck (am_k M3 v2 10) (if ((am_I M3 v2 4) + (1 : Int32)) ≤ (40 : Int32) then fn11_grow_b36 N  r0 x2 v2 ((am_I M3 v2 5).toInt64 + (am_I M3 v2 6).toInt64) M3 else fn11_grow_b21 N   M3)))
def fn11_grow (N : Nat) (M : am_Mem) (r0 : Nat) (x1 : Int32) (x2 : Int32) : Option (Int32 × am_Mem) := fn11_grow_b0 N r0 x1 x2 M
def rm11_grow : Room := { frames := 3, cells := 4, slots := 131, locals := 68 }
set_option maxRecDepth 20000 in
theorem sn11_grow_b21 {l : Launch} {G : am_G} {v : Int32} {M' : am_Mem} {N : Nat}  (cx : am_Ctx l rm11_grow yX11_grow cX11_grow 10 (some .int) (some (.inl v)) M' 4 131 G)   {M : am_Mem} (hres : fn11_grow_b21 N   M = some (v, M')) : G 21 [] [] M 0 0 := by
  unfold fn11_grow_b21 at hres
  refine am_iconst cx (v := (-1 : Int32)) dX11_grow_21 (by decide) ?_
  obtain ⟨rfl, rfl⟩ := am_fin hres
  refine am_widen cx (k' := 4) (n' := 131) (Nat.le_of_ble_eq_true rfl) (Nat.le_of_ble_eq_true rfl) ?_
  exact am_iret cx dX11_grow_22
set_option maxRecDepth 20000 in
theorem sn11_grow_b143 {l : Launch} {G : am_G} {v : Int32} {M' : am_Mem} {N : Nat}  (cx : am_Ctx l rm11_grow yX11_grow cX11_grow 10 (some .int) (some (.inl v)) M' 4 131 G)  {r0 : Nat} {M : am_Mem} (hres : fn11_grow_b143 N  r0 M = some (v, M')) : G 143 [(0, .inr (.inr r0))] [] M 0 0 := by
  unfold fn11_grow_b143 at hres
  refine am_aload_n cx 0 dX11_grow_143 rfl ?_
  obtain ⟨q1, hres⟩ := am_ck_some hres
  obtain ⟨v2, M3, q4, hres⟩ := am_bd_some hres
  refine am_callV1 cx [] dX11_grow_144 cvX11_281 (mt11_putMade q4) (am_ke q1) ⟨rfl, rfl, Nat.le_of_ble_eq_true rfl, Nat.le_of_ble_eq_true rfl⟩ rfl (Nat.le_of_ble_eq_true rfl) ⟨Nat.le_of_ble_eq_true rfl, Nat.le_of_ble_eq_true rfl⟩ ?_
  obtain ⟨rfl, rfl⟩ := am_fin hres
  exact am_iret cx dX11_grow_147
set_option maxRecDepth 20000 in
theorem sn11_grow_b68 {l : Launch} {G : am_G} {v : Int32} {M' : am_Mem} {N : Nat}  (cx : am_Ctx l rm11_grow yX11_grow cX11_grow 10 (some .int) (some (.inl v)) M' 4 131 G)  {r0 : Nat} {x2 : Int32} {r3 : Nat} {j6 : Int64} {j8 : Int64} {M : am_Mem} (hres : fn11_grow_b68 N  r0 x2 r3 j6 j8 M = some (v, M')) : G 68 [(0, .inr (.inr r0)), (2, .inl x2), (3, .inr (.inr r3)), (6, .inr (.inl j6)), (8, .inr (.inl j8))] [] M 0 0 := by
  unfold fn11_grow_b68 at hres
  refine am_lload cx 3 dX11_grow_68 rfl ?_
  refine am_lload cx 4 dX11_grow_70 rfl ?_
  obtain ⟨v1, M2, q3, hres⟩ := am_bd_some hres
  refine am_callS1 cx [.inr (.inl j6), .inr (.inl j8)] dX11_grow_72 csX11_269 (mt11_isTooLarge q3)  ⟨rfl, rfl, Nat.le_of_ble_eq_true rfl, Nat.le_of_ble_eq_true rfl⟩ rfl (Nat.le_of_ble_eq_true rfl) ⟨Nat.le_of_ble_eq_true rfl, Nat.le_of_ble_eq_true rfl⟩ ?_
  refine am_if_eq cx (tgt := 80) dX11_grow_75 (by decide) (fun h => ?_) (fun h => ?_)
  · have hres := am_ifp h hres
    refine am_aload_n cx 0 dX11_grow_80 rfl ?_
    obtain ⟨q4, hres⟩ := am_ck_some hres
    refine am_getR cx dX11_grow_81 flX11_42 (am_ke q4) ?_
    refine am_lload cx 3 dX11_grow_84 rfl ?_
    refine am_l2i cx dX11_grow_86 ?_
    refine am_lload cx 4 dX11_grow_87 rfl ?_
    refine am_l2i cx dX11_grow_89 ?_
    obtain ⟨q5, hres⟩ := am_ck_some hres
    obtain ⟨v6, M7, q8, hres⟩ := am_bd_some hres
    refine am_callV0 cx [.inl j6.toInt32, .inl j8.toInt32] dX11_grow_90 cvX11_273 (mt0_begin q8) (am_ke q5) ⟨rfl, rfl, Nat.le_of_ble_eq_true rfl, Nat.le_of_ble_eq_true rfl⟩ rfl (Nat.le_of_ble_eq_true rfl) ⟨Nat.le_of_ble_eq_true rfl, Nat.le_of_ble_eq_true rfl⟩ ?_
    refine am_aload_n cx 0 dX11_grow_93 rfl ?_
    obtain ⟨q9, hres⟩ := am_ck_some hres
    refine am_getR cx dX11_grow_94 flX11_42 (am_ke q9) ?_
    refine am_aload_n cx 2 dX11_grow_97 rfl ?_
    refine am_iconst cx (v := (1 : Int32)) dX11_grow_98 (by decide) ?_
    refine am_iconst cx (v := (0 : Int32)) dX11_grow_99 (by decide) ?_
    refine am_iconst cx (v := (0 : Int32)) dX11_grow_100 (by decide) ?_
    obtain ⟨q10, hres⟩ := am_ck_some hres
    obtain ⟨v11, M12, q13, hres⟩ := am_bd_some hres
    refine am_callV0 cx [.inr (.inr r3), .inl (1 : Int32), .inl (0 : Int32), .inl (0 : Int32)] dX11_grow_101 cvX11_277 (mt0_addTimes q13) (am_ke q10) ⟨rfl, rfl, Nat.le_of_ble_eq_true rfl, Nat.le_of_ble_eq_true rfl⟩ rfl (Nat.le_of_ble_eq_true rfl) ⟨Nat.le_of_ble_eq_true rfl, Nat.le_of_ble_eq_true rfl⟩ ?_
    refine am_iload_n cx 1 dX11_grow_104 rfl ?_
    refine am_if_eq cx (tgt := 127) dX11_grow_105 (by decide) (fun h => ?_) (fun h => ?_)
    · have hres := am_ifp h hres
      refine am_aload_n cx 0 dX11_grow_127 rfl ?_
      obtain ⟨q14, hres⟩ := am_ck_some hres
      refine am_getR cx dX11_grow_128 flX11_42 (am_ke q14) ?_
      refine am_aload_n cx 2 dX11_grow_131 rfl ?_
      obtain ⟨q15, hres⟩ := am_ck_some hres
      refine am_getI cx dX11_grow_132 flX11_130 (am_ke q15) ?_
      refine am_iconst cx (v := (0 : Int32)) dX11_grow_135 (by decide) ?_
      refine am_aload_n cx 2 dX11_grow_136 rfl ?_
      refine am_getI cx dX11_grow_137 flX11_133 (am_ke q15) ?_
      obtain ⟨q16, hres⟩ := am_ck_some hres
      obtain ⟨v17, M18, q19, hres⟩ := am_bd_some hres
      refine am_callV0 cx [.inl (am_I M12 r3 5), .inl (0 : Int32), .inl (am_I M12 r3 6)] dX11_grow_140 cvX11_284 (mt0_add q19) (am_ke q16) ⟨rfl, rfl, Nat.le_of_ble_eq_true rfl, Nat.le_of_ble_eq_true rfl⟩ rfl (Nat.le_of_ble_eq_true rfl) ⟨Nat.le_of_ble_eq_true rfl, Nat.le_of_ble_eq_true rfl⟩ ?_
      refine am_sub cx [0] rfl ?_
      exact sn11_grow_b143 cx  hres
    · have hres := am_ifn h hres
      refine am_aload_n cx 0 dX11_grow_108 rfl ?_
      obtain ⟨q20, hres⟩ := am_ck_some hres
      refine am_getR cx dX11_grow_109 flX11_42 (am_ke q20) ?_
      refine am_iconst cx (v := (0 : Int32)) dX11_grow_112 (by decide) ?_
      refine am_aload_n cx 2 dX11_grow_113 rfl ?_
      obtain ⟨q21, hres⟩ := am_ck_some hres
      refine am_getI cx dX11_grow_114 flX11_133 (am_ke q21) ?_
      refine am_aload_n cx 2 dX11_grow_117 rfl ?_
      refine am_getI cx dX11_grow_118 flX11_130 (am_ke q21) ?_
      obtain ⟨q22, hres⟩ := am_ck_some hres
      obtain ⟨v23, M24, q25, hres⟩ := am_bd_some hres
      refine am_callV0 cx [.inl (0 : Int32), .inl (am_I M12 r3 6), .inl (am_I M12 r3 5)] dX11_grow_121 cvX11_284 (mt0_add q25) (am_ke q22) ⟨rfl, rfl, Nat.le_of_ble_eq_true rfl, Nat.le_of_ble_eq_true rfl⟩ rfl (Nat.le_of_ble_eq_true rfl) ⟨Nat.le_of_ble_eq_true rfl, Nat.le_of_ble_eq_true rfl⟩ ?_
      refine am_goto cx (tgt := 143) dX11_grow_124 (by decide) ?_
      refine am_sub cx [0] rfl ?_
      exact sn11_grow_b143 cx  hres
  · have hres := am_ifn h hres
    refine am_iconst cx (v := (-1 : Int32)) dX11_grow_78 (by decide) ?_
    obtain ⟨rfl, rfl⟩ := am_fin hres
    refine am_widen cx (k' := 4) (n' := 131) (Nat.le_of_ble_eq_true rfl) (Nat.le_of_ble_eq_true rfl) ?_
    exact am_iret cx dX11_grow_79
set_option maxRecDepth 20000 in
theorem sn11_grow_b66 {l : Launch} {G : am_G} {v : Int32} {M' : am_Mem} {N : Nat}  (cx : am_Ctx l rm11_grow yX11_grow cX11_grow 10 (some .int) (some (.inl v)) M' 4 131 G)  {b0 : Int64} {r0 : Nat} {x2 : Int32} {r3 : Nat} {j6 : Int64} {M : am_Mem} (hres : fn11_grow_b66 N  b0 r0 x2 r3 j6 M = some (v, M')) : G 66 [(0, .inr (.inr r0)), (2, .inl x2), (3, .inr (.inr r3)), (6, .inr (.inl j6))] [.inr (.inl b0)] M 0 0 := by
  unfold fn11_grow_b66 at hres
  refine am_lstore cx (lv' := [(0, .inr (.inr r0)), (2, .inl x2), (3, .inr (.inr r3)), (6, .inr (.inl j6)), (8, .inr (.inl b0))]) dX11_grow_66 (Nat.le_of_ble_eq_true rfl) rfl ?_
  exact sn11_grow_b68 cx  hres
set_option maxRecDepth 20000 in
theorem sn11_grow_b50 {l : Launch} {G : am_G} {v : Int32} {M' : am_Mem} {N : Nat}  (cx : am_Ctx l rm11_grow yX11_grow cX11_grow 10 (some .int) (some (.inl v)) M' 4 131 G)  {b0 : Int64} {r0 : Nat} {x2 : Int32} {r3 : Nat} {j4 : Int64} {M : am_Mem} (hres : fn11_grow_b50 N  b0 r0 x2 r3 j4 M = some (v, M')) : G 50 [(0, .inr (.inr r0)), (2, .inl x2), (3, .inr (.inr r3)), (4, .inr (.inl j4))] [.inr (.inl b0)] M 0 0 := by
  unfold fn11_grow_b50 at hres
  refine am_lstore cx (lv' := [(0, .inr (.inr r0)), (2, .inl x2), (3, .inr (.inr r3)), (4, .inr (.inl j4)), (6, .inr (.inl b0))]) dX11_grow_50 (Nat.le_of_ble_eq_true rfl) rfl ?_
  refine am_iload_n cx 1 dX11_grow_52 rfl ?_
  refine am_if_eq cx (tgt := 61) dX11_grow_53 (by decide) (fun h => ?_) (fun h => ?_)
  · have hres := am_ifp h hres
    refine am_aload_n cx 2 dX11_grow_61 rfl ?_
    obtain ⟨q1, hres⟩ := am_ck_some hres
    refine am_getI cx dX11_grow_62 flX11_133 (am_ke q1) ?_
    refine am_i2l cx dX11_grow_65 ?_
    refine am_sub cx [0, 1, 2, 4] rfl ?_
    exact sn11_grow_b66 cx  hres
  · have hres := am_ifn h hres
    refine am_lload cx 3 dX11_grow_56 rfl ?_
    refine am_goto cx (tgt := 66) dX11_grow_58 (by decide) ?_
    refine am_sub cx [0, 1, 2, 4] rfl ?_
    exact sn11_grow_b66 cx  hres
set_option maxRecDepth 20000 in
theorem sn11_grow_b36 {l : Launch} {G : am_G} {v : Int32} {M' : am_Mem} {N : Nat}  (cx : am_Ctx l rm11_grow yX11_grow cX11_grow 10 (some .int) (some (.inl v)) M' 4 131 G)  {r0 : Nat} {x2 : Int32} {r3 : Nat} {j4 : Int64} {M : am_Mem} (hres : fn11_grow_b36 N  r0 x2 r3 j4 M = some (v, M')) : G 36 [(0, .inr (.inr r0)), (2, .inl x2), (3, .inr (.inr r3)), (4, .inr (.inl j4))] [] M 0 0 := by
  unfold fn11_grow_b36 at hres
  refine am_iload_n cx 1 dX11_grow_36 rfl ?_
  refine am_if_eq cx (tgt := 48) dX11_grow_37 (by decide) (fun h => ?_) (fun h => ?_)
  · have hres := am_ifp h hres
    refine am_lload cx 3 dX11_grow_48 rfl ?_
    exact sn11_grow_b50 cx  hres
  · have hres := am_ifn h hres
    refine am_aload_n cx 2 dX11_grow_40 rfl ?_
    obtain ⟨q1, hres⟩ := am_ck_some hres
    refine am_getI cx dX11_grow_41 flX11_130 (am_ke q1) ?_
    refine am_i2l cx dX11_grow_44 ?_
    refine am_goto cx (tgt := 50) dX11_grow_45 (by decide) ?_
    exact sn11_grow_b50 cx  hres
set_option maxRecDepth 20000 in
theorem sn11_grow_b0 {l : Launch} {G : am_G} {v : Int32} {M' : am_Mem} {N : Nat}  (cx : am_Ctx l rm11_grow yX11_grow cX11_grow 10 (some .int) (some (.inl v)) M' 4 131 G)  {r0 : Nat} {x1 : Int32} {x2 : Int32} {M : am_Mem} (hres : fn11_grow_b0 N  r0 x1 x2 M = some (v, M')) : G 0 [(0, .inr (.inr r0)), (1, .inl x1), (2, .inl x2)] [] M 0 0 := by
  unfold fn11_grow_b0 at hres
  refine am_aload_n cx 0 dX11_grow_0 rfl ?_
  refine am_iload_n cx 1 dX11_grow_1 rfl ?_
  obtain ⟨q1, hres⟩ := am_ck_some hres
  obtain ⟨v2, M3, q4, hres⟩ := am_bd_some hres
  refine am_callV1 cx [.inl x1] dX11_grow_2 cvX11_263 (mt11_usable q4) (am_ke q1) ⟨rfl, rfl, Nat.le_of_ble_eq_true rfl, Nat.le_of_ble_eq_true rfl⟩ rfl (Nat.le_of_ble_eq_true rfl) ⟨Nat.le_of_ble_eq_true rfl, Nat.le_of_ble_eq_true rfl⟩ ?_
  refine am_astore_n cx (lv' := [(0, .inr (.inr r0)), (1, .inl x1), (2, .inl x2), (3, .inr (.inr v2))]) dX11_grow_5 (Nat.le_of_ble_eq_true rfl) rfl ?_
  refine am_aload_n cx 3 dX11_grow_6 rfl ?_
  refine am_ifnull cx (tgt := 21) dX11_grow_7 (by decide) (fun h => ?_) (fun h => ?_)
  · have hres := am_ifp h hres
    refine am_sub cx [] rfl ?_
    exact sn11_grow_b21 cx  hres
  · have hres := am_ifn h hres
    refine am_aload_n cx 3 dX11_grow_10 rfl ?_
    obtain ⟨q5, hres⟩ := am_ck_some hres
    refine am_getI cx dX11_grow_11 flX11_127 (am_ke q5) ?_
    refine am_iconst cx (v := (1 : Int32)) dX11_grow_14 (by decide) ?_
    refine am_iadd cx dX11_grow_15 ?_
    refine am_bipush cx (v := (40 : Int32)) dX11_grow_16 (by decide) ?_
    refine am_icmp_le cx (tgt := 23) dX11_grow_18 (by decide) (fun h => ?_) (fun h => ?_)
    · have hres := am_ifp h hres
      refine am_aload_n cx 3 dX11_grow_23 rfl ?_
      refine am_getI cx dX11_grow_24 flX11_130 (am_ke q5) ?_
      refine am_i2l cx dX11_grow_27 ?_
      refine am_aload_n cx 3 dX11_grow_28 rfl ?_
      refine am_getI cx dX11_grow_29 flX11_133 (am_ke q5) ?_
      refine am_i2l cx dX11_grow_32 ?_
      refine am_ladd cx dX11_grow_33 ?_
      refine am_lstore cx (lv' := [(0, .inr (.inr r0)), (1, .inl x1), (2, .inl x2), (3, .inr (.inr v2)), (4, .inr (.inl ((am_I M3 v2 5).toInt64 + (am_I M3 v2 6).toInt64)))]) dX11_grow_34 (Nat.le_of_ble_eq_true rfl) rfl ?_
      refine am_sub cx [0, 2, 3, 4] rfl ?_
      exact sn11_grow_b36 cx  hres
    · have hres := am_ifn h hres
      refine am_sub cx [] rfl ?_
      exact sn11_grow_b21 cx  hres
set_option maxRecDepth 20000 in
theorem mt11_grow {l : Launch} {v : Int32} {M M' : am_Mem} {N : Nat} {r0 : Nat} {x1 : Int32} {x2 : Int32} (h : fn11_grow N M r0 x1 x2 = some (v, M')) : am_Met l yX11_grow cX11_grow 10 (some .int) rm11_grow 4 131 [.inr (.inr r0), .inl x1, .inl x2] M (some (.inl v)) M' := am_mk (by decide) (Nat.le_of_ble_eq_true rfl) (fun G cx => (sn11_grow_b0 cx h))
-- SquareCuts.turn
def fn11_turn_b20 (N : Nat)   (M : am_Mem) : Option (Int32 × am_Mem) :=
  some ((-1 : Int32), M)
def fn11_turn_b0 (N : Nat)  (r0 : Nat) (x1 : Int32) (x2 : Int32) (M : am_Mem) : Option (Int32 × am_Mem) :=
  am_ck (am_k M r0 11) (am_bd (fn11_usable M r0 x1) (fun v2 M3 => if v2 = 0 then fn11_turn_b20 N   M3 else if x2 < 0 then fn11_turn_b20 N   M3 else if x2 < (8 : Int32) then am_ck (am_k M3 r0 11) (am_ck (am_k M3 (am_R M3 r0 4) 0) (am_bd (fn0_takeTurned N M3 (am_R M3 r0 4) v2 x2 (1 : Int32)) (fun v7 M8 => am_ck (am_k M8 r0 11) (am_bd (fn11_putMade N M8 r0) (fun v11 M12 => some (v11, M12)))))) else fn11_turn_b20 N   M3))
def fn11_turn (N : Nat) (M : am_Mem) (r0 : Nat) (x1 : Int32) (x2 : Int32) : Option (Int32 × am_Mem) := fn11_turn_b0 N r0 x1 x2 M
def rm11_turn : Room := { frames := 3, cells := 4, slots := 131, locals := 81 }
set_option maxRecDepth 20000 in
theorem sn11_turn_b20 {l : Launch} {G : am_G} {v : Int32} {M' : am_Mem} {N : Nat}  (cx : am_Ctx l rm11_turn yX11_turn cX11_turn 4 (some .int) (some (.inl v)) M' 4 131 G)   {M : am_Mem} (hres : fn11_turn_b20 N   M = some (v, M')) : G 20 [] [] M 0 0 := by
  unfold fn11_turn_b20 at hres
  refine am_iconst cx (v := (-1 : Int32)) dX11_turn_20 (by decide) ?_
  obtain ⟨rfl, rfl⟩ := am_fin hres
  refine am_widen cx (k' := 4) (n' := 131) (Nat.le_of_ble_eq_true rfl) (Nat.le_of_ble_eq_true rfl) ?_
  exact am_iret cx dX11_turn_21
set_option maxRecDepth 20000 in
theorem sn11_turn_b0 {l : Launch} {G : am_G} {v : Int32} {M' : am_Mem} {N : Nat}  (cx : am_Ctx l rm11_turn yX11_turn cX11_turn 4 (some .int) (some (.inl v)) M' 4 131 G)  {r0 : Nat} {x1 : Int32} {x2 : Int32} {M : am_Mem} (hres : fn11_turn_b0 N  r0 x1 x2 M = some (v, M')) : G 0 [(0, .inr (.inr r0)), (1, .inl x1), (2, .inl x2)] [] M 0 0 := by
  unfold fn11_turn_b0 at hres
  refine am_aload_n cx 0 dX11_turn_0 rfl ?_
  refine am_iload_n cx 1 dX11_turn_1 rfl ?_
  obtain ⟨q1, hres⟩ := am_ck_some hres
  obtain ⟨v2, M3, q4, hres⟩ := am_bd_some hres
  refine am_callV1 cx [.inl x1] dX11_turn_2 cvX11_263 (mt11_usable q4) (am_ke q1) ⟨rfl, rfl, Nat.le_of_ble_eq_true rfl, Nat.le_of_ble_eq_true rfl⟩ rfl (Nat.le_of_ble_eq_true rfl) ⟨Nat.le_of_ble_eq_true rfl, Nat.le_of_ble_eq_true rfl⟩ ?_
  refine am_astore_n cx (lv' := [(0, .inr (.inr r0)), (1, .inl x1), (2, .inl x2), (3, .inr (.inr v2))]) dX11_turn_5 (Nat.le_of_ble_eq_true rfl) rfl ?_
  refine am_aload_n cx 3 dX11_turn_6 rfl ?_
  refine am_ifnull cx (tgt := 20) dX11_turn_7 (by decide) (fun h => ?_) (fun h => ?_)
  · have hres := am_ifp h hres
    refine am_sub cx [] rfl ?_
    exact sn11_turn_b20 cx  hres
  · have hres := am_ifn h hres
    refine am_iload_n cx 2 dX11_turn_10 rfl ?_
    refine am_if_lt cx (tgt := 20) dX11_turn_11 (by decide) (fun h => ?_) (fun h => ?_)
    · have hres := am_ifp h hres
      refine am_sub cx [] rfl ?_
      exact sn11_turn_b20 cx  hres
    · have hres := am_ifn h hres
      refine am_iload_n cx 2 dX11_turn_14 rfl ?_
      refine am_bipush cx (v := (8 : Int32)) dX11_turn_15 (by decide) ?_
      refine am_icmp_lt cx (tgt := 22) dX11_turn_17 (by decide) (fun h => ?_) (fun h => ?_)
      · have hres := am_ifp h hres
        refine am_aload_n cx 0 dX11_turn_22 rfl ?_
        obtain ⟨q5, hres⟩ := am_ck_some hres
        refine am_getR cx dX11_turn_23 flX11_42 (am_ke q5) ?_
        refine am_aload_n cx 3 dX11_turn_26 rfl ?_
        refine am_iload_n cx 2 dX11_turn_27 rfl ?_
        refine am_iconst cx (v := (1 : Int32)) dX11_turn_28 (by decide) ?_
        obtain ⟨q6, hres⟩ := am_ck_some hres
        obtain ⟨v7, M8, q9, hres⟩ := am_bd_some hres
        refine am_callV0 cx [.inr (.inr v2), .inl x2, .inl (1 : Int32)] dX11_turn_29 cvX11_255 (mt0_takeTurned q9) (am_ke q6) ⟨rfl, rfl, Nat.le_of_ble_eq_true rfl, Nat.le_of_ble_eq_true rfl⟩ rfl (Nat.le_of_ble_eq_true rfl) ⟨Nat.le_of_ble_eq_true rfl, Nat.le_of_ble_eq_true rfl⟩ ?_
        refine am_aload_n cx 0 dX11_turn_32 rfl ?_
        obtain ⟨q10, hres⟩ := am_ck_some hres
        obtain ⟨v11, M12, q13, hres⟩ := am_bd_some hres
        refine am_callV1 cx [] dX11_turn_33 cvX11_281 (mt11_putMade q13) (am_ke q10) ⟨rfl, rfl, Nat.le_of_ble_eq_true rfl, Nat.le_of_ble_eq_true rfl⟩ rfl (Nat.le_of_ble_eq_true rfl) ⟨Nat.le_of_ble_eq_true rfl, Nat.le_of_ble_eq_true rfl⟩ ?_
        obtain ⟨rfl, rfl⟩ := am_fin hres
        exact am_iret cx dX11_turn_36
      · have hres := am_ifn h hres
        refine am_sub cx [] rfl ?_
        exact sn11_turn_b20 cx  hres
set_option maxRecDepth 20000 in
theorem mt11_turn {l : Launch} {v : Int32} {M M' : am_Mem} {N : Nat} {r0 : Nat} {x1 : Int32} {x2 : Int32} (h : fn11_turn N M r0 x1 x2 = some (v, M')) : am_Met l yX11_turn cX11_turn 4 (some .int) rm11_turn 4 131 [.inr (.inr r0), .inl x1, .inl x2] M (some (.inl v)) M' := am_mk (by decide) (Nat.le_of_ble_eq_true rfl) (fun G cx => (sn11_turn_b0 cx h))
-- SquareCuts.times
def fn11_times_b22 (N : Nat)   (M : am_Mem) : Option (Int32 × am_Mem) :=
  some ((-1 : Int32), M)
def fn11_times_b44 (N : Nat)  (r0 : Nat) (x2 : Int32) (r3 : Nat) (j4 : Int64) (j6 : Int64) (M : am_Mem) : Option (Int32 × am_Mem) :=
  am_bd (fn11_isTooLarge M j4 j6) (fun v1 M2 => if v1 = 0 then am_ck (am_k M2 r0 11) (am_ck (am_k M2 (am_R M2 r0 4) 0) (am_bd (fn0_begin M2 (am_R M2 r0 4) j4.toInt32 j6.toInt32) (fun v6 M7 => am_ck (am_k M7 r0 11) (am_ck (am_k M7 (am_R M7 r0 4) 0) (am_bd (fn0_addTimes N M7 (am_R M7 r0 4) r3 x2 (0 : Int32) (0 : Int32)) (fun v11 M12 => am_ck (am_k M12 r0 11) (am_bd (fn11_putMade N M12 r0) (fun v15 M16 => some (v15, M16))))))))) else some ((-1 : Int32), M2))
def fn11_times_b34 (N : Nat)  (r0 : Nat) (x2 : Int32) (r3 : Nat) (j4 : Int64) (M : am_Mem) : Option (Int32 × am_Mem) :=
  am_ck (am_k M r3 10) (fn11_times_b44 N  r0 x2 r3 j4 ((am_I M r3 6).toInt64 * x2.toInt64) M)
def fn11_times_b0 (N : Nat)  (r0 : Nat) (x1 : Int32) (x2 : Int32) (M : am_Mem) : Option (Int32 × am_Mem) :=
  am_ck (am_k M r0 11) (am_bd (fn11_usable M r0 x1) (fun v2 M3 => if v2 = 0 then fn11_times_b22 N   M3 else if x2 < (1 : Int32) then fn11_times_b22 N   M3 else if x2 ≤ (9999 : Int32) then am_ck (am_k M3 v2 10) (fn11_times_b34 N  r0 x2 v2 ((am_I M3 v2 5).toInt64 * x2.toInt64) M3) else fn11_times_b22 N   M3))
def fn11_times (N : Nat) (M : am_Mem) (r0 : Nat) (x1 : Int32) (x2 : Int32) : Option (Int32 × am_Mem) := fn11_times_b0 N r0 x1 x2 M
def rm11_times : Room := { frames := 3, cells := 4, slots := 131, locals := 68 }
set_option maxRecDepth 20000 in
theorem sn11_times_b22 {l : Launch} {G : am_G} {v : Int32} {M' : am_Mem} {N : Nat}  (cx : am_Ctx l rm11_times yX11_times cX11_times 8 (some .int) (some (.inl v)) M' 4 131 G)   {M : am_Mem} (hres : fn11_times_b22 N   M = some (v, M')) : G 22 [] [] M 0 0 := by
  unfold fn11_times_b22 at hres
  refine am_iconst cx (v := (-1 : Int32)) dX11_times_22 (by decide) ?_
  obtain ⟨rfl, rfl⟩ := am_fin hres
  refine am_widen cx (k' := 4) (n' := 131) (Nat.le_of_ble_eq_true rfl) (Nat.le_of_ble_eq_true rfl) ?_
  exact am_iret cx dX11_times_23
set_option maxRecDepth 20000 in
theorem sn11_times_b44 {l : Launch} {G : am_G} {v : Int32} {M' : am_Mem} {N : Nat}  (cx : am_Ctx l rm11_times yX11_times cX11_times 8 (some .int) (some (.inl v)) M' 4 131 G)  {r0 : Nat} {x2 : Int32} {r3 : Nat} {j4 : Int64} {j6 : Int64} {M : am_Mem} (hres : fn11_times_b44 N  r0 x2 r3 j4 j6 M = some (v, M')) : G 44 [(0, .inr (.inr r0)), (2, .inl x2), (3, .inr (.inr r3)), (4, .inr (.inl j4)), (6, .inr (.inl j6))] [] M 0 0 := by
  unfold fn11_times_b44 at hres
  refine am_lload cx 3 dX11_times_44 rfl ?_
  refine am_lload cx 4 dX11_times_46 rfl ?_
  obtain ⟨v1, M2, q3, hres⟩ := am_bd_some hres
  refine am_callS1 cx [.inr (.inl j4), .inr (.inl j6)] dX11_times_48 csX11_269 (mt11_isTooLarge q3)  ⟨rfl, rfl, Nat.le_of_ble_eq_true rfl, Nat.le_of_ble_eq_true rfl⟩ rfl (Nat.le_of_ble_eq_true rfl) ⟨Nat.le_of_ble_eq_true rfl, Nat.le_of_ble_eq_true rfl⟩ ?_
  refine am_if_eq cx (tgt := 56) dX11_times_51 (by decide) (fun h => ?_) (fun h => ?_)
  · have hres := am_ifp h hres
    refine am_aload_n cx 0 dX11_times_56 rfl ?_
    obtain ⟨q4, hres⟩ := am_ck_some hres
    refine am_getR cx dX11_times_57 flX11_42 (am_ke q4) ?_
    refine am_lload cx 3 dX11_times_60 rfl ?_
    refine am_l2i cx dX11_times_62 ?_
    refine am_lload cx 4 dX11_times_63 rfl ?_
    refine am_l2i cx dX11_times_65 ?_
    obtain ⟨q5, hres⟩ := am_ck_some hres
    obtain ⟨v6, M7, q8, hres⟩ := am_bd_some hres
    refine am_callV0 cx [.inl j4.toInt32, .inl j6.toInt32] dX11_times_66 cvX11_273 (mt0_begin q8) (am_ke q5) ⟨rfl, rfl, Nat.le_of_ble_eq_true rfl, Nat.le_of_ble_eq_true rfl⟩ rfl (Nat.le_of_ble_eq_true rfl) ⟨Nat.le_of_ble_eq_true rfl, Nat.le_of_ble_eq_true rfl⟩ ?_
    refine am_aload_n cx 0 dX11_times_69 rfl ?_
    obtain ⟨q9, hres⟩ := am_ck_some hres
    refine am_getR cx dX11_times_70 flX11_42 (am_ke q9) ?_
    refine am_aload_n cx 2 dX11_times_73 rfl ?_
    refine am_iload_n cx 1 dX11_times_74 rfl ?_
    refine am_iconst cx (v := (0 : Int32)) dX11_times_75 (by decide) ?_
    refine am_iconst cx (v := (0 : Int32)) dX11_times_76 (by decide) ?_
    obtain ⟨q10, hres⟩ := am_ck_some hres
    obtain ⟨v11, M12, q13, hres⟩ := am_bd_some hres
    refine am_callV0 cx [.inr (.inr r3), .inl x2, .inl (0 : Int32), .inl (0 : Int32)] dX11_times_77 cvX11_277 (mt0_addTimes q13) (am_ke q10) ⟨rfl, rfl, Nat.le_of_ble_eq_true rfl, Nat.le_of_ble_eq_true rfl⟩ rfl (Nat.le_of_ble_eq_true rfl) ⟨Nat.le_of_ble_eq_true rfl, Nat.le_of_ble_eq_true rfl⟩ ?_
    refine am_aload_n cx 0 dX11_times_80 rfl ?_
    obtain ⟨q14, hres⟩ := am_ck_some hres
    obtain ⟨v15, M16, q17, hres⟩ := am_bd_some hres
    refine am_callV1 cx [] dX11_times_81 cvX11_281 (mt11_putMade q17) (am_ke q14) ⟨rfl, rfl, Nat.le_of_ble_eq_true rfl, Nat.le_of_ble_eq_true rfl⟩ rfl (Nat.le_of_ble_eq_true rfl) ⟨Nat.le_of_ble_eq_true rfl, Nat.le_of_ble_eq_true rfl⟩ ?_
    obtain ⟨rfl, rfl⟩ := am_fin hres
    exact am_iret cx dX11_times_84
  · have hres := am_ifn h hres
    refine am_iconst cx (v := (-1 : Int32)) dX11_times_54 (by decide) ?_
    obtain ⟨rfl, rfl⟩ := am_fin hres
    refine am_widen cx (k' := 4) (n' := 131) (Nat.le_of_ble_eq_true rfl) (Nat.le_of_ble_eq_true rfl) ?_
    exact am_iret cx dX11_times_55
set_option maxRecDepth 20000 in
theorem sn11_times_b34 {l : Launch} {G : am_G} {v : Int32} {M' : am_Mem} {N : Nat}  (cx : am_Ctx l rm11_times yX11_times cX11_times 8 (some .int) (some (.inl v)) M' 4 131 G)  {r0 : Nat} {x2 : Int32} {r3 : Nat} {j4 : Int64} {M : am_Mem} (hres : fn11_times_b34 N  r0 x2 r3 j4 M = some (v, M')) : G 34 [(0, .inr (.inr r0)), (2, .inl x2), (3, .inr (.inr r3)), (4, .inr (.inl j4))] [] M 0 0 := by
  unfold fn11_times_b34 at hres
  refine am_aload_n cx 2 dX11_times_34 rfl ?_
  obtain ⟨q1, hres⟩ := am_ck_some hres
  refine am_getI cx dX11_times_35 flX11_133 (am_ke q1) ?_
  refine am_i2l cx dX11_times_38 ?_
  refine am_iload_n cx 1 dX11_times_39 rfl ?_
  refine am_i2l cx dX11_times_40 ?_
  refine am_lmul cx dX11_times_41 ?_
  refine am_lstore cx (lv' := [(0, .inr (.inr r0)), (2, .inl x2), (3, .inr (.inr r3)), (4, .inr (.inl j4)), (6, .inr (.inl ((am_I M r3 6).toInt64 * x2.toInt64)))]) dX11_times_42 (Nat.le_of_ble_eq_true rfl) rfl ?_
  exact sn11_times_b44 cx  hres
set_option maxRecDepth 20000 in
theorem sn11_times_b0 {l : Launch} {G : am_G} {v : Int32} {M' : am_Mem} {N : Nat}  (cx : am_Ctx l rm11_times yX11_times cX11_times 8 (some .int) (some (.inl v)) M' 4 131 G)  {r0 : Nat} {x1 : Int32} {x2 : Int32} {M : am_Mem} (hres : fn11_times_b0 N  r0 x1 x2 M = some (v, M')) : G 0 [(0, .inr (.inr r0)), (1, .inl x1), (2, .inl x2)] [] M 0 0 := by
  unfold fn11_times_b0 at hres
  refine am_aload_n cx 0 dX11_times_0 rfl ?_
  refine am_iload_n cx 1 dX11_times_1 rfl ?_
  obtain ⟨q1, hres⟩ := am_ck_some hres
  obtain ⟨v2, M3, q4, hres⟩ := am_bd_some hres
  refine am_callV1 cx [.inl x1] dX11_times_2 cvX11_263 (mt11_usable q4) (am_ke q1) ⟨rfl, rfl, Nat.le_of_ble_eq_true rfl, Nat.le_of_ble_eq_true rfl⟩ rfl (Nat.le_of_ble_eq_true rfl) ⟨Nat.le_of_ble_eq_true rfl, Nat.le_of_ble_eq_true rfl⟩ ?_
  refine am_astore_n cx (lv' := [(0, .inr (.inr r0)), (1, .inl x1), (2, .inl x2), (3, .inr (.inr v2))]) dX11_times_5 (Nat.le_of_ble_eq_true rfl) rfl ?_
  refine am_aload_n cx 3 dX11_times_6 rfl ?_
  refine am_ifnull cx (tgt := 22) dX11_times_7 (by decide) (fun h => ?_) (fun h => ?_)
  · have hres := am_ifp h hres
    refine am_sub cx [] rfl ?_
    exact sn11_times_b22 cx  hres
  · have hres := am_ifn h hres
    refine am_iload_n cx 2 dX11_times_10 rfl ?_
    refine am_iconst cx (v := (1 : Int32)) dX11_times_11 (by decide) ?_
    refine am_icmp_lt cx (tgt := 22) dX11_times_12 (by decide) (fun h => ?_) (fun h => ?_)
    · have hres := am_ifp h hres
      refine am_sub cx [] rfl ?_
      exact sn11_times_b22 cx  hres
    · have hres := am_ifn h hres
      refine am_iload_n cx 2 dX11_times_15 rfl ?_
      refine am_sipush cx (v := (9999 : Int32)) dX11_times_16 (by decide) ?_
      refine am_icmp_le cx (tgt := 24) dX11_times_19 (by decide) (fun h => ?_) (fun h => ?_)
      · have hres := am_ifp h hres
        refine am_aload_n cx 3 dX11_times_24 rfl ?_
        obtain ⟨q5, hres⟩ := am_ck_some hres
        refine am_getI cx dX11_times_25 flX11_130 (am_ke q5) ?_
        refine am_i2l cx dX11_times_28 ?_
        refine am_iload_n cx 2 dX11_times_29 rfl ?_
        refine am_i2l cx dX11_times_30 ?_
        refine am_lmul cx dX11_times_31 ?_
        refine am_lstore cx (lv' := [(0, .inr (.inr r0)), (1, .inl x1), (2, .inl x2), (3, .inr (.inr v2)), (4, .inr (.inl ((am_I M3 v2 5).toInt64 * x2.toInt64)))]) dX11_times_32 (Nat.le_of_ble_eq_true rfl) rfl ?_
        refine am_sub cx [0, 2, 3, 4] rfl ?_
        exact sn11_times_b34 cx  hres
      · have hres := am_ifn h hres
        refine am_sub cx [] rfl ?_
        exact sn11_times_b22 cx  hres
set_option maxRecDepth 20000 in
theorem mt11_times {l : Launch} {v : Int32} {M M' : am_Mem} {N : Nat} {r0 : Nat} {x1 : Int32} {x2 : Int32} (h : fn11_times N M r0 x1 x2 = some (v, M')) : am_Met l yX11_times cX11_times 8 (some .int) rm11_times 4 131 [.inr (.inr r0), .inl x1, .inl x2] M (some (.inl v)) M' := am_mk (by decide) (Nat.le_of_ble_eq_true rfl) (fun G cx => (sn11_times_b0 cx h))
-- SquareCuts.lessen
def fn11_lessen_b0 (N : Nat)  (r0 : Nat) (x1 : Int32) (M : am_Mem) : Option (Int32 × am_Mem) :=
  am_ck (am_k M r0 11) (am_bd (fn11_usable M r0 x1) (fun v2 M3 => if v2 = 0 then some ((-1 : Int32), M3) else am_ck (am_k M3 r0 11) (am_ck (am_k M3 v2 10) (am_bd (fn10_commonDivisor N M3 v2) (fun v7 M8 => am_ck (am_k M8 (am_R M3 r0 4) 0) (am_bd (fn0_takeTurned N M8 (am_R M3 r0 4) v2 (0 : Int32) v7) (fun v11 M12 => am_ck (am_k M12 r0 11) (am_bd (fn11_putMade N M12 r0) (fun v15 M16 => some (v15, M16))))))))))
def fn11_lessen (N : Nat) (M : am_Mem) (r0 : Nat) (x1 : Int32) : Option (Int32 × am_Mem) := fn11_lessen_b0 N r0 x1 M
def rm11_lessen : Room := { frames := 3, cells := 4, slots := 131, locals := 81 }
set_option maxRecDepth 20000 in
theorem sn11_lessen_b0 {l : Launch} {G : am_G} {v : Int32} {M' : am_Mem} {N : Nat}  (cx : am_Ctx l rm11_lessen yX11_lessen cX11_lessen 3 (some .int) (some (.inl v)) M' 4 131 G)  {r0 : Nat} {x1 : Int32} {M : am_Mem} (hres : fn11_lessen_b0 N  r0 x1 M = some (v, M')) : G 0 [(0, .inr (.inr r0)), (1, .inl x1)] [] M 0 0 := by
  unfold fn11_lessen_b0 at hres
  refine am_aload_n cx 0 dX11_lessen_0 rfl ?_
  refine am_iload_n cx 1 dX11_lessen_1 rfl ?_
  obtain ⟨q1, hres⟩ := am_ck_some hres
  obtain ⟨v2, M3, q4, hres⟩ := am_bd_some hres
  refine am_callV1 cx [.inl x1] dX11_lessen_2 cvX11_263 (mt11_usable q4) (am_ke q1) ⟨rfl, rfl, Nat.le_of_ble_eq_true rfl, Nat.le_of_ble_eq_true rfl⟩ rfl (Nat.le_of_ble_eq_true rfl) ⟨Nat.le_of_ble_eq_true rfl, Nat.le_of_ble_eq_true rfl⟩ ?_
  refine am_astore_n cx (lv' := [(0, .inr (.inr r0)), (1, .inl x1), (2, .inr (.inr v2))]) dX11_lessen_5 (Nat.le_of_ble_eq_true rfl) rfl ?_
  refine am_aload_n cx 2 dX11_lessen_6 rfl ?_
  refine am_ifnonnull cx (tgt := 12) dX11_lessen_7 (by decide) (fun h => ?_) (fun h => ?_)
  · have hres := am_ifn h hres
    refine am_aload_n cx 0 dX11_lessen_12 rfl ?_
    obtain ⟨q5, hres⟩ := am_ck_some hres
    refine am_getR cx dX11_lessen_13 flX11_42 (am_ke q5) ?_
    refine am_aload_n cx 2 dX11_lessen_16 rfl ?_
    refine am_iconst cx (v := (0 : Int32)) dX11_lessen_17 (by decide) ?_
    refine am_aload_n cx 2 dX11_lessen_18 rfl ?_
    obtain ⟨q6, hres⟩ := am_ck_some hres
    obtain ⟨v7, M8, q9, hres⟩ := am_bd_some hres
    refine am_callV1 cx [] dX11_lessen_19 cvX11_252 (mt10_commonDivisor q9) (am_ke q6) ⟨rfl, rfl, Nat.le_of_ble_eq_true rfl, Nat.le_of_ble_eq_true rfl⟩ rfl (Nat.le_of_ble_eq_true rfl) ⟨Nat.le_of_ble_eq_true rfl, Nat.le_of_ble_eq_true rfl⟩ ?_
    obtain ⟨q10, hres⟩ := am_ck_some hres
    obtain ⟨v11, M12, q13, hres⟩ := am_bd_some hres
    refine am_callV0 cx [.inr (.inr v2), .inl (0 : Int32), .inl v7] dX11_lessen_22 cvX11_255 (mt0_takeTurned q13) (am_ke q10) ⟨rfl, rfl, Nat.le_of_ble_eq_true rfl, Nat.le_of_ble_eq_true rfl⟩ rfl (Nat.le_of_ble_eq_true rfl) ⟨Nat.le_of_ble_eq_true rfl, Nat.le_of_ble_eq_true rfl⟩ ?_
    refine am_aload_n cx 0 dX11_lessen_25 rfl ?_
    obtain ⟨q14, hres⟩ := am_ck_some hres
    obtain ⟨v15, M16, q17, hres⟩ := am_bd_some hres
    refine am_callV1 cx [] dX11_lessen_26 cvX11_281 (mt11_putMade q17) (am_ke q14) ⟨rfl, rfl, Nat.le_of_ble_eq_true rfl, Nat.le_of_ble_eq_true rfl⟩ rfl (Nat.le_of_ble_eq_true rfl) ⟨Nat.le_of_ble_eq_true rfl, Nat.le_of_ble_eq_true rfl⟩ ?_
    obtain ⟨rfl, rfl⟩ := am_fin hres
    exact am_iret cx dX11_lessen_29
  · have hres := am_ifp h hres
    refine am_iconst cx (v := (-1 : Int32)) dX11_lessen_10 (by decide) ?_
    obtain ⟨rfl, rfl⟩ := am_fin hres
    refine am_widen cx (k' := 4) (n' := 131) (Nat.le_of_ble_eq_true rfl) (Nat.le_of_ble_eq_true rfl) ?_
    exact am_iret cx dX11_lessen_11
set_option maxRecDepth 20000 in
theorem mt11_lessen {l : Launch} {v : Int32} {M M' : am_Mem} {N : Nat} {r0 : Nat} {x1 : Int32} (h : fn11_lessen N M r0 x1 = some (v, M')) : am_Met l yX11_lessen cX11_lessen 3 (some .int) rm11_lessen 4 131 [.inr (.inr r0), .inl x1] M (some (.inl v)) M' := am_mk (by decide) (Nat.le_of_ble_eq_true rfl) (fun G cx => (sn11_lessen_b0 cx h))
-- SquareCuts$GroupLayer.layGroups
def fn1_layGroups_b110 (N : Nat)  (a0 : Int32) (M : am_Mem) : Option (Int32 × am_Mem) :=
  am_ck (a0 == 0 || a0 == 1) (some (a0, M))
def fn1_layGroups_b82 (N : Nat)  (r0 : Nat) (r4 : Nat) (M : am_Mem) : Option (Int32 × am_Mem) :=
  am_ck (am_k M r0 1) (am_ck (am_k M (am_R M r0 0) 6) (am_bd (fn6_notchDepth M (am_R M r0 0)) (fun v3 M4 => am_ck (am_k M4 r4 0) (am_ck (am_k M4 r0 1) (am_ck (am_k M4 (am_R M4 r0 0) 6) (if (am_I (am_wI M4 r4 5 v3) (am_R M4 r0 0) 3) = (1 : Int32) then fn1_layGroups_b110 N  (1 : Int32) (am_wI M4 r4 5 v3) else fn1_layGroups_b110 N  (0 : Int32) (am_wI M4 r4 5 v3)))))))
def fn1_layGroups_b34B (N : Nat) (k34 : Nat → Nat → Nat → Int32 → Nat → Int32 → am_Mem → Option (Int32 × am_Mem)) (r0 : Nat) (r1 : Nat) (r2 : Nat) (x3 : Int32) (r4 : Nat) (x6 : Int32) (M : am_Mem) : Option (Int32 × am_Mem) :=
  if x3 ≤ x6 then fn1_layGroups_b82 N  r0 r4 M else am_ck (am_k M r0 1) (if x3 ≤ (am_I M r0 1) then fn1_layGroups_b82 N  r0 r4 M else am_bd (fn1_groupSum N M r0 r1 r2 x3) (fun v2 M3 => am_ck (am_k M3 r0 1) (am_ck (am_k M3 (am_R M3 r0 0) 6) (am_bd (fn6_notchWidth M3 (am_R M3 r0 0)) (fun v7 M8 => if v2 = v7 then am_ck (am_k M8 r0 1) (am_bd (fn1_layGroup N M8 r0 r1 r2 x3 r4) (fun v11 M12 => k34 r0 r1 r2 x3 r4 (x6 + (1 : Int32)) M12)) else some ((0 : Int32), M8))))))
def fn1_layGroups_b34 (N : Nat)  : Nat → Nat → Nat → Nat → Int32 → Nat → Int32 → am_Mem → Option (Int32 × am_Mem)
  | 0 => fun _ _ _ _ _ _ _ => none
  | i + 1 => fn1_layGroups_b34B N (fn1_layGroups_b34 N  i)
def fn1_layGroups_b0 (N : Nat)  (r0 : Nat) (r1 : Nat) (r2 : Nat) (x3 : Int32) (r4 : Nat) (M : am_Mem) : Option (Int32 × am_Mem) :=
  am_ck (am_k M r0 1) (am_bd (fn1_groupSum N (am_wI M r0 1 (0 : Int32)) r0 r1 r2 x3) (fun v2 M3 => am_ck (am_k M3 r4 0) (am_bd (fn0_begin M3 r4 v2 (0 : Int32)) (fun v6 M7 => am_ck (am_k M7 r0 1) (am_ck (am_k M7 (am_R M7 r0 0) 6) (am_bd (fn6_open M7 (am_R M7 r0 0) v2) (fun v11 M12 => fn1_layGroups_b34 N  N r0 r1 r2 x3 r4 (0 : Int32) M12)))))))
def fn1_layGroups (N : Nat) (M : am_Mem) (r0 : Nat) (r1 : Nat) (r2 : Nat) (x3 : Int32) (r4 : Nat) : Option (Int32 × am_Mem) := fn1_layGroups_b0 N r0 r1 r2 x3 r4 M
def rm1_layGroups : Room := { frames := 3, cells := 0, slots := 0, locals := 71 }
set_option maxRecDepth 20000 in
theorem sn1_layGroups_b110 {l : Launch} {G : am_G} {v : Int32} {M' : am_Mem} {N : Nat}  (cx : am_Ctx l rm1_layGroups yX1_layGroups cX1_layGroups 7 (some .boolean) (some (.inl v)) M' 0 0 G)  {a0 : Int32} {M : am_Mem} (hres : fn1_layGroups_b110 N  a0 M = some (v, M')) : G 110 [] [.inl a0] M 0 0 := by
  unfold fn1_layGroups_b110 at hres
  obtain ⟨q1, hres⟩ := am_ck_some hres
  obtain ⟨rfl, rfl⟩ := am_fin hres
  exact am_zret cx q1 dX1_layGroups_110
set_option maxRecDepth 20000 in
theorem sn1_layGroups_b82 {l : Launch} {G : am_G} {v : Int32} {M' : am_Mem} {N : Nat}  (cx : am_Ctx l rm1_layGroups yX1_layGroups cX1_layGroups 7 (some .boolean) (some (.inl v)) M' 0 0 G)  {r0 : Nat} {r4 : Nat} {M : am_Mem} (hres : fn1_layGroups_b82 N  r0 r4 M = some (v, M')) : G 82 [(0, .inr (.inr r0)), (4, .inr (.inr r4))] [] M 0 0 := by
  unfold fn1_layGroups_b82 at hres
  refine am_aload cx 1 dX1_layGroups_82 rfl ?_
  refine am_aload_n cx 0 dX1_layGroups_84 rfl ?_
  obtain ⟨q1, hres⟩ := am_ck_some hres
  refine am_getR cx dX1_layGroups_85 flX1_14 (am_ke q1) ?_
  obtain ⟨q2, hres⟩ := am_ck_some hres
  obtain ⟨v3, M4, q5, hres⟩ := am_bd_some hres
  refine am_callV1 cx [] dX1_layGroups_88 cvX1_45 (mt6_notchDepth q5) (am_ke q2) ⟨rfl, rfl, Nat.le_of_ble_eq_true rfl, Nat.le_of_ble_eq_true rfl⟩ rfl (Nat.le_of_ble_eq_true rfl) ⟨Nat.le_of_ble_eq_true rfl, Nat.le_of_ble_eq_true rfl⟩ ?_
  obtain ⟨q6, hres⟩ := am_ck_some hres
  refine am_putI cx dX1_layGroups_91 fpX1_48 (fun h => by cases h) (am_ke q6) ?_
  refine am_aload_n cx 0 dX1_layGroups_94 rfl ?_
  obtain ⟨q7, hres⟩ := am_ck_some hres
  refine am_getR cx dX1_layGroups_95 flX1_14 (am_ke q7) ?_
  obtain ⟨q8, hres⟩ := am_ck_some hres
  refine am_getI cx dX1_layGroups_98 flX1_51 (am_ke q8) ?_
  refine am_iconst cx (v := (1 : Int32)) dX1_layGroups_101 (by decide) ?_
  refine am_icmp_ne cx (tgt := 109) dX1_layGroups_102 (by decide) (fun h => ?_) (fun h => ?_)
  · have hres := am_ifn h hres
    refine am_iconst cx (v := (0 : Int32)) dX1_layGroups_109 (by decide) ?_
    refine am_sub cx [] rfl ?_
    exact sn1_layGroups_b110 cx  hres
  · have hres := am_ifp h hres
    refine am_iconst cx (v := (1 : Int32)) dX1_layGroups_105 (by decide) ?_
    refine am_goto cx (tgt := 110) dX1_layGroups_106 (by decide) ?_
    refine am_sub cx [] rfl ?_
    exact sn1_layGroups_b110 cx  hres
set_option maxRecDepth 20000 in
theorem sn1_layGroups_b34B {l : Launch} {G : am_G} {v : Int32} {M' : am_Mem} {N : Nat} {k34 : Nat → Nat → Nat → Int32 → Nat → Int32 → am_Mem → Option (Int32 × am_Mem)} (cx : am_Ctx l rm1_layGroups yX1_layGroups cX1_layGroups 7 (some .boolean) (some (.inl v)) M' 0 0 G) (hk34 : ∀ (r0 : Nat) (r1 : Nat) (r2 : Nat) (x3 : Int32) (r4 : Nat) (x6 : Int32) (M : am_Mem), k34 r0 r1 r2 x3 r4 x6 M = some (v, M') → G 34 [(0, .inr (.inr r0)), (1, .inr (.inr r1)), (2, .inr (.inr r2)), (3, .inl x3), (4, .inr (.inr r4)), (6, .inl x6)] [] M 0 0) {r0 : Nat} {r1 : Nat} {r2 : Nat} {x3 : Int32} {r4 : Nat} {x6 : Int32} {M : am_Mem} (hres : fn1_layGroups_b34B N k34 r0 r1 r2 x3 r4 x6 M = some (v, M')) : G 34 [(0, .inr (.inr r0)), (1, .inr (.inr r1)), (2, .inr (.inr r2)), (3, .inl x3), (4, .inr (.inr r4)), (6, .inl x6)] [] M 0 0 := by
  unfold fn1_layGroups_b34B at hres
  refine am_iload cx 5 dX1_layGroups_34 rfl ?_
  refine am_iload_n cx 3 dX1_layGroups_36 rfl ?_
  refine am_icmp_ge cx (tgt := 82) dX1_layGroups_37 (by decide) (fun h => ?_) (fun h => ?_)
  · have hres := am_ifp h hres
    refine am_sub cx [0, 4] rfl ?_
    exact sn1_layGroups_b82 cx  hres
  · have hres := am_ifn h hres
    refine am_aload_n cx 0 dX1_layGroups_40 rfl ?_
    obtain ⟨q1, hres⟩ := am_ck_some hres
    refine am_getI cx dX1_layGroups_41 flX1_20 (am_ke q1) ?_
    refine am_iload_n cx 3 dX1_layGroups_44 rfl ?_
    refine am_icmp_ge cx (tgt := 82) dX1_layGroups_45 (by decide) (fun h => ?_) (fun h => ?_)
    · have hres := am_ifp h hres
      refine am_sub cx [0, 4] rfl ?_
      exact sn1_layGroups_b82 cx  hres
    · have hres := am_ifn h hres
      refine am_aload_n cx 0 dX1_layGroups_48 rfl ?_
      refine am_aload_n cx 1 dX1_layGroups_49 rfl ?_
      refine am_aload_n cx 2 dX1_layGroups_50 rfl ?_
      refine am_iload_n cx 3 dX1_layGroups_51 rfl ?_
      obtain ⟨v2, M3, q4, hres⟩ := am_bd_some hres
      refine am_callV1 cx [.inr (.inr r1), .inr (.inr r2), .inl x3] dX1_layGroups_52 cvX1_24 (mt1_groupSum q4) (am_ke q1) ⟨rfl, rfl, Nat.le_of_ble_eq_true rfl, Nat.le_of_ble_eq_true rfl⟩ rfl (Nat.le_of_ble_eq_true rfl) ⟨Nat.le_of_ble_eq_true rfl, Nat.le_of_ble_eq_true rfl⟩ ?_
      refine am_aload_n cx 0 dX1_layGroups_55 rfl ?_
      obtain ⟨q5, hres⟩ := am_ck_some hres
      refine am_getR cx dX1_layGroups_56 flX1_14 (am_ke q5) ?_
      obtain ⟨q6, hres⟩ := am_ck_some hres
      obtain ⟨v7, M8, q9, hres⟩ := am_bd_some hres
      refine am_callV1 cx [] dX1_layGroups_59 cvX1_37 (mt6_notchWidth q9) (am_ke q6) ⟨rfl, rfl, Nat.le_of_ble_eq_true rfl, Nat.le_of_ble_eq_true rfl⟩ rfl (Nat.le_of_ble_eq_true rfl) ⟨Nat.le_of_ble_eq_true rfl, Nat.le_of_ble_eq_true rfl⟩ ?_
      refine am_icmp_eq cx (tgt := 67) dX1_layGroups_62 (by decide) (fun h => ?_) (fun h => ?_)
      · have hres := am_ifp h hres
        refine am_aload_n cx 0 dX1_layGroups_67 rfl ?_
        refine am_aload_n cx 1 dX1_layGroups_68 rfl ?_
        refine am_aload_n cx 2 dX1_layGroups_69 rfl ?_
        refine am_iload_n cx 3 dX1_layGroups_70 rfl ?_
        refine am_aload cx 4 dX1_layGroups_71 rfl ?_
        obtain ⟨q10, hres⟩ := am_ck_some hres
        obtain ⟨v11, M12, q13, hres⟩ := am_bd_some hres
        refine am_callV0 cx [.inr (.inr r1), .inr (.inr r2), .inl x3, .inr (.inr r4)] dX1_layGroups_73 cvX1_41 (mt1_layGroup q13) (am_ke q10) ⟨rfl, rfl, Nat.le_of_ble_eq_true rfl, Nat.le_of_ble_eq_true rfl⟩ rfl (Nat.le_of_ble_eq_true rfl) ⟨Nat.le_of_ble_eq_true rfl, Nat.le_of_ble_eq_true rfl⟩ ?_
        refine am_iincw cx (lv' := [(0, .inr (.inr r0)), (1, .inr (.inr r1)), (2, .inr (.inr r2)), (3, .inl x3), (4, .inr (.inr r4)), (6, .inl (x6 + (1 : Int32)))]) (w := (1 : Int32)) 5 dX1_layGroups_76 (by decide) rfl (Nat.le_of_ble_eq_true rfl) rfl ?_
        refine am_goto cx (tgt := 34) dX1_layGroups_79 (by decide) ?_
        exact hk34 _ _ _ _ _ _ _ hres
      · have hres := am_ifn h hres
        refine am_iconst cx (v := (0 : Int32)) dX1_layGroups_65 (by decide) ?_
        obtain ⟨rfl, rfl⟩ := am_fin hres
        exact am_zret cx rfl dX1_layGroups_66
set_option maxRecDepth 20000 in
theorem sn1_layGroups_b34 {l : Launch} {G : am_G} {v : Int32} {M' : am_Mem} {N : Nat}  (cx : am_Ctx l rm1_layGroups yX1_layGroups cX1_layGroups 7 (some .boolean) (some (.inl v)) M' 0 0 G)  (i : Nat) : ∀ (r0 : Nat) (r1 : Nat) (r2 : Nat) (x3 : Int32) (r4 : Nat) (x6 : Int32) (M : am_Mem), fn1_layGroups_b34 N  i r0 r1 r2 x3 r4 x6 M = some (v, M') → G 34 [(0, .inr (.inr r0)), (1, .inr (.inr r1)), (2, .inr (.inr r2)), (3, .inl x3), (4, .inr (.inr r4)), (6, .inl x6)] [] M 0 0 := by
  induction i with
  | zero => intro r0 r1 r2 x3 r4 x6 M hres; exact am_no hres
  | succ i ih => intro r0 r1 r2 x3 r4 x6 M hres; exact sn1_layGroups_b34B cx ih hres
set_option maxRecDepth 20000 in
theorem sn1_layGroups_b0 {l : Launch} {G : am_G} {v : Int32} {M' : am_Mem} {N : Nat}  (cx : am_Ctx l rm1_layGroups yX1_layGroups cX1_layGroups 7 (some .boolean) (some (.inl v)) M' 0 0 G)  {r0 : Nat} {r1 : Nat} {r2 : Nat} {x3 : Int32} {r4 : Nat} {M : am_Mem} (hres : fn1_layGroups_b0 N  r0 r1 r2 x3 r4 M = some (v, M')) : G 0 [(0, .inr (.inr r0)), (1, .inr (.inr r1)), (2, .inr (.inr r2)), (3, .inl x3), (4, .inr (.inr r4))] [] M 0 0 := by
  unfold fn1_layGroups_b0 at hres
  refine am_aload_n cx 0 dX1_layGroups_0 rfl ?_
  refine am_iconst cx (v := (0 : Int32)) dX1_layGroups_1 (by decide) ?_
  obtain ⟨q1, hres⟩ := am_ck_some hres
  refine am_putI cx dX1_layGroups_2 fpX1_20 (fun h => by cases h) (am_ke q1) ?_
  refine am_aload_n cx 0 dX1_layGroups_5 rfl ?_
  refine am_aload_n cx 1 dX1_layGroups_6 rfl ?_
  refine am_aload_n cx 2 dX1_layGroups_7 rfl ?_
  refine am_iload_n cx 3 dX1_layGroups_8 rfl ?_
  obtain ⟨v2, M3, q4, hres⟩ := am_bd_some hres
  refine am_callV1 cx [.inr (.inr r1), .inr (.inr r2), .inl x3] dX1_layGroups_9 cvX1_24 (mt1_groupSum q4) (am_ke q1) ⟨rfl, rfl, Nat.le_of_ble_eq_true rfl, Nat.le_of_ble_eq_true rfl⟩ rfl (Nat.le_of_ble_eq_true rfl) ⟨Nat.le_of_ble_eq_true rfl, Nat.le_of_ble_eq_true rfl⟩ ?_
  refine am_istore cx (lv' := [(0, .inr (.inr r0)), (1, .inr (.inr r1)), (2, .inr (.inr r2)), (3, .inl x3), (4, .inr (.inr r4)), (5, .inl v2)]) dX1_layGroups_12 (Nat.le_of_ble_eq_true rfl) rfl ?_
  refine am_aload cx 4 dX1_layGroups_14 rfl ?_
  refine am_iload cx 5 dX1_layGroups_16 rfl ?_
  refine am_iconst cx (v := (0 : Int32)) dX1_layGroups_18 (by decide) ?_
  obtain ⟨q5, hres⟩ := am_ck_some hres
  obtain ⟨v6, M7, q8, hres⟩ := am_bd_some hres
  refine am_callV0 cx [.inl v2, .inl (0 : Int32)] dX1_layGroups_19 cvX1_28 (mt0_begin q8) (am_ke q5) ⟨rfl, rfl, Nat.le_of_ble_eq_true rfl, Nat.le_of_ble_eq_true rfl⟩ rfl (Nat.le_of_ble_eq_true rfl) ⟨Nat.le_of_ble_eq_true rfl, Nat.le_of_ble_eq_true rfl⟩ ?_
  refine am_aload_n cx 0 dX1_layGroups_22 rfl ?_
  obtain ⟨q9, hres⟩ := am_ck_some hres
  refine am_getR cx dX1_layGroups_23 flX1_14 (am_ke q9) ?_
  refine am_iload cx 5 dX1_layGroups_26 rfl ?_
  obtain ⟨q10, hres⟩ := am_ck_some hres
  obtain ⟨v11, M12, q13, hres⟩ := am_bd_some hres
  refine am_callV0 cx [.inl v2] dX1_layGroups_28 cvX1_34 (mt6_open q13) (am_ke q10) ⟨rfl, rfl, Nat.le_of_ble_eq_true rfl, Nat.le_of_ble_eq_true rfl⟩ rfl (Nat.le_of_ble_eq_true rfl) ⟨Nat.le_of_ble_eq_true rfl, Nat.le_of_ble_eq_true rfl⟩ ?_
  refine am_iconst cx (v := (0 : Int32)) dX1_layGroups_31 (by decide) ?_
  refine am_istore cx (lv' := [(0, .inr (.inr r0)), (1, .inr (.inr r1)), (2, .inr (.inr r2)), (3, .inl x3), (4, .inr (.inr r4)), (5, .inl v2), (6, .inl (0 : Int32))]) dX1_layGroups_32 (Nat.le_of_ble_eq_true rfl) rfl ?_
  refine am_sub cx [0, 1, 2, 3, 4, 6] rfl ?_
  exact sn1_layGroups_b34 cx  N _ _ _ _ _ _ _ hres
set_option maxRecDepth 20000 in
theorem mt1_layGroups {l : Launch} {v : Int32} {M M' : am_Mem} {N : Nat} {r0 : Nat} {r1 : Nat} {r2 : Nat} {x3 : Int32} {r4 : Nat} (h : fn1_layGroups N M r0 r1 r2 x3 r4 = some (v, M')) : am_Met l yX1_layGroups cX1_layGroups 7 (some .boolean) rm1_layGroups 0 0 [.inr (.inr r0), .inr (.inr r1), .inr (.inr r2), .inl x3, .inr (.inr r4)] M (some (.inl v)) M' := am_mk (by decide) (Nat.le_of_ble_eq_true rfl) (fun G cx => (sn1_layGroups_b0 cx h))
-- SquareCuts$NetLayer.search
def fn4_search_b140 (N : Nat)  (r0 : Nat) (r1 : Nat) (r3 : Nat) (x4 : Int32) (M : am_Mem) : Option (Int32 × am_Mem) :=
  am_ck (am_k M r0 4) (if (am_I M r0 4) ≤ x4 then am_bd (fn4_fillDraft N M r0 r1 r3) (fun v2 M3 => some ((1 : Int32), M3)) else some ((0 : Int32), M))
def fn4_search_b134 (N : Nat) (k27 : Nat → Nat → Nat → Nat → Int32 → Int32 → Int32 → am_Mem → Option (Int32 × am_Mem)) (r0 : Nat) (r1 : Nat) (r2 : Nat) (r3 : Nat) (x4 : Int32) (x5 : Int32) (x6 : Int32) (M : am_Mem) : Option (Int32 × am_Mem) :=
  k27 r0 r1 r2 r3 x4 x5 (x6 + (1 : Int32)) M
def fn4_search_b27B (N : Nat) (k27 : Nat → Nat → Nat → Nat → Int32 → Int32 → Int32 → am_Mem → Option (Int32 × am_Mem)) (r0 : Nat) (r1 : Nat) (r2 : Nat) (r3 : Nat) (x4 : Int32) (x5 : Int32) (x6 : Int32) (M : am_Mem) : Option (Int32 × am_Mem) :=
  if (40002 : Int32) ≤ x6 then fn4_search_b140 N  r0 r1 r3 x4 M else am_ck (am_k M r0 4) (if (am_I M r0 4) ≤ x4 then fn4_search_b140 N  r0 r1 r3 x4 M else am_bd (fn4_nextFitting N M r0 r1 r2 x4 x5) (fun v2 M3 => if v2 = (-1 : Int32) then if x4 = 0 then some ((0 : Int32), M3) else am_ck (am_k M3 r0 4) (am_ck (am_k M3 (am_R M3 r0 2) 14) (am_ck (am_in (x4 + (-1 : Int32)) (am_L M3 (am_R M3 r0 2))) (am_ck (am_k M3 (am_R M3 r0 3) 16) (am_ck (am_in (am_I M3 (am_R M3 r0 2) (x4 + (-1 : Int32)).toNatClampNeg) (am_L M3 (am_R M3 r0 3))) (am_ck (am_in (x4 + (-1 : Int32)) (am_L M3 (am_R M3 r0 2))) (fn4_search_b134 N k27 r0 r1 r2 r3 (x4 + (-1 : Int32)) ((am_I (am_wI M3 (am_R M3 r0 3) (am_I M3 (am_R M3 r0 2) (x4 + (-1 : Int32)).toNatClampNeg).toNatClampNeg ((0 : Int32) &&& 1)) (am_R M3 r0 2) (x4 + (-1 : Int32)).toNatClampNeg) + (1 : Int32)) x6 (am_wI M3 (am_R M3 r0 3) (am_I M3 (am_R M3 r0 2) (x4 + (-1 : Int32)).toNatClampNeg).toNatClampNeg ((0 : Int32) &&& 1)))))))) else am_ck (am_k M3 r1 3) (if (am_I M3 r1 7) < (20000 : Int32) then am_ck (am_k M3 r0 4) (am_bd (fn4_layWire N (am_wI M3 r1 7 ((am_I M3 r1 7) + (1 : Int32))) r0 v2 x4) (fun v13 M14 => fn4_search_b134 N k27 r0 r1 r2 r3 (x4 + (1 : Int32)) (0 : Int32) x6 M14)) else some ((0 : Int32), M3))))
def fn4_search_b27 (N : Nat)  : Nat → Nat → Nat → Nat → Nat → Int32 → Int32 → Int32 → am_Mem → Option (Int32 × am_Mem)
  | 0 => fun _ _ _ _ _ _ _ _ => none
  | i + 1 => fn4_search_b27B N (fn4_search_b27 N  i)
def fn4_search_b0 (N : Nat)  (r0 : Nat) (r1 : Nat) (r2 : Nat) (r3 : Nat) (M : am_Mem) : Option (Int32 × am_Mem) :=
  am_ck (am_k M r0 4) (am_bd (fn4_takeSizes N M r0 r1) (fun v2 M3 => am_ck (am_k M3 r0 4) (am_ck (am_k M3 (am_R M3 r0 0) 17) (am_ck (am_in (0 : Int32) (am_L M3 (am_R M3 r0 0))) (am_ck (am_k M3 r1 3) (am_ck (am_k M3 (am_R M3 (am_R M3 r0 0) (0 : Int32).toNatClampNeg) 6) (am_bd (fn6_open M3 (am_R M3 (am_R M3 r0 0) (0 : Int32).toNatClampNeg) (am_I M3 r1 5)) (fun v10 M11 => fn4_search_b27 N  N r0 r1 r2 r3 (0 : Int32) (0 : Int32) (0 : Int32) M11))))))))
def fn4_search (N : Nat) (M : am_Mem) (r0 : Nat) (r1 : Nat) (r2 : Nat) (r3 : Nat) : Option (Int32 × am_Mem) := fn4_search_b0 N r0 r1 r2 r3 M
def rm4_search : Room := { frames := 3, cells := 0, slots := 0, locals := 103 }
set_option maxRecDepth 20000 in
theorem sn4_search_b140 {l : Launch} {G : am_G} {v : Int32} {M' : am_Mem} {N : Nat}  (cx : am_Ctx l rm4_search yX4_search cX4_search 8 (some .boolean) (some (.inl v)) M' 0 0 G)  {r0 : Nat} {r1 : Nat} {r3 : Nat} {x4 : Int32} {M : am_Mem} (hres : fn4_search_b140 N  r0 r1 r3 x4 M = some (v, M')) : G 140 [(0, .inr (.inr r0)), (1, .inr (.inr r1)), (3, .inr (.inr r3)), (4, .inl x4)] [] M 0 0 := by
  unfold fn4_search_b140 at hres
  refine am_iload cx 3 dX4_search_140 rfl ?_
  refine am_aload_n cx 0 dX4_search_142 rfl ?_
  obtain ⟨q1, hres⟩ := am_ck_some hres
  refine am_getI cx dX4_search_143 flX4_45 (am_ke q1) ?_
  refine am_icmp_ge cx (tgt := 151) dX4_search_146 (by decide) (fun h => ?_) (fun h => ?_)
  · have hres := am_ifp h hres
    refine am_aload_n cx 0 dX4_search_151 rfl ?_
    refine am_aload_n cx 1 dX4_search_152 rfl ?_
    refine am_aload_n cx 2 dX4_search_153 rfl ?_
    obtain ⟨v2, M3, q4, hres⟩ := am_bd_some hres
    refine am_callV0 cx [.inr (.inr r1), .inr (.inr r3)] dX4_search_154 cvX4_59 (mt4_fillDraft q4) (am_ke q1) ⟨rfl, rfl, Nat.le_of_ble_eq_true rfl, Nat.le_of_ble_eq_true rfl⟩ rfl (Nat.le_of_ble_eq_true rfl) ⟨Nat.le_of_ble_eq_true rfl, Nat.le_of_ble_eq_true rfl⟩ ?_
    refine am_iconst cx (v := (1 : Int32)) dX4_search_157 (by decide) ?_
    obtain ⟨rfl, rfl⟩ := am_fin hres
    exact am_zret cx rfl dX4_search_158
  · have hres := am_ifn h hres
    refine am_iconst cx (v := (0 : Int32)) dX4_search_149 (by decide) ?_
    obtain ⟨rfl, rfl⟩ := am_fin hres
    exact am_zret cx rfl dX4_search_150
set_option maxRecDepth 20000 in
theorem sn4_search_b134 {l : Launch} {G : am_G} {v : Int32} {M' : am_Mem} {N : Nat} {k27 : Nat → Nat → Nat → Nat → Int32 → Int32 → Int32 → am_Mem → Option (Int32 × am_Mem)} (cx : am_Ctx l rm4_search yX4_search cX4_search 8 (some .boolean) (some (.inl v)) M' 0 0 G) (hk27 : ∀ (r0 : Nat) (r1 : Nat) (r2 : Nat) (r3 : Nat) (x4 : Int32) (x5 : Int32) (x6 : Int32) (M : am_Mem), k27 r0 r1 r2 r3 x4 x5 x6 M = some (v, M') → G 27 [(0, .inr (.inr r0)), (1, .inr (.inr r1)), (2, .inr (.inr r2)), (3, .inr (.inr r3)), (4, .inl x4), (5, .inl x5), (6, .inl x6)] [] M 0 0) {r0 : Nat} {r1 : Nat} {r2 : Nat} {r3 : Nat} {x4 : Int32} {x5 : Int32} {x6 : Int32} {M : am_Mem} (hres : fn4_search_b134 N k27 r0 r1 r2 r3 x4 x5 x6 M = some (v, M')) : G 134 [(0, .inr (.inr r0)), (1, .inr (.inr r1)), (2, .inr (.inr r2)), (3, .inr (.inr r3)), (4, .inl x4), (5, .inl x5), (6, .inl x6)] [] M 0 0 := by
  unfold fn4_search_b134 at hres
  refine am_iincw cx (lv' := [(0, .inr (.inr r0)), (1, .inr (.inr r1)), (2, .inr (.inr r2)), (3, .inr (.inr r3)), (4, .inl x4), (5, .inl x5), (6, .inl (x6 + (1 : Int32)))]) (w := (1 : Int32)) 6 dX4_search_134 (by decide) rfl (Nat.le_of_ble_eq_true rfl) rfl ?_
  refine am_goto cx (tgt := 27) dX4_search_137 (by decide) ?_
  exact hk27 _ _ _ _ _ _ _ _ hres
set_option maxRecDepth 20000 in
theorem sn4_search_b27B {l : Launch} {G : am_G} {v : Int32} {M' : am_Mem} {N : Nat} {k27 : Nat → Nat → Nat → Nat → Int32 → Int32 → Int32 → am_Mem → Option (Int32 × am_Mem)} (cx : am_Ctx l rm4_search yX4_search cX4_search 8 (some .boolean) (some (.inl v)) M' 0 0 G) (hk27 : ∀ (r0 : Nat) (r1 : Nat) (r2 : Nat) (r3 : Nat) (x4 : Int32) (x5 : Int32) (x6 : Int32) (M : am_Mem), k27 r0 r1 r2 r3 x4 x5 x6 M = some (v, M') → G 27 [(0, .inr (.inr r0)), (1, .inr (.inr r1)), (2, .inr (.inr r2)), (3, .inr (.inr r3)), (4, .inl x4), (5, .inl x5), (6, .inl x6)] [] M 0 0) {r0 : Nat} {r1 : Nat} {r2 : Nat} {r3 : Nat} {x4 : Int32} {x5 : Int32} {x6 : Int32} {M : am_Mem} (hres : fn4_search_b27B N k27 r0 r1 r2 r3 x4 x5 x6 M = some (v, M')) : G 27 [(0, .inr (.inr r0)), (1, .inr (.inr r1)), (2, .inr (.inr r2)), (3, .inr (.inr r3)), (4, .inl x4), (5, .inl x5), (6, .inl x6)] [] M 0 0 := by
  unfold fn4_search_b27B at hres
  refine am_iload cx 6 dX4_search_27 rfl ?_
  refine am_ldc cx dX4_search_29 aw_3_112 ?_
  refine am_icmp_ge cx (tgt := 140) dX4_search_31 (by decide) (fun h => ?_) (fun h => ?_)
  · have hres := am_ifp h hres
    refine am_sub cx [0, 1, 3, 4] rfl ?_
    exact sn4_search_b140 cx  hres
  · have hres := am_ifn h hres
    refine am_iload cx 4 dX4_search_34 rfl ?_
    refine am_aload_n cx 0 dX4_search_36 rfl ?_
    obtain ⟨q1, hres⟩ := am_ck_some hres
    refine am_getI cx dX4_search_37 flX4_45 (am_ke q1) ?_
    refine am_icmp_ge cx (tgt := 140) dX4_search_40 (by decide) (fun h => ?_) (fun h => ?_)
    · have hres := am_ifp h hres
      refine am_sub cx [0, 1, 3, 4] rfl ?_
      exact sn4_search_b140 cx  hres
    · have hres := am_ifn h hres
      refine am_aload_n cx 0 dX4_search_43 rfl ?_
      refine am_aload_n cx 1 dX4_search_44 rfl ?_
      refine am_aload_n cx 2 dX4_search_45 rfl ?_
      refine am_iload cx 4 dX4_search_46 rfl ?_
      refine am_iload cx 5 dX4_search_48 rfl ?_
      obtain ⟨v2, M3, q4, hres⟩ := am_bd_some hres
      refine am_callV1 cx [.inr (.inr r1), .inr (.inr r2), .inl x4, .inl x5] dX4_search_50 cvX4_48 (mt4_nextFitting q4) (am_ke q1) ⟨rfl, rfl, Nat.le_of_ble_eq_true rfl, Nat.le_of_ble_eq_true rfl⟩ rfl (Nat.le_of_ble_eq_true rfl) ⟨Nat.le_of_ble_eq_true rfl, Nat.le_of_ble_eq_true rfl⟩ ?_
      refine am_istore cx (lv' := [(0, .inr (.inr r0)), (1, .inr (.inr r1)), (2, .inr (.inr r2)), (3, .inr (.inr r3)), (4, .inl x4), (5, .inl x5), (6, .inl x6), (7, .inl v2)]) dX4_search_53 (Nat.le_of_ble_eq_true rfl) rfl ?_
      refine am_iload cx 7 dX4_search_55 rfl ?_
      refine am_iconst cx (v := (-1 : Int32)) dX4_search_57 (by decide) ?_
      refine am_icmp_eq cx (tgt := 100) dX4_search_58 (by decide) (fun h => ?_) (fun h => ?_)
      · have hres := am_ifp h hres
        refine am_iload cx 4 dX4_search_100 rfl ?_
        refine am_if_ne cx (tgt := 107) dX4_search_102 (by decide) (fun h => ?_) (fun h => ?_)
        · have hres := am_ifn h hres
          refine am_iincw cx (lv' := [(0, .inr (.inr r0)), (1, .inr (.inr r1)), (2, .inr (.inr r2)), (3, .inr (.inr r3)), (4, .inl (x4 + (-1 : Int32))), (5, .inl x5), (6, .inl x6), (7, .inl v2)]) (w := (-1 : Int32)) 4 dX4_search_107 (by decide) rfl (Nat.le_of_ble_eq_true rfl) rfl ?_
          refine am_aload_n cx 0 dX4_search_110 rfl ?_
          obtain ⟨q5, hres⟩ := am_ck_some hres
          refine am_getR cx dX4_search_111 flX4_24 (am_ke q5) ?_
          refine am_aload_n cx 0 dX4_search_114 rfl ?_
          refine am_getR cx dX4_search_115 flX4_21 (am_ke q5) ?_
          refine am_iload cx 4 dX4_search_118 rfl ?_
          obtain ⟨q6, hres⟩ := am_ck_some hres
          obtain ⟨q7, hres⟩ := am_ck_some hres
          refine am_iald cx dX4_search_120 (am_ke q6) q7 ?_
          refine am_iconst cx (v := (0 : Int32)) dX4_search_121 (by decide) ?_
          obtain ⟨q8, hres⟩ := am_ck_some hres
          obtain ⟨q9, hres⟩ := am_ck_some hres
          refine am_zast cx dX4_search_122 (am_ke q8) q9  ?_
          refine am_aload_n cx 0 dX4_search_123 rfl ?_
          refine am_getR cx dX4_search_124 flX4_21 (am_ke q5) ?_
          refine am_iload cx 4 dX4_search_127 rfl ?_
          obtain ⟨q10, hres⟩ := am_ck_some hres
          refine am_iald cx dX4_search_129 (am_ke q6) q10 ?_
          refine am_iconst cx (v := (1 : Int32)) dX4_search_130 (by decide) ?_
          refine am_iadd cx dX4_search_131 ?_
          refine am_istore cx (lv' := [(0, .inr (.inr r0)), (1, .inr (.inr r1)), (2, .inr (.inr r2)), (3, .inr (.inr r3)), (4, .inl (x4 + (-1 : Int32))), (5, .inl ((am_I (am_wI M3 (am_R M3 r0 3) (am_I M3 (am_R M3 r0 2) (x4 + (-1 : Int32)).toNatClampNeg).toNatClampNeg ((0 : Int32) &&& 1)) (am_R M3 r0 2) (x4 + (-1 : Int32)).toNatClampNeg) + (1 : Int32))), (6, .inl x6), (7, .inl v2)]) dX4_search_132 (Nat.le_of_ble_eq_true rfl) rfl ?_
          refine am_sub cx [0, 1, 2, 3, 4, 5, 6] rfl ?_
          exact sn4_search_b134 cx hk27 hres
        · have hres := am_ifp h hres
          refine am_iconst cx (v := (0 : Int32)) dX4_search_105 (by decide) ?_
          obtain ⟨rfl, rfl⟩ := am_fin hres
          exact am_zret cx rfl dX4_search_106
      · have hres := am_ifn h hres
        refine am_aload_n cx 1 dX4_search_61 rfl ?_
        obtain ⟨q11, hres⟩ := am_ck_some hres
        refine am_getI cx dX4_search_62 flX4_52 (am_ke q11) ?_
        refine am_sipush cx (v := (20000 : Int32)) dX4_search_65 (by decide) ?_
        refine am_icmp_lt cx (tgt := 73) dX4_search_68 (by decide) (fun h => ?_) (fun h => ?_)
        · have hres := am_ifp h hres
          refine am_aload_n cx 1 dX4_search_73 rfl ?_
          refine am_dup cx dX4_search_74 rfl ?_
          refine am_getI cx dX4_search_75 flX4_52 (am_ke q11) ?_
          refine am_iconst cx (v := (1 : Int32)) dX4_search_78 (by decide) ?_
          refine am_iadd cx dX4_search_79 ?_
          refine am_putI cx dX4_search_80 fpX4_52 (fun h => by cases h) (am_ke q11) ?_
          refine am_aload_n cx 0 dX4_search_83 rfl ?_
          refine am_iload cx 7 dX4_search_84 rfl ?_
          refine am_iload cx 4 dX4_search_86 rfl ?_
          obtain ⟨q12, hres⟩ := am_ck_some hres
          obtain ⟨v13, M14, q15, hres⟩ := am_bd_some hres
          refine am_callV0 cx [.inl v2, .inl x4] dX4_search_88 cvX4_55 (mt4_layWire q15) (am_ke q12) ⟨rfl, rfl, Nat.le_of_ble_eq_true rfl, Nat.le_of_ble_eq_true rfl⟩ rfl (Nat.le_of_ble_eq_true rfl) ⟨Nat.le_of_ble_eq_true rfl, Nat.le_of_ble_eq_true rfl⟩ ?_
          refine am_iincw cx (lv' := [(0, .inr (.inr r0)), (1, .inr (.inr r1)), (2, .inr (.inr r2)), (3, .inr (.inr r3)), (4, .inl (x4 + (1 : Int32))), (5, .inl x5), (6, .inl x6), (7, .inl v2)]) (w := (1 : Int32)) 4 dX4_search_91 (by decide) rfl (Nat.le_of_ble_eq_true rfl) rfl ?_
          refine am_iconst cx (v := (0 : Int32)) dX4_search_94 (by decide) ?_
          refine am_istore cx (lv' := [(0, .inr (.inr r0)), (1, .inr (.inr r1)), (2, .inr (.inr r2)), (3, .inr (.inr r3)), (4, .inl (x4 + (1 : Int32))), (5, .inl (0 : Int32)), (6, .inl x6), (7, .inl v2)]) dX4_search_95 (Nat.le_of_ble_eq_true rfl) rfl ?_
          refine am_goto cx (tgt := 134) dX4_search_97 (by decide) ?_
          refine am_sub cx [0, 1, 2, 3, 4, 5, 6] rfl ?_
          exact sn4_search_b134 cx hk27 hres
        · have hres := am_ifn h hres
          refine am_iconst cx (v := (0 : Int32)) dX4_search_71 (by decide) ?_
          obtain ⟨rfl, rfl⟩ := am_fin hres
          exact am_zret cx rfl dX4_search_72
set_option maxRecDepth 20000 in
theorem sn4_search_b27 {l : Launch} {G : am_G} {v : Int32} {M' : am_Mem} {N : Nat}  (cx : am_Ctx l rm4_search yX4_search cX4_search 8 (some .boolean) (some (.inl v)) M' 0 0 G)  (i : Nat) : ∀ (r0 : Nat) (r1 : Nat) (r2 : Nat) (r3 : Nat) (x4 : Int32) (x5 : Int32) (x6 : Int32) (M : am_Mem), fn4_search_b27 N  i r0 r1 r2 r3 x4 x5 x6 M = some (v, M') → G 27 [(0, .inr (.inr r0)), (1, .inr (.inr r1)), (2, .inr (.inr r2)), (3, .inr (.inr r3)), (4, .inl x4), (5, .inl x5), (6, .inl x6)] [] M 0 0 := by
  induction i with
  | zero => intro r0 r1 r2 r3 x4 x5 x6 M hres; exact am_no hres
  | succ i ih => intro r0 r1 r2 r3 x4 x5 x6 M hres; exact sn4_search_b27B cx ih hres
set_option maxRecDepth 20000 in
theorem sn4_search_b0 {l : Launch} {G : am_G} {v : Int32} {M' : am_Mem} {N : Nat}  (cx : am_Ctx l rm4_search yX4_search cX4_search 8 (some .boolean) (some (.inl v)) M' 0 0 G)  {r0 : Nat} {r1 : Nat} {r2 : Nat} {r3 : Nat} {M : am_Mem} (hres : fn4_search_b0 N  r0 r1 r2 r3 M = some (v, M')) : G 0 [(0, .inr (.inr r0)), (1, .inr (.inr r1)), (2, .inr (.inr r2)), (3, .inr (.inr r3))] [] M 0 0 := by
  unfold fn4_search_b0 at hres
  refine am_aload_n cx 0 dX4_search_0 rfl ?_
  refine am_aload_n cx 1 dX4_search_1 rfl ?_
  obtain ⟨q1, hres⟩ := am_ck_some hres
  obtain ⟨v2, M3, q4, hres⟩ := am_bd_some hres
  refine am_callV0 cx [.inr (.inr r1)] dX4_search_2 cvX4_31 (mt4_takeSizes q4) (am_ke q1) ⟨rfl, rfl, Nat.le_of_ble_eq_true rfl, Nat.le_of_ble_eq_true rfl⟩ rfl (Nat.le_of_ble_eq_true rfl) ⟨Nat.le_of_ble_eq_true rfl, Nat.le_of_ble_eq_true rfl⟩ ?_
  refine am_aload_n cx 0 dX4_search_5 rfl ?_
  obtain ⟨q5, hres⟩ := am_ck_some hres
  refine am_getR cx dX4_search_6 flX4_11 (am_ke q5) ?_
  refine am_iconst cx (v := (0 : Int32)) dX4_search_9 (by decide) ?_
  obtain ⟨q6, hres⟩ := am_ck_some hres
  obtain ⟨q7, hres⟩ := am_ck_some hres
  refine am_aald17 cx dX4_search_10 (am_ke q6) q7 ?_
  refine am_aload_n cx 1 dX4_search_11 rfl ?_
  obtain ⟨q8, hres⟩ := am_ck_some hres
  refine am_getI cx dX4_search_12 flX4_35 (am_ke q8) ?_
  obtain ⟨q9, hres⟩ := am_ck_some hres
  obtain ⟨v10, M11, q12, hres⟩ := am_bd_some hres
  refine am_callV0 cx [.inl (am_I M3 r1 5)] dX4_search_15 cvX4_41 (mt6_open q12) (am_ke q9) ⟨rfl, rfl, Nat.le_of_ble_eq_true rfl, Nat.le_of_ble_eq_true rfl⟩ rfl (Nat.le_of_ble_eq_true rfl) ⟨Nat.le_of_ble_eq_true rfl, Nat.le_of_ble_eq_true rfl⟩ ?_
  refine am_iconst cx (v := (0 : Int32)) dX4_search_18 (by decide) ?_
  refine am_istore cx (lv' := [(0, .inr (.inr r0)), (1, .inr (.inr r1)), (2, .inr (.inr r2)), (3, .inr (.inr r3)), (4, .inl (0 : Int32))]) dX4_search_19 (Nat.le_of_ble_eq_true rfl) rfl ?_
  refine am_iconst cx (v := (0 : Int32)) dX4_search_21 (by decide) ?_
  refine am_istore cx (lv' := [(0, .inr (.inr r0)), (1, .inr (.inr r1)), (2, .inr (.inr r2)), (3, .inr (.inr r3)), (4, .inl (0 : Int32)), (5, .inl (0 : Int32))]) dX4_search_22 (Nat.le_of_ble_eq_true rfl) rfl ?_
  refine am_iconst cx (v := (0 : Int32)) dX4_search_24 (by decide) ?_
  refine am_istore cx (lv' := [(0, .inr (.inr r0)), (1, .inr (.inr r1)), (2, .inr (.inr r2)), (3, .inr (.inr r3)), (4, .inl (0 : Int32)), (5, .inl (0 : Int32)), (6, .inl (0 : Int32))]) dX4_search_25 (Nat.le_of_ble_eq_true rfl) rfl ?_
  exact sn4_search_b27 cx  N _ _ _ _ _ _ _ _ hres
set_option maxRecDepth 20000 in
theorem mt4_search {l : Launch} {v : Int32} {M M' : am_Mem} {N : Nat} {r0 : Nat} {r1 : Nat} {r2 : Nat} {r3 : Nat} (h : fn4_search N M r0 r1 r2 r3 = some (v, M')) : am_Met l yX4_search cX4_search 8 (some .boolean) rm4_search 0 0 [.inr (.inr r0), .inr (.inr r1), .inr (.inr r2), .inr (.inr r3)] M (some (.inl v)) M' := am_mk (by decide) (Nat.le_of_ble_eq_true rfl) (fun G cx => (sn4_search_b0 cx h))
-- SquareCuts$Reader.readGroups
def fn8_readGroups_b48 (N : Nat)   (M : am_Mem) : Option (Int32 × am_Mem) :=
  some ((0 : Int32), M)
def fn8_readGroups_b16B (N : Nat) (k16 : Nat → Int32 → am_Mem → Option (Int32 × am_Mem)) (r0 : Nat) (x1 : Int32) (M : am_Mem) : Option (Int32 × am_Mem) :=
  if (24 : Int32) < x1 then fn8_readGroups_b48 N   M else am_ck (am_k M r0 8) (if (am_I M r0 3) = (3 : Int32) then am_bd (fn8_readGroup N M r0 x1) (fun v2 M3 => if v2 = 0 then k16 r0 (x1 + (1 : Int32)) M3 else some (v2, M3)) else fn8_readGroups_b48 N   M)
def fn8_readGroups_b16 (N : Nat)  : Nat → Nat → Int32 → am_Mem → Option (Int32 × am_Mem)
  | 0 => fun _ _ _ => none
  | i + 1 => fn8_readGroups_b16B N (fn8_readGroups_b16 N  i)
def fn8_readGroups_b0 (N : Nat)  (r0 : Nat) (M : am_Mem) : Option (Int32 × am_Mem) :=
  am_ck (am_k M r0 8) (if (am_I M r0 3) = (3 : Int32) then fn8_readGroups_b16 N  N r0 (0 : Int32) M else am_bd (fn8_faultOf M r0 (1 : Int32)) (fun v2 M3 => some (v2, M3)))
def fn8_readGroups (N : Nat) (M : am_Mem) (r0 : Nat) : Option (Int32 × am_Mem) := fn8_readGroups_b0 N r0 M
def rm8_readGroups : Room := { frames := 3, cells := 0, slots := 0, locals := 62 }
set_option maxRecDepth 20000 in
theorem sn8_readGroups_b48 {l : Launch} {G : am_G} {v : Int32} {M' : am_Mem} {N : Nat}  (cx : am_Ctx l rm8_readGroups yX8_readGroups cX8_readGroups 3 (some .int) (some (.inl v)) M' 0 0 G)   {M : am_Mem} (hres : fn8_readGroups_b48 N   M = some (v, M')) : G 48 [] [] M 0 0 := by
  unfold fn8_readGroups_b48 at hres
  refine am_iconst cx (v := (0 : Int32)) dX8_readGroups_48 (by decide) ?_
  obtain ⟨rfl, rfl⟩ := am_fin hres
  exact am_iret cx dX8_readGroups_49
set_option maxRecDepth 20000 in
theorem sn8_readGroups_b16B {l : Launch} {G : am_G} {v : Int32} {M' : am_Mem} {N : Nat} {k16 : Nat → Int32 → am_Mem → Option (Int32 × am_Mem)} (cx : am_Ctx l rm8_readGroups yX8_readGroups cX8_readGroups 3 (some .int) (some (.inl v)) M' 0 0 G) (hk16 : ∀ (r0 : Nat) (x1 : Int32) (M : am_Mem), k16 r0 x1 M = some (v, M') → G 16 [(0, .inr (.inr r0)), (1, .inl x1)] [] M 0 0) {r0 : Nat} {x1 : Int32} {M : am_Mem} (hres : fn8_readGroups_b16B N k16 r0 x1 M = some (v, M')) : G 16 [(0, .inr (.inr r0)), (1, .inl x1)] [] M 0 0 := by
  unfold fn8_readGroups_b16B at hres
  refine am_iload_n cx 1 dX8_readGroups_16 rfl ?_
  refine am_bipush cx (v := (24 : Int32)) dX8_readGroups_17 (by decide) ?_
  refine am_icmp_gt cx (tgt := 48) dX8_readGroups_19 (by decide) (fun h => ?_) (fun h => ?_)
  · have hres := am_ifp h hres
    refine am_sub cx [] rfl ?_
    exact sn8_readGroups_b48 cx  hres
  · have hres := am_ifn h hres
    refine am_aload_n cx 0 dX8_readGroups_22 rfl ?_
    obtain ⟨q1, hres⟩ := am_ck_some hres
    refine am_getI cx dX8_readGroups_23 flX8_57 (am_ke q1) ?_
    refine am_iconst cx (v := (3 : Int32)) dX8_readGroups_26 (by decide) ?_
    refine am_icmp_ne cx (tgt := 48) dX8_readGroups_27 (by decide) (fun h => ?_) (fun h => ?_)
    · have hres := am_ifn h hres
      refine am_sub cx [] rfl ?_
      exact sn8_readGroups_b48 cx  hres
    · have hres := am_ifp h hres
      refine am_aload_n cx 0 dX8_readGroups_30 rfl ?_
      refine am_iload_n cx 1 dX8_readGroups_31 rfl ?_
      obtain ⟨v2, M3, q4, hres⟩ := am_bd_some hres
      refine am_callV1 cx [.inl x1] dX8_readGroups_32 cvX8_90 (mt8_readGroup q4) (am_ke q1) ⟨rfl, rfl, Nat.le_of_ble_eq_true rfl, Nat.le_of_ble_eq_true rfl⟩ rfl (Nat.le_of_ble_eq_true rfl) ⟨Nat.le_of_ble_eq_true rfl, Nat.le_of_ble_eq_true rfl⟩ ?_
      refine am_istore_n cx (lv' := [(0, .inr (.inr r0)), (1, .inl x1), (2, .inl v2)]) dX8_readGroups_35 (Nat.le_of_ble_eq_true rfl) rfl ?_
      refine am_iload_n cx 2 dX8_readGroups_36 rfl ?_
      refine am_if_eq cx (tgt := 42) dX8_readGroups_37 (by decide) (fun h => ?_) (fun h => ?_)
      · have hres := am_ifp h hres
        refine am_iincw cx (lv' := [(0, .inr (.inr r0)), (1, .inl (x1 + (1 : Int32))), (2, .inl v2)]) (w := (1 : Int32)) 1 dX8_readGroups_42 (by decide) rfl (Nat.le_of_ble_eq_true rfl) rfl ?_
        refine am_goto cx (tgt := 16) dX8_readGroups_45 (by decide) ?_
        refine am_sub cx [0, 1] rfl ?_
        exact hk16 _ _ _ hres
      · have hres := am_ifn h hres
        refine am_iload_n cx 2 dX8_readGroups_40 rfl ?_
        obtain ⟨rfl, rfl⟩ := am_fin hres
        exact am_iret cx dX8_readGroups_41
set_option maxRecDepth 20000 in
theorem sn8_readGroups_b16 {l : Launch} {G : am_G} {v : Int32} {M' : am_Mem} {N : Nat}  (cx : am_Ctx l rm8_readGroups yX8_readGroups cX8_readGroups 3 (some .int) (some (.inl v)) M' 0 0 G)  (i : Nat) : ∀ (r0 : Nat) (x1 : Int32) (M : am_Mem), fn8_readGroups_b16 N  i r0 x1 M = some (v, M') → G 16 [(0, .inr (.inr r0)), (1, .inl x1)] [] M 0 0 := by
  induction i with
  | zero => intro r0 x1 M hres; exact am_no hres
  | succ i ih => intro r0 x1 M hres; exact sn8_readGroups_b16B cx ih hres
set_option maxRecDepth 20000 in
theorem sn8_readGroups_b0 {l : Launch} {G : am_G} {v : Int32} {M' : am_Mem} {N : Nat}  (cx : am_Ctx l rm8_readGroups yX8_readGroups cX8_readGroups 3 (some .int) (some (.inl v)) M' 0 0 G)  {r0 : Nat} {M : am_Mem} (hres : fn8_readGroups_b0 N  r0 M = some (v, M')) : G 0 [(0, .inr (.inr r0))] [] M 0 0 := by
  unfold fn8_readGroups_b0 at hres
  refine am_aload_n cx 0 dX8_readGroups_0 rfl ?_
  obtain ⟨q1, hres⟩ := am_ck_some hres
  refine am_getI cx dX8_readGroups_1 flX8_57 (am_ke q1) ?_
  refine am_iconst cx (v := (3 : Int32)) dX8_readGroups_4 (by decide) ?_
  refine am_icmp_eq cx (tgt := 14) dX8_readGroups_5 (by decide) (fun h => ?_) (fun h => ?_)
  · have hres := am_ifp h hres
    refine am_iconst cx (v := (0 : Int32)) dX8_readGroups_14 (by decide) ?_
    refine am_istore_n cx (lv' := [(0, .inr (.inr r0)), (1, .inl (0 : Int32))]) dX8_readGroups_15 (Nat.le_of_ble_eq_true rfl) rfl ?_
    exact sn8_readGroups_b16 cx  N _ _ _ hres
  · have hres := am_ifn h hres
    refine am_aload_n cx 0 dX8_readGroups_8 rfl ?_
    refine am_iconst cx (v := (1 : Int32)) dX8_readGroups_9 (by decide) ?_
    obtain ⟨v2, M3, q4, hres⟩ := am_bd_some hres
    refine am_callV1 cx [.inl (1 : Int32)] dX8_readGroups_10 cvX8_72 (mt8_faultOf q4) (am_ke q1) ⟨rfl, rfl, Nat.le_of_ble_eq_true rfl, Nat.le_of_ble_eq_true rfl⟩ rfl (Nat.le_of_ble_eq_true rfl) ⟨Nat.le_of_ble_eq_true rfl, Nat.le_of_ble_eq_true rfl⟩ ?_
    obtain ⟨rfl, rfl⟩ := am_fin hres
    exact am_iret cx dX8_readGroups_13
set_option maxRecDepth 20000 in
theorem mt8_readGroups {l : Launch} {v : Int32} {M M' : am_Mem} {N : Nat} {r0 : Nat} (h : fn8_readGroups N M r0 = some (v, M')) : am_Met l yX8_readGroups cX8_readGroups 3 (some .int) rm8_readGroups 0 0 [.inr (.inr r0)] M (some (.inl v)) M' := am_mk (by decide) (Nat.le_of_ble_eq_true rfl) (fun G cx => (sn8_readGroups_b0 cx h))
-- SquareCuts$Reader.readNet
def fn8_readNet_b36 (N : Nat)  (r0 : Nat) (M : am_Mem) : Option (Int32 × am_Mem) :=
  am_ck (am_k M r0 8) (am_bd (fn8_faultOf M r0 (3 : Int32)) (fun v2 M3 => some (v2, M3)))
def fn8_readNet_b93 (N : Nat)   (M : am_Mem) : Option (Int32 × am_Mem) :=
  some ((0 : Int32), M)
def fn8_readNet_b57B (N : Nat) (k57 : Nat → Int64 → Int32 → am_Mem → Option (Int32 × am_Mem)) (r0 : Nat) (j1 : Int64) (x3 : Int32) (M : am_Mem) : Option (Int32 × am_Mem) :=
  if (14 : Int32) < x3 then fn8_readNet_b93 N   M else am_ck (am_k M r0 8) (if (am_I M r0 3) = (2 : Int32) then am_bd (fn8_readWire N M r0 x3 j1) (fun v2 M3 => if v2 = 0 then k57 r0 j1 (x3 + (1 : Int32)) M3 else some (v2, M3)) else fn8_readNet_b93 N   M)
def fn8_readNet_b57 (N : Nat)  : Nat → Nat → Int64 → Int32 → am_Mem → Option (Int32 × am_Mem)
  | 0 => fun _ _ _ _ => none
  | i + 1 => fn8_readNet_b57B N (fn8_readNet_b57 N  i)
def fn8_readNet_b47 (N : Nat)  (r0 : Nat) (j1 : Int64) (M : am_Mem) : Option (Int32 × am_Mem) :=
  am_ck (am_k M r0 8) (am_bd (fn8_holdValue M r0) (fun v2 M3 => am_ck (am_k M3 r0 8) (am_bd (fn8_nextToken N M3 r0) (fun v6 M7 => fn8_readNet_b57 N  N r0 j1 (0 : Int32) M7))))
def fn8_readNet_b0 (N : Nat)  (r0 : Nat) (M : am_Mem) : Option (Int32 × am_Mem) :=
  am_ck (am_k M r0 8) (if (am_I M r0 3) = (2 : Int32) then if (lg_cmp (am_J M r0 5) (2 : Int64)) < 0 then fn8_readNet_b36 N  r0 M else if (lg_cmp (am_J M r0 5) (9 : Int64)) ≤ 0 then fn8_readNet_b47 N  r0 (am_J M r0 5) M else fn8_readNet_b36 N  r0 M else am_bd (fn8_faultOf M r0 (1 : Int32)) (fun v2 M3 => some (v2, M3)))
def fn8_readNet (N : Nat) (M : am_Mem) (r0 : Nat) : Option (Int32 × am_Mem) := fn8_readNet_b0 N r0 M
def rm8_readNet : Room := { frames := 3, cells := 0, slots := 0, locals := 65 }
set_option maxRecDepth 20000 in
theorem sn8_readNet_b36 {l : Launch} {G : am_G} {v : Int32} {M' : am_Mem} {N : Nat}  (cx : am_Ctx l rm8_readNet yX8_readNet cX8_readNet 5 (some .int) (some (.inl v)) M' 0 0 G)  {r0 : Nat} {M : am_Mem} (hres : fn8_readNet_b36 N  r0 M = some (v, M')) : G 36 [(0, .inr (.inr r0))] [] M 0 0 := by
  unfold fn8_readNet_b36 at hres
  refine am_aload_n cx 0 dX8_readNet_36 rfl ?_
  refine am_iconst cx (v := (3 : Int32)) dX8_readNet_37 (by decide) ?_
  obtain ⟨q1, hres⟩ := am_ck_some hres
  obtain ⟨v2, M3, q4, hres⟩ := am_bd_some hres
  refine am_callV1 cx [.inl (3 : Int32)] dX8_readNet_38 cvX8_72 (mt8_faultOf q4) (am_ke q1) ⟨rfl, rfl, Nat.le_of_ble_eq_true rfl, Nat.le_of_ble_eq_true rfl⟩ rfl (Nat.le_of_ble_eq_true rfl) ⟨Nat.le_of_ble_eq_true rfl, Nat.le_of_ble_eq_true rfl⟩ ?_
  obtain ⟨rfl, rfl⟩ := am_fin hres
  exact am_iret cx dX8_readNet_41
set_option maxRecDepth 20000 in
theorem sn8_readNet_b93 {l : Launch} {G : am_G} {v : Int32} {M' : am_Mem} {N : Nat}  (cx : am_Ctx l rm8_readNet yX8_readNet cX8_readNet 5 (some .int) (some (.inl v)) M' 0 0 G)   {M : am_Mem} (hres : fn8_readNet_b93 N   M = some (v, M')) : G 93 [] [] M 0 0 := by
  unfold fn8_readNet_b93 at hres
  refine am_iconst cx (v := (0 : Int32)) dX8_readNet_93 (by decide) ?_
  obtain ⟨rfl, rfl⟩ := am_fin hres
  exact am_iret cx dX8_readNet_94
set_option maxRecDepth 20000 in
theorem sn8_readNet_b57B {l : Launch} {G : am_G} {v : Int32} {M' : am_Mem} {N : Nat} {k57 : Nat → Int64 → Int32 → am_Mem → Option (Int32 × am_Mem)} (cx : am_Ctx l rm8_readNet yX8_readNet cX8_readNet 5 (some .int) (some (.inl v)) M' 0 0 G) (hk57 : ∀ (r0 : Nat) (j1 : Int64) (x3 : Int32) (M : am_Mem), k57 r0 j1 x3 M = some (v, M') → G 57 [(0, .inr (.inr r0)), (1, .inr (.inl j1)), (3, .inl x3)] [] M 0 0) {r0 : Nat} {j1 : Int64} {x3 : Int32} {M : am_Mem} (hres : fn8_readNet_b57B N k57 r0 j1 x3 M = some (v, M')) : G 57 [(0, .inr (.inr r0)), (1, .inr (.inl j1)), (3, .inl x3)] [] M 0 0 := by
  unfold fn8_readNet_b57B at hres
  refine am_iload_n cx 2 dX8_readNet_57 rfl ?_
  refine am_bipush cx (v := (14 : Int32)) dX8_readNet_58 (by decide) ?_
  refine am_icmp_gt cx (tgt := 93) dX8_readNet_60 (by decide) (fun h => ?_) (fun h => ?_)
  · have hres := am_ifp h hres
    refine am_sub cx [] rfl ?_
    exact sn8_readNet_b93 cx  hres
  · have hres := am_ifn h hres
    refine am_aload_n cx 0 dX8_readNet_63 rfl ?_
    obtain ⟨q1, hres⟩ := am_ck_some hres
    refine am_getI cx dX8_readNet_64 flX8_57 (am_ke q1) ?_
    refine am_iconst cx (v := (2 : Int32)) dX8_readNet_67 (by decide) ?_
    refine am_icmp_ne cx (tgt := 93) dX8_readNet_68 (by decide) (fun h => ?_) (fun h => ?_)
    · have hres := am_ifn h hres
      refine am_sub cx [] rfl ?_
      exact sn8_readNet_b93 cx  hres
    · have hres := am_ifp h hres
      refine am_aload_n cx 0 dX8_readNet_71 rfl ?_
      refine am_iload_n cx 2 dX8_readNet_72 rfl ?_
      refine am_lload_n cx 1 dX8_readNet_73 rfl ?_
      obtain ⟨v2, M3, q4, hres⟩ := am_bd_some hres
      refine am_callV1 cx [.inl x3, .inr (.inl j1)] dX8_readNet_74 cvX8_100 (mt8_readWire q4) (am_ke q1) ⟨rfl, rfl, Nat.le_of_ble_eq_true rfl, Nat.le_of_ble_eq_true rfl⟩ rfl (Nat.le_of_ble_eq_true rfl) ⟨Nat.le_of_ble_eq_true rfl, Nat.le_of_ble_eq_true rfl⟩ ?_
      refine am_istore cx (lv' := [(0, .inr (.inr r0)), (1, .inr (.inl j1)), (3, .inl x3), (4, .inl v2)]) dX8_readNet_77 (Nat.le_of_ble_eq_true rfl) rfl ?_
      refine am_iload cx 3 dX8_readNet_79 rfl ?_
      refine am_if_eq cx (tgt := 87) dX8_readNet_81 (by decide) (fun h => ?_) (fun h => ?_)
      · have hres := am_ifp h hres
        refine am_iincw cx (lv' := [(0, .inr (.inr r0)), (1, .inr (.inl j1)), (3, .inl (x3 + (1 : Int32))), (4, .inl v2)]) (w := (1 : Int32)) 2 dX8_readNet_87 (by decide) rfl (Nat.le_of_ble_eq_true rfl) rfl ?_
        refine am_goto cx (tgt := 57) dX8_readNet_90 (by decide) ?_
        refine am_sub cx [0, 1, 2] rfl ?_
        exact hk57 _ _ _ _ hres
      · have hres := am_ifn h hres
        refine am_iload cx 3 dX8_readNet_84 rfl ?_
        obtain ⟨rfl, rfl⟩ := am_fin hres
        exact am_iret cx dX8_readNet_86
set_option maxRecDepth 20000 in
theorem sn8_readNet_b57 {l : Launch} {G : am_G} {v : Int32} {M' : am_Mem} {N : Nat}  (cx : am_Ctx l rm8_readNet yX8_readNet cX8_readNet 5 (some .int) (some (.inl v)) M' 0 0 G)  (i : Nat) : ∀ (r0 : Nat) (j1 : Int64) (x3 : Int32) (M : am_Mem), fn8_readNet_b57 N  i r0 j1 x3 M = some (v, M') → G 57 [(0, .inr (.inr r0)), (1, .inr (.inl j1)), (3, .inl x3)] [] M 0 0 := by
  induction i with
  | zero => intro r0 j1 x3 M hres; exact am_no hres
  | succ i ih => intro r0 j1 x3 M hres; exact sn8_readNet_b57B cx ih hres
set_option maxRecDepth 20000 in
theorem sn8_readNet_b47 {l : Launch} {G : am_G} {v : Int32} {M' : am_Mem} {N : Nat}  (cx : am_Ctx l rm8_readNet yX8_readNet cX8_readNet 5 (some .int) (some (.inl v)) M' 0 0 G)  {r0 : Nat} {j1 : Int64} {M : am_Mem} (hres : fn8_readNet_b47 N  r0 j1 M = some (v, M')) : G 47 [(0, .inr (.inr r0)), (1, .inr (.inl j1))] [] M 0 0 := by
  unfold fn8_readNet_b47 at hres
  refine am_aload_n cx 0 dX8_readNet_47 rfl ?_
  obtain ⟨q1, hres⟩ := am_ck_some hres
  obtain ⟨v2, M3, q4, hres⟩ := am_bd_some hres
  refine am_callV0 cx [] dX8_readNet_48 cvX8_93 (mt8_holdValue q4) (am_ke q1) ⟨rfl, rfl, Nat.le_of_ble_eq_true rfl, Nat.le_of_ble_eq_true rfl⟩ rfl (Nat.le_of_ble_eq_true rfl) ⟨Nat.le_of_ble_eq_true rfl, Nat.le_of_ble_eq_true rfl⟩ ?_
  refine am_aload_n cx 0 dX8_readNet_51 rfl ?_
  obtain ⟨q5, hres⟩ := am_ck_some hres
  obtain ⟨v6, M7, q8, hres⟩ := am_bd_some hres
  refine am_callV0 cx [] dX8_readNet_52 cvX8_54 (mt8_nextToken q8) (am_ke q5) ⟨rfl, rfl, Nat.le_of_ble_eq_true rfl, Nat.le_of_ble_eq_true rfl⟩ rfl (Nat.le_of_ble_eq_true rfl) ⟨Nat.le_of_ble_eq_true rfl, Nat.le_of_ble_eq_true rfl⟩ ?_
  refine am_iconst cx (v := (0 : Int32)) dX8_readNet_55 (by decide) ?_
  refine am_istore_n cx (lv' := [(0, .inr (.inr r0)), (1, .inr (.inl j1)), (3, .inl (0 : Int32))]) dX8_readNet_56 (Nat.le_of_ble_eq_true rfl) rfl ?_
  exact sn8_readNet_b57 cx  N _ _ _ _ hres
set_option maxRecDepth 20000 in
theorem sn8_readNet_b0 {l : Launch} {G : am_G} {v : Int32} {M' : am_Mem} {N : Nat}  (cx : am_Ctx l rm8_readNet yX8_readNet cX8_readNet 5 (some .int) (some (.inl v)) M' 0 0 G)  {r0 : Nat} {M : am_Mem} (hres : fn8_readNet_b0 N  r0 M = some (v, M')) : G 0 [(0, .inr (.inr r0))] [] M 0 0 := by
  unfold fn8_readNet_b0 at hres
  refine am_aload_n cx 0 dX8_readNet_0 rfl ?_
  obtain ⟨q1, hres⟩ := am_ck_some hres
  refine am_getI cx dX8_readNet_1 flX8_57 (am_ke q1) ?_
  refine am_iconst cx (v := (2 : Int32)) dX8_readNet_4 (by decide) ?_
  refine am_icmp_eq cx (tgt := 14) dX8_readNet_5 (by decide) (fun h => ?_) (fun h => ?_)
  · have hres := am_ifp h hres
    refine am_aload_n cx 0 dX8_readNet_14 rfl ?_
    refine am_getJ cx dX8_readNet_15 flX8_80 (am_ke q1) ?_
    refine am_ldc2 cx dX8_readNet_18 aw_2_128 ?_
    refine am_lcmp cx dX8_readNet_21 ?_
    refine am_if_lt cx (tgt := 36) dX8_readNet_22 (by decide) (fun h => ?_) (fun h => ?_)
    · have hres := am_ifp h hres
      exact sn8_readNet_b36 cx  hres
    · have hres := am_ifn h hres
      refine am_aload_n cx 0 dX8_readNet_25 rfl ?_
      refine am_getJ cx dX8_readNet_26 flX8_80 (am_ke q1) ?_
      refine am_ldc2 cx dX8_readNet_29 aw_2_129 ?_
      refine am_lcmp cx dX8_readNet_32 ?_
      refine am_if_le cx (tgt := 42) dX8_readNet_33 (by decide) (fun h => ?_) (fun h => ?_)
      · have hres := am_ifp h hres
        refine am_aload_n cx 0 dX8_readNet_42 rfl ?_
        refine am_getJ cx dX8_readNet_43 flX8_80 (am_ke q1) ?_
        refine am_lstore_n cx (lv' := [(0, .inr (.inr r0)), (1, .inr (.inl (am_J M r0 5)))]) dX8_readNet_46 (Nat.le_of_ble_eq_true rfl) rfl ?_
        exact sn8_readNet_b47 cx  hres
      · have hres := am_ifn h hres
        exact sn8_readNet_b36 cx  hres
  · have hres := am_ifn h hres
    refine am_aload_n cx 0 dX8_readNet_8 rfl ?_
    refine am_iconst cx (v := (1 : Int32)) dX8_readNet_9 (by decide) ?_
    obtain ⟨v2, M3, q4, hres⟩ := am_bd_some hres
    refine am_callV1 cx [.inl (1 : Int32)] dX8_readNet_10 cvX8_72 (mt8_faultOf q4) (am_ke q1) ⟨rfl, rfl, Nat.le_of_ble_eq_true rfl, Nat.le_of_ble_eq_true rfl⟩ rfl (Nat.le_of_ble_eq_true rfl) ⟨Nat.le_of_ble_eq_true rfl, Nat.le_of_ble_eq_true rfl⟩ ?_
    obtain ⟨rfl, rfl⟩ := am_fin hres
    exact am_iret cx dX8_readNet_13
set_option maxRecDepth 20000 in
theorem mt8_readNet {l : Launch} {v : Int32} {M M' : am_Mem} {N : Nat} {r0 : Nat} (h : fn8_readNet N M r0 = some (v, M')) : am_Met l yX8_readNet cX8_readNet 5 (some .int) rm8_readNet 0 0 [.inr (.inr r0)] M (some (.inl v)) M' := am_mk (by decide) (Nat.le_of_ble_eq_true rfl) (fun G cx => (sn8_readNet_b0 cx h))
-- SquareCuts.drawnTiling
def fn11_drawnTiling_b56 (N : Nat)  (c0 : Nat) (c1 : Nat) (a2 : Int32) (c3 : Nat) (r0 : Nat) (M : am_Mem) : Option (Nat × am_Mem) :=
  am_ck (am_k M r0 11) (am_ck (am_k M (am_R M r0 1) 1) (am_ck (am_k M c1 10) (am_bd (fn10_init N M c1 a2 c3 (am_I M (am_R M r0 1) 1) 0) (fun v4 M5 => some (c0, M5)))))
def fn11_drawnTiling_b0 (N : Nat)  (r0 : Nat) (x1 : Int32) (M : am_Mem) : Option (Nat × am_Mem) :=
  am_ck (am_k M r0 11) (am_ck (am_k M (am_R M r0 0) 8) (am_ck (am_k M (am_R M (am_R M r0 0) 11) 19) (am_ck (am_in x1 (am_L M (am_R M (am_R M r0 0) 11))) (am_ck (am_k M (am_R M (am_R M r0 0) 12) 19) (am_ck (am_in x1 (am_L M (am_R M (am_R M r0 0) 12))) (am_ck (am_k M (am_R M (am_R M r0 0) 10) 14) (am_ck (am_in x1 (am_L M (am_R M (am_R M r0 0) 10))) (am_ck (am_k M (am_R M r0 1) 1) (am_bd (fn1_layGroups N M (am_R M r0 1) (am_R M (am_R M (am_R M r0 0) 11) x1.toNatClampNeg) (am_R M (am_R M (am_R M r0 0) 12) x1.toNatClampNeg) (am_I M (am_R M (am_R M r0 0) 10) x1.toNatClampNeg) (am_R M r0 4)) (fun v10 M11 => if v10 = 0 then fn11_drawnTiling_b56 N  (am_n M11 + 1) (am_n M11 + 1) (0 : Int32) 0 r0 (am_new M11 10 0) else am_ck (am_k (am_new M11 10 0) r0 11) (fn11_drawnTiling_b56 N  (am_n M11 + 1) (am_n M11 + 1) (0 : Int32) (am_R (am_new M11 10 0) r0 4) r0 (am_new M11 10 0))))))))))))
def fn11_drawnTiling (N : Nat) (M : am_Mem) (r0 : Nat) (x1 : Int32) : Option (Nat × am_Mem) := fn11_drawnTiling_b0 N r0 x1 M
def rm11_drawnTiling : Room := { frames := 4, cells := 4, slots := 131, locals := 97 }
set_option maxRecDepth 20000 in
theorem sn11_drawnTiling_b56 {l : Launch} {G : am_G} {v : Nat} {M' : am_Mem} {N : Nat}  (cx : am_Ctx l rm11_drawnTiling yX11_drawnTiling cX11_drawnTiling 3 (some (.object "SquareCuts$Tiling")) (some (.inr (.inr v))) M' 4 131 G)  {c0 : Nat} {c1 : Nat} {a2 : Int32} {c3 : Nat} {r0 : Nat} {M : am_Mem} (hres : fn11_drawnTiling_b56 N  c0 c1 a2 c3 r0 M = some (v, M')) : G 56 [(0, .inr (.inr r0))] [.inr (.inr c3), .inl a2, .inr (.inr c1), .inr (.inr c0)] M 1 11 := by
  unfold fn11_drawnTiling_b56 at hres
  refine am_aload_n cx 0 dX11_drawnTiling_56 rfl ?_
  obtain ⟨q1, hres⟩ := am_ck_some hres
  refine am_getR cx dX11_drawnTiling_57 flX11_21 (am_ke q1) ?_
  obtain ⟨q2, hres⟩ := am_ck_some hres
  refine am_getI cx dX11_drawnTiling_60 flX11_318 (am_ke q2) ?_
  refine am_null cx dX11_drawnTiling_63 ?_
  obtain ⟨q3, hres⟩ := am_ck_some hres
  obtain ⟨v4, M5, q6, hres⟩ := am_bd_some hres
  refine am_callI0 cx [.inl a2, .inr (.inr c3), .inl (am_I M (am_R M r0 1) 1), .inr (.inr 0)] dX11_drawnTiling_64 ciX11_321 (mt10_init q6) (by rw [show am_K _ _ = 10 from (am_ke q3)]; decide) ⟨rfl, rfl, Nat.le_of_ble_eq_true rfl, Nat.le_of_ble_eq_true rfl⟩ rfl (Nat.le_of_ble_eq_true rfl) ⟨Nat.le_of_ble_eq_true rfl, Nat.le_of_ble_eq_true rfl⟩ ?_
  obtain ⟨rfl, rfl⟩ := am_fin hres
  exact am_aret cx dX11_drawnTiling_67
set_option maxRecDepth 20000 in
theorem sn11_drawnTiling_b0 {l : Launch} {G : am_G} {v : Nat} {M' : am_Mem} {N : Nat}  (cx : am_Ctx l rm11_drawnTiling yX11_drawnTiling cX11_drawnTiling 3 (some (.object "SquareCuts$Tiling")) (some (.inr (.inr v))) M' 4 131 G)  {r0 : Nat} {x1 : Int32} {M : am_Mem} (hres : fn11_drawnTiling_b0 N  r0 x1 M = some (v, M')) : G 0 [(0, .inr (.inr r0)), (1, .inl x1)] [] M 0 0 := by
  unfold fn11_drawnTiling_b0 at hres
  refine am_aload_n cx 0 dX11_drawnTiling_0 rfl ?_
  obtain ⟨q1, hres⟩ := am_ck_some hres
  refine am_getR cx dX11_drawnTiling_1 flX11_21 (am_ke q1) ?_
  refine am_aload_n cx 0 dX11_drawnTiling_4 rfl ?_
  refine am_getR cx dX11_drawnTiling_5 flX11_12 (am_ke q1) ?_
  obtain ⟨q2, hres⟩ := am_ck_some hres
  refine am_getR cx dX11_drawnTiling_8 flX11_304 (am_ke q2) ?_
  refine am_iload_n cx 1 dX11_drawnTiling_11 rfl ?_
  obtain ⟨q3, hres⟩ := am_ck_some hres
  obtain ⟨q4, hres⟩ := am_ck_some hres
  refine am_aald19 cx dX11_drawnTiling_12 (am_ke q3) q4 ?_
  refine am_aload_n cx 0 dX11_drawnTiling_13 rfl ?_
  refine am_getR cx dX11_drawnTiling_14 flX11_12 (am_ke q1) ?_
  refine am_getR cx dX11_drawnTiling_17 flX11_308 (am_ke q2) ?_
  refine am_iload_n cx 1 dX11_drawnTiling_20 rfl ?_
  obtain ⟨q5, hres⟩ := am_ck_some hres
  obtain ⟨q6, hres⟩ := am_ck_some hres
  refine am_aald19 cx dX11_drawnTiling_21 (am_ke q5) q6 ?_
  refine am_aload_n cx 0 dX11_drawnTiling_22 rfl ?_
  refine am_getR cx dX11_drawnTiling_23 flX11_12 (am_ke q1) ?_
  refine am_getR cx dX11_drawnTiling_26 flX11_311 (am_ke q2) ?_
  refine am_iload_n cx 1 dX11_drawnTiling_29 rfl ?_
  obtain ⟨q7, hres⟩ := am_ck_some hres
  obtain ⟨q8, hres⟩ := am_ck_some hres
  refine am_iald cx dX11_drawnTiling_30 (am_ke q7) q8 ?_
  refine am_aload_n cx 0 dX11_drawnTiling_31 rfl ?_
  refine am_getR cx dX11_drawnTiling_32 flX11_42 (am_ke q1) ?_
  obtain ⟨q9, hres⟩ := am_ck_some hres
  obtain ⟨v10, M11, q12, hres⟩ := am_bd_some hres
  refine am_callV1 cx [.inr (.inr (am_R M (am_R M (am_R M r0 0) 11) x1.toNatClampNeg)), .inr (.inr (am_R M (am_R M (am_R M r0 0) 12) x1.toNatClampNeg)), .inl (am_I M (am_R M (am_R M r0 0) 10) x1.toNatClampNeg), .inr (.inr (am_R M r0 4))] dX11_drawnTiling_35 cvX11_314 (mt1_layGroups q12) (am_ke q9) ⟨rfl, rfl, Nat.le_of_ble_eq_true rfl, Nat.le_of_ble_eq_true rfl⟩ rfl (Nat.le_of_ble_eq_true rfl) ⟨Nat.le_of_ble_eq_true rfl, Nat.le_of_ble_eq_true rfl⟩ ?_
  refine am_istore_n cx (lv' := [(0, .inr (.inr r0)), (1, .inl x1), (2, .inl v10)]) dX11_drawnTiling_38 (Nat.le_of_ble_eq_true rfl) rfl ?_
  refine am_newO cx dX11_drawnTiling_39 nwX11_119 (Nat.le_of_ble_eq_true rfl) (Nat.le_of_ble_eq_true rfl) ?_
  refine am_dup cx dX11_drawnTiling_42 rfl ?_
  refine am_iconst cx (v := (0 : Int32)) dX11_drawnTiling_43 (by decide) ?_
  refine am_iload_n cx 2 dX11_drawnTiling_44 rfl ?_
  refine am_if_eq cx (tgt := 55) dX11_drawnTiling_45 (by decide) (fun h => ?_) (fun h => ?_)
  · have hres := am_ifp h hres
    refine am_null cx dX11_drawnTiling_55 ?_
    refine am_sub cx [0] rfl ?_
    exact sn11_drawnTiling_b56 cx  hres
  · have hres := am_ifn h hres
    refine am_aload_n cx 0 dX11_drawnTiling_48 rfl ?_
    obtain ⟨q13, hres⟩ := am_ck_some hres
    refine am_getR cx dX11_drawnTiling_49 flX11_42 (am_ke q13) ?_
    refine am_goto cx (tgt := 56) dX11_drawnTiling_52 (by decide) ?_
    refine am_sub cx [0] rfl ?_
    exact sn11_drawnTiling_b56 cx  hres
set_option maxRecDepth 20000 in
theorem mt11_drawnTiling {l : Launch} {v : Nat} {M M' : am_Mem} {N : Nat} {r0 : Nat} {x1 : Int32} (h : fn11_drawnTiling N M r0 x1 = some (v, M')) : am_Met l yX11_drawnTiling cX11_drawnTiling 3 (some (.object "SquareCuts$Tiling")) rm11_drawnTiling 4 131 [.inr (.inr r0), .inl x1] M (some (.inr (.inr v))) M' := am_mk (by decide) (Nat.le_of_ble_eq_true rfl) (fun G cx => (sn11_drawnTiling_b0 cx h))
-- SquareCuts.netTiling
def fn11_netTiling_b80 (N : Nat)  (c0 : Nat) (c1 : Nat) (a2 : Int32) (c3 : Nat) (r2 : Nat) (M : am_Mem) : Option (Nat × am_Mem) :=
  am_ck (am_k M c1 10) (am_bd (fn10_init N M c1 a2 c3 (0 : Int32) r2) (fun v2 M3 => some (c0, M3)))
def fn11_netTiling_b62 (N : Nat)  (a0 : Int32) (r0 : Nat) (r2 : Nat) (M : am_Mem) : Option (Nat × am_Mem) :=
  if a0 = 0 then fn11_netTiling_b80 N  (am_n M + 1) (am_n M + 1) (1 : Int32) 0 r2 (am_new M 10 0) else am_ck (am_k (am_new M 10 0) r0 11) (fn11_netTiling_b80 N  (am_n M + 1) (am_n M + 1) (1 : Int32) (am_R (am_new M 10 0) r0 4) r2 (am_new M 10 0))
def fn11_netTiling_b61 (N : Nat)  (r0 : Nat) (r2 : Nat) (M : am_Mem) : Option (Nat × am_Mem) :=
  fn11_netTiling_b62 N  (0 : Int32) r0 r2 M
def fn11_netTiling_b0 (N : Nat)  (r0 : Nat) (x1 : Int32) (M : am_Mem) : Option (Nat × am_Mem) :=
  am_ck (am_k M r0 11) (am_ck (am_k M (am_R M r0 0) 8) (am_ck (am_k M (am_R M (am_R M r0 0) 11) 19) (am_ck (am_in x1 (am_L M (am_R M (am_R M r0 0) 11))) (am_ck (am_k M (am_R M (am_R M r0 0) 10) 14) (am_ck (am_in x1 (am_L M (am_R M (am_R M r0 0) 10))) (am_ck (am_k M (am_R M r0 2) 5) (am_bd (fn5_solve N M (am_R M r0 2) (am_R M (am_R M (am_R M r0 0) 11) x1.toNatClampNeg) (am_I M (am_R M (am_R M r0 0) 10) x1.toNatClampNeg)) (fun v8 M9 => am_ck (am_k M9 v8 3) (if (lg_cmp (am_J M9 v8 4) (0 : Int64)) ≤ 0 then fn11_netTiling_b61 N  r0 v8 M9 else am_ck (am_k M9 r0 11) (am_ck (am_k M9 (am_R M9 r0 2) 5) (am_ck (am_k M9 (am_R M9 r0 3) 4) (am_bd (fn4_search N M9 (am_R M9 r0 3) v8 (am_R M9 (am_R M9 r0 2) 3) (am_R M9 r0 4)) (fun v15 M16 => if v15 = 0 then fn11_netTiling_b61 N  r0 v8 M16 else fn11_netTiling_b62 N  (1 : Int32) r0 v8 M16)))))))))))))
def fn11_netTiling (N : Nat) (M : am_Mem) (r0 : Nat) (x1 : Int32) : Option (Nat × am_Mem) := fn11_netTiling_b0 N r0 x1 M
def rm11_netTiling : Room := { frames := 4, cells := 7, slots := 167, locals := 130 }
set_option maxRecDepth 20000 in
theorem sn11_netTiling_b80 {l : Launch} {G : am_G} {v : Nat} {M' : am_Mem} {N : Nat}  (cx : am_Ctx l rm11_netTiling yX11_netTiling cX11_netTiling 4 (some (.object "SquareCuts$Tiling")) (some (.inr (.inr v))) M' 7 167 G)  {c0 : Nat} {c1 : Nat} {a2 : Int32} {c3 : Nat} {r2 : Nat} {M : am_Mem} (hres : fn11_netTiling_b80 N  c0 c1 a2 c3 r2 M = some (v, M')) : G 80 [(2, .inr (.inr r2))] [.inr (.inr c3), .inl a2, .inr (.inr c1), .inr (.inr c0)] M 4 47 := by
  unfold fn11_netTiling_b80 at hres
  refine am_iconst cx (v := (0 : Int32)) dX11_netTiling_80 (by decide) ?_
  refine am_aload_n cx 0 dX11_netTiling_81 rfl ?_
  obtain ⟨q1, hres⟩ := am_ck_some hres
  obtain ⟨v2, M3, q4, hres⟩ := am_bd_some hres
  refine am_callI0 cx [.inl a2, .inr (.inr c3), .inl (0 : Int32), .inr (.inr r2)] dX11_netTiling_82 ciX11_321 (mt10_init q4) (by rw [show am_K _ _ = 10 from (am_ke q1)]; decide) ⟨rfl, rfl, Nat.le_of_ble_eq_true rfl, Nat.le_of_ble_eq_true rfl⟩ rfl (Nat.le_of_ble_eq_true rfl) ⟨Nat.le_of_ble_eq_true rfl, Nat.le_of_ble_eq_true rfl⟩ ?_
  obtain ⟨rfl, rfl⟩ := am_fin hres
  exact am_aret cx dX11_netTiling_85
set_option maxRecDepth 20000 in
theorem sn11_netTiling_b62 {l : Launch} {G : am_G} {v : Nat} {M' : am_Mem} {N : Nat}  (cx : am_Ctx l rm11_netTiling yX11_netTiling cX11_netTiling 4 (some (.object "SquareCuts$Tiling")) (some (.inr (.inr v))) M' 7 167 G)  {a0 : Int32} {r0 : Nat} {r2 : Nat} {M : am_Mem} (hres : fn11_netTiling_b62 N  a0 r0 r2 M = some (v, M')) : G 62 [(0, .inr (.inr r0)), (2, .inr (.inr r2))] [.inl a0] M 3 36 := by
  unfold fn11_netTiling_b62 at hres
  refine am_istore_n cx (lv' := [(0, .inr (.inr r0)), (2, .inr (.inr r2)), (3, .inl a0)]) dX11_netTiling_62 (Nat.le_of_ble_eq_true rfl) rfl ?_
  refine am_newO cx dX11_netTiling_63 nwX11_119 (Nat.le_of_ble_eq_true rfl) (Nat.le_of_ble_eq_true rfl) ?_
  refine am_dup cx dX11_netTiling_66 rfl ?_
  refine am_iconst cx (v := (1 : Int32)) dX11_netTiling_67 (by decide) ?_
  refine am_iload_n cx 2 dX11_netTiling_68 rfl ?_
  refine am_if_eq cx (tgt := 79) dX11_netTiling_69 (by decide) (fun h => ?_) (fun h => ?_)
  · have hres := am_ifp h hres
    refine am_null cx dX11_netTiling_79 ?_
    refine am_sub cx [1] rfl ?_
    exact sn11_netTiling_b80 cx  hres
  · have hres := am_ifn h hres
    refine am_aload_n cx 0 dX11_netTiling_72 rfl ?_
    obtain ⟨q1, hres⟩ := am_ck_some hres
    refine am_getR cx dX11_netTiling_73 flX11_42 (am_ke q1) ?_
    refine am_goto cx (tgt := 80) dX11_netTiling_76 (by decide) ?_
    refine am_sub cx [1] rfl ?_
    exact sn11_netTiling_b80 cx  hres
set_option maxRecDepth 20000 in
theorem sn11_netTiling_b61 {l : Launch} {G : am_G} {v : Nat} {M' : am_Mem} {N : Nat}  (cx : am_Ctx l rm11_netTiling yX11_netTiling cX11_netTiling 4 (some (.object "SquareCuts$Tiling")) (some (.inr (.inr v))) M' 7 167 G)  {r0 : Nat} {r2 : Nat} {M : am_Mem} (hres : fn11_netTiling_b61 N  r0 r2 M = some (v, M')) : G 61 [(0, .inr (.inr r0)), (2, .inr (.inr r2))] [] M 3 36 := by
  unfold fn11_netTiling_b61 at hres
  refine am_iconst cx (v := (0 : Int32)) dX11_netTiling_61 (by decide) ?_
  exact sn11_netTiling_b62 cx  hres
set_option maxRecDepth 20000 in
theorem sn11_netTiling_b0 {l : Launch} {G : am_G} {v : Nat} {M' : am_Mem} {N : Nat}  (cx : am_Ctx l rm11_netTiling yX11_netTiling cX11_netTiling 4 (some (.object "SquareCuts$Tiling")) (some (.inr (.inr v))) M' 7 167 G)  {r0 : Nat} {x1 : Int32} {M : am_Mem} (hres : fn11_netTiling_b0 N  r0 x1 M = some (v, M')) : G 0 [(0, .inr (.inr r0)), (1, .inl x1)] [] M 0 0 := by
  unfold fn11_netTiling_b0 at hres
  refine am_aload_n cx 0 dX11_netTiling_0 rfl ?_
  obtain ⟨q1, hres⟩ := am_ck_some hres
  refine am_getR cx dX11_netTiling_1 flX11_28 (am_ke q1) ?_
  refine am_aload_n cx 0 dX11_netTiling_4 rfl ?_
  refine am_getR cx dX11_netTiling_5 flX11_12 (am_ke q1) ?_
  obtain ⟨q2, hres⟩ := am_ck_some hres
  refine am_getR cx dX11_netTiling_8 flX11_304 (am_ke q2) ?_
  refine am_iload_n cx 1 dX11_netTiling_11 rfl ?_
  obtain ⟨q3, hres⟩ := am_ck_some hres
  obtain ⟨q4, hres⟩ := am_ck_some hres
  refine am_aald19 cx dX11_netTiling_12 (am_ke q3) q4 ?_
  refine am_aload_n cx 0 dX11_netTiling_13 rfl ?_
  refine am_getR cx dX11_netTiling_14 flX11_12 (am_ke q1) ?_
  refine am_getR cx dX11_netTiling_17 flX11_311 (am_ke q2) ?_
  refine am_iload_n cx 1 dX11_netTiling_20 rfl ?_
  obtain ⟨q5, hres⟩ := am_ck_some hres
  obtain ⟨q6, hres⟩ := am_ck_some hres
  refine am_iald cx dX11_netTiling_21 (am_ke q5) q6 ?_
  obtain ⟨q7, hres⟩ := am_ck_some hres
  obtain ⟨v8, M9, q10, hres⟩ := am_bd_some hres
  refine am_callV1 cx [.inr (.inr (am_R M (am_R M (am_R M r0 0) 11) x1.toNatClampNeg)), .inl (am_I M (am_R M (am_R M r0 0) 10) x1.toNatClampNeg)] dX11_netTiling_22 cvX11_324 (mt5_solve q10) (am_ke q7) ⟨rfl, rfl, Nat.le_of_ble_eq_true rfl, Nat.le_of_ble_eq_true rfl⟩ rfl (Nat.le_of_ble_eq_true rfl) ⟨Nat.le_of_ble_eq_true rfl, Nat.le_of_ble_eq_true rfl⟩ ?_
  refine am_astore_n cx (lv' := [(0, .inr (.inr r0)), (1, .inl x1), (2, .inr (.inr v8))]) dX11_netTiling_25 (Nat.le_of_ble_eq_true rfl) rfl ?_
  refine am_aload_n cx 2 dX11_netTiling_26 rfl ?_
  obtain ⟨q11, hres⟩ := am_ck_some hres
  refine am_getJ cx dX11_netTiling_27 flX11_197 (am_ke q11) ?_
  refine am_lconst cx (v := (0 : Int64)) dX11_netTiling_30 (by decide) ?_
  refine am_lcmp cx dX11_netTiling_31 ?_
  refine am_if_le cx (tgt := 61) dX11_netTiling_32 (by decide) (fun h => ?_) (fun h => ?_)
  · have hres := am_ifp h hres
    refine am_sub cx [0, 2] rfl ?_
    exact sn11_netTiling_b61 cx  hres
  · have hres := am_ifn h hres
    refine am_aload_n cx 0 dX11_netTiling_35 rfl ?_
    obtain ⟨q12, hres⟩ := am_ck_some hres
    refine am_getR cx dX11_netTiling_36 flX11_35 (am_ke q12) ?_
    refine am_aload_n cx 2 dX11_netTiling_39 rfl ?_
    refine am_aload_n cx 0 dX11_netTiling_40 rfl ?_
    refine am_getR cx dX11_netTiling_41 flX11_28 (am_ke q12) ?_
    obtain ⟨q13, hres⟩ := am_ck_some hres
    refine am_getR cx dX11_netTiling_44 flX11_328 (am_ke q13) ?_
    refine am_aload_n cx 0 dX11_netTiling_47 rfl ?_
    refine am_getR cx dX11_netTiling_48 flX11_42 (am_ke q12) ?_
    obtain ⟨q14, hres⟩ := am_ck_some hres
    obtain ⟨v15, M16, q17, hres⟩ := am_bd_some hres
    refine am_callV1 cx [.inr (.inr v8), .inr (.inr (am_R M9 (am_R M9 r0 2) 3)), .inr (.inr (am_R M9 r0 4))] dX11_netTiling_51 cvX11_331 (mt4_search q17) (am_ke q14) ⟨rfl, rfl, Nat.le_of_ble_eq_true rfl, Nat.le_of_ble_eq_true rfl⟩ rfl (Nat.le_of_ble_eq_true rfl) ⟨Nat.le_of_ble_eq_true rfl, Nat.le_of_ble_eq_true rfl⟩ ?_
    refine am_if_eq cx (tgt := 61) dX11_netTiling_54 (by decide) (fun h => ?_) (fun h => ?_)
    · have hres := am_ifp h hres
      refine am_sub cx [0, 2] rfl ?_
      exact sn11_netTiling_b61 cx  hres
    · have hres := am_ifn h hres
      refine am_iconst cx (v := (1 : Int32)) dX11_netTiling_57 (by decide) ?_
      refine am_goto cx (tgt := 62) dX11_netTiling_58 (by decide) ?_
      refine am_sub cx [0, 2] rfl ?_
      exact sn11_netTiling_b62 cx  hres
set_option maxRecDepth 20000 in
theorem mt11_netTiling {l : Launch} {v : Nat} {M M' : am_Mem} {N : Nat} {r0 : Nat} {x1 : Int32} (h : fn11_netTiling N M r0 x1 = some (v, M')) : am_Met l yX11_netTiling cX11_netTiling 4 (some (.object "SquareCuts$Tiling")) rm11_netTiling 7 167 [.inr (.inr r0), .inl x1] M (some (.inr (.inr v))) M' := am_mk (by decide) (Nat.le_of_ble_eq_true rfl) (fun G cx => (sn11_netTiling_b0 cx h))
-- SquareCuts$Reader.readLine
def fn8_readLine_b146 (N : Nat)  (a0 : Int32) (r0 : Nat) (M : am_Mem) : Option (Int32 × am_Mem) :=
  if a0 = 0 then am_ck (am_k M r0 8) (if (am_I M r0 3) = (5 : Int32) then am_bd (fn8_nextToken N (am_wI M r0 8 ((am_I M r0 8) + (1 : Int32))) r0) (fun v2 M3 => some ((0 : Int32), M3)) else am_bd (fn8_faultOf M r0 (1 : Int32)) (fun v5 M6 => some (v5, M6))) else some (a0, M)
def fn8_readLine_b75 (N : Nat)  (r0 : Nat) (M : am_Mem) : Option (Int32 × am_Mem) :=
  am_ck (am_k M r0 8) (am_bd (fn8_faultOf M r0 (1 : Int32)) (fun v2 M3 => some (v2, M3)))
def fn8_readLine_b28 (N : Nat)  (r0 : Nat) (x1 : Int32) (M : am_Mem) : Option (Int32 × am_Mem) :=
  am_ck (am_k M r0 8) (if (am_I M r0 8) < (6 : Int32) then am_bd (fn8_nextToken N M r0) (fun v2 M3 => am_ck (am_k M3 r0 8) (if (am_I M3 r0 3) = (1 : Int32) then am_bd (fn8_isWord M3 r0 (431415719790 : Int64)) (fun v6 M7 => if v6 = 0 then am_ck (am_k M7 r0 8) (am_bd (fn8_isWord M7 r0 (7234932 : Int64)) (fun v10 M11 => if v10 = 0 then am_ck (am_k M11 r0 8) (am_bd (fn8_isNameThere N M11 r0) (fun v14 M15 => if v14 = 0 then am_ck (am_k M15 r0 8) (am_ck (am_k M15 (am_R M15 r0 6) 15) (am_ck (am_in (am_I M15 r0 8) (am_L M15 (am_R M15 r0 6))) (am_ck (am_k M15 (am_R M15 r0 9) 16) (am_ck (am_in (am_I M15 r0 8) (am_L M15 (am_R M15 r0 9))) (am_ck (am_k M15 (am_R M15 r0 10) 14) (am_ck (am_in (am_I (am_wI (am_wJ M15 (am_R M15 r0 6) (am_I M15 r0 8).toNatClampNeg (am_J M15 r0 5)) (am_R M15 r0 9) (am_I M15 r0 8).toNatClampNeg (x1 &&& 1)) r0 8) (am_L M15 (am_R M15 r0 10))) (am_bd (fn8_nextToken N (am_wI (am_wI (am_wJ M15 (am_R M15 r0 6) (am_I M15 r0 8).toNatClampNeg (am_J M15 r0 5)) (am_R M15 r0 9) (am_I M15 r0 8).toNatClampNeg (x1 &&& 1)) (am_R M15 r0 10) (am_I (am_wI (am_wJ M15 (am_R M15 r0 6) (am_I M15 r0 8).toNatClampNeg (am_J M15 r0 5)) (am_R M15 r0 9) (am_I M15 r0 8).toNatClampNeg (x1 &&& 1)) r0 8).toNatClampNeg (0 : Int32)) r0) (fun v24 M25 => if x1 = 0 then am_ck (am_k M25 r0 8) (am_bd (fn8_readNet N M25 r0) (fun v28 M29 => fn8_readLine_b146 N  v28 r0 M29)) else am_ck (am_k M25 r0 8) (am_bd (fn8_readGroups N M25 r0) (fun v32 M33 => fn8_readLine_b146 N  v32 r0 M33)))))))))) else am_ck (am_k M15 r0 8) (am_bd (fn8_faultOf M15 r0 (2 : Int32)) (fun v36 M37 => some (v36, M37))))) else fn8_readLine_b75 N  r0 M11)) else fn8_readLine_b75 N  r0 M7) else fn8_readLine_b75 N  r0 M3)) else am_bd (fn8_faultOf M r0 (4 : Int32)) (fun v39 M40 => some (v39, M40)))
def fn8_readLine_b0 (N : Nat)  (r0 : Nat) (M : am_Mem) : Option (Int32 × am_Mem) :=
  am_ck (am_k M r0 8) (am_bd (fn8_isWord M r0 (431415719790 : Int64)) (fun v2 M3 => if v2 = 0 then am_ck (am_k M3 r0 8) (am_bd (fn8_isWord M3 r0 (7234932 : Int64)) (fun v6 M7 => if v6 = 0 then am_ck (am_k M7 r0 8) (am_bd (fn8_faultOf M7 r0 (1 : Int32)) (fun v10 M11 => some (v10, M11))) else fn8_readLine_b28 N  r0 v2 M7)) else fn8_readLine_b28 N  r0 v2 M3))
def fn8_readLine (N : Nat) (M : am_Mem) (r0 : Nat) : Option (Int32 × am_Mem) := fn8_readLine_b0 N r0 M
def rm8_readLine : Room := { frames := 4, cells := 0, slots := 0, locals := 89 }
set_option maxRecDepth 20000 in
theorem sn8_readLine_b146 {l : Launch} {G : am_G} {v : Int32} {M' : am_Mem} {N : Nat}  (cx : am_Ctx l rm8_readLine yX8_readLine cX8_readLine 3 (some .int) (some (.inl v)) M' 0 0 G)  {a0 : Int32} {r0 : Nat} {M : am_Mem} (hres : fn8_readLine_b146 N  a0 r0 M = some (v, M')) : G 146 [(0, .inr (.inr r0))] [.inl a0] M 0 0 := by
  unfold fn8_readLine_b146 at hres
  refine am_istore_n cx (lv' := [(0, .inr (.inr r0)), (2, .inl a0)]) dX8_readLine_146 (Nat.le_of_ble_eq_true rfl) rfl ?_
  refine am_iload_n cx 1 dX8_readLine_147 rfl ?_
  refine am_if_eq cx (tgt := 153) dX8_readLine_148 (by decide) (fun h => ?_) (fun h => ?_)
  · have hres := am_ifp h hres
    refine am_aload_n cx 0 dX8_readLine_153 rfl ?_
    obtain ⟨q1, hres⟩ := am_ck_some hres
    refine am_getI cx dX8_readLine_154 flX8_57 (am_ke q1) ?_
    refine am_iconst cx (v := (5 : Int32)) dX8_readLine_157 (by decide) ?_
    refine am_icmp_eq cx (tgt := 167) dX8_readLine_158 (by decide) (fun h => ?_) (fun h => ?_)
    · have hres := am_ifp h hres
      refine am_aload_n cx 0 dX8_readLine_167 rfl ?_
      refine am_dup cx dX8_readLine_168 rfl ?_
      refine am_getI cx dX8_readLine_169 flX8_51 (am_ke q1) ?_
      refine am_iconst cx (v := (1 : Int32)) dX8_readLine_172 (by decide) ?_
      refine am_iadd cx dX8_readLine_173 ?_
      refine am_putI cx dX8_readLine_174 fpX8_51 (fun h => by cases h) (am_ke q1) ?_
      refine am_aload_n cx 0 dX8_readLine_177 rfl ?_
      obtain ⟨v2, M3, q4, hres⟩ := am_bd_some hres
      refine am_callV0 cx [] dX8_readLine_178 cvX8_54 (mt8_nextToken q4) (am_ke q1) ⟨rfl, rfl, Nat.le_of_ble_eq_true rfl, Nat.le_of_ble_eq_true rfl⟩ rfl (Nat.le_of_ble_eq_true rfl) ⟨Nat.le_of_ble_eq_true rfl, Nat.le_of_ble_eq_true rfl⟩ ?_
      refine am_iconst cx (v := (0 : Int32)) dX8_readLine_181 (by decide) ?_
      obtain ⟨rfl, rfl⟩ := am_fin hres
      exact am_iret cx dX8_readLine_182
    · have hres := am_ifn h hres
      refine am_aload_n cx 0 dX8_readLine_161 rfl ?_
      refine am_iconst cx (v := (1 : Int32)) dX8_readLine_162 (by decide) ?_
      obtain ⟨v5, M6, q7, hres⟩ := am_bd_some hres
      refine am_callV1 cx [.inl (1 : Int32)] dX8_readLine_163 cvX8_72 (mt8_faultOf q7) (am_ke q1) ⟨rfl, rfl, Nat.le_of_ble_eq_true rfl, Nat.le_of_ble_eq_true rfl⟩ rfl (Nat.le_of_ble_eq_true rfl) ⟨Nat.le_of_ble_eq_true rfl, Nat.le_of_ble_eq_true rfl⟩ ?_
      obtain ⟨rfl, rfl⟩ := am_fin hres
      exact am_iret cx dX8_readLine_166
  · have hres := am_ifn h hres
    refine am_iload_n cx 1 dX8_readLine_151 rfl ?_
    obtain ⟨rfl, rfl⟩ := am_fin hres
    exact am_iret cx dX8_readLine_152
set_option maxRecDepth 20000 in
theorem sn8_readLine_b75 {l : Launch} {G : am_G} {v : Int32} {M' : am_Mem} {N : Nat}  (cx : am_Ctx l rm8_readLine yX8_readLine cX8_readLine 3 (some .int) (some (.inl v)) M' 0 0 G)  {r0 : Nat} {M : am_Mem} (hres : fn8_readLine_b75 N  r0 M = some (v, M')) : G 75 [(0, .inr (.inr r0))] [] M 0 0 := by
  unfold fn8_readLine_b75 at hres
  refine am_aload_n cx 0 dX8_readLine_75 rfl ?_
  refine am_iconst cx (v := (1 : Int32)) dX8_readLine_76 (by decide) ?_
  obtain ⟨q1, hres⟩ := am_ck_some hres
  obtain ⟨v2, M3, q4, hres⟩ := am_bd_some hres
  refine am_callV1 cx [.inl (1 : Int32)] dX8_readLine_77 cvX8_72 (mt8_faultOf q4) (am_ke q1) ⟨rfl, rfl, Nat.le_of_ble_eq_true rfl, Nat.le_of_ble_eq_true rfl⟩ rfl (Nat.le_of_ble_eq_true rfl) ⟨Nat.le_of_ble_eq_true rfl, Nat.le_of_ble_eq_true rfl⟩ ?_
  obtain ⟨rfl, rfl⟩ := am_fin hres
  exact am_iret cx dX8_readLine_80
set_option maxRecDepth 20000 in
theorem sn8_readLine_b28 {l : Launch} {G : am_G} {v : Int32} {M' : am_Mem} {N : Nat}  (cx : am_Ctx l rm8_readLine yX8_readLine cX8_readLine 3 (some .int) (some (.inl v)) M' 0 0 G)  {r0 : Nat} {x1 : Int32} {M : am_Mem} (hres : fn8_readLine_b28 N  r0 x1 M = some (v, M')) : G 28 [(0, .inr (.inr r0)), (1, .inl x1)] [] M 0 0 := by
  unfold fn8_readLine_b28 at hres
  refine am_aload_n cx 0 dX8_readLine_28 rfl ?_
  obtain ⟨q1, hres⟩ := am_ck_some hres
  refine am_getI cx dX8_readLine_29 flX8_51 (am_ke q1) ?_
  refine am_bipush cx (v := (6 : Int32)) dX8_readLine_32 (by decide) ?_
  refine am_icmp_lt cx (tgt := 43) dX8_readLine_34 (by decide) (fun h => ?_) (fun h => ?_)
  · have hres := am_ifp h hres
    refine am_aload_n cx 0 dX8_readLine_43 rfl ?_
    obtain ⟨v2, M3, q4, hres⟩ := am_bd_some hres
    refine am_callV0 cx [] dX8_readLine_44 cvX8_54 (mt8_nextToken q4) (am_ke q1) ⟨rfl, rfl, Nat.le_of_ble_eq_true rfl, Nat.le_of_ble_eq_true rfl⟩ rfl (Nat.le_of_ble_eq_true rfl) ⟨Nat.le_of_ble_eq_true rfl, Nat.le_of_ble_eq_true rfl⟩ ?_
    refine am_aload_n cx 0 dX8_readLine_47 rfl ?_
    obtain ⟨q5, hres⟩ := am_ck_some hres
    refine am_getI cx dX8_readLine_48 flX8_57 (am_ke q5) ?_
    refine am_iconst cx (v := (1 : Int32)) dX8_readLine_51 (by decide) ?_
    refine am_icmp_ne cx (tgt := 75) dX8_readLine_52 (by decide) (fun h => ?_) (fun h => ?_)
    · have hres := am_ifn h hres
      refine am_sub cx [0] rfl ?_
      exact sn8_readLine_b75 cx  hres
    · have hres := am_ifp h hres
      refine am_aload_n cx 0 dX8_readLine_55 rfl ?_
      refine am_ldc2 cx dX8_readLine_56 aw_2_98 ?_
      obtain ⟨v6, M7, q8, hres⟩ := am_bd_some hres
      refine am_callV1 cx [.inr (.inl (431415719790 : Int64))] dX8_readLine_59 cvX8_66 (mt8_isWord q8) (am_ke q5) ⟨rfl, rfl, Nat.le_of_ble_eq_true rfl, Nat.le_of_ble_eq_true rfl⟩ rfl (Nat.le_of_ble_eq_true rfl) ⟨Nat.le_of_ble_eq_true rfl, Nat.le_of_ble_eq_true rfl⟩ ?_
      refine am_if_ne cx (tgt := 75) dX8_readLine_62 (by decide) (fun h => ?_) (fun h => ?_)
      · have hres := am_ifn h hres
        refine am_sub cx [0] rfl ?_
        exact sn8_readLine_b75 cx  hres
      · have hres := am_ifp h hres
        refine am_aload_n cx 0 dX8_readLine_65 rfl ?_
        refine am_ldc2 cx dX8_readLine_66 aw_2_103 ?_
        obtain ⟨q9, hres⟩ := am_ck_some hres
        obtain ⟨v10, M11, q12, hres⟩ := am_bd_some hres
        refine am_callV1 cx [.inr (.inl (7234932 : Int64))] dX8_readLine_69 cvX8_66 (mt8_isWord q12) (am_ke q9) ⟨rfl, rfl, Nat.le_of_ble_eq_true rfl, Nat.le_of_ble_eq_true rfl⟩ rfl (Nat.le_of_ble_eq_true rfl) ⟨Nat.le_of_ble_eq_true rfl, Nat.le_of_ble_eq_true rfl⟩ ?_
        refine am_if_eq cx (tgt := 81) dX8_readLine_72 (by decide) (fun h => ?_) (fun h => ?_)
        · have hres := am_ifp h hres
          refine am_aload_n cx 0 dX8_readLine_81 rfl ?_
          obtain ⟨q13, hres⟩ := am_ck_some hres
          obtain ⟨v14, M15, q16, hres⟩ := am_bd_some hres
          refine am_callV1 cx [] dX8_readLine_82 cvX8_76 (mt8_isNameThere q16) (am_ke q13) ⟨rfl, rfl, Nat.le_of_ble_eq_true rfl, Nat.le_of_ble_eq_true rfl⟩ rfl (Nat.le_of_ble_eq_true rfl) ⟨Nat.le_of_ble_eq_true rfl, Nat.le_of_ble_eq_true rfl⟩ ?_
          refine am_if_eq cx (tgt := 94) dX8_readLine_85 (by decide) (fun h => ?_) (fun h => ?_)
          · have hres := am_ifp h hres
            refine am_aload_n cx 0 dX8_readLine_94 rfl ?_
            obtain ⟨q17, hres⟩ := am_ck_some hres
            refine am_getR cx dX8_readLine_95 flX8_15 (am_ke q17) ?_
            refine am_aload_n cx 0 dX8_readLine_98 rfl ?_
            refine am_getI cx dX8_readLine_99 flX8_51 (am_ke q17) ?_
            refine am_aload_n cx 0 dX8_readLine_102 rfl ?_
            refine am_getJ cx dX8_readLine_103 flX8_80 (am_ke q17) ?_
            obtain ⟨q18, hres⟩ := am_ck_some hres
            obtain ⟨q19, hres⟩ := am_ck_some hres
            refine am_last cx dX8_readLine_106 (am_ke q18) q19  ?_
            refine am_aload_n cx 0 dX8_readLine_107 rfl ?_
            refine am_getR cx dX8_readLine_108 flX8_19 (am_ke q17) ?_
            refine am_aload_n cx 0 dX8_readLine_111 rfl ?_
            refine am_getI cx dX8_readLine_112 flX8_51 (am_ke q17) ?_
            refine am_iload_n cx 1 dX8_readLine_115 rfl ?_
            obtain ⟨q20, hres⟩ := am_ck_some hres
            obtain ⟨q21, hres⟩ := am_ck_some hres
            refine am_zast cx dX8_readLine_116 (am_ke q20) q21  ?_
            refine am_aload_n cx 0 dX8_readLine_117 rfl ?_
            refine am_getR cx dX8_readLine_118 flX8_23 (am_ke q17) ?_
            refine am_aload_n cx 0 dX8_readLine_121 rfl ?_
            refine am_getI cx dX8_readLine_122 flX8_51 (am_ke q17) ?_
            refine am_iconst cx (v := (0 : Int32)) dX8_readLine_125 (by decide) ?_
            obtain ⟨q22, hres⟩ := am_ck_some hres
            obtain ⟨q23, hres⟩ := am_ck_some hres
            refine am_iast cx dX8_readLine_126 (am_ke q22) q23  ?_
            refine am_aload_n cx 0 dX8_readLine_127 rfl ?_
            obtain ⟨v24, M25, q26, hres⟩ := am_bd_some hres
            refine am_callV0 cx [] dX8_readLine_128 cvX8_54 (mt8_nextToken q26) (am_ke q17) ⟨rfl, rfl, Nat.le_of_ble_eq_true rfl, Nat.le_of_ble_eq_true rfl⟩ rfl (Nat.le_of_ble_eq_true rfl) ⟨Nat.le_of_ble_eq_true rfl, Nat.le_of_ble_eq_true rfl⟩ ?_
            refine am_iload_n cx 1 dX8_readLine_131 rfl ?_
            refine am_if_eq cx (tgt := 142) dX8_readLine_132 (by decide) (fun h => ?_) (fun h => ?_)
            · have hres := am_ifp h hres
              refine am_aload_n cx 0 dX8_readLine_142 rfl ?_
              obtain ⟨q27, hres⟩ := am_ck_some hres
              obtain ⟨v28, M29, q30, hres⟩ := am_bd_some hres
              refine am_callV1 cx [] dX8_readLine_143 cvX8_87 (mt8_readNet q30) (am_ke q27) ⟨rfl, rfl, Nat.le_of_ble_eq_true rfl, Nat.le_of_ble_eq_true rfl⟩ rfl (Nat.le_of_ble_eq_true rfl) ⟨Nat.le_of_ble_eq_true rfl, Nat.le_of_ble_eq_true rfl⟩ ?_
              refine am_sub cx [0] rfl ?_
              exact sn8_readLine_b146 cx  hres
            · have hres := am_ifn h hres
              refine am_aload_n cx 0 dX8_readLine_135 rfl ?_
              obtain ⟨q31, hres⟩ := am_ck_some hres
              obtain ⟨v32, M33, q34, hres⟩ := am_bd_some hres
              refine am_callV1 cx [] dX8_readLine_136 cvX8_84 (mt8_readGroups q34) (am_ke q31) ⟨rfl, rfl, Nat.le_of_ble_eq_true rfl, Nat.le_of_ble_eq_true rfl⟩ rfl (Nat.le_of_ble_eq_true rfl) ⟨Nat.le_of_ble_eq_true rfl, Nat.le_of_ble_eq_true rfl⟩ ?_
              refine am_goto cx (tgt := 146) dX8_readLine_139 (by decide) ?_
              refine am_sub cx [0] rfl ?_
              exact sn8_readLine_b146 cx  hres
          · have hres := am_ifn h hres
            refine am_aload_n cx 0 dX8_readLine_88 rfl ?_
            refine am_iconst cx (v := (2 : Int32)) dX8_readLine_89 (by decide) ?_
            obtain ⟨q35, hres⟩ := am_ck_some hres
            obtain ⟨v36, M37, q38, hres⟩ := am_bd_some hres
            refine am_callV1 cx [.inl (2 : Int32)] dX8_readLine_90 cvX8_72 (mt8_faultOf q38) (am_ke q35) ⟨rfl, rfl, Nat.le_of_ble_eq_true rfl, Nat.le_of_ble_eq_true rfl⟩ rfl (Nat.le_of_ble_eq_true rfl) ⟨Nat.le_of_ble_eq_true rfl, Nat.le_of_ble_eq_true rfl⟩ ?_
            obtain ⟨rfl, rfl⟩ := am_fin hres
            exact am_iret cx dX8_readLine_93
        · have hres := am_ifn h hres
          refine am_sub cx [0] rfl ?_
          exact sn8_readLine_b75 cx  hres
  · have hres := am_ifn h hres
    refine am_aload_n cx 0 dX8_readLine_37 rfl ?_
    refine am_iconst cx (v := (4 : Int32)) dX8_readLine_38 (by decide) ?_
    obtain ⟨v39, M40, q41, hres⟩ := am_bd_some hres
    refine am_callV1 cx [.inl (4 : Int32)] dX8_readLine_39 cvX8_72 (mt8_faultOf q41) (am_ke q1) ⟨rfl, rfl, Nat.le_of_ble_eq_true rfl, Nat.le_of_ble_eq_true rfl⟩ rfl (Nat.le_of_ble_eq_true rfl) ⟨Nat.le_of_ble_eq_true rfl, Nat.le_of_ble_eq_true rfl⟩ ?_
    obtain ⟨rfl, rfl⟩ := am_fin hres
    exact am_iret cx dX8_readLine_42
set_option maxRecDepth 20000 in
theorem sn8_readLine_b0 {l : Launch} {G : am_G} {v : Int32} {M' : am_Mem} {N : Nat}  (cx : am_Ctx l rm8_readLine yX8_readLine cX8_readLine 3 (some .int) (some (.inl v)) M' 0 0 G)  {r0 : Nat} {M : am_Mem} (hres : fn8_readLine_b0 N  r0 M = some (v, M')) : G 0 [(0, .inr (.inr r0))] [] M 0 0 := by
  unfold fn8_readLine_b0 at hres
  refine am_aload_n cx 0 dX8_readLine_0 rfl ?_
  refine am_ldc2 cx dX8_readLine_1 aw_2_98 ?_
  obtain ⟨q1, hres⟩ := am_ck_some hres
  obtain ⟨v2, M3, q4, hres⟩ := am_bd_some hres
  refine am_callV1 cx [.inr (.inl (431415719790 : Int64))] dX8_readLine_4 cvX8_66 (mt8_isWord q4) (am_ke q1) ⟨rfl, rfl, Nat.le_of_ble_eq_true rfl, Nat.le_of_ble_eq_true rfl⟩ rfl (Nat.le_of_ble_eq_true rfl) ⟨Nat.le_of_ble_eq_true rfl, Nat.le_of_ble_eq_true rfl⟩ ?_
  refine am_istore_n cx (lv' := [(0, .inr (.inr r0)), (1, .inl v2)]) dX8_readLine_7 (Nat.le_of_ble_eq_true rfl) rfl ?_
  refine am_iload_n cx 1 dX8_readLine_8 rfl ?_
  refine am_if_ne cx (tgt := 28) dX8_readLine_9 (by decide) (fun h => ?_) (fun h => ?_)
  · have hres := am_ifn h hres
    exact sn8_readLine_b28 cx  hres
  · have hres := am_ifp h hres
    refine am_aload_n cx 0 dX8_readLine_12 rfl ?_
    refine am_ldc2 cx dX8_readLine_13 aw_2_103 ?_
    obtain ⟨q5, hres⟩ := am_ck_some hres
    obtain ⟨v6, M7, q8, hres⟩ := am_bd_some hres
    refine am_callV1 cx [.inr (.inl (7234932 : Int64))] dX8_readLine_16 cvX8_66 (mt8_isWord q8) (am_ke q5) ⟨rfl, rfl, Nat.le_of_ble_eq_true rfl, Nat.le_of_ble_eq_true rfl⟩ rfl (Nat.le_of_ble_eq_true rfl) ⟨Nat.le_of_ble_eq_true rfl, Nat.le_of_ble_eq_true rfl⟩ ?_
    refine am_if_ne cx (tgt := 28) dX8_readLine_19 (by decide) (fun h => ?_) (fun h => ?_)
    · have hres := am_ifn h hres
      exact sn8_readLine_b28 cx  hres
    · have hres := am_ifp h hres
      refine am_aload_n cx 0 dX8_readLine_22 rfl ?_
      refine am_iconst cx (v := (1 : Int32)) dX8_readLine_23 (by decide) ?_
      obtain ⟨q9, hres⟩ := am_ck_some hres
      obtain ⟨v10, M11, q12, hres⟩ := am_bd_some hres
      refine am_callV1 cx [.inl (1 : Int32)] dX8_readLine_24 cvX8_72 (mt8_faultOf q12) (am_ke q9) ⟨rfl, rfl, Nat.le_of_ble_eq_true rfl, Nat.le_of_ble_eq_true rfl⟩ rfl (Nat.le_of_ble_eq_true rfl) ⟨Nat.le_of_ble_eq_true rfl, Nat.le_of_ble_eq_true rfl⟩ ?_
      obtain ⟨rfl, rfl⟩ := am_fin hres
      exact am_iret cx dX8_readLine_27
set_option maxRecDepth 20000 in
theorem mt8_readLine {l : Launch} {v : Int32} {M M' : am_Mem} {N : Nat} {r0 : Nat} (h : fn8_readLine N M r0 = some (v, M')) : am_Met l yX8_readLine cX8_readLine 3 (some .int) rm8_readLine 0 0 [.inr (.inr r0)] M (some (.inl v)) M' := am_mk (by decide) (Nat.le_of_ble_eq_true rfl) (fun G cx => (sn8_readLine_b0 cx h))
