-- SquareCutsModel.grow
def fn12_grow_b46 (N : Nat)   (M : am_Mem) : Option (Int32 × am_Mem) :=
  some ((-1 : Int32), M)
def fn12_grow_b170 (N : Nat)  (r0 : Nat) (M : am_Mem) : Option (Int32 × am_Mem) :=
  am_ck (am_k M r0 12) (am_ck (am_k M (am_R M r0 48) 14) (am_ck (am_in (0 : Int32) (am_L M (am_R M r0 48))) (am_ck (am_in (0 : Int32) (am_L M (am_R M r0 48))) (am_bd (fn12_makes N (am_wI M (am_R M r0 48) (0 : Int32).toNatClampNeg ((am_I M (am_R M r0 48) (0 : Int32).toNatClampNeg) + (1 : Int32))) r0) (fun v5 M6 => some (v5, M6))))))
def fn12_grow_b132 (N : Nat)  (c0 : Nat) (a1 : Int32) (a2 : Int32) (r0 : Nat) (x2 : Int32) (M : am_Mem) : Option (Int32 × am_Mem) :=
  am_ck (am_k M c0 14) (am_ck (am_in a1 (am_L M c0)) (if x2 = 0 then am_ck (am_k M r0 12) (am_ck (am_k M (am_R M r0 48) 14) (am_ck (am_in (1 : Int32) (am_L M (am_R M r0 48))) (am_ck (am_in (2 : Int32) (am_L M (am_R M r0 48))) (am_ck (am_in (1 : Int32) (am_L M (am_R M r0 48))) (fn12_grow_b170 N  r0 (am_wI (am_wI M c0 a1.toNatClampNeg a2) (am_R M r0 48) (1 : Int32).toNatClampNeg ((am_I (am_wI M c0 a1.toNatClampNeg a2) (am_R M r0 48) (1 : Int32).toNatClampNeg) + (am_I (am_wI M c0 a1.toNatClampNeg a2) (am_R M r0 48) (2 : Int32).toNatClampNeg)))))))) else am_ck (am_k M r0 12) (am_ck (am_k M (am_R M r0 48) 14) (am_ck (am_in (2 : Int32) (am_L M (am_R M r0 48))) (am_ck (am_in (1 : Int32) (am_L M (am_R M r0 48))) (am_ck (am_in (2 : Int32) (am_L M (am_R M r0 48))) (fn12_grow_b170 N  r0 (am_wI (am_wI M c0 a1.toNatClampNeg a2) (am_R M r0 48) (2 : Int32).toNatClampNeg ((am_I (am_wI M c0 a1.toNatClampNeg a2) (am_R M r0 48) (2 : Int32).toNatClampNeg) + (am_I (am_wI M c0 a1.toNatClampNeg a2) (am_R M r0 48) (1 : Int32).toNatClampNeg))))))))))
def fn12_grow_b104 (N : Nat)  (c0 : Nat) (a1 : Int32) (a2 : Int32) (r0 : Nat) (x2 : Int32) (x3 : Int32) (M : am_Mem) : Option (Int32 × am_Mem) :=
  am_ck (am_k M c0 14) (am_ck (am_in a1 (am_L M c0)) (am_ck (am_k M r0 12) (if x2 = 0 then am_ck (am_k M (am_R M r0 48) 14) (am_ck (am_in (2 : Int32) (am_L M (am_R M r0 48))) (fn12_grow_b132 N  (am_R M r0 48) ((84 : Int32) + x3) (am_I (am_wI M c0 a1.toNatClampNeg a2) (am_R M r0 48) (2 : Int32).toNatClampNeg) r0 x2 (am_wI M c0 a1.toNatClampNeg a2))) else am_ck (am_k M (am_R M r0 48) 14) (am_ck (am_in (1 : Int32) (am_L M (am_R M r0 48))) (fn12_grow_b132 N  (am_R M r0 48) ((84 : Int32) + x3) (am_I (am_wI M c0 a1.toNatClampNeg a2) (am_R M r0 48) (1 : Int32).toNatClampNeg) r0 x2 (am_wI M c0 a1.toNatClampNeg a2))))))
def fn12_grow_b81 (N : Nat)  (c0 : Nat) (a1 : Int32) (a2 : Int32) (r0 : Nat) (x2 : Int32) (x3 : Int32) (M : am_Mem) : Option (Int32 × am_Mem) :=
  am_ck (am_k M c0 14) (am_ck (am_in a1 (am_L M c0)) (am_ck (am_k M r0 12) (if x2 = 0 then fn12_grow_b104 N  (am_R M r0 48) ((44 : Int32) + x3) (0 : Int32) r0 x2 x3 (am_wI M c0 a1.toNatClampNeg a2) else am_ck (am_k M (am_R M r0 48) 14) (am_ck (am_in (2 : Int32) (am_L M (am_R M r0 48))) (fn12_grow_b104 N  (am_R M r0 48) ((44 : Int32) + x3) (am_I (am_wI M c0 a1.toNatClampNeg a2) (am_R M r0 48) (2 : Int32).toNatClampNeg) r0 x2 x3 (am_wI M c0 a1.toNatClampNeg a2))))))
def fn12_grow_b60 (N : Nat)  (r0 : Nat) (x2 : Int32) (x3 : Int32) (M : am_Mem) : Option (Int32 × am_Mem) :=
  am_ck (am_k M r0 12) (if x2 = 0 then am_ck (am_k M (am_R M r0 48) 14) (am_ck (am_in (1 : Int32) (am_L M (am_R M r0 48))) (fn12_grow_b81 N  (am_R M r0 48) ((4 : Int32) + x3) (am_I M (am_R M r0 48) (1 : Int32).toNatClampNeg) r0 x2 x3 M)) else fn12_grow_b81 N  (am_R M r0 48) ((4 : Int32) + x3) (0 : Int32) r0 x2 x3 M)
def fn12_grow_b0 (N : Nat)  (r0 : Nat) (x1 : Int32) (x2 : Int32) (M : am_Mem) : Option (Int32 × am_Mem) :=
  am_ck (am_k M r0 12) (am_bd (fn12_canMake (am_wI M r0 0 (0 : Int32)) r0 x1) (fun v2 M3 => if v2 = 0 then fn12_grow_b46 N   M3 else am_ck (am_k M3 r0 12) (am_bd (fn12_of M3 r0 x1 (0 : Int32)) (fun v6 M7 => if v6 = (40 : Int32) then fn12_grow_b46 N   M7 else am_ck (am_k M7 r0 12) (am_bd (fn12_of M7 r0 x1 (1 : Int32)) (fun v10 M11 => am_ck (am_k M11 r0 12) (am_bd (fn12_of M11 r0 x1 (2 : Int32)) (fun v14 M15 => if (lg_cmp (v10.toInt64 + v14.toInt64) (1000000000 : Int64)) ≤ 0 then am_ck (am_k M15 r0 12) (am_bd (fn12_takes N M15 r0 x1) (fun v18 M19 => am_ck (am_k M19 r0 12) (am_ck (am_k M19 (am_R M19 r0 48) 14) (am_ck (am_in (0 : Int32) (am_L M19 (am_R M19 r0 48))) (fn12_grow_b60 N  r0 x2 (am_I M19 (am_R M19 r0 48) (0 : Int32).toNatClampNeg) M19))))) else fn12_grow_b46 N   M15))))))))
def fn12_grow (N : Nat) (M : am_Mem) (r0 : Nat) (x1 : Int32) (x2 : Int32) : Option (Int32 × am_Mem) := fn12_grow_b0 N r0 x1 x2 M
def rm12_grow : Room := { frames := 3, cells := 0, slots := 0, locals := 67 }
set_option maxRecDepth 20000 in
theorem sn12_grow_b46 {l : Launch} {G : am_G} {v : Int32} {M' : am_Mem} {N : Nat}  (cx : am_Ctx l rm12_grow yX12_grow cX12_grow 4 (some .int) (some (.inl v)) M' 0 0 G)   {M : am_Mem} (hres : fn12_grow_b46 N   M = some (v, M')) : G 46 [] [] M 0 0 := by
  unfold fn12_grow_b46 at hres
  refine am_iconst cx (v := (-1 : Int32)) dX12_grow_46 (by decide) ?_
  obtain ⟨rfl, rfl⟩ := am_fin hres
  exact am_iret cx dX12_grow_47
set_option maxRecDepth 20000 in
theorem sn12_grow_b170 {l : Launch} {G : am_G} {v : Int32} {M' : am_Mem} {N : Nat}  (cx : am_Ctx l rm12_grow yX12_grow cX12_grow 4 (some .int) (some (.inl v)) M' 0 0 G)  {r0 : Nat} {M : am_Mem} (hres : fn12_grow_b170 N  r0 M = some (v, M')) : G 170 [(0, .inr (.inr (.inl r0)))] [] M 0 0 := by
  unfold fn12_grow_b170 at hres
  refine am_aload_n cx 0 dX12_grow_170 rfl ?_
  obtain ⟨q1, hres⟩ := am_ck_some hres
  refine am_getR cx dX12_grow_171 flX12_100 (am_ke q1) ?_
  refine am_iconst cx (v := (0 : Int32)) dX12_grow_174 (by decide) ?_
  refine am_dup2 cx dX12_grow_175 rfl rfl ?_
  obtain ⟨q2, hres⟩ := am_ck_some hres
  obtain ⟨q3, hres⟩ := am_ck_some hres
  refine am_iald cx dX12_grow_176 (am_ke q2) q3 ?_
  refine am_iconst cx (v := (1 : Int32)) dX12_grow_177 (by decide) ?_
  refine am_iadd cx dX12_grow_178 ?_
  obtain ⟨q4, hres⟩ := am_ck_some hres
  refine am_iast cx dX12_grow_179 (am_ke q2) q4  ?_
  refine am_aload_n cx 0 dX12_grow_180 rfl ?_
  obtain ⟨v5, M6, q7, hres⟩ := am_bd_some hres
  refine am_callV1 cx [] dX12_grow_181 cvX12_403 (mt12_makes q7) (am_ke q1) ⟨rfl, rfl, Nat.le_of_ble_eq_true rfl, Nat.le_of_ble_eq_true rfl⟩ rfl (Nat.le_of_ble_eq_true rfl) ⟨Nat.le_of_ble_eq_true rfl, Nat.le_of_ble_eq_true rfl⟩ ?_
  obtain ⟨rfl, rfl⟩ := am_fin hres
  exact am_iret cx dX12_grow_184
set_option maxRecDepth 20000 in
theorem sn12_grow_b132 {l : Launch} {G : am_G} {v : Int32} {M' : am_Mem} {N : Nat}  (cx : am_Ctx l rm12_grow yX12_grow cX12_grow 4 (some .int) (some (.inl v)) M' 0 0 G)  {c0 : Nat} {a1 : Int32} {a2 : Int32} {r0 : Nat} {x2 : Int32} {M : am_Mem} (hres : fn12_grow_b132 N  c0 a1 a2 r0 x2 M = some (v, M')) : G 132 [(0, .inr (.inr (.inl r0))), (2, .inl x2)] [.inl a2, .inl a1, .inr (.inr (.inl c0))] M 0 0 := by
  unfold fn12_grow_b132 at hres
  obtain ⟨q1, hres⟩ := am_ck_some hres
  obtain ⟨q2, hres⟩ := am_ck_some hres
  refine am_iast cx dX12_grow_132 (am_ke q1) q2  ?_
  refine am_iload_n cx 1 dX12_grow_133 rfl ?_
  refine am_if_eq cx (tgt := 155) dX12_grow_134 (by decide) (fun h => ?_) (fun h => ?_)
  · have hres := am_ifp h hres
    refine am_aload_n cx 0 dX12_grow_155 rfl ?_
    obtain ⟨q3, hres⟩ := am_ck_some hres
    refine am_getR cx dX12_grow_156 flX12_100 (am_ke q3) ?_
    refine am_iconst cx (v := (1 : Int32)) dX12_grow_159 (by decide) ?_
    refine am_dup2 cx dX12_grow_160 rfl rfl ?_
    obtain ⟨q4, hres⟩ := am_ck_some hres
    obtain ⟨q5, hres⟩ := am_ck_some hres
    refine am_iald cx dX12_grow_161 (am_ke q4) q5 ?_
    refine am_aload_n cx 0 dX12_grow_162 rfl ?_
    refine am_getR cx dX12_grow_163 flX12_100 (am_ke q3) ?_
    refine am_iconst cx (v := (2 : Int32)) dX12_grow_166 (by decide) ?_
    obtain ⟨q6, hres⟩ := am_ck_some hres
    refine am_iald cx dX12_grow_167 (am_ke q4) q6 ?_
    refine am_iadd cx dX12_grow_168 ?_
    obtain ⟨q7, hres⟩ := am_ck_some hres
    refine am_iast cx dX12_grow_169 (am_ke q4) q7  ?_
    refine am_sub cx [0] rfl ?_
    exact sn12_grow_b170 cx  hres
  · have hres := am_ifn h hres
    refine am_aload_n cx 0 dX12_grow_137 rfl ?_
    obtain ⟨q8, hres⟩ := am_ck_some hres
    refine am_getR cx dX12_grow_138 flX12_100 (am_ke q8) ?_
    refine am_iconst cx (v := (2 : Int32)) dX12_grow_141 (by decide) ?_
    refine am_dup2 cx dX12_grow_142 rfl rfl ?_
    obtain ⟨q9, hres⟩ := am_ck_some hres
    obtain ⟨q10, hres⟩ := am_ck_some hres
    refine am_iald cx dX12_grow_143 (am_ke q9) q10 ?_
    refine am_aload_n cx 0 dX12_grow_144 rfl ?_
    refine am_getR cx dX12_grow_145 flX12_100 (am_ke q8) ?_
    refine am_iconst cx (v := (1 : Int32)) dX12_grow_148 (by decide) ?_
    obtain ⟨q11, hres⟩ := am_ck_some hres
    refine am_iald cx dX12_grow_149 (am_ke q9) q11 ?_
    refine am_iadd cx dX12_grow_150 ?_
    obtain ⟨q12, hres⟩ := am_ck_some hres
    refine am_iast cx dX12_grow_151 (am_ke q9) q12  ?_
    refine am_goto cx (tgt := 170) dX12_grow_152 (by decide) ?_
    refine am_sub cx [0] rfl ?_
    exact sn12_grow_b170 cx  hres
set_option maxRecDepth 20000 in
theorem sn12_grow_b104 {l : Launch} {G : am_G} {v : Int32} {M' : am_Mem} {N : Nat}  (cx : am_Ctx l rm12_grow yX12_grow cX12_grow 4 (some .int) (some (.inl v)) M' 0 0 G)  {c0 : Nat} {a1 : Int32} {a2 : Int32} {r0 : Nat} {x2 : Int32} {x3 : Int32} {M : am_Mem} (hres : fn12_grow_b104 N  c0 a1 a2 r0 x2 x3 M = some (v, M')) : G 104 [(0, .inr (.inr (.inl r0))), (2, .inl x2), (3, .inl x3)] [.inl a2, .inl a1, .inr (.inr (.inl c0))] M 0 0 := by
  unfold fn12_grow_b104 at hres
  obtain ⟨q1, hres⟩ := am_ck_some hres
  obtain ⟨q2, hres⟩ := am_ck_some hres
  refine am_iast cx dX12_grow_104 (am_ke q1) q2  ?_
  refine am_aload_n cx 0 dX12_grow_105 rfl ?_
  obtain ⟨q3, hres⟩ := am_ck_some hres
  refine am_getR cx dX12_grow_106 flX12_100 (am_ke q3) ?_
  refine am_bipush cx (v := (84 : Int32)) dX12_grow_109 (by decide) ?_
  refine am_iload_n cx 2 dX12_grow_111 rfl ?_
  refine am_iadd cx dX12_grow_112 ?_
  refine am_iload_n cx 1 dX12_grow_113 rfl ?_
  refine am_if_eq cx (tgt := 126) dX12_grow_114 (by decide) (fun h => ?_) (fun h => ?_)
  · have hres := am_ifp h hres
    refine am_aload_n cx 0 dX12_grow_126 rfl ?_
    refine am_getR cx dX12_grow_127 flX12_100 (am_ke q3) ?_
    refine am_iconst cx (v := (2 : Int32)) dX12_grow_130 (by decide) ?_
    obtain ⟨q4, hres⟩ := am_ck_some hres
    obtain ⟨q5, hres⟩ := am_ck_some hres
    refine am_iald cx dX12_grow_131 (am_ke q4) q5 ?_
    refine am_sub cx [0, 1] rfl ?_
    exact sn12_grow_b132 cx  hres
  · have hres := am_ifn h hres
    refine am_aload_n cx 0 dX12_grow_117 rfl ?_
    refine am_getR cx dX12_grow_118 flX12_100 (am_ke q3) ?_
    refine am_iconst cx (v := (1 : Int32)) dX12_grow_121 (by decide) ?_
    obtain ⟨q6, hres⟩ := am_ck_some hres
    obtain ⟨q7, hres⟩ := am_ck_some hres
    refine am_iald cx dX12_grow_122 (am_ke q6) q7 ?_
    refine am_goto cx (tgt := 132) dX12_grow_123 (by decide) ?_
    refine am_sub cx [0, 1] rfl ?_
    exact sn12_grow_b132 cx  hres
set_option maxRecDepth 20000 in
theorem sn12_grow_b81 {l : Launch} {G : am_G} {v : Int32} {M' : am_Mem} {N : Nat}  (cx : am_Ctx l rm12_grow yX12_grow cX12_grow 4 (some .int) (some (.inl v)) M' 0 0 G)  {c0 : Nat} {a1 : Int32} {a2 : Int32} {r0 : Nat} {x2 : Int32} {x3 : Int32} {M : am_Mem} (hres : fn12_grow_b81 N  c0 a1 a2 r0 x2 x3 M = some (v, M')) : G 81 [(0, .inr (.inr (.inl r0))), (2, .inl x2), (3, .inl x3)] [.inl a2, .inl a1, .inr (.inr (.inl c0))] M 0 0 := by
  unfold fn12_grow_b81 at hres
  obtain ⟨q1, hres⟩ := am_ck_some hres
  obtain ⟨q2, hres⟩ := am_ck_some hres
  refine am_iast cx dX12_grow_81 (am_ke q1) q2  ?_
  refine am_aload_n cx 0 dX12_grow_82 rfl ?_
  obtain ⟨q3, hres⟩ := am_ck_some hres
  refine am_getR cx dX12_grow_83 flX12_100 (am_ke q3) ?_
  refine am_bipush cx (v := (44 : Int32)) dX12_grow_86 (by decide) ?_
  refine am_iload_n cx 2 dX12_grow_88 rfl ?_
  refine am_iadd cx dX12_grow_89 ?_
  refine am_iload_n cx 1 dX12_grow_90 rfl ?_
  refine am_if_eq cx (tgt := 103) dX12_grow_91 (by decide) (fun h => ?_) (fun h => ?_)
  · have hres := am_ifp h hres
    refine am_iconst cx (v := (0 : Int32)) dX12_grow_103 (by decide) ?_
    exact sn12_grow_b104 cx  hres
  · have hres := am_ifn h hres
    refine am_aload_n cx 0 dX12_grow_94 rfl ?_
    refine am_getR cx dX12_grow_95 flX12_100 (am_ke q3) ?_
    refine am_iconst cx (v := (2 : Int32)) dX12_grow_98 (by decide) ?_
    obtain ⟨q4, hres⟩ := am_ck_some hres
    obtain ⟨q5, hres⟩ := am_ck_some hres
    refine am_iald cx dX12_grow_99 (am_ke q4) q5 ?_
    refine am_goto cx (tgt := 104) dX12_grow_100 (by decide) ?_
    exact sn12_grow_b104 cx  hres
set_option maxRecDepth 20000 in
theorem sn12_grow_b60 {l : Launch} {G : am_G} {v : Int32} {M' : am_Mem} {N : Nat}  (cx : am_Ctx l rm12_grow yX12_grow cX12_grow 4 (some .int) (some (.inl v)) M' 0 0 G)  {r0 : Nat} {x2 : Int32} {x3 : Int32} {M : am_Mem} (hres : fn12_grow_b60 N  r0 x2 x3 M = some (v, M')) : G 60 [(0, .inr (.inr (.inl r0))), (2, .inl x2), (3, .inl x3)] [] M 0 0 := by
  unfold fn12_grow_b60 at hres
  refine am_aload_n cx 0 dX12_grow_60 rfl ?_
  obtain ⟨q1, hres⟩ := am_ck_some hres
  refine am_getR cx dX12_grow_61 flX12_100 (am_ke q1) ?_
  refine am_iconst cx (v := (4 : Int32)) dX12_grow_64 (by decide) ?_
  refine am_iload_n cx 2 dX12_grow_65 rfl ?_
  refine am_iadd cx dX12_grow_66 ?_
  refine am_iload_n cx 1 dX12_grow_67 rfl ?_
  refine am_if_eq cx (tgt := 75) dX12_grow_68 (by decide) (fun h => ?_) (fun h => ?_)
  · have hres := am_ifp h hres
    refine am_aload_n cx 0 dX12_grow_75 rfl ?_
    refine am_getR cx dX12_grow_76 flX12_100 (am_ke q1) ?_
    refine am_iconst cx (v := (1 : Int32)) dX12_grow_79 (by decide) ?_
    obtain ⟨q2, hres⟩ := am_ck_some hres
    obtain ⟨q3, hres⟩ := am_ck_some hres
    refine am_iald cx dX12_grow_80 (am_ke q2) q3 ?_
    exact sn12_grow_b81 cx  hres
  · have hres := am_ifn h hres
    refine am_iconst cx (v := (0 : Int32)) dX12_grow_71 (by decide) ?_
    refine am_goto cx (tgt := 81) dX12_grow_72 (by decide) ?_
    exact sn12_grow_b81 cx  hres
set_option maxRecDepth 20000 in
theorem sn12_grow_b0 {l : Launch} {G : am_G} {v : Int32} {M' : am_Mem} {N : Nat}  (cx : am_Ctx l rm12_grow yX12_grow cX12_grow 4 (some .int) (some (.inl v)) M' 0 0 G)  {r0 : Nat} {x1 : Int32} {x2 : Int32} {M : am_Mem} (hres : fn12_grow_b0 N  r0 x1 x2 M = some (v, M')) : G 0 [(0, .inr (.inr (.inl r0))), (1, .inl x1), (2, .inl x2)] [] M 0 0 := by
  unfold fn12_grow_b0 at hres
  refine am_aload_n cx 0 dX12_grow_0 rfl ?_
  refine am_iconst cx (v := (0 : Int32)) dX12_grow_1 (by decide) ?_
  obtain ⟨q1, hres⟩ := am_ck_some hres
  refine am_putI cx dX12_grow_2 fpX12_103 (fun h => by cases h) (am_ke q1) ?_
  refine am_aload_n cx 0 dX12_grow_5 rfl ?_
  refine am_iload_n cx 1 dX12_grow_6 rfl ?_
  obtain ⟨v2, M3, q4, hres⟩ := am_bd_some hres
  refine am_callV1 cx [.inl x1] dX12_grow_7 cvX12_397 (mt12_canMake q4) (am_ke q1) ⟨rfl, rfl, Nat.le_of_ble_eq_true rfl, Nat.le_of_ble_eq_true rfl⟩ rfl (Nat.le_of_ble_eq_true rfl) ⟨Nat.le_of_ble_eq_true rfl, Nat.le_of_ble_eq_true rfl⟩ ?_
  refine am_if_eq cx (tgt := 46) dX12_grow_10 (by decide) (fun h => ?_) (fun h => ?_)
  · have hres := am_ifp h hres
    refine am_sub cx [] rfl ?_
    exact sn12_grow_b46 cx  hres
  · have hres := am_ifn h hres
    refine am_aload_n cx 0 dX12_grow_13 rfl ?_
    refine am_iload_n cx 1 dX12_grow_14 rfl ?_
    refine am_iconst cx (v := (0 : Int32)) dX12_grow_15 (by decide) ?_
    obtain ⟨q5, hres⟩ := am_ck_some hres
    obtain ⟨v6, M7, q8, hres⟩ := am_bd_some hres
    refine am_callV1 cx [.inl x1, .inl (0 : Int32)] dX12_grow_16 cvX12_306 (mt12_of q8) (am_ke q5) ⟨rfl, rfl, Nat.le_of_ble_eq_true rfl, Nat.le_of_ble_eq_true rfl⟩ rfl (Nat.le_of_ble_eq_true rfl) ⟨Nat.le_of_ble_eq_true rfl, Nat.le_of_ble_eq_true rfl⟩ ?_
    refine am_bipush cx (v := (40 : Int32)) dX12_grow_19 (by decide) ?_
    refine am_icmp_eq cx (tgt := 46) dX12_grow_21 (by decide) (fun h => ?_) (fun h => ?_)
    · have hres := am_ifp h hres
      refine am_sub cx [] rfl ?_
      exact sn12_grow_b46 cx  hres
    · have hres := am_ifn h hres
      refine am_aload_n cx 0 dX12_grow_24 rfl ?_
      refine am_iload_n cx 1 dX12_grow_25 rfl ?_
      refine am_iconst cx (v := (1 : Int32)) dX12_grow_26 (by decide) ?_
      obtain ⟨q9, hres⟩ := am_ck_some hres
      obtain ⟨v10, M11, q12, hres⟩ := am_bd_some hres
      refine am_callV1 cx [.inl x1, .inl (1 : Int32)] dX12_grow_27 cvX12_306 (mt12_of q12) (am_ke q9) ⟨rfl, rfl, Nat.le_of_ble_eq_true rfl, Nat.le_of_ble_eq_true rfl⟩ rfl (Nat.le_of_ble_eq_true rfl) ⟨Nat.le_of_ble_eq_true rfl, Nat.le_of_ble_eq_true rfl⟩ ?_
      refine am_i2l cx dX12_grow_30 ?_
      refine am_aload_n cx 0 dX12_grow_31 rfl ?_
      refine am_iload_n cx 1 dX12_grow_32 rfl ?_
      refine am_iconst cx (v := (2 : Int32)) dX12_grow_33 (by decide) ?_
      obtain ⟨q13, hres⟩ := am_ck_some hres
      obtain ⟨v14, M15, q16, hres⟩ := am_bd_some hres
      refine am_callV1 cx [.inl x1, .inl (2 : Int32)] dX12_grow_34 cvX12_306 (mt12_of q16) (am_ke q13) ⟨rfl, rfl, Nat.le_of_ble_eq_true rfl, Nat.le_of_ble_eq_true rfl⟩ rfl (Nat.le_of_ble_eq_true rfl) ⟨Nat.le_of_ble_eq_true rfl, Nat.le_of_ble_eq_true rfl⟩ ?_
      refine am_i2l cx dX12_grow_37 ?_
      refine am_ladd cx dX12_grow_38 ?_
      refine am_ldc2 cx dX12_grow_39 aw_7_30 ?_
      refine am_lcmp cx dX12_grow_42 ?_
      refine am_if_le cx (tgt := 48) dX12_grow_43 (by decide) (fun h => ?_) (fun h => ?_)
      · have hres := am_ifp h hres
        refine am_aload_n cx 0 dX12_grow_48 rfl ?_
        refine am_iload_n cx 1 dX12_grow_49 rfl ?_
        obtain ⟨q17, hres⟩ := am_ck_some hres
        obtain ⟨v18, M19, q20, hres⟩ := am_bd_some hres
        refine am_callV0 cx [.inl x1] dX12_grow_50 cvX12_380 (mt12_takes q20) (am_ke q17) ⟨rfl, rfl, Nat.le_of_ble_eq_true rfl, Nat.le_of_ble_eq_true rfl⟩ rfl (Nat.le_of_ble_eq_true rfl) ⟨Nat.le_of_ble_eq_true rfl, Nat.le_of_ble_eq_true rfl⟩ ?_
        refine am_aload_n cx 0 dX12_grow_53 rfl ?_
        obtain ⟨q21, hres⟩ := am_ck_some hres
        refine am_getR cx dX12_grow_54 flX12_100 (am_ke q21) ?_
        refine am_iconst cx (v := (0 : Int32)) dX12_grow_57 (by decide) ?_
        obtain ⟨q22, hres⟩ := am_ck_some hres
        obtain ⟨q23, hres⟩ := am_ck_some hres
        refine am_iald cx dX12_grow_58 (am_ke q22) q23 ?_
        refine am_istore_n cx (lv' := [(0, .inr (.inr (.inl r0))), (1, .inl x1), (2, .inl x2), (3, .inl (am_I M19 (am_R M19 r0 48) (0 : Int32).toNatClampNeg))]) dX12_grow_59 (Nat.le_of_ble_eq_true rfl) rfl ?_
        refine am_sub cx [0, 2, 3] rfl ?_
        exact sn12_grow_b60 cx  hres
      · have hres := am_ifn h hres
        refine am_sub cx [] rfl ?_
        exact sn12_grow_b46 cx  hres
set_option maxRecDepth 20000 in
theorem mt12_grow {l : Launch} {v : Int32} {M M' : am_Mem} {N : Nat} {r0 : Nat} {x1 : Int32} {x2 : Int32} (h : fn12_grow N M r0 x1 x2 = some (v, M')) : am_Met l yX12_grow cX12_grow 4 (some .int) rm12_grow 0 0 [.inr (.inr (.inl r0)), .inl x1, .inl x2] M (some (.inl v)) M' := am_mk (by decide) (Nat.le_of_ble_eq_true rfl) (fun G cx => (sn12_grow_b0 cx h))
-- SquareCutsModel.turn
def fn12_turn_b25 (N : Nat)   (M : am_Mem) : Option (Int32 × am_Mem) :=
  some ((-1 : Int32), M)
def fn12_turn_b0 (N : Nat)  (r0 : Nat) (x1 : Int32) (x2 : Int32) (M : am_Mem) : Option (Int32 × am_Mem) :=
  am_ck (am_k M r0 12) (am_bd (fn12_canMake (am_wI M r0 0 (0 : Int32)) r0 x1) (fun v2 M3 => if v2 = 0 then fn12_turn_b25 N   M3 else am_bd (fn12_within M3 x2.toInt64 (0 : Int64) (7 : Int64)) (fun v5 M6 => if v5 = 0 then fn12_turn_b25 N   M6 else am_ck (am_k M6 r0 12) (am_bd (fn12_takes N M6 r0 x1) (fun v9 M10 => am_ck (am_k M10 r0 12) (am_bd (fn12_turns N M10 r0 x2) (fun v13 M14 => am_ck (am_k M14 r0 12) (am_bd (fn12_makes N M14 r0) (fun v17 M18 => some (v17, M18))))))))))
def fn12_turn (N : Nat) (M : am_Mem) (r0 : Nat) (x1 : Int32) (x2 : Int32) : Option (Int32 × am_Mem) := fn12_turn_b0 N r0 x1 x2 M
def rm12_turn : Room := { frames := 3, cells := 0, slots := 0, locals := 67 }
set_option maxRecDepth 20000 in
theorem sn12_turn_b25 {l : Launch} {G : am_G} {v : Int32} {M' : am_Mem} {N : Nat}  (cx : am_Ctx l rm12_turn yX12_turn cX12_turn 3 (some .int) (some (.inl v)) M' 0 0 G)   {M : am_Mem} (hres : fn12_turn_b25 N   M = some (v, M')) : G 25 [] [] M 0 0 := by
  unfold fn12_turn_b25 at hres
  refine am_iconst cx (v := (-1 : Int32)) dX12_turn_25 (by decide) ?_
  obtain ⟨rfl, rfl⟩ := am_fin hres
  exact am_iret cx dX12_turn_26
set_option maxRecDepth 20000 in
theorem sn12_turn_b0 {l : Launch} {G : am_G} {v : Int32} {M' : am_Mem} {N : Nat}  (cx : am_Ctx l rm12_turn yX12_turn cX12_turn 3 (some .int) (some (.inl v)) M' 0 0 G)  {r0 : Nat} {x1 : Int32} {x2 : Int32} {M : am_Mem} (hres : fn12_turn_b0 N  r0 x1 x2 M = some (v, M')) : G 0 [(0, .inr (.inr (.inl r0))), (1, .inl x1), (2, .inl x2)] [] M 0 0 := by
  unfold fn12_turn_b0 at hres
  refine am_aload_n cx 0 dX12_turn_0 rfl ?_
  refine am_iconst cx (v := (0 : Int32)) dX12_turn_1 (by decide) ?_
  obtain ⟨q1, hres⟩ := am_ck_some hres
  refine am_putI cx dX12_turn_2 fpX12_103 (fun h => by cases h) (am_ke q1) ?_
  refine am_aload_n cx 0 dX12_turn_5 rfl ?_
  refine am_iload_n cx 1 dX12_turn_6 rfl ?_
  obtain ⟨v2, M3, q4, hres⟩ := am_bd_some hres
  refine am_callV1 cx [.inl x1] dX12_turn_7 cvX12_397 (mt12_canMake q4) (am_ke q1) ⟨rfl, rfl, Nat.le_of_ble_eq_true rfl, Nat.le_of_ble_eq_true rfl⟩ rfl (Nat.le_of_ble_eq_true rfl) ⟨Nat.le_of_ble_eq_true rfl, Nat.le_of_ble_eq_true rfl⟩ ?_
  refine am_if_eq cx (tgt := 25) dX12_turn_10 (by decide) (fun h => ?_) (fun h => ?_)
  · have hres := am_ifp h hres
    refine am_sub cx [] rfl ?_
    exact sn12_turn_b25 cx  hres
  · have hres := am_ifn h hres
    refine am_iload_n cx 2 dX12_turn_13 rfl ?_
    refine am_i2l cx dX12_turn_14 ?_
    refine am_lconst cx (v := (0 : Int64)) dX12_turn_15 (by decide) ?_
    refine am_ldc2 cx dX12_turn_16 aw_6_114 ?_
    obtain ⟨v5, M6, q7, hres⟩ := am_bd_some hres
    refine am_callS1 cx [.inr (.inl x2.toInt64), .inr (.inl (0 : Int64)), .inr (.inl (7 : Int64))] dX12_turn_19 csX12_141 (mt12_within q7)  ⟨rfl, rfl, Nat.le_of_ble_eq_true rfl, Nat.le_of_ble_eq_true rfl⟩ rfl (Nat.le_of_ble_eq_true rfl) ⟨Nat.le_of_ble_eq_true rfl, Nat.le_of_ble_eq_true rfl⟩ ?_
    refine am_if_ne cx (tgt := 27) dX12_turn_22 (by decide) (fun h => ?_) (fun h => ?_)
    · have hres := am_ifn h hres
      refine am_aload_n cx 0 dX12_turn_27 rfl ?_
      refine am_iload_n cx 1 dX12_turn_28 rfl ?_
      obtain ⟨q8, hres⟩ := am_ck_some hres
      obtain ⟨v9, M10, q11, hres⟩ := am_bd_some hres
      refine am_callV0 cx [.inl x1] dX12_turn_29 cvX12_380 (mt12_takes q11) (am_ke q8) ⟨rfl, rfl, Nat.le_of_ble_eq_true rfl, Nat.le_of_ble_eq_true rfl⟩ rfl (Nat.le_of_ble_eq_true rfl) ⟨Nat.le_of_ble_eq_true rfl, Nat.le_of_ble_eq_true rfl⟩ ?_
      refine am_aload_n cx 0 dX12_turn_32 rfl ?_
      refine am_iload_n cx 2 dX12_turn_33 rfl ?_
      obtain ⟨q12, hres⟩ := am_ck_some hres
      obtain ⟨v13, M14, q15, hres⟩ := am_bd_some hres
      refine am_callV0 cx [.inl x2] dX12_turn_34 cvX12_383 (mt12_turns q15) (am_ke q12) ⟨rfl, rfl, Nat.le_of_ble_eq_true rfl, Nat.le_of_ble_eq_true rfl⟩ rfl (Nat.le_of_ble_eq_true rfl) ⟨Nat.le_of_ble_eq_true rfl, Nat.le_of_ble_eq_true rfl⟩ ?_
      refine am_aload_n cx 0 dX12_turn_37 rfl ?_
      obtain ⟨q16, hres⟩ := am_ck_some hres
      obtain ⟨v17, M18, q19, hres⟩ := am_bd_some hres
      refine am_callV1 cx [] dX12_turn_38 cvX12_403 (mt12_makes q19) (am_ke q16) ⟨rfl, rfl, Nat.le_of_ble_eq_true rfl, Nat.le_of_ble_eq_true rfl⟩ rfl (Nat.le_of_ble_eq_true rfl) ⟨Nat.le_of_ble_eq_true rfl, Nat.le_of_ble_eq_true rfl⟩ ?_
      obtain ⟨rfl, rfl⟩ := am_fin hres
      exact am_iret cx dX12_turn_41
    · have hres := am_ifp h hres
      refine am_sub cx [] rfl ?_
      exact sn12_turn_b25 cx  hres
set_option maxRecDepth 20000 in
theorem mt12_turn {l : Launch} {v : Int32} {M M' : am_Mem} {N : Nat} {r0 : Nat} {x1 : Int32} {x2 : Int32} (h : fn12_turn N M r0 x1 x2 = some (v, M')) : am_Met l yX12_turn cX12_turn 3 (some .int) rm12_turn 0 0 [.inr (.inr (.inl r0)), .inl x1, .inl x2] M (some (.inl v)) M' := am_mk (by decide) (Nat.le_of_ble_eq_true rfl) (fun G cx => (sn12_turn_b0 cx h))
-- SquareCutsModel.times
def fn12_times_b25 (N : Nat)   (M : am_Mem) : Option (Int32 × am_Mem) :=
  some ((-1 : Int32), M)
def fn12_times_b0 (N : Nat)  (r0 : Nat) (x1 : Int32) (x2 : Int32) (M : am_Mem) : Option (Int32 × am_Mem) :=
  am_ck (am_k M r0 12) (am_bd (fn12_canMake (am_wI M r0 0 (0 : Int32)) r0 x1) (fun v2 M3 => if v2 = 0 then fn12_times_b25 N   M3 else am_bd (fn12_within M3 x2.toInt64 (1 : Int64) (9999 : Int64)) (fun v5 M6 => if v5 = 0 then fn12_times_b25 N   M6 else am_ck (am_k M6 r0 12) (am_bd (fn12_takes N M6 r0 x1) (fun v9 M10 => am_ck (am_k M10 r0 12) (am_bd (fn12_mayGrow M10 r0 x2.toInt64) (fun v13 M14 => if v13 = 0 then some ((-1 : Int32), M14) else am_ck (am_k M14 r0 12) (am_bd (fn12_grows N M14 r0 x2) (fun v17 M18 => am_ck (am_k M18 r0 12) (am_bd (fn12_makes N M18 r0) (fun v21 M22 => some (v21, M22))))))))))))
def fn12_times (N : Nat) (M : am_Mem) (r0 : Nat) (x1 : Int32) (x2 : Int32) : Option (Int32 × am_Mem) := fn12_times_b0 N r0 x1 x2 M
def rm12_times : Room := { frames := 3, cells := 0, slots := 0, locals := 67 }
set_option maxRecDepth 20000 in
theorem sn12_times_b25 {l : Launch} {G : am_G} {v : Int32} {M' : am_Mem} {N : Nat}  (cx : am_Ctx l rm12_times yX12_times cX12_times 3 (some .int) (some (.inl v)) M' 0 0 G)   {M : am_Mem} (hres : fn12_times_b25 N   M = some (v, M')) : G 25 [] [] M 0 0 := by
  unfold fn12_times_b25 at hres
  refine am_iconst cx (v := (-1 : Int32)) dX12_times_25 (by decide) ?_
  obtain ⟨rfl, rfl⟩ := am_fin hres
  exact am_iret cx dX12_times_26
set_option maxRecDepth 20000 in
theorem sn12_times_b0 {l : Launch} {G : am_G} {v : Int32} {M' : am_Mem} {N : Nat}  (cx : am_Ctx l rm12_times yX12_times cX12_times 3 (some .int) (some (.inl v)) M' 0 0 G)  {r0 : Nat} {x1 : Int32} {x2 : Int32} {M : am_Mem} (hres : fn12_times_b0 N  r0 x1 x2 M = some (v, M')) : G 0 [(0, .inr (.inr (.inl r0))), (1, .inl x1), (2, .inl x2)] [] M 0 0 := by
  unfold fn12_times_b0 at hres
  refine am_aload_n cx 0 dX12_times_0 rfl ?_
  refine am_iconst cx (v := (0 : Int32)) dX12_times_1 (by decide) ?_
  obtain ⟨q1, hres⟩ := am_ck_some hres
  refine am_putI cx dX12_times_2 fpX12_103 (fun h => by cases h) (am_ke q1) ?_
  refine am_aload_n cx 0 dX12_times_5 rfl ?_
  refine am_iload_n cx 1 dX12_times_6 rfl ?_
  obtain ⟨v2, M3, q4, hres⟩ := am_bd_some hres
  refine am_callV1 cx [.inl x1] dX12_times_7 cvX12_397 (mt12_canMake q4) (am_ke q1) ⟨rfl, rfl, Nat.le_of_ble_eq_true rfl, Nat.le_of_ble_eq_true rfl⟩ rfl (Nat.le_of_ble_eq_true rfl) ⟨Nat.le_of_ble_eq_true rfl, Nat.le_of_ble_eq_true rfl⟩ ?_
  refine am_if_eq cx (tgt := 25) dX12_times_10 (by decide) (fun h => ?_) (fun h => ?_)
  · have hres := am_ifp h hres
    refine am_sub cx [] rfl ?_
    exact sn12_times_b25 cx  hres
  · have hres := am_ifn h hres
    refine am_iload_n cx 2 dX12_times_13 rfl ?_
    refine am_i2l cx dX12_times_14 ?_
    refine am_lconst cx (v := (1 : Int64)) dX12_times_15 (by decide) ?_
    refine am_ldc2 cx dX12_times_16 aw_7_59 ?_
    obtain ⟨v5, M6, q7, hres⟩ := am_bd_some hres
    refine am_callS1 cx [.inr (.inl x2.toInt64), .inr (.inl (1 : Int64)), .inr (.inl (9999 : Int64))] dX12_times_19 csX12_141 (mt12_within q7)  ⟨rfl, rfl, Nat.le_of_ble_eq_true rfl, Nat.le_of_ble_eq_true rfl⟩ rfl (Nat.le_of_ble_eq_true rfl) ⟨Nat.le_of_ble_eq_true rfl, Nat.le_of_ble_eq_true rfl⟩ ?_
    refine am_if_ne cx (tgt := 27) dX12_times_22 (by decide) (fun h => ?_) (fun h => ?_)
    · have hres := am_ifn h hres
      refine am_aload_n cx 0 dX12_times_27 rfl ?_
      refine am_iload_n cx 1 dX12_times_28 rfl ?_
      obtain ⟨q8, hres⟩ := am_ck_some hres
      obtain ⟨v9, M10, q11, hres⟩ := am_bd_some hres
      refine am_callV0 cx [.inl x1] dX12_times_29 cvX12_380 (mt12_takes q11) (am_ke q8) ⟨rfl, rfl, Nat.le_of_ble_eq_true rfl, Nat.le_of_ble_eq_true rfl⟩ rfl (Nat.le_of_ble_eq_true rfl) ⟨Nat.le_of_ble_eq_true rfl, Nat.le_of_ble_eq_true rfl⟩ ?_
      refine am_aload_n cx 0 dX12_times_32 rfl ?_
      refine am_iload_n cx 2 dX12_times_33 rfl ?_
      refine am_i2l cx dX12_times_34 ?_
      obtain ⟨q12, hres⟩ := am_ck_some hres
      obtain ⟨v13, M14, q15, hres⟩ := am_bd_some hres
      refine am_callV1 cx [.inr (.inl x2.toInt64)] dX12_times_35 cvX12_408 (mt12_mayGrow q15) (am_ke q12) ⟨rfl, rfl, Nat.le_of_ble_eq_true rfl, Nat.le_of_ble_eq_true rfl⟩ rfl (Nat.le_of_ble_eq_true rfl) ⟨Nat.le_of_ble_eq_true rfl, Nat.le_of_ble_eq_true rfl⟩ ?_
      refine am_if_ne cx (tgt := 43) dX12_times_38 (by decide) (fun h => ?_) (fun h => ?_)
      · have hres := am_ifn h hres
        refine am_aload_n cx 0 dX12_times_43 rfl ?_
        refine am_iload_n cx 2 dX12_times_44 rfl ?_
        obtain ⟨q16, hres⟩ := am_ck_some hres
        obtain ⟨v17, M18, q19, hres⟩ := am_bd_some hres
        refine am_callV0 cx [.inl x2] dX12_times_45 cvX12_400 (mt12_grows q19) (am_ke q16) ⟨rfl, rfl, Nat.le_of_ble_eq_true rfl, Nat.le_of_ble_eq_true rfl⟩ rfl (Nat.le_of_ble_eq_true rfl) ⟨Nat.le_of_ble_eq_true rfl, Nat.le_of_ble_eq_true rfl⟩ ?_
        refine am_aload_n cx 0 dX12_times_48 rfl ?_
        obtain ⟨q20, hres⟩ := am_ck_some hres
        obtain ⟨v21, M22, q23, hres⟩ := am_bd_some hres
        refine am_callV1 cx [] dX12_times_49 cvX12_403 (mt12_makes q23) (am_ke q20) ⟨rfl, rfl, Nat.le_of_ble_eq_true rfl, Nat.le_of_ble_eq_true rfl⟩ rfl (Nat.le_of_ble_eq_true rfl) ⟨Nat.le_of_ble_eq_true rfl, Nat.le_of_ble_eq_true rfl⟩ ?_
        obtain ⟨rfl, rfl⟩ := am_fin hres
        exact am_iret cx dX12_times_52
      · have hres := am_ifp h hres
        refine am_iconst cx (v := (-1 : Int32)) dX12_times_41 (by decide) ?_
        obtain ⟨rfl, rfl⟩ := am_fin hres
        exact am_iret cx dX12_times_42
    · have hres := am_ifp h hres
      refine am_sub cx [] rfl ?_
      exact sn12_times_b25 cx  hres
set_option maxRecDepth 20000 in
theorem mt12_times {l : Launch} {v : Int32} {M M' : am_Mem} {N : Nat} {r0 : Nat} {x1 : Int32} {x2 : Int32} (h : fn12_times N M r0 x1 x2 = some (v, M')) : am_Met l yX12_times cX12_times 3 (some .int) rm12_times 0 0 [.inr (.inr (.inl r0)), .inl x1, .inl x2] M (some (.inl v)) M' := am_mk (by decide) (Nat.le_of_ble_eq_true rfl) (fun G cx => (sn12_times_b0 cx h))
-- SquareCutsModel.lessen
def fn12_lessen_b83B (N : Nat) (k83 : Nat → Int64 → Int32 → am_Mem → Option (Int32 × am_Mem)) (r0 : Nat) (j2 : Int64) (x4 : Int32) (M : am_Mem) : Option (Int32 × am_Mem) :=
  am_ck (am_k M r0 12) (am_ck (am_k M (am_R M r0 48) 14) (am_ck (am_in (0 : Int32) (am_L M (am_R M r0 48))) (if (am_I M (am_R M r0 48) (0 : Int32).toNatClampNeg) ≤ x4 then am_bd (fn12_makes N M r0) (fun v4 M5 => some (v4, M5)) else am_ck (am_in ((4 : Int32) + x4) (am_L M (am_R M r0 48))) (am_ck (decide (¬ j2.toInt32 = 0)) (am_ck (am_in ((4 : Int32) + x4) (am_L M (am_R M r0 48))) (am_ck (am_in ((44 : Int32) + x4) (am_L M (am_R M r0 48))) (am_ck (decide (¬ j2.toInt32 = 0)) (am_ck (am_in ((44 : Int32) + x4) (am_L M (am_R M r0 48))) (am_ck (am_in ((84 : Int32) + x4) (am_L M (am_R M r0 48))) (am_ck (decide (¬ j2.toInt32 = 0)) (am_ck (am_in ((84 : Int32) + x4) (am_L M (am_R M r0 48))) (k83 r0 j2 (x4 + (1 : Int32)) (am_wI (am_wI (am_wI M (am_R M r0 48) ((4 : Int32) + x4).toNatClampNeg ((am_I M (am_R M r0 48) ((4 : Int32) + x4).toNatClampNeg) / j2.toInt32)) (am_R M r0 48) ((44 : Int32) + x4).toNatClampNeg ((am_I (am_wI M (am_R M r0 48) ((4 : Int32) + x4).toNatClampNeg ((am_I M (am_R M r0 48) ((4 : Int32) + x4).toNatClampNeg) / j2.toInt32)) (am_R M r0 48) ((44 : Int32) + x4).toNatClampNeg) / j2.toInt32)) (am_R M r0 48) ((84 : Int32) + x4).toNatClampNeg ((am_I (am_wI (am_wI M (am_R M r0 48) ((4 : Int32) + x4).toNatClampNeg ((am_I M (am_R M r0 48) ((4 : Int32) + x4).toNatClampNeg) / j2.toInt32)) (am_R M r0 48) ((44 : Int32) + x4).toNatClampNeg ((am_I (am_wI M (am_R M r0 48) ((4 : Int32) + x4).toNatClampNeg ((am_I M (am_R M r0 48) ((4 : Int32) + x4).toNatClampNeg) / j2.toInt32)) (am_R M r0 48) ((44 : Int32) + x4).toNatClampNeg) / j2.toInt32)) (am_R M r0 48) ((84 : Int32) + x4).toNatClampNeg) / j2.toInt32))))))))))))))
def fn12_lessen_b83 (N : Nat)  : Nat → Nat → Int64 → Int32 → am_Mem → Option (Int32 × am_Mem)
  | 0 => fun _ _ _ _ => none
  | i + 1 => fn12_lessen_b83B N (fn12_lessen_b83 N  i)
def fn12_lessen_b25B (N : Nat) (k25 : Nat → Int64 → Int32 → am_Mem → Option (Int32 × am_Mem)) (r0 : Nat) (j2 : Int64) (x4 : Int32) (M : am_Mem) : Option (Int32 × am_Mem) :=
  am_ck (am_k M r0 12) (am_ck (am_k M (am_R M r0 48) 14) (am_ck (am_in (0 : Int32) (am_L M (am_R M r0 48))) (if (am_I M (am_R M r0 48) (0 : Int32).toNatClampNeg) ≤ x4 then am_ck (am_in (1 : Int32) (am_L M (am_R M r0 48))) (am_ck (decide (¬ j2.toInt32 = 0)) (am_ck (am_in (1 : Int32) (am_L M (am_R M r0 48))) (am_ck (am_in (2 : Int32) (am_L M (am_R M r0 48))) (am_ck (decide (¬ j2.toInt32 = 0)) (am_ck (am_in (2 : Int32) (am_L M (am_R M r0 48))) (fn12_lessen_b83 N  N r0 j2 (0 : Int32) (am_wI (am_wI M (am_R M r0 48) (1 : Int32).toNatClampNeg ((am_I M (am_R M r0 48) (1 : Int32).toNatClampNeg) / j2.toInt32)) (am_R M r0 48) (2 : Int32).toNatClampNeg ((am_I (am_wI M (am_R M r0 48) (1 : Int32).toNatClampNeg ((am_I M (am_R M r0 48) (1 : Int32).toNatClampNeg) / j2.toInt32)) (am_R M r0 48) (2 : Int32).toNatClampNeg) / j2.toInt32)))))))) else am_ck (am_in ((84 : Int32) + x4) (am_L M (am_R M r0 48))) (am_bd (fn12_common N M j2 ((am_I M (am_R M r0 48) ((84 : Int32) + x4).toNatClampNeg).toInt64)) (fun v11 M12 => k25 r0 v11 (x4 + (1 : Int32)) M12)))))
def fn12_lessen_b25 (N : Nat)  : Nat → Nat → Int64 → Int32 → am_Mem → Option (Int32 × am_Mem)
  | 0 => fun _ _ _ _ => none
  | i + 1 => fn12_lessen_b25B N (fn12_lessen_b25 N  i)
def fn12_lessen_b0 (N : Nat)  (r0 : Nat) (x1 : Int32) (M : am_Mem) : Option (Int32 × am_Mem) :=
  am_ck (am_k M r0 12) (am_bd (fn12_canMake (am_wI M r0 0 (0 : Int32)) r0 x1) (fun v2 M3 => if v2 = 0 then some ((-1 : Int32), M3) else am_ck (am_k M3 r0 12) (am_bd (fn12_takes N M3 r0 x1) (fun v6 M7 => fn12_lessen_b25 N  N r0 (0 : Int64) (0 : Int32) M7))))
def fn12_lessen (N : Nat) (M : am_Mem) (r0 : Nat) (x1 : Int32) : Option (Int32 × am_Mem) := fn12_lessen_b0 N r0 x1 M
def rm12_lessen : Room := { frames := 3, cells := 0, slots := 0, locals := 67 }
set_option maxRecDepth 20000 in
theorem sn12_lessen_b83B {l : Launch} {G : am_G} {v : Int32} {M' : am_Mem} {N : Nat} {k83 : Nat → Int64 → Int32 → am_Mem → Option (Int32 × am_Mem)} (cx : am_Ctx l rm12_lessen yX12_lessen cX12_lessen 5 (some .int) (some (.inl v)) M' 0 0 G) (hk83 : ∀ (r0 : Nat) (j2 : Int64) (x4 : Int32) (M : am_Mem), k83 r0 j2 x4 M = some (v, M') → G 83 [(0, .inr (.inr (.inl r0))), (2, .inr (.inl j2)), (4, .inl x4)] [] M 0 0) {r0 : Nat} {j2 : Int64} {x4 : Int32} {M : am_Mem} (hres : fn12_lessen_b83B N k83 r0 j2 x4 M = some (v, M')) : G 83 [(0, .inr (.inr (.inl r0))), (2, .inr (.inl j2)), (4, .inl x4)] [] M 0 0 := by
  unfold fn12_lessen_b83B at hres
  refine am_iload cx 2 dX12_lessen_83 rfl ?_
  refine am_aload_n cx 0 dX12_lessen_85 rfl ?_
  obtain ⟨q1, hres⟩ := am_ck_some hres
  refine am_getR cx dX12_lessen_86 flX12_100 (am_ke q1) ?_
  refine am_iconst cx (v := (0 : Int32)) dX12_lessen_89 (by decide) ?_
  obtain ⟨q2, hres⟩ := am_ck_some hres
  obtain ⟨q3, hres⟩ := am_ck_some hres
  refine am_iald cx dX12_lessen_90 (am_ke q2) q3 ?_
  refine am_icmp_ge cx (tgt := 144) dX12_lessen_91 (by decide) (fun h => ?_) (fun h => ?_)
  · have hres := am_ifp h hres
    refine am_aload_n cx 0 dX12_lessen_144 rfl ?_
    obtain ⟨v4, M5, q6, hres⟩ := am_bd_some hres
    refine am_callV1 cx [] dX12_lessen_145 cvX12_403 (mt12_makes q6) (am_ke q1) ⟨rfl, rfl, Nat.le_of_ble_eq_true rfl, Nat.le_of_ble_eq_true rfl⟩ rfl (Nat.le_of_ble_eq_true rfl) ⟨Nat.le_of_ble_eq_true rfl, Nat.le_of_ble_eq_true rfl⟩ ?_
    obtain ⟨rfl, rfl⟩ := am_fin hres
    exact am_iret cx dX12_lessen_148
  · have hres := am_ifn h hres
    refine am_aload_n cx 0 dX12_lessen_94 rfl ?_
    refine am_getR cx dX12_lessen_95 flX12_100 (am_ke q1) ?_
    refine am_iconst cx (v := (4 : Int32)) dX12_lessen_98 (by decide) ?_
    refine am_iload cx 2 dX12_lessen_99 rfl ?_
    refine am_iadd cx dX12_lessen_101 ?_
    refine am_dup2 cx dX12_lessen_102 rfl rfl ?_
    obtain ⟨q7, hres⟩ := am_ck_some hres
    refine am_iald cx dX12_lessen_103 (am_ke q2) q7 ?_
    refine am_lload_n cx 1 dX12_lessen_104 rfl ?_
    refine am_l2i cx dX12_lessen_105 ?_
    obtain ⟨q8, hres⟩ := am_ck_some hres
    refine am_idiv cx dX12_lessen_106 (of_decide_eq_true q8) ?_
    obtain ⟨q9, hres⟩ := am_ck_some hres
    refine am_iast cx dX12_lessen_107 (am_ke q2) q9  ?_
    refine am_aload_n cx 0 dX12_lessen_108 rfl ?_
    refine am_getR cx dX12_lessen_109 flX12_100 (am_ke q1) ?_
    refine am_bipush cx (v := (44 : Int32)) dX12_lessen_112 (by decide) ?_
    refine am_iload cx 2 dX12_lessen_114 rfl ?_
    refine am_iadd cx dX12_lessen_116 ?_
    refine am_dup2 cx dX12_lessen_117 rfl rfl ?_
    obtain ⟨q10, hres⟩ := am_ck_some hres
    refine am_iald cx dX12_lessen_118 (am_ke q2) q10 ?_
    refine am_lload_n cx 1 dX12_lessen_119 rfl ?_
    refine am_l2i cx dX12_lessen_120 ?_
    obtain ⟨q11, hres⟩ := am_ck_some hres
    refine am_idiv cx dX12_lessen_121 (of_decide_eq_true q11) ?_
    obtain ⟨q12, hres⟩ := am_ck_some hres
    refine am_iast cx dX12_lessen_122 (am_ke q2) q12  ?_
    refine am_aload_n cx 0 dX12_lessen_123 rfl ?_
    refine am_getR cx dX12_lessen_124 flX12_100 (am_ke q1) ?_
    refine am_bipush cx (v := (84 : Int32)) dX12_lessen_127 (by decide) ?_
    refine am_iload cx 2 dX12_lessen_129 rfl ?_
    refine am_iadd cx dX12_lessen_131 ?_
    refine am_dup2 cx dX12_lessen_132 rfl rfl ?_
    obtain ⟨q13, hres⟩ := am_ck_some hres
    refine am_iald cx dX12_lessen_133 (am_ke q2) q13 ?_
    refine am_lload_n cx 1 dX12_lessen_134 rfl ?_
    refine am_l2i cx dX12_lessen_135 ?_
    obtain ⟨q14, hres⟩ := am_ck_some hres
    refine am_idiv cx dX12_lessen_136 (of_decide_eq_true q14) ?_
    obtain ⟨q15, hres⟩ := am_ck_some hres
    refine am_iast cx dX12_lessen_137 (am_ke q2) q15  ?_
    refine am_iincw cx (lv' := [(0, .inr (.inr (.inl r0))), (2, .inr (.inl j2)), (4, .inl (x4 + (1 : Int32)))]) (w := (1 : Int32)) 2 dX12_lessen_138 (by decide) rfl (Nat.le_of_ble_eq_true rfl) rfl ?_
    refine am_goto cx (tgt := 83) dX12_lessen_141 (by decide) ?_
    exact hk83 _ _ _ _ hres
set_option maxRecDepth 20000 in
theorem sn12_lessen_b83 {l : Launch} {G : am_G} {v : Int32} {M' : am_Mem} {N : Nat}  (cx : am_Ctx l rm12_lessen yX12_lessen cX12_lessen 5 (some .int) (some (.inl v)) M' 0 0 G)  (i : Nat) : ∀ (r0 : Nat) (j2 : Int64) (x4 : Int32) (M : am_Mem), fn12_lessen_b83 N  i r0 j2 x4 M = some (v, M') → G 83 [(0, .inr (.inr (.inl r0))), (2, .inr (.inl j2)), (4, .inl x4)] [] M 0 0 := by
  induction i with
  | zero => intro r0 j2 x4 M hres; exact am_no hres
  | succ i ih => intro r0 j2 x4 M hres; exact sn12_lessen_b83B cx ih hres
set_option maxRecDepth 20000 in
theorem sn12_lessen_b25B {l : Launch} {G : am_G} {v : Int32} {M' : am_Mem} {N : Nat} {k25 : Nat → Int64 → Int32 → am_Mem → Option (Int32 × am_Mem)} (cx : am_Ctx l rm12_lessen yX12_lessen cX12_lessen 5 (some .int) (some (.inl v)) M' 0 0 G) (hk25 : ∀ (r0 : Nat) (j2 : Int64) (x4 : Int32) (M : am_Mem), k25 r0 j2 x4 M = some (v, M') → G 25 [(0, .inr (.inr (.inl r0))), (2, .inr (.inl j2)), (4, .inl x4)] [] M 0 0) {r0 : Nat} {j2 : Int64} {x4 : Int32} {M : am_Mem} (hres : fn12_lessen_b25B N k25 r0 j2 x4 M = some (v, M')) : G 25 [(0, .inr (.inr (.inl r0))), (2, .inr (.inl j2)), (4, .inl x4)] [] M 0 0 := by
  unfold fn12_lessen_b25B at hres
  refine am_iload cx 2 dX12_lessen_25 rfl ?_
  refine am_aload_n cx 0 dX12_lessen_27 rfl ?_
  obtain ⟨q1, hres⟩ := am_ck_some hres
  refine am_getR cx dX12_lessen_28 flX12_100 (am_ke q1) ?_
  refine am_iconst cx (v := (0 : Int32)) dX12_lessen_31 (by decide) ?_
  obtain ⟨q2, hres⟩ := am_ck_some hres
  obtain ⟨q3, hres⟩ := am_ck_some hres
  refine am_iald cx dX12_lessen_32 (am_ke q2) q3 ?_
  refine am_icmp_ge cx (tgt := 58) dX12_lessen_33 (by decide) (fun h => ?_) (fun h => ?_)
  · have hres := am_ifp h hres
    refine am_aload_n cx 0 dX12_lessen_58 rfl ?_
    refine am_getR cx dX12_lessen_59 flX12_100 (am_ke q1) ?_
    refine am_iconst cx (v := (1 : Int32)) dX12_lessen_62 (by decide) ?_
    refine am_dup2 cx dX12_lessen_63 rfl rfl ?_
    obtain ⟨q4, hres⟩ := am_ck_some hres
    refine am_iald cx dX12_lessen_64 (am_ke q2) q4 ?_
    refine am_lload_n cx 1 dX12_lessen_65 rfl ?_
    refine am_l2i cx dX12_lessen_66 ?_
    obtain ⟨q5, hres⟩ := am_ck_some hres
    refine am_idiv cx dX12_lessen_67 (of_decide_eq_true q5) ?_
    obtain ⟨q6, hres⟩ := am_ck_some hres
    refine am_iast cx dX12_lessen_68 (am_ke q2) q6  ?_
    refine am_aload_n cx 0 dX12_lessen_69 rfl ?_
    refine am_getR cx dX12_lessen_70 flX12_100 (am_ke q1) ?_
    refine am_iconst cx (v := (2 : Int32)) dX12_lessen_73 (by decide) ?_
    refine am_dup2 cx dX12_lessen_74 rfl rfl ?_
    obtain ⟨q7, hres⟩ := am_ck_some hres
    refine am_iald cx dX12_lessen_75 (am_ke q2) q7 ?_
    refine am_lload_n cx 1 dX12_lessen_76 rfl ?_
    refine am_l2i cx dX12_lessen_77 ?_
    obtain ⟨q8, hres⟩ := am_ck_some hres
    refine am_idiv cx dX12_lessen_78 (of_decide_eq_true q8) ?_
    obtain ⟨q9, hres⟩ := am_ck_some hres
    refine am_iast cx dX12_lessen_79 (am_ke q2) q9  ?_
    refine am_iconst cx (v := (0 : Int32)) dX12_lessen_80 (by decide) ?_
    refine am_istore cx (lv' := [(0, .inr (.inr (.inl r0))), (2, .inr (.inl j2)), (4, .inl (0 : Int32))]) dX12_lessen_81 (Nat.le_of_ble_eq_true rfl) rfl ?_
    exact sn12_lessen_b83 cx  N _ _ _ _ hres
  · have hres := am_ifn h hres
    refine am_lload_n cx 1 dX12_lessen_36 rfl ?_
    refine am_aload_n cx 0 dX12_lessen_37 rfl ?_
    refine am_getR cx dX12_lessen_38 flX12_100 (am_ke q1) ?_
    refine am_bipush cx (v := (84 : Int32)) dX12_lessen_41 (by decide) ?_
    refine am_iload cx 2 dX12_lessen_43 rfl ?_
    refine am_iadd cx dX12_lessen_45 ?_
    obtain ⟨q10, hres⟩ := am_ck_some hres
    refine am_iald cx dX12_lessen_46 (am_ke q2) q10 ?_
    refine am_i2l cx dX12_lessen_47 ?_
    obtain ⟨v11, M12, q13, hres⟩ := am_bd_some hres
    refine am_callS1 cx [.inr (.inl j2), .inr (.inl (am_I M (am_R M r0 48) ((84 : Int32) + x4).toNatClampNeg).toInt64)] dX12_lessen_48 csX12_260 (mt12_common q13)  ⟨rfl, rfl, Nat.le_of_ble_eq_true rfl, Nat.le_of_ble_eq_true rfl⟩ rfl (Nat.le_of_ble_eq_true rfl) ⟨Nat.le_of_ble_eq_true rfl, Nat.le_of_ble_eq_true rfl⟩ ?_
    refine am_lstore_n cx (lv' := [(0, .inr (.inr (.inl r0))), (2, .inr (.inl v11)), (4, .inl x4)]) dX12_lessen_51 (Nat.le_of_ble_eq_true rfl) rfl ?_
    refine am_iincw cx (lv' := [(0, .inr (.inr (.inl r0))), (2, .inr (.inl v11)), (4, .inl (x4 + (1 : Int32)))]) (w := (1 : Int32)) 2 dX12_lessen_52 (by decide) rfl (Nat.le_of_ble_eq_true rfl) rfl ?_
    refine am_goto cx (tgt := 25) dX12_lessen_55 (by decide) ?_
    exact hk25 _ _ _ _ hres
set_option maxRecDepth 20000 in
theorem sn12_lessen_b25 {l : Launch} {G : am_G} {v : Int32} {M' : am_Mem} {N : Nat}  (cx : am_Ctx l rm12_lessen yX12_lessen cX12_lessen 5 (some .int) (some (.inl v)) M' 0 0 G)  (i : Nat) : ∀ (r0 : Nat) (j2 : Int64) (x4 : Int32) (M : am_Mem), fn12_lessen_b25 N  i r0 j2 x4 M = some (v, M') → G 25 [(0, .inr (.inr (.inl r0))), (2, .inr (.inl j2)), (4, .inl x4)] [] M 0 0 := by
  induction i with
  | zero => intro r0 j2 x4 M hres; exact am_no hres
  | succ i ih => intro r0 j2 x4 M hres; exact sn12_lessen_b25B cx ih hres
set_option maxRecDepth 20000 in
theorem sn12_lessen_b0 {l : Launch} {G : am_G} {v : Int32} {M' : am_Mem} {N : Nat}  (cx : am_Ctx l rm12_lessen yX12_lessen cX12_lessen 5 (some .int) (some (.inl v)) M' 0 0 G)  {r0 : Nat} {x1 : Int32} {M : am_Mem} (hres : fn12_lessen_b0 N  r0 x1 M = some (v, M')) : G 0 [(0, .inr (.inr (.inl r0))), (1, .inl x1)] [] M 0 0 := by
  unfold fn12_lessen_b0 at hres
  refine am_aload_n cx 0 dX12_lessen_0 rfl ?_
  refine am_iconst cx (v := (0 : Int32)) dX12_lessen_1 (by decide) ?_
  obtain ⟨q1, hres⟩ := am_ck_some hres
  refine am_putI cx dX12_lessen_2 fpX12_103 (fun h => by cases h) (am_ke q1) ?_
  refine am_aload_n cx 0 dX12_lessen_5 rfl ?_
  refine am_iload_n cx 1 dX12_lessen_6 rfl ?_
  obtain ⟨v2, M3, q4, hres⟩ := am_bd_some hres
  refine am_callV1 cx [.inl x1] dX12_lessen_7 cvX12_397 (mt12_canMake q4) (am_ke q1) ⟨rfl, rfl, Nat.le_of_ble_eq_true rfl, Nat.le_of_ble_eq_true rfl⟩ rfl (Nat.le_of_ble_eq_true rfl) ⟨Nat.le_of_ble_eq_true rfl, Nat.le_of_ble_eq_true rfl⟩ ?_
  refine am_if_ne cx (tgt := 15) dX12_lessen_10 (by decide) (fun h => ?_) (fun h => ?_)
  · have hres := am_ifn h hres
    refine am_aload_n cx 0 dX12_lessen_15 rfl ?_
    refine am_iload_n cx 1 dX12_lessen_16 rfl ?_
    obtain ⟨q5, hres⟩ := am_ck_some hres
    obtain ⟨v6, M7, q8, hres⟩ := am_bd_some hres
    refine am_callV0 cx [.inl x1] dX12_lessen_17 cvX12_380 (mt12_takes q8) (am_ke q5) ⟨rfl, rfl, Nat.le_of_ble_eq_true rfl, Nat.le_of_ble_eq_true rfl⟩ rfl (Nat.le_of_ble_eq_true rfl) ⟨Nat.le_of_ble_eq_true rfl, Nat.le_of_ble_eq_true rfl⟩ ?_
    refine am_lconst cx (v := (0 : Int64)) dX12_lessen_20 (by decide) ?_
    refine am_lstore_n cx (lv' := [(0, .inr (.inr (.inl r0))), (1, .inl x1), (2, .inr (.inl (0 : Int64)))]) dX12_lessen_21 (Nat.le_of_ble_eq_true rfl) rfl ?_
    refine am_iconst cx (v := (0 : Int32)) dX12_lessen_22 (by decide) ?_
    refine am_istore cx (lv' := [(0, .inr (.inr (.inl r0))), (1, .inl x1), (2, .inr (.inl (0 : Int64))), (4, .inl (0 : Int32))]) dX12_lessen_23 (Nat.le_of_ble_eq_true rfl) rfl ?_
    refine am_sub cx [0, 2, 3] rfl ?_
    exact sn12_lessen_b25 cx  N _ _ _ _ hres
  · have hres := am_ifp h hres
    refine am_iconst cx (v := (-1 : Int32)) dX12_lessen_13 (by decide) ?_
    obtain ⟨rfl, rfl⟩ := am_fin hres
    exact am_iret cx dX12_lessen_14
set_option maxRecDepth 20000 in
theorem mt12_lessen {l : Launch} {v : Int32} {M M' : am_Mem} {N : Nat} {r0 : Nat} {x1 : Int32} (h : fn12_lessen N M r0 x1 = some (v, M')) : am_Met l yX12_lessen cX12_lessen 5 (some .int) rm12_lessen 0 0 [.inr (.inr (.inl r0)), .inl x1] M (some (.inl v)) M' := am_mk (by decide) (Nat.le_of_ble_eq_true rfl) (fun G cx => (sn12_lessen_b0 cx h))
-- SquareCutsModel.undo
def fn12_undo_b0  (r0 : Nat) (M : am_Mem) : Option (Int32 × am_Mem) :=
  am_ck (am_k M r0 12) (if (am_I (am_wI M r0 0 (0 : Int32)) r0 19) = 0 then some ((-1 : Int32), (am_wI M r0 0 (0 : Int32))) else some ((am_I (am_wI (am_wI (am_wI M r0 0 (0 : Int32)) r0 19 ((am_I (am_wI M r0 0 (0 : Int32)) r0 19) - (1 : Int32))) r0 18 ((am_I (am_wI (am_wI M r0 0 (0 : Int32)) r0 19 ((am_I (am_wI M r0 0 (0 : Int32)) r0 19) - (1 : Int32))) r0 18) - (1 : Int32))) r0 19), (am_wI (am_wI (am_wI M r0 0 (0 : Int32)) r0 19 ((am_I (am_wI M r0 0 (0 : Int32)) r0 19) - (1 : Int32))) r0 18 ((am_I (am_wI (am_wI M r0 0 (0 : Int32)) r0 19 ((am_I (am_wI M r0 0 (0 : Int32)) r0 19) - (1 : Int32))) r0 18) - (1 : Int32)))))
def fn12_undo (M : am_Mem) (r0 : Nat) : Option (Int32 × am_Mem) := fn12_undo_b0  r0 M
def rm12_undo : Room := { frames := 0, cells := 0, slots := 0, locals := 0 }
set_option maxRecDepth 20000 in
theorem sn12_undo_b0 {l : Launch} {G : am_G} {v : Int32} {M' : am_Mem}  (cx : am_Ctx l rm12_undo yX12_undo cX12_undo 1 (some .int) (some (.inl v)) M' 0 0 G)  {r0 : Nat} {M : am_Mem} (hres : fn12_undo_b0  r0 M = some (v, M')) : G 0 [(0, .inr (.inr (.inl r0)))] [] M 0 0 := by
  unfold fn12_undo_b0 at hres
  refine am_aload_n cx 0 dX12_undo_0 rfl ?_
  refine am_iconst cx (v := (0 : Int32)) dX12_undo_1 (by decide) ?_
  obtain ⟨q1, hres⟩ := am_ck_some hres
  refine am_putI cx dX12_undo_2 fpX12_103 (fun h => by cases h) (am_ke q1) ?_
  refine am_aload_n cx 0 dX12_undo_5 rfl ?_
  refine am_getI cx dX12_undo_6 flX12_297 (am_ke q1) ?_
  refine am_if_ne cx (tgt := 14) dX12_undo_9 (by decide) (fun h => ?_) (fun h => ?_)
  · have hres := am_ifn h hres
    refine am_aload_n cx 0 dX12_undo_14 rfl ?_
    refine am_dup cx dX12_undo_15 rfl ?_
    refine am_getI cx dX12_undo_16 flX12_297 (am_ke q1) ?_
    refine am_iconst cx (v := (1 : Int32)) dX12_undo_19 (by decide) ?_
    refine am_isub cx dX12_undo_20 ?_
    refine am_putI cx dX12_undo_21 fpX12_297 (fun h => by cases h) (am_ke q1) ?_
    refine am_aload_n cx 0 dX12_undo_24 rfl ?_
    refine am_dup cx dX12_undo_25 rfl ?_
    refine am_getI cx dX12_undo_26 flX12_285 (am_ke q1) ?_
    refine am_iconst cx (v := (1 : Int32)) dX12_undo_29 (by decide) ?_
    refine am_isub cx dX12_undo_30 ?_
    refine am_putI cx dX12_undo_31 fpX12_285 (fun h => by cases h) (am_ke q1) ?_
    refine am_aload_n cx 0 dX12_undo_34 rfl ?_
    refine am_getI cx dX12_undo_35 flX12_297 (am_ke q1) ?_
    obtain ⟨rfl, rfl⟩ := am_fin hres
    exact am_iret cx dX12_undo_38
  · have hres := am_ifp h hres
    refine am_iconst cx (v := (-1 : Int32)) dX12_undo_12 (by decide) ?_
    obtain ⟨rfl, rfl⟩ := am_fin hres
    exact am_iret cx dX12_undo_13
set_option maxRecDepth 20000 in
theorem mt12_undo {l : Launch} {v : Int32} {M M' : am_Mem} {r0 : Nat} (h : fn12_undo M r0 = some (v, M')) : am_Met l yX12_undo cX12_undo 1 (some .int) rm12_undo 0 0 [.inr (.inr (.inl r0))] M (some (.inl v)) M' := am_mk (by decide) (Nat.le_of_ble_eq_true rfl) (fun G cx => (sn12_undo_b0 cx h))
-- SquareCutsModel.keep
def fn12_keep_b28 (N : Nat)   (M : am_Mem) : Option (Int32 × am_Mem) :=
  some ((0 : Int32), M)
def fn12_keep_b127 (N : Nat)   (M : am_Mem) : Option (Int32 × am_Mem) :=
  some ((1 : Int32), M)
def fn12_keep_b82 (N : Nat) (k32 : Nat → Int32 → Int32 → Int32 → am_Mem → Option (Int32 × am_Mem)) (r0 : Nat) (x1 : Int32) (x2 : Int32) (x3 : Int32) (M : am_Mem) : Option (Int32 × am_Mem) :=
  k32 r0 x1 x2 (x3 + (1 : Int32)) M
def fn12_keep_b32B (N : Nat) (k32 : Nat → Int32 → Int32 → Int32 → am_Mem → Option (Int32 × am_Mem)) (r0 : Nat) (x1 : Int32) (x2 : Int32) (x3 : Int32) (M : am_Mem) : Option (Int32 × am_Mem) :=
  if (1488 : Int32) ≤ x3 then if x2 = 0 then am_ck (am_k M r0 12) (am_ck (am_k M (am_R M r0 21) 14) (am_ck (am_in x1 (am_L M (am_R M r0 21))) (am_ck (am_k M (am_R M r0 22) 16) (am_ck (am_in x1 (am_L M (am_R M r0 22))) (fn12_keep_b127 N   (am_wI (am_wI M (am_R M r0 21) x1.toNatClampNeg (am_I M r0 18)) (am_R M r0 22) x1.toNatClampNeg ((1 : Int32) &&& 1))))))) else am_ck (am_k M r0 12) (am_ck (am_k M (am_R M r0 21) 14) (am_ck (am_in x1 (am_L M (am_R M r0 21))) (fn12_keep_b127 N   (am_wI (am_wI M r0 18 (am_I M (am_R M r0 21) x1.toNatClampNeg)) r0 19 (0 : Int32))))) else if x2 = 0 then am_ck (am_k M r0 12) (am_ck (am_k M (am_R M r0 17) 14) (am_ck (am_in x3 (am_L M (am_R M r0 17))) (am_ck (am_k M (am_R M r0 20) 14) (am_ck (am_in (((1488 : Int32) * x1) + x3) (am_L M (am_R M r0 20))) (fn12_keep_b82 N k32 r0 x1 x2 x3 (am_wI M (am_R M r0 20) (((1488 : Int32) * x1) + x3).toNatClampNeg (am_I M (am_R M r0 17) x3.toNatClampNeg))))))) else am_ck (am_k M r0 12) (am_ck (am_k M (am_R M r0 20) 14) (am_ck (am_in (((1488 : Int32) * x1) + x3) (am_L M (am_R M r0 20))) (am_ck (am_k M (am_R M r0 17) 14) (am_ck (am_in x3 (am_L M (am_R M r0 17))) (fn12_keep_b82 N k32 r0 x1 x2 x3 (am_wI M (am_R M r0 17) x3.toNatClampNeg (am_I M (am_R M r0 20) (((1488 : Int32) * x1) + x3).toNatClampNeg)))))))
def fn12_keep_b32 (N : Nat)  : Nat → Nat → Int32 → Int32 → Int32 → am_Mem → Option (Int32 × am_Mem)
  | 0 => fun _ _ _ _ _ => none
  | i + 1 => fn12_keep_b32B N (fn12_keep_b32 N  i)
def fn12_keep_b30 (N : Nat)  (r0 : Nat) (x1 : Int32) (x2 : Int32) (M : am_Mem) : Option (Int32 × am_Mem) :=
  fn12_keep_b32 N  N r0 x1 x2 (0 : Int32) M
def fn12_keep_b0 (N : Nat)  (r0 : Nat) (x1 : Int32) (x2 : Int32) (M : am_Mem) : Option (Int32 × am_Mem) :=
  am_ck (am_k M r0 12) (am_bd (fn12_within (am_wI M r0 0 (0 : Int32)) x1.toInt64 (0 : Int64) (1 : Int64)) (fun v2 M3 => if v2 = 0 then fn12_keep_b28 N   M3 else if x2 = 0 then fn12_keep_b30 N  r0 x1 x2 M3 else am_ck (am_k M3 r0 12) (am_ck (am_k M3 (am_R M3 r0 22) 16) (am_ck (am_in x1 (am_L M3 (am_R M3 r0 22))) (if (am_I M3 (am_R M3 r0 22) x1.toNatClampNeg) = 0 then fn12_keep_b28 N   M3 else fn12_keep_b30 N  r0 x1 x2 M3)))))
def fn12_keep (N : Nat) (M : am_Mem) (r0 : Nat) (x1 : Int32) (x2 : Int32) : Option (Int32 × am_Mem) := fn12_keep_b0 N r0 x1 x2 M
def rm12_keep : Room := { frames := 1, cells := 0, slots := 0, locals := 25 }
set_option maxRecDepth 20000 in
theorem sn12_keep_b28 {l : Launch} {G : am_G} {v : Int32} {M' : am_Mem} {N : Nat}  (cx : am_Ctx l rm12_keep yX12_keep cX12_keep 4 (some .boolean) (some (.inl v)) M' 0 0 G)   {M : am_Mem} (hres : fn12_keep_b28 N   M = some (v, M')) : G 28 [] [] M 0 0 := by
  unfold fn12_keep_b28 at hres
  refine am_iconst cx (v := (0 : Int32)) dX12_keep_28 (by decide) ?_
  obtain ⟨rfl, rfl⟩ := am_fin hres
  exact am_zret cx rfl dX12_keep_29
set_option maxRecDepth 20000 in
theorem sn12_keep_b127 {l : Launch} {G : am_G} {v : Int32} {M' : am_Mem} {N : Nat}  (cx : am_Ctx l rm12_keep yX12_keep cX12_keep 4 (some .boolean) (some (.inl v)) M' 0 0 G)   {M : am_Mem} (hres : fn12_keep_b127 N   M = some (v, M')) : G 127 [] [] M 0 0 := by
  unfold fn12_keep_b127 at hres
  refine am_iconst cx (v := (1 : Int32)) dX12_keep_127 (by decide) ?_
  obtain ⟨rfl, rfl⟩ := am_fin hres
  exact am_zret cx rfl dX12_keep_128
set_option maxRecDepth 20000 in
theorem sn12_keep_b82 {l : Launch} {G : am_G} {v : Int32} {M' : am_Mem} {N : Nat} {k32 : Nat → Int32 → Int32 → Int32 → am_Mem → Option (Int32 × am_Mem)} (cx : am_Ctx l rm12_keep yX12_keep cX12_keep 4 (some .boolean) (some (.inl v)) M' 0 0 G) (hk32 : ∀ (r0 : Nat) (x1 : Int32) (x2 : Int32) (x3 : Int32) (M : am_Mem), k32 r0 x1 x2 x3 M = some (v, M') → G 32 [(0, .inr (.inr (.inl r0))), (1, .inl x1), (2, .inl x2), (3, .inl x3)] [] M 0 0) {r0 : Nat} {x1 : Int32} {x2 : Int32} {x3 : Int32} {M : am_Mem} (hres : fn12_keep_b82 N k32 r0 x1 x2 x3 M = some (v, M')) : G 82 [(0, .inr (.inr (.inl r0))), (1, .inl x1), (2, .inl x2), (3, .inl x3)] [] M 0 0 := by
  unfold fn12_keep_b82 at hres
  refine am_iincw cx (lv' := [(0, .inr (.inr (.inl r0))), (1, .inl x1), (2, .inl x2), (3, .inl (x3 + (1 : Int32)))]) (w := (1 : Int32)) 3 dX12_keep_82 (by decide) rfl (Nat.le_of_ble_eq_true rfl) rfl ?_
  refine am_goto cx (tgt := 32) dX12_keep_85 (by decide) ?_
  exact hk32 _ _ _ _ _ hres
set_option maxRecDepth 20000 in
theorem sn12_keep_b32B {l : Launch} {G : am_G} {v : Int32} {M' : am_Mem} {N : Nat} {k32 : Nat → Int32 → Int32 → Int32 → am_Mem → Option (Int32 × am_Mem)} (cx : am_Ctx l rm12_keep yX12_keep cX12_keep 4 (some .boolean) (some (.inl v)) M' 0 0 G) (hk32 : ∀ (r0 : Nat) (x1 : Int32) (x2 : Int32) (x3 : Int32) (M : am_Mem), k32 r0 x1 x2 x3 M = some (v, M') → G 32 [(0, .inr (.inr (.inl r0))), (1, .inl x1), (2, .inl x2), (3, .inl x3)] [] M 0 0) {r0 : Nat} {x1 : Int32} {x2 : Int32} {x3 : Int32} {M : am_Mem} (hres : fn12_keep_b32B N k32 r0 x1 x2 x3 M = some (v, M')) : G 32 [(0, .inr (.inr (.inl r0))), (1, .inl x1), (2, .inl x2), (3, .inl x3)] [] M 0 0 := by
  unfold fn12_keep_b32B at hres
  refine am_iload_n cx 3 dX12_keep_32 rfl ?_
  refine am_sipush cx (v := (1488 : Int32)) dX12_keep_33 (by decide) ?_
  refine am_icmp_ge cx (tgt := 88) dX12_keep_36 (by decide) (fun h => ?_) (fun h => ?_)
  · have hres := am_ifp h hres
    refine am_iload_n cx 2 dX12_keep_88 rfl ?_
    refine am_if_eq cx (tgt := 110) dX12_keep_89 (by decide) (fun h => ?_) (fun h => ?_)
    · have hres := am_ifp h hres
      refine am_aload_n cx 0 dX12_keep_110 rfl ?_
      obtain ⟨q1, hres⟩ := am_ck_some hres
      refine am_getR cx dX12_keep_111 flX12_36 (am_ke q1) ?_
      refine am_iload_n cx 1 dX12_keep_114 rfl ?_
      refine am_aload_n cx 0 dX12_keep_115 rfl ?_
      refine am_getI cx dX12_keep_116 flX12_285 (am_ke q1) ?_
      obtain ⟨q2, hres⟩ := am_ck_some hres
      obtain ⟨q3, hres⟩ := am_ck_some hres
      refine am_iast cx dX12_keep_119 (am_ke q2) q3  ?_
      refine am_aload_n cx 0 dX12_keep_120 rfl ?_
      refine am_getR cx dX12_keep_121 flX12_39 (am_ke q1) ?_
      refine am_iload_n cx 1 dX12_keep_124 rfl ?_
      refine am_iconst cx (v := (1 : Int32)) dX12_keep_125 (by decide) ?_
      obtain ⟨q4, hres⟩ := am_ck_some hres
      obtain ⟨q5, hres⟩ := am_ck_some hres
      refine am_zast cx dX12_keep_126 (am_ke q4) q5  ?_
      refine am_sub cx [] rfl ?_
      exact sn12_keep_b127 cx  hres
    · have hres := am_ifn h hres
      refine am_aload_n cx 0 dX12_keep_92 rfl ?_
      refine am_aload_n cx 0 dX12_keep_93 rfl ?_
      obtain ⟨q6, hres⟩ := am_ck_some hres
      refine am_getR cx dX12_keep_94 flX12_36 (am_ke q6) ?_
      refine am_iload_n cx 1 dX12_keep_97 rfl ?_
      obtain ⟨q7, hres⟩ := am_ck_some hres
      obtain ⟨q8, hres⟩ := am_ck_some hres
      refine am_iald cx dX12_keep_98 (am_ke q7) q8 ?_
      refine am_putI cx dX12_keep_99 fpX12_285 (fun h => by cases h) (am_ke q6) ?_
      refine am_aload_n cx 0 dX12_keep_102 rfl ?_
      refine am_iconst cx (v := (0 : Int32)) dX12_keep_103 (by decide) ?_
      refine am_putI cx dX12_keep_104 fpX12_297 (fun h => by cases h) (am_ke q6) ?_
      refine am_goto cx (tgt := 127) dX12_keep_107 (by decide) ?_
      refine am_sub cx [] rfl ?_
      exact sn12_keep_b127 cx  hres
  · have hres := am_ifn h hres
    refine am_iload_n cx 2 dX12_keep_39 rfl ?_
    refine am_if_eq cx (tgt := 64) dX12_keep_40 (by decide) (fun h => ?_) (fun h => ?_)
    · have hres := am_ifp h hres
      refine am_aload_n cx 0 dX12_keep_64 rfl ?_
      obtain ⟨q9, hres⟩ := am_ck_some hres
      refine am_getR cx dX12_keep_65 flX12_33 (am_ke q9) ?_
      refine am_sipush cx (v := (1488 : Int32)) dX12_keep_68 (by decide) ?_
      refine am_iload_n cx 1 dX12_keep_71 rfl ?_
      refine am_imul cx dX12_keep_72 ?_
      refine am_iload_n cx 3 dX12_keep_73 rfl ?_
      refine am_iadd cx dX12_keep_74 ?_
      refine am_aload_n cx 0 dX12_keep_75 rfl ?_
      refine am_getR cx dX12_keep_76 flX12_30 (am_ke q9) ?_
      refine am_iload_n cx 3 dX12_keep_79 rfl ?_
      obtain ⟨q10, hres⟩ := am_ck_some hres
      obtain ⟨q11, hres⟩ := am_ck_some hres
      refine am_iald cx dX12_keep_80 (am_ke q10) q11 ?_
      obtain ⟨q12, hres⟩ := am_ck_some hres
      obtain ⟨q13, hres⟩ := am_ck_some hres
      refine am_iast cx dX12_keep_81 (am_ke q12) q13  ?_
      exact sn12_keep_b82 cx hk32 hres
    · have hres := am_ifn h hres
      refine am_aload_n cx 0 dX12_keep_43 rfl ?_
      obtain ⟨q14, hres⟩ := am_ck_some hres
      refine am_getR cx dX12_keep_44 flX12_30 (am_ke q14) ?_
      refine am_iload_n cx 3 dX12_keep_47 rfl ?_
      refine am_aload_n cx 0 dX12_keep_48 rfl ?_
      refine am_getR cx dX12_keep_49 flX12_33 (am_ke q14) ?_
      refine am_sipush cx (v := (1488 : Int32)) dX12_keep_52 (by decide) ?_
      refine am_iload_n cx 1 dX12_keep_55 rfl ?_
      refine am_imul cx dX12_keep_56 ?_
      refine am_iload_n cx 3 dX12_keep_57 rfl ?_
      refine am_iadd cx dX12_keep_58 ?_
      obtain ⟨q15, hres⟩ := am_ck_some hres
      obtain ⟨q16, hres⟩ := am_ck_some hres
      refine am_iald cx dX12_keep_59 (am_ke q15) q16 ?_
      obtain ⟨q17, hres⟩ := am_ck_some hres
      obtain ⟨q18, hres⟩ := am_ck_some hres
      refine am_iast cx dX12_keep_60 (am_ke q17) q18  ?_
      refine am_goto cx (tgt := 82) dX12_keep_61 (by decide) ?_
      exact sn12_keep_b82 cx hk32 hres
set_option maxRecDepth 20000 in
theorem sn12_keep_b32 {l : Launch} {G : am_G} {v : Int32} {M' : am_Mem} {N : Nat}  (cx : am_Ctx l rm12_keep yX12_keep cX12_keep 4 (some .boolean) (some (.inl v)) M' 0 0 G)  (i : Nat) : ∀ (r0 : Nat) (x1 : Int32) (x2 : Int32) (x3 : Int32) (M : am_Mem), fn12_keep_b32 N  i r0 x1 x2 x3 M = some (v, M') → G 32 [(0, .inr (.inr (.inl r0))), (1, .inl x1), (2, .inl x2), (3, .inl x3)] [] M 0 0 := by
  induction i with
  | zero => intro r0 x1 x2 x3 M hres; exact am_no hres
  | succ i ih => intro r0 x1 x2 x3 M hres; exact sn12_keep_b32B cx ih hres
set_option maxRecDepth 20000 in
theorem sn12_keep_b30 {l : Launch} {G : am_G} {v : Int32} {M' : am_Mem} {N : Nat}  (cx : am_Ctx l rm12_keep yX12_keep cX12_keep 4 (some .boolean) (some (.inl v)) M' 0 0 G)  {r0 : Nat} {x1 : Int32} {x2 : Int32} {M : am_Mem} (hres : fn12_keep_b30 N  r0 x1 x2 M = some (v, M')) : G 30 [(0, .inr (.inr (.inl r0))), (1, .inl x1), (2, .inl x2)] [] M 0 0 := by
  unfold fn12_keep_b30 at hres
  refine am_iconst cx (v := (0 : Int32)) dX12_keep_30 (by decide) ?_
  refine am_istore_n cx (lv' := [(0, .inr (.inr (.inl r0))), (1, .inl x1), (2, .inl x2), (3, .inl (0 : Int32))]) dX12_keep_31 (Nat.le_of_ble_eq_true rfl) rfl ?_
  exact sn12_keep_b32 cx  N _ _ _ _ _ hres
set_option maxRecDepth 20000 in
theorem sn12_keep_b0 {l : Launch} {G : am_G} {v : Int32} {M' : am_Mem} {N : Nat}  (cx : am_Ctx l rm12_keep yX12_keep cX12_keep 4 (some .boolean) (some (.inl v)) M' 0 0 G)  {r0 : Nat} {x1 : Int32} {x2 : Int32} {M : am_Mem} (hres : fn12_keep_b0 N  r0 x1 x2 M = some (v, M')) : G 0 [(0, .inr (.inr (.inl r0))), (1, .inl x1), (2, .inl x2)] [] M 0 0 := by
  unfold fn12_keep_b0 at hres
  refine am_aload_n cx 0 dX12_keep_0 rfl ?_
  refine am_iconst cx (v := (0 : Int32)) dX12_keep_1 (by decide) ?_
  obtain ⟨q1, hres⟩ := am_ck_some hres
  refine am_putI cx dX12_keep_2 fpX12_103 (fun h => by cases h) (am_ke q1) ?_
  refine am_iload_n cx 1 dX12_keep_5 rfl ?_
  refine am_i2l cx dX12_keep_6 ?_
  refine am_lconst cx (v := (0 : Int64)) dX12_keep_7 (by decide) ?_
  refine am_lconst cx (v := (1 : Int64)) dX12_keep_8 (by decide) ?_
  obtain ⟨v2, M3, q4, hres⟩ := am_bd_some hres
  refine am_callS1 cx [.inr (.inl x1.toInt64), .inr (.inl (0 : Int64)), .inr (.inl (1 : Int64))] dX12_keep_9 csX12_141 (mt12_within q4)  ⟨rfl, rfl, Nat.le_of_ble_eq_true rfl, Nat.le_of_ble_eq_true rfl⟩ rfl (Nat.le_of_ble_eq_true rfl) ⟨Nat.le_of_ble_eq_true rfl, Nat.le_of_ble_eq_true rfl⟩ ?_
  refine am_if_eq cx (tgt := 28) dX12_keep_12 (by decide) (fun h => ?_) (fun h => ?_)
  · have hres := am_ifp h hres
    refine am_sub cx [] rfl ?_
    exact sn12_keep_b28 cx  hres
  · have hres := am_ifn h hres
    refine am_iload_n cx 2 dX12_keep_15 rfl ?_
    refine am_if_eq cx (tgt := 30) dX12_keep_16 (by decide) (fun h => ?_) (fun h => ?_)
    · have hres := am_ifp h hres
      exact sn12_keep_b30 cx  hres
    · have hres := am_ifn h hres
      refine am_aload_n cx 0 dX12_keep_19 rfl ?_
      obtain ⟨q5, hres⟩ := am_ck_some hres
      refine am_getR cx dX12_keep_20 flX12_39 (am_ke q5) ?_
      refine am_iload_n cx 1 dX12_keep_23 rfl ?_
      obtain ⟨q6, hres⟩ := am_ck_some hres
      obtain ⟨q7, hres⟩ := am_ck_some hres
      refine am_zald cx dX12_keep_24 (am_ke q6) q7 ?_
      refine am_if_ne cx (tgt := 30) dX12_keep_25 (by decide) (fun h => ?_) (fun h => ?_)
      · have hres := am_ifn h hres
        exact sn12_keep_b30 cx  hres
      · have hres := am_ifp h hres
        refine am_sub cx [] rfl ?_
        exact sn12_keep_b28 cx  hres
set_option maxRecDepth 20000 in
theorem mt12_keep {l : Launch} {v : Int32} {M M' : am_Mem} {N : Nat} {r0 : Nat} {x1 : Int32} {x2 : Int32} (h : fn12_keep N M r0 x1 x2 = some (v, M')) : am_Met l yX12_keep cX12_keep 4 (some .boolean) rm12_keep 0 0 [.inr (.inr (.inl r0)), .inl x1, .inl x2] M (some (.inl v)) M' := am_mk (by decide) (Nat.le_of_ble_eq_true rfl) (fun G cx => (sn12_keep_b0 cx h))
-- SquareCutsModel.count
def fn12_count_b72 (N : Nat) (k55 : Nat → Int32 → Int32 → am_Mem → Option (Int32 × am_Mem)) (r0 : Nat) (x2 : Int32) (x3 : Int32) (M : am_Mem) : Option (Int32 × am_Mem) :=
  k55 r0 x2 (x3 + (1 : Int32)) M
def fn12_count_b55B (N : Nat) (k55 : Nat → Int32 → Int32 → am_Mem → Option (Int32 × am_Mem)) (r0 : Nat) (x2 : Int32) (x3 : Int32) (M : am_Mem) : Option (Int32 × am_Mem) :=
  am_ck (am_k M r0 12) (if (am_I M r0 18) ≤ x3 then some (x2, M) else am_bd (fn12_of M r0 x3 (3 : Int32)) (fun v2 M3 => fn12_count_b72 N k55 r0 (x2 + v2) x3 M3))
def fn12_count_b55 (N : Nat)  : Nat → Nat → Int32 → Int32 → am_Mem → Option (Int32 × am_Mem)
  | 0 => fun _ _ _ _ => none
  | i + 1 => fn12_count_b55B N (fn12_count_b55 N  i)
def fn12_count_b114 (N : Nat) (k82 : Nat → Int32 → Int32 → am_Mem → Option (Int32 × am_Mem)) (r0 : Nat) (x2 : Int32) (x3 : Int32) (M : am_Mem) : Option (Int32 × am_Mem) :=
  k82 r0 x2 (x3 + (1 : Int32)) M
def fn12_count_b112 (N : Nat) (k82 : Nat → Int32 → Int32 → am_Mem → Option (Int32 × am_Mem)) (a0 : Int32) (a1 : Int32) (r0 : Nat) (x3 : Int32) (M : am_Mem) : Option (Int32 × am_Mem) :=
  fn12_count_b114 N k82 r0 (a0 + a1) x3 M
def fn12_count_b111 (N : Nat) (k82 : Nat → Int32 → Int32 → am_Mem → Option (Int32 × am_Mem)) (a0 : Int32) (r0 : Nat) (x3 : Int32) (M : am_Mem) : Option (Int32 × am_Mem) :=
  fn12_count_b112 N k82 a0 (0 : Int32) r0 x3 M
def fn12_count_b82B (N : Nat) (k82 : Nat → Int32 → Int32 → am_Mem → Option (Int32 × am_Mem)) (r0 : Nat) (x2 : Int32) (x3 : Int32) (M : am_Mem) : Option (Int32 × am_Mem) :=
  am_ck (am_k M r0 12) (if (am_I M r0 18) ≤ x3 then some (x2, M) else am_bd (fn12_doesFail M r0 x3) (fun v2 M3 => if v2 = 0 then am_ck (am_k M3 r0 12) (am_bd (fn12_arePerfect N M3 r0 x3) (fun v6 M7 => if v6 = 0 then fn12_count_b111 N k82 x2 r0 x3 M7 else fn12_count_b112 N k82 x2 (1 : Int32) r0 x3 M7)) else fn12_count_b111 N k82 x2 r0 x3 M3))
def fn12_count_b82 (N : Nat)  : Nat → Nat → Int32 → Int32 → am_Mem → Option (Int32 × am_Mem)
  | 0 => fun _ _ _ _ => none
  | i + 1 => fn12_count_b82B N (fn12_count_b82 N  i)
def fn12_count_b0 (N : Nat)  (r0 : Nat) (x1 : Int32) (M : am_Mem) : Option (Int32 × am_Mem) :=
  am_ck (am_k M r0 12) (if x1 = (0 : Int32) then (some ((am_I (am_wI M r0 0 (0 : Int32)) r0 18), (am_wI M r0 0 (0 : Int32)))) else (if x1 = (1 : Int32) then (fn12_count_b55 N  N r0 (0 : Int32) (0 : Int32) (am_wI M r0 0 (0 : Int32))) else (if x1 = (2 : Int32) then (fn12_count_b82 N  N r0 (0 : Int32) (0 : Int32) (am_wI M r0 0 (0 : Int32))) else (if x1 = (3 : Int32) then (some ((am_I (am_wI M r0 0 (0 : Int32)) r0 19), (am_wI M r0 0 (0 : Int32)))) else (if x1 = (4 : Int32) then (some ((am_I (am_wI M r0 0 (0 : Int32)) r0 2), (am_wI M r0 0 (0 : Int32)))) else (if x1 = (5 : Int32) then (some ((am_I (am_wI M r0 0 (0 : Int32)) r0 42), (am_wI M r0 0 (0 : Int32)))) else (some ((-1 : Int32), (am_wI M r0 0 (0 : Int32))))))))))
def fn12_count (N : Nat) (M : am_Mem) (r0 : Nat) (x1 : Int32) : Option (Int32 × am_Mem) := fn12_count_b0 N r0 x1 M
def rm12_count : Room := { frames := 2, cells := 0, slots := 0, locals := 46 }
set_option maxRecDepth 20000 in
theorem sn12_count_b72 {l : Launch} {G : am_G} {v : Int32} {M' : am_Mem} {N : Nat} {k55 : Nat → Int32 → Int32 → am_Mem → Option (Int32 × am_Mem)} (cx : am_Ctx l rm12_count yX12_count cX12_count 4 (some .int) (some (.inl v)) M' 0 0 G) (hk55 : ∀ (r0 : Nat) (x2 : Int32) (x3 : Int32) (M : am_Mem), k55 r0 x2 x3 M = some (v, M') → G 55 [(0, .inr (.inr (.inl r0))), (2, .inl x2), (3, .inl x3)] [] M 0 0) {r0 : Nat} {x2 : Int32} {x3 : Int32} {M : am_Mem} (hres : fn12_count_b72 N k55 r0 x2 x3 M = some (v, M')) : G 72 [(0, .inr (.inr (.inl r0))), (2, .inl x2), (3, .inl x3)] [] M 0 0 := by
  unfold fn12_count_b72 at hres
  refine am_iincw cx (lv' := [(0, .inr (.inr (.inl r0))), (2, .inl x2), (3, .inl (x3 + (1 : Int32)))]) (w := (1 : Int32)) 2 dX12_count_72 (by decide) rfl (Nat.le_of_ble_eq_true rfl) rfl ?_
  refine am_goto cx (tgt := 55) dX12_count_75 (by decide) ?_
  exact hk55 _ _ _ _ hres
set_option maxRecDepth 20000 in
theorem sn12_count_b55B {l : Launch} {G : am_G} {v : Int32} {M' : am_Mem} {N : Nat} {k55 : Nat → Int32 → Int32 → am_Mem → Option (Int32 × am_Mem)} (cx : am_Ctx l rm12_count yX12_count cX12_count 4 (some .int) (some (.inl v)) M' 0 0 G) (hk55 : ∀ (r0 : Nat) (x2 : Int32) (x3 : Int32) (M : am_Mem), k55 r0 x2 x3 M = some (v, M') → G 55 [(0, .inr (.inr (.inl r0))), (2, .inl x2), (3, .inl x3)] [] M 0 0) {r0 : Nat} {x2 : Int32} {x3 : Int32} {M : am_Mem} (hres : fn12_count_b55B N k55 r0 x2 x3 M = some (v, M')) : G 55 [(0, .inr (.inr (.inl r0))), (2, .inl x2), (3, .inl x3)] [] M 0 0 := by
  unfold fn12_count_b55B at hres
  refine am_iload_n cx 2 dX12_count_55 rfl ?_
  refine am_aload_n cx 0 dX12_count_56 rfl ?_
  obtain ⟨q1, hres⟩ := am_ck_some hres
  refine am_getI cx dX12_count_57 flX12_285 (am_ke q1) ?_
  refine am_icmp_ge cx (tgt := 78) dX12_count_60 (by decide) (fun h => ?_) (fun h => ?_)
  · have hres := am_ifp h hres
    refine am_iload_n cx 1 dX12_count_78 rfl ?_
    obtain ⟨rfl, rfl⟩ := am_fin hres
    exact am_iret cx dX12_count_79
  · have hres := am_ifn h hres
    refine am_iload_n cx 1 dX12_count_63 rfl ?_
    refine am_aload_n cx 0 dX12_count_64 rfl ?_
    refine am_iload_n cx 2 dX12_count_65 rfl ?_
    refine am_iconst cx (v := (3 : Int32)) dX12_count_66 (by decide) ?_
    obtain ⟨v2, M3, q4, hres⟩ := am_bd_some hres
    refine am_callV1 cx [.inl x3, .inl (3 : Int32)] dX12_count_67 cvX12_306 (mt12_of q4) (am_ke q1) ⟨rfl, rfl, Nat.le_of_ble_eq_true rfl, Nat.le_of_ble_eq_true rfl⟩ rfl (Nat.le_of_ble_eq_true rfl) ⟨Nat.le_of_ble_eq_true rfl, Nat.le_of_ble_eq_true rfl⟩ ?_
    refine am_iadd cx dX12_count_70 ?_
    refine am_istore_n cx (lv' := [(0, .inr (.inr (.inl r0))), (2, .inl (x2 + v2)), (3, .inl x3)]) dX12_count_71 (Nat.le_of_ble_eq_true rfl) rfl ?_
    exact sn12_count_b72 cx hk55 hres
set_option maxRecDepth 20000 in
theorem sn12_count_b55 {l : Launch} {G : am_G} {v : Int32} {M' : am_Mem} {N : Nat}  (cx : am_Ctx l rm12_count yX12_count cX12_count 4 (some .int) (some (.inl v)) M' 0 0 G)  (i : Nat) : ∀ (r0 : Nat) (x2 : Int32) (x3 : Int32) (M : am_Mem), fn12_count_b55 N  i r0 x2 x3 M = some (v, M') → G 55 [(0, .inr (.inr (.inl r0))), (2, .inl x2), (3, .inl x3)] [] M 0 0 := by
  induction i with
  | zero => intro r0 x2 x3 M hres; exact am_no hres
  | succ i ih => intro r0 x2 x3 M hres; exact sn12_count_b55B cx ih hres
set_option maxRecDepth 20000 in
theorem sn12_count_b114 {l : Launch} {G : am_G} {v : Int32} {M' : am_Mem} {N : Nat} {k82 : Nat → Int32 → Int32 → am_Mem → Option (Int32 × am_Mem)} (cx : am_Ctx l rm12_count yX12_count cX12_count 4 (some .int) (some (.inl v)) M' 0 0 G) (hk82 : ∀ (r0 : Nat) (x2 : Int32) (x3 : Int32) (M : am_Mem), k82 r0 x2 x3 M = some (v, M') → G 82 [(0, .inr (.inr (.inl r0))), (2, .inl x2), (3, .inl x3)] [] M 0 0) {r0 : Nat} {x2 : Int32} {x3 : Int32} {M : am_Mem} (hres : fn12_count_b114 N k82 r0 x2 x3 M = some (v, M')) : G 114 [(0, .inr (.inr (.inl r0))), (2, .inl x2), (3, .inl x3)] [] M 0 0 := by
  unfold fn12_count_b114 at hres
  refine am_iincw cx (lv' := [(0, .inr (.inr (.inl r0))), (2, .inl x2), (3, .inl (x3 + (1 : Int32)))]) (w := (1 : Int32)) 2 dX12_count_114 (by decide) rfl (Nat.le_of_ble_eq_true rfl) rfl ?_
  refine am_goto cx (tgt := 82) dX12_count_117 (by decide) ?_
  exact hk82 _ _ _ _ hres
set_option maxRecDepth 20000 in
theorem sn12_count_b112 {l : Launch} {G : am_G} {v : Int32} {M' : am_Mem} {N : Nat} {k82 : Nat → Int32 → Int32 → am_Mem → Option (Int32 × am_Mem)} (cx : am_Ctx l rm12_count yX12_count cX12_count 4 (some .int) (some (.inl v)) M' 0 0 G) (hk82 : ∀ (r0 : Nat) (x2 : Int32) (x3 : Int32) (M : am_Mem), k82 r0 x2 x3 M = some (v, M') → G 82 [(0, .inr (.inr (.inl r0))), (2, .inl x2), (3, .inl x3)] [] M 0 0) {a0 : Int32} {a1 : Int32} {r0 : Nat} {x3 : Int32} {M : am_Mem} (hres : fn12_count_b112 N k82 a0 a1 r0 x3 M = some (v, M')) : G 112 [(0, .inr (.inr (.inl r0))), (3, .inl x3)] [.inl a1, .inl a0] M 0 0 := by
  unfold fn12_count_b112 at hres
  refine am_iadd cx dX12_count_112 ?_
  refine am_istore_n cx (lv' := [(0, .inr (.inr (.inl r0))), (2, .inl (a0 + a1)), (3, .inl x3)]) dX12_count_113 (Nat.le_of_ble_eq_true rfl) rfl ?_
  exact sn12_count_b114 cx hk82 hres
set_option maxRecDepth 20000 in
theorem sn12_count_b111 {l : Launch} {G : am_G} {v : Int32} {M' : am_Mem} {N : Nat} {k82 : Nat → Int32 → Int32 → am_Mem → Option (Int32 × am_Mem)} (cx : am_Ctx l rm12_count yX12_count cX12_count 4 (some .int) (some (.inl v)) M' 0 0 G) (hk82 : ∀ (r0 : Nat) (x2 : Int32) (x3 : Int32) (M : am_Mem), k82 r0 x2 x3 M = some (v, M') → G 82 [(0, .inr (.inr (.inl r0))), (2, .inl x2), (3, .inl x3)] [] M 0 0) {a0 : Int32} {r0 : Nat} {x3 : Int32} {M : am_Mem} (hres : fn12_count_b111 N k82 a0 r0 x3 M = some (v, M')) : G 111 [(0, .inr (.inr (.inl r0))), (3, .inl x3)] [.inl a0] M 0 0 := by
  unfold fn12_count_b111 at hres
  refine am_iconst cx (v := (0 : Int32)) dX12_count_111 (by decide) ?_
  exact sn12_count_b112 cx hk82 hres
set_option maxRecDepth 20000 in
theorem sn12_count_b82B {l : Launch} {G : am_G} {v : Int32} {M' : am_Mem} {N : Nat} {k82 : Nat → Int32 → Int32 → am_Mem → Option (Int32 × am_Mem)} (cx : am_Ctx l rm12_count yX12_count cX12_count 4 (some .int) (some (.inl v)) M' 0 0 G) (hk82 : ∀ (r0 : Nat) (x2 : Int32) (x3 : Int32) (M : am_Mem), k82 r0 x2 x3 M = some (v, M') → G 82 [(0, .inr (.inr (.inl r0))), (2, .inl x2), (3, .inl x3)] [] M 0 0) {r0 : Nat} {x2 : Int32} {x3 : Int32} {M : am_Mem} (hres : fn12_count_b82B N k82 r0 x2 x3 M = some (v, M')) : G 82 [(0, .inr (.inr (.inl r0))), (2, .inl x2), (3, .inl x3)] [] M 0 0 := by
  unfold fn12_count_b82B at hres
  refine am_iload_n cx 2 dX12_count_82 rfl ?_
  refine am_aload_n cx 0 dX12_count_83 rfl ?_
  obtain ⟨q1, hres⟩ := am_ck_some hres
  refine am_getI cx dX12_count_84 flX12_285 (am_ke q1) ?_
  refine am_icmp_ge cx (tgt := 120) dX12_count_87 (by decide) (fun h => ?_) (fun h => ?_)
  · have hres := am_ifp h hres
    refine am_iload_n cx 1 dX12_count_120 rfl ?_
    obtain ⟨rfl, rfl⟩ := am_fin hres
    exact am_iret cx dX12_count_121
  · have hres := am_ifn h hres
    refine am_iload_n cx 1 dX12_count_90 rfl ?_
    refine am_aload_n cx 0 dX12_count_91 rfl ?_
    refine am_iload_n cx 2 dX12_count_92 rfl ?_
    obtain ⟨v2, M3, q4, hres⟩ := am_bd_some hres
    refine am_callV1 cx [.inl x3] dX12_count_93 cvX12_325 (mt12_doesFail q4) (am_ke q1) ⟨rfl, rfl, Nat.le_of_ble_eq_true rfl, Nat.le_of_ble_eq_true rfl⟩ rfl (Nat.le_of_ble_eq_true rfl) ⟨Nat.le_of_ble_eq_true rfl, Nat.le_of_ble_eq_true rfl⟩ ?_
    refine am_if_ne cx (tgt := 111) dX12_count_96 (by decide) (fun h => ?_) (fun h => ?_)
    · have hres := am_ifn h hres
      refine am_sub cx [0, 2] rfl ?_
      exact sn12_count_b111 cx hk82 hres
    · have hres := am_ifp h hres
      refine am_aload_n cx 0 dX12_count_99 rfl ?_
      refine am_iload_n cx 2 dX12_count_100 rfl ?_
      obtain ⟨q5, hres⟩ := am_ck_some hres
      obtain ⟨v6, M7, q8, hres⟩ := am_bd_some hres
      refine am_callV1 cx [.inl x3] dX12_count_101 cvX12_328 (mt12_arePerfect q8) (am_ke q5) ⟨rfl, rfl, Nat.le_of_ble_eq_true rfl, Nat.le_of_ble_eq_true rfl⟩ rfl (Nat.le_of_ble_eq_true rfl) ⟨Nat.le_of_ble_eq_true rfl, Nat.le_of_ble_eq_true rfl⟩ ?_
      refine am_if_eq cx (tgt := 111) dX12_count_104 (by decide) (fun h => ?_) (fun h => ?_)
      · have hres := am_ifp h hres
        refine am_sub cx [0, 2] rfl ?_
        exact sn12_count_b111 cx hk82 hres
      · have hres := am_ifn h hres
        refine am_iconst cx (v := (1 : Int32)) dX12_count_107 (by decide) ?_
        refine am_goto cx (tgt := 112) dX12_count_108 (by decide) ?_
        refine am_sub cx [0, 2] rfl ?_
        exact sn12_count_b112 cx hk82 hres
set_option maxRecDepth 20000 in
theorem sn12_count_b82 {l : Launch} {G : am_G} {v : Int32} {M' : am_Mem} {N : Nat}  (cx : am_Ctx l rm12_count yX12_count cX12_count 4 (some .int) (some (.inl v)) M' 0 0 G)  (i : Nat) : ∀ (r0 : Nat) (x2 : Int32) (x3 : Int32) (M : am_Mem), fn12_count_b82 N  i r0 x2 x3 M = some (v, M') → G 82 [(0, .inr (.inr (.inl r0))), (2, .inl x2), (3, .inl x3)] [] M 0 0 := by
  induction i with
  | zero => intro r0 x2 x3 M hres; exact am_no hres
  | succ i ih => intro r0 x2 x3 M hres; exact sn12_count_b82B cx ih hres
set_option maxRecDepth 20000 in
theorem sn12_count_b0 {l : Launch} {G : am_G} {v : Int32} {M' : am_Mem} {N : Nat}  (cx : am_Ctx l rm12_count yX12_count cX12_count 4 (some .int) (some (.inl v)) M' 0 0 G)  {r0 : Nat} {x1 : Int32} {M : am_Mem} (hres : fn12_count_b0 N  r0 x1 M = some (v, M')) : G 0 [(0, .inr (.inr (.inl r0))), (1, .inl x1)] [] M 0 0 := by
  unfold fn12_count_b0 at hres
  refine am_aload_n cx 0 dX12_count_0 rfl ?_
  refine am_iconst cx (v := (0 : Int32)) dX12_count_1 (by decide) ?_
  obtain ⟨q1, hres⟩ := am_ck_some hres
  refine am_putI cx dX12_count_2 fpX12_103 (fun h => by cases h) (am_ke q1) ?_
  refine am_iconst cx (v := (0 : Int32)) dX12_count_5 (by decide) ?_
  refine am_istore_n cx (lv' := [(0, .inr (.inr (.inl r0))), (1, .inl x1), (2, .inl (0 : Int32))]) dX12_count_6 (Nat.le_of_ble_eq_true rfl) rfl ?_
  refine am_iload_n cx 1 dX12_count_7 rfl ?_
  by_cases w2 : x1 = (0 : Int32)
  · refine am_tableIn cx (tgt := 48) (off := 40) dX12_count_8 (by rw [w2]; decide) (by rw [w2]; decide) (by rw [w2]; decide) (by decide) ?_
    have hres := am_ifp w2 hres
    refine am_aload_n cx 0 dX12_count_48 rfl ?_
    refine am_getI cx dX12_count_49 flX12_285 (am_ke q1) ?_
    obtain ⟨rfl, rfl⟩ := am_fin hres
    exact am_iret cx dX12_count_52
  have hres := am_ifn w2 hres
  by_cases w3 : x1 = (1 : Int32)
  · refine am_tableIn cx (tgt := 53) (off := 45) dX12_count_8 (by rw [w3]; decide) (by rw [w3]; decide) (by rw [w3]; decide) (by decide) ?_
    have hres := am_ifp w3 hres
    refine am_iconst cx (v := (0 : Int32)) dX12_count_53 (by decide) ?_
    refine am_istore_n cx (lv' := [(0, .inr (.inr (.inl r0))), (1, .inl x1), (2, .inl (0 : Int32)), (3, .inl (0 : Int32))]) dX12_count_54 (Nat.le_of_ble_eq_true rfl) rfl ?_
    refine am_sub cx [0, 2, 3] rfl ?_
    exact sn12_count_b55 cx  N _ _ _ _ hres
  have hres := am_ifn w3 hres
  by_cases w4 : x1 = (2 : Int32)
  · refine am_tableIn cx (tgt := 80) (off := 72) dX12_count_8 (by rw [w4]; decide) (by rw [w4]; decide) (by rw [w4]; decide) (by decide) ?_
    have hres := am_ifp w4 hres
    refine am_iconst cx (v := (0 : Int32)) dX12_count_80 (by decide) ?_
    refine am_istore_n cx (lv' := [(0, .inr (.inr (.inl r0))), (1, .inl x1), (2, .inl (0 : Int32)), (3, .inl (0 : Int32))]) dX12_count_81 (Nat.le_of_ble_eq_true rfl) rfl ?_
    refine am_sub cx [0, 2, 3] rfl ?_
    exact sn12_count_b82 cx  N _ _ _ _ hres
  have hres := am_ifn w4 hres
  by_cases w5 : x1 = (3 : Int32)
  · refine am_tableIn cx (tgt := 122) (off := 114) dX12_count_8 (by rw [w5]; decide) (by rw [w5]; decide) (by rw [w5]; decide) (by decide) ?_
    have hres := am_ifp w5 hres
    refine am_aload_n cx 0 dX12_count_122 rfl ?_
    refine am_getI cx dX12_count_123 flX12_297 (am_ke q1) ?_
    obtain ⟨rfl, rfl⟩ := am_fin hres
    exact am_iret cx dX12_count_126
  have hres := am_ifn w5 hres
  by_cases w6 : x1 = (4 : Int32)
  · refine am_tableIn cx (tgt := 127) (off := 119) dX12_count_8 (by rw [w6]; decide) (by rw [w6]; decide) (by rw [w6]; decide) (by decide) ?_
    have hres := am_ifp w6 hres
    refine am_aload_n cx 0 dX12_count_127 rfl ?_
    refine am_getI cx dX12_count_128 flX12_107 (am_ke q1) ?_
    obtain ⟨rfl, rfl⟩ := am_fin hres
    exact am_iret cx dX12_count_131
  have hres := am_ifn w6 hres
  by_cases w7 : x1 = (5 : Int32)
  · refine am_tableIn cx (tgt := 132) (off := 124) dX12_count_8 (by rw [w7]; decide) (by rw [w7]; decide) (by rw [w7]; decide) (by decide) ?_
    have hres := am_ifp w7 hres
    refine am_aload_n cx 0 dX12_count_132 rfl ?_
    refine am_getI cx dX12_count_133 flX12_342 (am_ke q1) ?_
    obtain ⟨rfl, rfl⟩ := am_fin hres
    exact am_iret cx dX12_count_136
  have hres := am_ifn w7 hres
  refine am_tableOut cx (tgt := 137) dX12_count_8 (am_sw (fun cq h1 h2 => ?_)) (by decide) ?_
  · rcases (show cq = 0 ∨ cq = 1 ∨ cq = 2 ∨ cq = 3 ∨ cq = 4 ∨ cq = 5 by omega) with rfl | rfl | rfl | rfl | rfl | rfl
    · exact w2
    · exact w3
    · exact w4
    · exact w5
    · exact w6
    · exact w7
  skip
  refine am_iconst cx (v := (-1 : Int32)) dX12_count_137 (by decide) ?_
  obtain ⟨rfl, rfl⟩ := am_fin hres
  exact am_iret cx dX12_count_138
set_option maxRecDepth 20000 in
theorem mt12_count {l : Launch} {v : Int32} {M M' : am_Mem} {N : Nat} {r0 : Nat} {x1 : Int32} (h : fn12_count N M r0 x1 = some (v, M')) : am_Met l yX12_count cX12_count 4 (some .int) rm12_count 0 0 [.inr (.inr (.inl r0)), .inl x1] M (some (.inl v)) M' := am_mk (by decide) (Nat.le_of_ble_eq_true rfl) (fun G cx => (sn12_count_b0 cx h))
-- java/lang/String.coder
def fnJ0_coder_7d493_b14  (a0 : Int32) (M : am_Mem) : Option (Int32 × am_Mem) :=
  am_ck (decide (a0.toInt8.toInt32 = a0)) (some (a0, M))
def fnJ0_coder_7d493_b0  (w0 : Nat) (M : am_Mem) : Option (Int32 × am_Mem) :=
  if (1 : Int32) = 0 then fnJ0_coder_7d493_b14  (1 : Int32) M else am_ck (am_isS w0) (fnJ0_coder_7d493_b14  (0 : Int32) M)
def fnJ0_coder_7d493 (M : am_Mem) (w0 : Nat) : Option (Int32 × am_Mem) := fnJ0_coder_7d493_b0  w0 M
def rmJ0_coder_7d493 : Room := { frames := 0, cells := 0, slots := 0, locals := 0 }
set_option maxRecDepth 20000 in
theorem snJ0_coder_7d493_b14 {l : Launch} {G : am_G} {v : Int32} {M' : am_Mem}  (cx : am_Ctx l rmJ0_coder_7d493 yJ0_coder_7d493 cJ0_coder_7d493 1 (some .byte) (some (.inl v)) M' 0 0 G)  {a0 : Int32} {M : am_Mem} (hres : fnJ0_coder_7d493_b14  a0 M = some (v, M')) : G 14 [] [.inl a0] M 0 0 := by
  unfold fnJ0_coder_7d493_b14 at hres
  obtain ⟨q1, hres⟩ := am_ck_some hres
  obtain ⟨rfl, rfl⟩ := am_fin hres
  exact am_nret cx (congrArg Value.int (of_decide_eq_true q1)) dJ0_coder_7d493_14
set_option maxRecDepth 20000 in
theorem snJ0_coder_7d493_b0 {l : Launch} {G : am_G} {v : Int32} {M' : am_Mem}  (cx : am_Ctx l rmJ0_coder_7d493 yJ0_coder_7d493 cJ0_coder_7d493 1 (some .byte) (some (.inl v)) M' 0 0 G)  {w0 : Nat} {M : am_Mem} (hres : fnJ0_coder_7d493_b0  w0 M = some (v, M')) : G 0 [(0, .inr (.inr (.inr w0)))] [] M 0 0 := by
  unfold fnJ0_coder_7d493_b0 at hres
  refine am_sCOMPACT_STRINGS cx dJ0_coder_7d493_0 aw_5_195 ?_
  refine am_if_eq cx (tgt := 13) dJ0_coder_7d493_3 (by decide) (fun h => ?_) (fun h => ?_)
  · have hres := am_ifp h hres
    refine am_iconst cx (v := (1 : Int32)) dJ0_coder_7d493_13 (by decide) ?_
    refine am_sub cx [] rfl ?_
    exact snJ0_coder_7d493_b14 cx  hres
  · have hres := am_ifn h hres
    refine am_aload_nS cx 0 dJ0_coder_7d493_6 rfl ?_
    obtain ⟨q1, hres⟩ := am_ck_some hres
    refine am_scod cx dJ0_coder_7d493_7 aw_7_98 q1 ?_
    refine am_goto cx (tgt := 14) dJ0_coder_7d493_10 (by decide) ?_
    refine am_sub cx [] rfl ?_
    exact snJ0_coder_7d493_b14 cx  hres
set_option maxRecDepth 20000 in
theorem mtJ0_coder_7d493 {l : Launch} {v : Int32} {M M' : am_Mem} {w0 : Nat} (h : fnJ0_coder_7d493 M w0 = some (v, M')) : am_Met l yJ0_coder_7d493 cJ0_coder_7d493 1 (some .byte) rmJ0_coder_7d493 0 0 [.inr (.inr (.inr w0))] M (some (.inl v)) M' := am_mk (by decide) (Nat.le_of_ble_eq_true rfl) (fun G cx => (snJ0_coder_7d493_b0 cx h))
-- java/lang/String.isLatin1
def fnJ0_isLatin1_aae02_b18  (a0 : Int32) (M : am_Mem) : Option (Int32 × am_Mem) :=
  am_ck (a0 == 0 || a0 == 1) (some (a0, M))
def fnJ0_isLatin1_aae02_b17   (M : am_Mem) : Option (Int32 × am_Mem) :=
  fnJ0_isLatin1_aae02_b18  (0 : Int32) M
def fnJ0_isLatin1_aae02_b0  (w0 : Nat) (M : am_Mem) : Option (Int32 × am_Mem) :=
  if (1 : Int32) = 0 then fnJ0_isLatin1_aae02_b17   M else am_ck (am_isS w0) (if (0 : Int32) = 0 then fnJ0_isLatin1_aae02_b18  (1 : Int32) M else fnJ0_isLatin1_aae02_b17   M)
def fnJ0_isLatin1_aae02 (M : am_Mem) (w0 : Nat) : Option (Int32 × am_Mem) := fnJ0_isLatin1_aae02_b0  w0 M
def rmJ0_isLatin1_aae02 : Room := { frames := 0, cells := 0, slots := 0, locals := 0 }
set_option maxRecDepth 20000 in
theorem snJ0_isLatin1_aae02_b18 {l : Launch} {G : am_G} {v : Int32} {M' : am_Mem}  (cx : am_Ctx l rmJ0_isLatin1_aae02 yJ0_isLatin1_aae02 cJ0_isLatin1_aae02 1 (some .boolean) (some (.inl v)) M' 0 0 G)  {a0 : Int32} {M : am_Mem} (hres : fnJ0_isLatin1_aae02_b18  a0 M = some (v, M')) : G 18 [] [.inl a0] M 0 0 := by
  unfold fnJ0_isLatin1_aae02_b18 at hres
  obtain ⟨q1, hres⟩ := am_ck_some hres
  obtain ⟨rfl, rfl⟩ := am_fin hres
  exact am_zret cx q1 dJ0_isLatin1_aae02_18
set_option maxRecDepth 20000 in
theorem snJ0_isLatin1_aae02_b17 {l : Launch} {G : am_G} {v : Int32} {M' : am_Mem}  (cx : am_Ctx l rmJ0_isLatin1_aae02 yJ0_isLatin1_aae02 cJ0_isLatin1_aae02 1 (some .boolean) (some (.inl v)) M' 0 0 G)   {M : am_Mem} (hres : fnJ0_isLatin1_aae02_b17   M = some (v, M')) : G 17 [] [] M 0 0 := by
  unfold fnJ0_isLatin1_aae02_b17 at hres
  refine am_iconst cx (v := (0 : Int32)) dJ0_isLatin1_aae02_17 (by decide) ?_
  exact snJ0_isLatin1_aae02_b18 cx  hres
set_option maxRecDepth 20000 in
theorem snJ0_isLatin1_aae02_b0 {l : Launch} {G : am_G} {v : Int32} {M' : am_Mem}  (cx : am_Ctx l rmJ0_isLatin1_aae02 yJ0_isLatin1_aae02 cJ0_isLatin1_aae02 1 (some .boolean) (some (.inl v)) M' 0 0 G)  {w0 : Nat} {M : am_Mem} (hres : fnJ0_isLatin1_aae02_b0  w0 M = some (v, M')) : G 0 [(0, .inr (.inr (.inr w0)))] [] M 0 0 := by
  unfold fnJ0_isLatin1_aae02_b0 at hres
  refine am_sCOMPACT_STRINGS cx dJ0_isLatin1_aae02_0 aw_5_195 ?_
  refine am_if_eq cx (tgt := 17) dJ0_isLatin1_aae02_3 (by decide) (fun h => ?_) (fun h => ?_)
  · have hres := am_ifp h hres
    refine am_sub cx [] rfl ?_
    exact snJ0_isLatin1_aae02_b17 cx  hres
  · have hres := am_ifn h hres
    refine am_aload_nS cx 0 dJ0_isLatin1_aae02_6 rfl ?_
    obtain ⟨q1, hres⟩ := am_ck_some hres
    refine am_scod cx dJ0_isLatin1_aae02_7 aw_7_98 q1 ?_
    refine am_if_ne cx (tgt := 17) dJ0_isLatin1_aae02_10 (by decide) (fun h => ?_) (fun h => ?_)
    · have hres := am_ifn h hres
      refine am_sub cx [] rfl ?_
      exact snJ0_isLatin1_aae02_b17 cx  hres
    · have hres := am_ifp h hres
      refine am_iconst cx (v := (1 : Int32)) dJ0_isLatin1_aae02_13 (by decide) ?_
      refine am_goto cx (tgt := 18) dJ0_isLatin1_aae02_14 (by decide) ?_
      refine am_sub cx [] rfl ?_
      exact snJ0_isLatin1_aae02_b18 cx  hres
set_option maxRecDepth 20000 in
theorem mtJ0_isLatin1_aae02 {l : Launch} {v : Int32} {M M' : am_Mem} {w0 : Nat} (h : fnJ0_isLatin1_aae02 M w0 = some (v, M')) : am_Met l yJ0_isLatin1_aae02 cJ0_isLatin1_aae02 1 (some .boolean) rmJ0_isLatin1_aae02 0 0 [.inr (.inr (.inr w0))] M (some (.inl v)) M' := am_mk (by decide) (Nat.le_of_ble_eq_true rfl) (fun G cx => (snJ0_isLatin1_aae02_b0 cx h))
-- java/util/Arrays.fill
def fnJ7_fill_d0a16_b6B (N : Nat) (k6 : Nat → Int64 → Int32 → Int32 → am_Mem → Option (Unit × am_Mem)) (r0 : Nat) (j1 : Int64) (x3 : Int32) (x4 : Int32) (M : am_Mem) : Option (Unit × am_Mem) :=
  if x4 ≤ x3 then some ((), M) else am_ck (am_k M r0 15) (am_ck (am_in x3 (am_L M r0)) (k6 r0 j1 (x3 + (1 : Int32)) x4 (am_wJ M r0 x3.toNatClampNeg j1)))
def fnJ7_fill_d0a16_b6 (N : Nat)  : Nat → Nat → Int64 → Int32 → Int32 → am_Mem → Option (Unit × am_Mem)
  | 0 => fun _ _ _ _ _ => none
  | i + 1 => fnJ7_fill_d0a16_b6B N (fnJ7_fill_d0a16_b6 N  i)
def fnJ7_fill_d0a16_b0 (N : Nat)  (r0 : Nat) (j1 : Int64) (M : am_Mem) : Option (Unit × am_Mem) :=
  am_ck (am_k M r0 15) (fnJ7_fill_d0a16_b6 N  N r0 j1 (0 : Int32) (Int32.ofNat (am_L M r0)) M)
def fnJ7_fill_d0a16 (N : Nat) (M : am_Mem) (r0 : Nat) (j1 : Int64) : Option (Unit × am_Mem) := fnJ7_fill_d0a16_b0 N r0 j1 M
def rmJ7_fill_d0a16 : Room := { frames := 0, cells := 0, slots := 0, locals := 0 }
set_option maxRecDepth 20000 in
theorem snJ7_fill_d0a16_b6B {l : Launch} {G : am_G} {M' : am_Mem} {N : Nat} {k6 : Nat → Int64 → Int32 → Int32 → am_Mem → Option (Unit × am_Mem)} (cx : am_Ctx l rmJ7_fill_d0a16 yJ7_fill_d0a16 cJ7_fill_d0a16 5 none none M' 0 0 G) (hk6 : ∀ (r0 : Nat) (j1 : Int64) (x3 : Int32) (x4 : Int32) (M : am_Mem), k6 r0 j1 x3 x4 M = some ((), M') → G 6 [(0, .inr (.inr (.inl r0))), (1, .inr (.inl j1)), (3, .inl x3), (4, .inl x4)] [] M 0 0) {r0 : Nat} {j1 : Int64} {x3 : Int32} {x4 : Int32} {M : am_Mem} (hres : fnJ7_fill_d0a16_b6B N k6 r0 j1 x3 x4 M = some ((), M')) : G 6 [(0, .inr (.inr (.inl r0))), (1, .inr (.inl j1)), (3, .inl x3), (4, .inl x4)] [] M 0 0 := by
  unfold fnJ7_fill_d0a16_b6B at hres
  refine am_iload_n cx 2 dJ7_fill_d0a16_6 rfl ?_
  refine am_iload cx 3 dJ7_fill_d0a16_7 rfl ?_
  refine am_icmp_ge cx (tgt := 22) dJ7_fill_d0a16_9 (by decide) (fun h => ?_) (fun h => ?_)
  · have hres := am_ifp h hres
    obtain ⟨-, rfl⟩ := am_fin hres
    exact am_vret cx dJ7_fill_d0a16_22
  · have hres := am_ifn h hres
    refine am_aload_n cx 0 dJ7_fill_d0a16_12 rfl ?_
    refine am_iload_n cx 2 dJ7_fill_d0a16_13 rfl ?_
    refine am_lload_n cx 1 dJ7_fill_d0a16_14 rfl ?_
    obtain ⟨q1, hres⟩ := am_ck_some hres
    obtain ⟨q2, hres⟩ := am_ck_some hres
    refine am_last cx dJ7_fill_d0a16_15 (am_ke q1) q2  ?_
    refine am_iincw cx (lv' := [(0, .inr (.inr (.inl r0))), (1, .inr (.inl j1)), (3, .inl (x3 + (1 : Int32))), (4, .inl x4)]) (w := (1 : Int32)) 2 dJ7_fill_d0a16_16 (by decide) rfl (Nat.le_of_ble_eq_true rfl) rfl ?_
    refine am_goto cx (tgt := 6) dJ7_fill_d0a16_19 (by decide) ?_
    exact hk6 _ _ _ _ _ hres
set_option maxRecDepth 20000 in
theorem snJ7_fill_d0a16_b6 {l : Launch} {G : am_G} {M' : am_Mem} {N : Nat}  (cx : am_Ctx l rmJ7_fill_d0a16 yJ7_fill_d0a16 cJ7_fill_d0a16 5 none none M' 0 0 G)  (i : Nat) : ∀ (r0 : Nat) (j1 : Int64) (x3 : Int32) (x4 : Int32) (M : am_Mem), fnJ7_fill_d0a16_b6 N  i r0 j1 x3 x4 M = some ((), M') → G 6 [(0, .inr (.inr (.inl r0))), (1, .inr (.inl j1)), (3, .inl x3), (4, .inl x4)] [] M 0 0 := by
  induction i with
  | zero => intro r0 j1 x3 x4 M hres; exact am_no hres
  | succ i ih => intro r0 j1 x3 x4 M hres; exact snJ7_fill_d0a16_b6B cx ih hres
set_option maxRecDepth 20000 in
theorem snJ7_fill_d0a16_b0 {l : Launch} {G : am_G} {M' : am_Mem} {N : Nat}  (cx : am_Ctx l rmJ7_fill_d0a16 yJ7_fill_d0a16 cJ7_fill_d0a16 5 none none M' 0 0 G)  {r0 : Nat} {j1 : Int64} {M : am_Mem} (hres : fnJ7_fill_d0a16_b0 N  r0 j1 M = some ((), M')) : G 0 [(0, .inr (.inr (.inl r0))), (1, .inr (.inl j1))] [] M 0 0 := by
  unfold fnJ7_fill_d0a16_b0 at hres
  refine am_iconst cx (v := (0 : Int32)) dJ7_fill_d0a16_0 (by decide) ?_
  refine am_istore_n cx (lv' := [(0, .inr (.inr (.inl r0))), (1, .inr (.inl j1)), (3, .inl (0 : Int32))]) dJ7_fill_d0a16_1 (Nat.le_of_ble_eq_true rfl) rfl ?_
  refine am_aload_n cx 0 dJ7_fill_d0a16_2 rfl ?_
  obtain ⟨q1, hres⟩ := am_ck_some hres
  refine am_alen15 cx dJ7_fill_d0a16_3 (am_ke q1) ?_
  refine am_istore cx (lv' := [(0, .inr (.inr (.inl r0))), (1, .inr (.inl j1)), (3, .inl (0 : Int32)), (4, .inl (Int32.ofNat (am_L M r0)))]) dJ7_fill_d0a16_4 (Nat.le_of_ble_eq_true rfl) rfl ?_
  exact snJ7_fill_d0a16_b6 cx  N _ _ _ _ _ hres
set_option maxRecDepth 20000 in
theorem mtJ7_fill_d0a16 {l : Launch} {M M' : am_Mem} {N : Nat} {r0 : Nat} {j1 : Int64} (h : fnJ7_fill_d0a16 N M r0 j1 = some ((), M')) : am_Met l yJ7_fill_d0a16 cJ7_fill_d0a16 5 none rmJ7_fill_d0a16 0 0 [.inr (.inr (.inl r0)), .inr (.inl j1)] M none M' := am_mk (by decide) (Nat.le_of_ble_eq_true rfl) (fun G cx => (snJ7_fill_d0a16_b0 cx h))
-- jdk/internal/util/Preconditions.checkIndex
def fnJ3_checkIndex_8e157_b9  (x0 : Int32) (x1 : Int32) (w2 : Nat) (M : am_Mem) : Option (Int32 × am_Mem) :=
  none
def fnJ3_checkIndex_8e157_b0  (x0 : Int32) (x1 : Int32) (w2 : Nat) (M : am_Mem) : Option (Int32 × am_Mem) :=
  if x0 < 0 then fnJ3_checkIndex_8e157_b9  x0 x1 w2 M else if x0 < x1 then some (x0, M) else fnJ3_checkIndex_8e157_b9  x0 x1 w2 M
def fnJ3_checkIndex_8e157 (M : am_Mem) (x0 : Int32) (x1 : Int32) (w2 : Nat) : Option (Int32 × am_Mem) := fnJ3_checkIndex_8e157_b0  x0 x1 w2 M
def rmJ3_checkIndex_8e157 : Room := { frames := 0, cells := 0, slots := 0, locals := 0 }
set_option maxRecDepth 20000 in
theorem snJ3_checkIndex_8e157_b9 {l : Launch} {G : am_G} {v : Int32} {M' : am_Mem}  (cx : am_Ctx l rmJ3_checkIndex_8e157 yJ3_checkIndex_8e157 cJ3_checkIndex_8e157 3 (some .int) (some (.inl v)) M' 0 0 G)  {x0 : Int32} {x1 : Int32} {w2 : Nat} {M : am_Mem} (hres : fnJ3_checkIndex_8e157_b9  x0 x1 w2 M = some (v, M')) : G 9 [(0, .inl x0), (1, .inl x1), (2, .inr (.inr (.inr w2)))] [] M 0 0 := by
  unfold fnJ3_checkIndex_8e157_b9 at hres
  refine am_aload_nS cx 2 dJ3_checkIndex_8e157_9 rfl ?_
  refine am_iload_n cx 0 dJ3_checkIndex_8e157_10 rfl ?_
  refine am_iload_n cx 1 dJ3_checkIndex_8e157_11 rfl ?_
  exact am_no hres
set_option maxRecDepth 20000 in
theorem snJ3_checkIndex_8e157_b0 {l : Launch} {G : am_G} {v : Int32} {M' : am_Mem}  (cx : am_Ctx l rmJ3_checkIndex_8e157 yJ3_checkIndex_8e157 cJ3_checkIndex_8e157 3 (some .int) (some (.inl v)) M' 0 0 G)  {x0 : Int32} {x1 : Int32} {w2 : Nat} {M : am_Mem} (hres : fnJ3_checkIndex_8e157_b0  x0 x1 w2 M = some (v, M')) : G 0 [(0, .inl x0), (1, .inl x1), (2, .inr (.inr (.inr w2)))] [] M 0 0 := by
  unfold fnJ3_checkIndex_8e157_b0 at hres
  refine am_iload_n cx 0 dJ3_checkIndex_8e157_0 rfl ?_
  refine am_if_lt cx (tgt := 9) dJ3_checkIndex_8e157_1 (by decide) (fun h => ?_) (fun h => ?_)
  · have hres := am_ifp h hres
    exact snJ3_checkIndex_8e157_b9 cx  hres
  · have hres := am_ifn h hres
    refine am_iload_n cx 0 dJ3_checkIndex_8e157_4 rfl ?_
    refine am_iload_n cx 1 dJ3_checkIndex_8e157_5 rfl ?_
    refine am_icmp_lt cx (tgt := 16) dJ3_checkIndex_8e157_6 (by decide) (fun h => ?_) (fun h => ?_)
    · have hres := am_ifp h hres
      refine am_iload_n cx 0 dJ3_checkIndex_8e157_16 rfl ?_
      obtain ⟨rfl, rfl⟩ := am_fin hres
      exact am_iret cx dJ3_checkIndex_8e157_17
    · have hres := am_ifn h hres
      exact snJ3_checkIndex_8e157_b9 cx  hres
set_option maxRecDepth 20000 in
theorem mtJ3_checkIndex_8e157 {l : Launch} {v : Int32} {M M' : am_Mem} {x0 : Int32} {x1 : Int32} {w2 : Nat} (h : fnJ3_checkIndex_8e157 M x0 x1 w2 = some (v, M')) : am_Met l yJ3_checkIndex_8e157 cJ3_checkIndex_8e157 3 (some .int) rmJ3_checkIndex_8e157 0 0 [.inl x0, .inl x1, .inr (.inr (.inr w2))] M (some (.inl v)) M' := am_mk (by decide) (Nat.le_of_ble_eq_true rfl) (fun G cx => (snJ3_checkIndex_8e157_b0 cx h))
-- SquareCuts$Draft.sortAsCode
def fn0_sortAsCode_b107 (N : Nat) (k2 : Nat → Int32 → am_Mem → Option (Unit × am_Mem)) (r0 : Nat) (x1 : Int32) (x2 : Int32) (x3 : Int32) (x4 : Int32) (x5 : Int32) (M : am_Mem) : Option (Unit × am_Mem) :=
  am_ck (am_k M r0 0) (am_ck (am_k M (am_R M r0 0) 14) (am_ck (am_in x5 (am_L M (am_R M r0 0))) (am_ck (am_k M (am_R M r0 1) 14) (am_ck (am_in x5 (am_L M (am_R M r0 1))) (am_ck (am_k M (am_R M r0 2) 14) (am_ck (am_in x5 (am_L M (am_R M r0 2))) (k2 r0 (x1 + (1 : Int32)) (am_wI (am_wI (am_wI M (am_R M r0 0) x5.toNatClampNeg x2) (am_R M r0 1) x5.toNatClampNeg x3) (am_R M r0 2) x5.toNatClampNeg x4))))))))
def fn0_sortAsCode_b35B (N : Nat) (k2 : Nat → Int32 → am_Mem → Option (Unit × am_Mem)) (k35 : Nat → Int32 → Int32 → Int32 → Int32 → Int32 → am_Mem → Option (Unit × am_Mem)) (r0 : Nat) (x1 : Int32) (x2 : Int32) (x3 : Int32) (x4 : Int32) (x5 : Int32) (M : am_Mem) : Option (Unit × am_Mem) :=
  if x5 ≤ 0 then fn0_sortAsCode_b107 N k2 r0 x1 x2 x3 x4 x5 M else am_ck (am_k M r0 0) (am_bd (fn0_isBehind M r0 (x5 - (1 : Int32)) x2 x3) (fun v2 M3 => if v2 = 0 then fn0_sortAsCode_b107 N k2 r0 x1 x2 x3 x4 x5 M3 else am_ck (am_k M3 r0 0) (am_ck (am_k M3 (am_R M3 r0 0) 14) (am_ck (am_in (x5 - (1 : Int32)) (am_L M3 (am_R M3 r0 0))) (am_ck (am_in x5 (am_L M3 (am_R M3 r0 0))) (am_ck (am_k M3 (am_R M3 r0 1) 14) (am_ck (am_in (x5 - (1 : Int32)) (am_L M3 (am_R M3 r0 1))) (am_ck (am_in x5 (am_L M3 (am_R M3 r0 1))) (am_ck (am_k M3 (am_R M3 r0 2) 14) (am_ck (am_in (x5 - (1 : Int32)) (am_L M3 (am_R M3 r0 2))) (am_ck (am_in x5 (am_L M3 (am_R M3 r0 2))) (k35 r0 x1 x2 x3 x4 (x5 + (-1 : Int32)) (am_wI (am_wI (am_wI M3 (am_R M3 r0 0) x5.toNatClampNeg (am_I M3 (am_R M3 r0 0) (x5 - (1 : Int32)).toNatClampNeg)) (am_R M3 r0 1) x5.toNatClampNeg (am_I (am_wI M3 (am_R M3 r0 0) x5.toNatClampNeg (am_I M3 (am_R M3 r0 0) (x5 - (1 : Int32)).toNatClampNeg)) (am_R M3 r0 1) (x5 - (1 : Int32)).toNatClampNeg)) (am_R M3 r0 2) x5.toNatClampNeg (am_I (am_wI (am_wI M3 (am_R M3 r0 0) x5.toNatClampNeg (am_I M3 (am_R M3 r0 0) (x5 - (1 : Int32)).toNatClampNeg)) (am_R M3 r0 1) x5.toNatClampNeg (am_I (am_wI M3 (am_R M3 r0 0) x5.toNatClampNeg (am_I M3 (am_R M3 r0 0) (x5 - (1 : Int32)).toNatClampNeg)) (am_R M3 r0 1) (x5 - (1 : Int32)).toNatClampNeg)) (am_R M3 r0 2) (x5 - (1 : Int32)).toNatClampNeg))))))))))))))
def fn0_sortAsCode_b35 (N : Nat) (k2 : Nat → Int32 → am_Mem → Option (Unit × am_Mem)) : Nat → Nat → Int32 → Int32 → Int32 → Int32 → Int32 → am_Mem → Option (Unit × am_Mem)
  | 0 => fun _ _ _ _ _ _ _ => none
  | i + 1 => fn0_sortAsCode_b35B N k2 (fn0_sortAsCode_b35 N k2 i)
def fn0_sortAsCode_b32 (N : Nat) (k2 : Nat → Int32 → am_Mem → Option (Unit × am_Mem)) (r0 : Nat) (x1 : Int32) (x2 : Int32) (x3 : Int32) (x4 : Int32) (M : am_Mem) : Option (Unit × am_Mem) :=
  fn0_sortAsCode_b35 N k2 N r0 x1 x2 x3 x4 x1 M
def fn0_sortAsCode_b24 (N : Nat) (k2 : Nat → Int32 → am_Mem → Option (Unit × am_Mem)) (r0 : Nat) (x1 : Int32) (x2 : Int32) (x3 : Int32) (M : am_Mem) : Option (Unit × am_Mem) :=
  am_ck (am_k M r0 0) (am_ck (am_k M (am_R M r0 2) 14) (am_ck (am_in x1 (am_L M (am_R M r0 2))) (fn0_sortAsCode_b32 N k2 r0 x1 x2 x3 (am_I M (am_R M r0 2) x1.toNatClampNeg) M)))
def fn0_sortAsCode_b17 (N : Nat) (k2 : Nat → Int32 → am_Mem → Option (Unit × am_Mem)) (r0 : Nat) (x1 : Int32) (x2 : Int32) (M : am_Mem) : Option (Unit × am_Mem) :=
  am_ck (am_k M r0 0) (am_ck (am_k M (am_R M r0 1) 14) (am_ck (am_in x1 (am_L M (am_R M r0 1))) (fn0_sortAsCode_b24 N k2 r0 x1 x2 (am_I M (am_R M r0 1) x1.toNatClampNeg) M)))
def fn0_sortAsCode_b2B (N : Nat) (k2 : Nat → Int32 → am_Mem → Option (Unit × am_Mem)) (r0 : Nat) (x1 : Int32) (M : am_Mem) : Option (Unit × am_Mem) :=
  am_ck (am_k M r0 0) (if (am_I M r0 3) ≤ x1 then some ((), M) else am_ck (am_k M (am_R M r0 0) 14) (am_ck (am_in x1 (am_L M (am_R M r0 0))) (fn0_sortAsCode_b17 N k2 r0 x1 (am_I M (am_R M r0 0) x1.toNatClampNeg) M)))
def fn0_sortAsCode_b2 (N : Nat)  : Nat → Nat → Int32 → am_Mem → Option (Unit × am_Mem)
  | 0 => fun _ _ _ => none
  | i + 1 => fn0_sortAsCode_b2B N (fn0_sortAsCode_b2 N  i)
def fn0_sortAsCode_b0 (N : Nat)  (r0 : Nat) (M : am_Mem) : Option (Unit × am_Mem) :=
  fn0_sortAsCode_b2 N  N r0 (1 : Int32) M
def fn0_sortAsCode (N : Nat) (M : am_Mem) (r0 : Nat) : Option (Unit × am_Mem) := fn0_sortAsCode_b0 N r0 M
def rm0_sortAsCode : Room := { frames := 1, cells := 0, slots := 0, locals := 23 }
set_option maxRecDepth 20000 in
theorem sn0_sortAsCode_b107 {l : Launch} {G : am_G} {M' : am_Mem} {N : Nat} {k2 : Nat → Int32 → am_Mem → Option (Unit × am_Mem)} (cx : am_Ctx l rm0_sortAsCode yX0_sortAsCode cX0_sortAsCode 6 none none M' 0 0 G) (hk2 : ∀ (r0 : Nat) (x1 : Int32) (M : am_Mem), k2 r0 x1 M = some ((), M') → G 2 [(0, .inr (.inr (.inl r0))), (1, .inl x1)] [] M 0 0) {r0 : Nat} {x1 : Int32} {x2 : Int32} {x3 : Int32} {x4 : Int32} {x5 : Int32} {M : am_Mem} (hres : fn0_sortAsCode_b107 N k2 r0 x1 x2 x3 x4 x5 M = some ((), M')) : G 107 [(0, .inr (.inr (.inl r0))), (1, .inl x1), (2, .inl x2), (3, .inl x3), (4, .inl x4), (5, .inl x5)] [] M 0 0 := by
  unfold fn0_sortAsCode_b107 at hres
  refine am_aload_n cx 0 dX0_sortAsCode_107 rfl ?_
  obtain ⟨q1, hres⟩ := am_ck_some hres
  refine am_getR cx dX0_sortAsCode_108 flX0_9 (am_ke q1) ?_
  refine am_iload cx 5 dX0_sortAsCode_111 rfl ?_
  refine am_iload_n cx 2 dX0_sortAsCode_113 rfl ?_
  obtain ⟨q2, hres⟩ := am_ck_some hres
  obtain ⟨q3, hres⟩ := am_ck_some hres
  refine am_iast cx dX0_sortAsCode_114 (am_ke q2) q3  ?_
  refine am_aload_n cx 0 dX0_sortAsCode_115 rfl ?_
  refine am_getR cx dX0_sortAsCode_116 flX0_15 (am_ke q1) ?_
  refine am_iload cx 5 dX0_sortAsCode_119 rfl ?_
  refine am_iload_n cx 3 dX0_sortAsCode_121 rfl ?_
  obtain ⟨q4, hres⟩ := am_ck_some hres
  obtain ⟨q5, hres⟩ := am_ck_some hres
  refine am_iast cx dX0_sortAsCode_122 (am_ke q4) q5  ?_
  refine am_aload_n cx 0 dX0_sortAsCode_123 rfl ?_
  refine am_getR cx dX0_sortAsCode_124 flX0_18 (am_ke q1) ?_
  refine am_iload cx 5 dX0_sortAsCode_127 rfl ?_
  refine am_iload cx 4 dX0_sortAsCode_129 rfl ?_
  obtain ⟨q6, hres⟩ := am_ck_some hres
  obtain ⟨q7, hres⟩ := am_ck_some hres
  refine am_iast cx dX0_sortAsCode_131 (am_ke q6) q7  ?_
  refine am_iincw cx (lv' := [(0, .inr (.inr (.inl r0))), (1, .inl (x1 + (1 : Int32))), (2, .inl x2), (3, .inl x3), (4, .inl x4), (5, .inl x5)]) (w := (1 : Int32)) 1 dX0_sortAsCode_132 (by decide) rfl (Nat.le_of_ble_eq_true rfl) rfl ?_
  refine am_goto cx (tgt := 2) dX0_sortAsCode_135 (by decide) ?_
  refine am_sub cx [0, 1] rfl ?_
  exact hk2 _ _ _ hres
set_option maxRecDepth 20000 in
theorem sn0_sortAsCode_b35B {l : Launch} {G : am_G} {M' : am_Mem} {N : Nat} {k2 : Nat → Int32 → am_Mem → Option (Unit × am_Mem)} {k35 : Nat → Int32 → Int32 → Int32 → Int32 → Int32 → am_Mem → Option (Unit × am_Mem)} (cx : am_Ctx l rm0_sortAsCode yX0_sortAsCode cX0_sortAsCode 6 none none M' 0 0 G) (hk2 : ∀ (r0 : Nat) (x1 : Int32) (M : am_Mem), k2 r0 x1 M = some ((), M') → G 2 [(0, .inr (.inr (.inl r0))), (1, .inl x1)] [] M 0 0) (hk35 : ∀ (r0 : Nat) (x1 : Int32) (x2 : Int32) (x3 : Int32) (x4 : Int32) (x5 : Int32) (M : am_Mem), k35 r0 x1 x2 x3 x4 x5 M = some ((), M') → G 35 [(0, .inr (.inr (.inl r0))), (1, .inl x1), (2, .inl x2), (3, .inl x3), (4, .inl x4), (5, .inl x5)] [] M 0 0) {r0 : Nat} {x1 : Int32} {x2 : Int32} {x3 : Int32} {x4 : Int32} {x5 : Int32} {M : am_Mem} (hres : fn0_sortAsCode_b35B N k2 k35 r0 x1 x2 x3 x4 x5 M = some ((), M')) : G 35 [(0, .inr (.inr (.inl r0))), (1, .inl x1), (2, .inl x2), (3, .inl x3), (4, .inl x4), (5, .inl x5)] [] M 0 0 := by
  unfold fn0_sortAsCode_b35B at hres
  refine am_iload cx 5 dX0_sortAsCode_35 rfl ?_
  refine am_if_le cx (tgt := 107) dX0_sortAsCode_37 (by decide) (fun h => ?_) (fun h => ?_)
  · have hres := am_ifp h hres
    exact sn0_sortAsCode_b107 cx hk2 hres
  · have hres := am_ifn h hres
    refine am_aload_n cx 0 dX0_sortAsCode_40 rfl ?_
    refine am_iload cx 5 dX0_sortAsCode_41 rfl ?_
    refine am_iconst cx (v := (1 : Int32)) dX0_sortAsCode_43 (by decide) ?_
    refine am_isub cx dX0_sortAsCode_44 ?_
    refine am_iload_n cx 2 dX0_sortAsCode_45 rfl ?_
    refine am_iload_n cx 3 dX0_sortAsCode_46 rfl ?_
    obtain ⟨q1, hres⟩ := am_ck_some hres
    obtain ⟨v2, M3, q4, hres⟩ := am_bd_some hres
    refine am_callV1 cx [.inl (x5 - (1 : Int32)), .inl x2, .inl x3] dX0_sortAsCode_47 cvX0_57 (mt0_isBehind q4) (am_ke q1) ⟨rfl, rfl, Nat.le_of_ble_eq_true rfl, Nat.le_of_ble_eq_true rfl⟩ rfl (Nat.le_of_ble_eq_true rfl) ⟨Nat.le_of_ble_eq_true rfl, Nat.le_of_ble_eq_true rfl⟩ ?_
    refine am_if_eq cx (tgt := 107) dX0_sortAsCode_50 (by decide) (fun h => ?_) (fun h => ?_)
    · have hres := am_ifp h hres
      exact sn0_sortAsCode_b107 cx hk2 hres
    · have hres := am_ifn h hres
      refine am_aload_n cx 0 dX0_sortAsCode_53 rfl ?_
      obtain ⟨q5, hres⟩ := am_ck_some hres
      refine am_getR cx dX0_sortAsCode_54 flX0_9 (am_ke q5) ?_
      refine am_iload cx 5 dX0_sortAsCode_57 rfl ?_
      refine am_aload_n cx 0 dX0_sortAsCode_59 rfl ?_
      refine am_getR cx dX0_sortAsCode_60 flX0_9 (am_ke q5) ?_
      refine am_iload cx 5 dX0_sortAsCode_63 rfl ?_
      refine am_iconst cx (v := (1 : Int32)) dX0_sortAsCode_65 (by decide) ?_
      refine am_isub cx dX0_sortAsCode_66 ?_
      obtain ⟨q6, hres⟩ := am_ck_some hres
      obtain ⟨q7, hres⟩ := am_ck_some hres
      refine am_iald cx dX0_sortAsCode_67 (am_ke q6) q7 ?_
      obtain ⟨q8, hres⟩ := am_ck_some hres
      refine am_iast cx dX0_sortAsCode_68 (am_ke q6) q8  ?_
      refine am_aload_n cx 0 dX0_sortAsCode_69 rfl ?_
      refine am_getR cx dX0_sortAsCode_70 flX0_15 (am_ke q5) ?_
      refine am_iload cx 5 dX0_sortAsCode_73 rfl ?_
      refine am_aload_n cx 0 dX0_sortAsCode_75 rfl ?_
      refine am_getR cx dX0_sortAsCode_76 flX0_15 (am_ke q5) ?_
      refine am_iload cx 5 dX0_sortAsCode_79 rfl ?_
      refine am_iconst cx (v := (1 : Int32)) dX0_sortAsCode_81 (by decide) ?_
      refine am_isub cx dX0_sortAsCode_82 ?_
      obtain ⟨q9, hres⟩ := am_ck_some hres
      obtain ⟨q10, hres⟩ := am_ck_some hres
      refine am_iald cx dX0_sortAsCode_83 (am_ke q9) q10 ?_
      obtain ⟨q11, hres⟩ := am_ck_some hres
      refine am_iast cx dX0_sortAsCode_84 (am_ke q9) q11  ?_
      refine am_aload_n cx 0 dX0_sortAsCode_85 rfl ?_
      refine am_getR cx dX0_sortAsCode_86 flX0_18 (am_ke q5) ?_
      refine am_iload cx 5 dX0_sortAsCode_89 rfl ?_
      refine am_aload_n cx 0 dX0_sortAsCode_91 rfl ?_
      refine am_getR cx dX0_sortAsCode_92 flX0_18 (am_ke q5) ?_
      refine am_iload cx 5 dX0_sortAsCode_95 rfl ?_
      refine am_iconst cx (v := (1 : Int32)) dX0_sortAsCode_97 (by decide) ?_
      refine am_isub cx dX0_sortAsCode_98 ?_
      obtain ⟨q12, hres⟩ := am_ck_some hres
      obtain ⟨q13, hres⟩ := am_ck_some hres
      refine am_iald cx dX0_sortAsCode_99 (am_ke q12) q13 ?_
      obtain ⟨q14, hres⟩ := am_ck_some hres
      refine am_iast cx dX0_sortAsCode_100 (am_ke q12) q14  ?_
      refine am_iincw cx (lv' := [(0, .inr (.inr (.inl r0))), (1, .inl x1), (2, .inl x2), (3, .inl x3), (4, .inl x4), (5, .inl (x5 + (-1 : Int32)))]) (w := (-1 : Int32)) 5 dX0_sortAsCode_101 (by decide) rfl (Nat.le_of_ble_eq_true rfl) rfl ?_
      refine am_goto cx (tgt := 35) dX0_sortAsCode_104 (by decide) ?_
      exact hk35 _ _ _ _ _ _ _ hres
set_option maxRecDepth 20000 in
theorem sn0_sortAsCode_b35 {l : Launch} {G : am_G} {M' : am_Mem} {N : Nat} {k2 : Nat → Int32 → am_Mem → Option (Unit × am_Mem)} (cx : am_Ctx l rm0_sortAsCode yX0_sortAsCode cX0_sortAsCode 6 none none M' 0 0 G) (hk2 : ∀ (r0 : Nat) (x1 : Int32) (M : am_Mem), k2 r0 x1 M = some ((), M') → G 2 [(0, .inr (.inr (.inl r0))), (1, .inl x1)] [] M 0 0) (i : Nat) : ∀ (r0 : Nat) (x1 : Int32) (x2 : Int32) (x3 : Int32) (x4 : Int32) (x5 : Int32) (M : am_Mem), fn0_sortAsCode_b35 N k2 i r0 x1 x2 x3 x4 x5 M = some ((), M') → G 35 [(0, .inr (.inr (.inl r0))), (1, .inl x1), (2, .inl x2), (3, .inl x3), (4, .inl x4), (5, .inl x5)] [] M 0 0 := by
  induction i with
  | zero => intro r0 x1 x2 x3 x4 x5 M hres; exact am_no hres
  | succ i ih => intro r0 x1 x2 x3 x4 x5 M hres; exact sn0_sortAsCode_b35B cx hk2 ih hres
set_option maxRecDepth 20000 in
theorem sn0_sortAsCode_b32 {l : Launch} {G : am_G} {M' : am_Mem} {N : Nat} {k2 : Nat → Int32 → am_Mem → Option (Unit × am_Mem)} (cx : am_Ctx l rm0_sortAsCode yX0_sortAsCode cX0_sortAsCode 6 none none M' 0 0 G) (hk2 : ∀ (r0 : Nat) (x1 : Int32) (M : am_Mem), k2 r0 x1 M = some ((), M') → G 2 [(0, .inr (.inr (.inl r0))), (1, .inl x1)] [] M 0 0) {r0 : Nat} {x1 : Int32} {x2 : Int32} {x3 : Int32} {x4 : Int32} {M : am_Mem} (hres : fn0_sortAsCode_b32 N k2 r0 x1 x2 x3 x4 M = some ((), M')) : G 32 [(0, .inr (.inr (.inl r0))), (1, .inl x1), (2, .inl x2), (3, .inl x3), (4, .inl x4)] [] M 0 0 := by
  unfold fn0_sortAsCode_b32 at hres
  refine am_iload_n cx 1 dX0_sortAsCode_32 rfl ?_
  refine am_istore cx (lv' := [(0, .inr (.inr (.inl r0))), (1, .inl x1), (2, .inl x2), (3, .inl x3), (4, .inl x4), (5, .inl x1)]) dX0_sortAsCode_33 (Nat.le_of_ble_eq_true rfl) rfl ?_
  exact sn0_sortAsCode_b35 cx hk2 N _ _ _ _ _ _ _ hres
set_option maxRecDepth 20000 in
theorem sn0_sortAsCode_b24 {l : Launch} {G : am_G} {M' : am_Mem} {N : Nat} {k2 : Nat → Int32 → am_Mem → Option (Unit × am_Mem)} (cx : am_Ctx l rm0_sortAsCode yX0_sortAsCode cX0_sortAsCode 6 none none M' 0 0 G) (hk2 : ∀ (r0 : Nat) (x1 : Int32) (M : am_Mem), k2 r0 x1 M = some ((), M') → G 2 [(0, .inr (.inr (.inl r0))), (1, .inl x1)] [] M 0 0) {r0 : Nat} {x1 : Int32} {x2 : Int32} {x3 : Int32} {M : am_Mem} (hres : fn0_sortAsCode_b24 N k2 r0 x1 x2 x3 M = some ((), M')) : G 24 [(0, .inr (.inr (.inl r0))), (1, .inl x1), (2, .inl x2), (3, .inl x3)] [] M 0 0 := by
  unfold fn0_sortAsCode_b24 at hres
  refine am_aload_n cx 0 dX0_sortAsCode_24 rfl ?_
  obtain ⟨q1, hres⟩ := am_ck_some hres
  refine am_getR cx dX0_sortAsCode_25 flX0_18 (am_ke q1) ?_
  refine am_iload_n cx 1 dX0_sortAsCode_28 rfl ?_
  obtain ⟨q2, hres⟩ := am_ck_some hres
  obtain ⟨q3, hres⟩ := am_ck_some hres
  refine am_iald cx dX0_sortAsCode_29 (am_ke q2) q3 ?_
  refine am_istore cx (lv' := [(0, .inr (.inr (.inl r0))), (1, .inl x1), (2, .inl x2), (3, .inl x3), (4, .inl (am_I M (am_R M r0 2) x1.toNatClampNeg))]) dX0_sortAsCode_30 (Nat.le_of_ble_eq_true rfl) rfl ?_
  exact sn0_sortAsCode_b32 cx hk2 hres
set_option maxRecDepth 20000 in
theorem sn0_sortAsCode_b17 {l : Launch} {G : am_G} {M' : am_Mem} {N : Nat} {k2 : Nat → Int32 → am_Mem → Option (Unit × am_Mem)} (cx : am_Ctx l rm0_sortAsCode yX0_sortAsCode cX0_sortAsCode 6 none none M' 0 0 G) (hk2 : ∀ (r0 : Nat) (x1 : Int32) (M : am_Mem), k2 r0 x1 M = some ((), M') → G 2 [(0, .inr (.inr (.inl r0))), (1, .inl x1)] [] M 0 0) {r0 : Nat} {x1 : Int32} {x2 : Int32} {M : am_Mem} (hres : fn0_sortAsCode_b17 N k2 r0 x1 x2 M = some ((), M')) : G 17 [(0, .inr (.inr (.inl r0))), (1, .inl x1), (2, .inl x2)] [] M 0 0 := by
  unfold fn0_sortAsCode_b17 at hres
  refine am_aload_n cx 0 dX0_sortAsCode_17 rfl ?_
  obtain ⟨q1, hres⟩ := am_ck_some hres
  refine am_getR cx dX0_sortAsCode_18 flX0_15 (am_ke q1) ?_
  refine am_iload_n cx 1 dX0_sortAsCode_21 rfl ?_
  obtain ⟨q2, hres⟩ := am_ck_some hres
  obtain ⟨q3, hres⟩ := am_ck_some hres
  refine am_iald cx dX0_sortAsCode_22 (am_ke q2) q3 ?_
  refine am_istore_n cx (lv' := [(0, .inr (.inr (.inl r0))), (1, .inl x1), (2, .inl x2), (3, .inl (am_I M (am_R M r0 1) x1.toNatClampNeg))]) dX0_sortAsCode_23 (Nat.le_of_ble_eq_true rfl) rfl ?_
  exact sn0_sortAsCode_b24 cx hk2 hres
set_option maxRecDepth 20000 in
theorem sn0_sortAsCode_b2B {l : Launch} {G : am_G} {M' : am_Mem} {N : Nat} {k2 : Nat → Int32 → am_Mem → Option (Unit × am_Mem)} (cx : am_Ctx l rm0_sortAsCode yX0_sortAsCode cX0_sortAsCode 6 none none M' 0 0 G) (hk2 : ∀ (r0 : Nat) (x1 : Int32) (M : am_Mem), k2 r0 x1 M = some ((), M') → G 2 [(0, .inr (.inr (.inl r0))), (1, .inl x1)] [] M 0 0) {r0 : Nat} {x1 : Int32} {M : am_Mem} (hres : fn0_sortAsCode_b2B N k2 r0 x1 M = some ((), M')) : G 2 [(0, .inr (.inr (.inl r0))), (1, .inl x1)] [] M 0 0 := by
  unfold fn0_sortAsCode_b2B at hres
  refine am_iload_n cx 1 dX0_sortAsCode_2 rfl ?_
  refine am_aload_n cx 0 dX0_sortAsCode_3 rfl ?_
  obtain ⟨q1, hres⟩ := am_ck_some hres
  refine am_getI cx dX0_sortAsCode_4 flX0_28 (am_ke q1) ?_
  refine am_icmp_ge cx (tgt := 138) dX0_sortAsCode_7 (by decide) (fun h => ?_) (fun h => ?_)
  · have hres := am_ifp h hres
    obtain ⟨-, rfl⟩ := am_fin hres
    exact am_vret cx dX0_sortAsCode_138
  · have hres := am_ifn h hres
    refine am_aload_n cx 0 dX0_sortAsCode_10 rfl ?_
    refine am_getR cx dX0_sortAsCode_11 flX0_9 (am_ke q1) ?_
    refine am_iload_n cx 1 dX0_sortAsCode_14 rfl ?_
    obtain ⟨q2, hres⟩ := am_ck_some hres
    obtain ⟨q3, hres⟩ := am_ck_some hres
    refine am_iald cx dX0_sortAsCode_15 (am_ke q2) q3 ?_
    refine am_istore_n cx (lv' := [(0, .inr (.inr (.inl r0))), (1, .inl x1), (2, .inl (am_I M (am_R M r0 0) x1.toNatClampNeg))]) dX0_sortAsCode_16 (Nat.le_of_ble_eq_true rfl) rfl ?_
    exact sn0_sortAsCode_b17 cx hk2 hres
set_option maxRecDepth 20000 in
theorem sn0_sortAsCode_b2 {l : Launch} {G : am_G} {M' : am_Mem} {N : Nat}  (cx : am_Ctx l rm0_sortAsCode yX0_sortAsCode cX0_sortAsCode 6 none none M' 0 0 G)  (i : Nat) : ∀ (r0 : Nat) (x1 : Int32) (M : am_Mem), fn0_sortAsCode_b2 N  i r0 x1 M = some ((), M') → G 2 [(0, .inr (.inr (.inl r0))), (1, .inl x1)] [] M 0 0 := by
  induction i with
  | zero => intro r0 x1 M hres; exact am_no hres
  | succ i ih => intro r0 x1 M hres; exact sn0_sortAsCode_b2B cx ih hres
set_option maxRecDepth 20000 in
theorem sn0_sortAsCode_b0 {l : Launch} {G : am_G} {M' : am_Mem} {N : Nat}  (cx : am_Ctx l rm0_sortAsCode yX0_sortAsCode cX0_sortAsCode 6 none none M' 0 0 G)  {r0 : Nat} {M : am_Mem} (hres : fn0_sortAsCode_b0 N  r0 M = some ((), M')) : G 0 [(0, .inr (.inr (.inl r0)))] [] M 0 0 := by
  unfold fn0_sortAsCode_b0 at hres
  refine am_iconst cx (v := (1 : Int32)) dX0_sortAsCode_0 (by decide) ?_
  refine am_istore_n cx (lv' := [(0, .inr (.inr (.inl r0))), (1, .inl (1 : Int32))]) dX0_sortAsCode_1 (Nat.le_of_ble_eq_true rfl) rfl ?_
  exact sn0_sortAsCode_b2 cx  N _ _ _ hres
set_option maxRecDepth 20000 in
theorem mt0_sortAsCode {l : Launch} {M M' : am_Mem} {N : Nat} {r0 : Nat} (h : fn0_sortAsCode N M r0 = some ((), M')) : am_Met l yX0_sortAsCode cX0_sortAsCode 6 none rm0_sortAsCode 0 0 [.inr (.inr (.inl r0))] M none M' := am_mk (by decide) (Nat.le_of_ble_eq_true rfl) (fun G cx => (sn0_sortAsCode_b0 cx h))
