-- SquareCutsModel.isThere
def fn12_isThere_b154 (N : Nat) (k2 : Nat → Int32 → Int32 → Int32 → am_Mem → Option (Int32 × am_Mem)) (r0 : Nat) (x1 : Int32) (x2 : Int32) (x3 : Int32) (M : am_Mem) : Option (Int32 × am_Mem) :=
  k2 r0 x1 x2 (x3 + (1 : Int32)) M
def fn12_isThere_b107 (N : Nat) (k2 : Nat → Int32 → Int32 → Int32 → am_Mem → Option (Int32 × am_Mem)) (r0 : Nat) (x1 : Int32) (x2 : Int32) (x3 : Int32) (x4 : Int32) (M : am_Mem) : Option (Int32 × am_Mem) :=
  if x4 = 0 then fn12_isThere_b154 N k2 r0 x1 x2 x3 M else am_ck (am_k M r0 12) (am_ck (am_k M (am_R M r0 48) 14) (am_ck (am_in ((84 : Int32) + x2) (am_L M (am_R M r0 48))) (am_bd (fn12_of M r0 x1 (1 : Int32)) (fun v4 M5 => am_ck (am_k M5 r0 12) (am_bd (fn12_of M5 r0 x1 ((84 : Int32) + x3)) (fun v8 M9 => am_ck (am_k M9 r0 12) (am_ck (am_k M9 (am_R M9 r0 48) 14) (am_ck (am_in (1 : Int32) (am_L M9 (am_R M9 r0 48))) (if (lg_cmp ((am_I M (am_R M r0 48) ((84 : Int32) + x2).toNatClampNeg).toInt64 * v4.toInt64) (v8.toInt64 * (am_I M9 (am_R M9 r0 48) (1 : Int32).toNatClampNeg).toInt64)) = 0 then some ((1 : Int32), M9) else fn12_isThere_b154 N k2 r0 x1 x2 x3 M9)))))))))
def fn12_isThere_b104 (N : Nat) (k2 : Nat → Int32 → Int32 → Int32 → am_Mem → Option (Int32 × am_Mem)) (a0 : Int32) (a1 : Int32) (r0 : Nat) (x1 : Int32) (x2 : Int32) (x3 : Int32) (M : am_Mem) : Option (Int32 × am_Mem) :=
  fn12_isThere_b107 N k2 r0 x1 x2 x3 (a0 &&& a1) M
def fn12_isThere_b55 (N : Nat) (k2 : Nat → Int32 → Int32 → Int32 → am_Mem → Option (Int32 × am_Mem)) (a0 : Int32) (r0 : Nat) (x1 : Int32) (x2 : Int32) (x3 : Int32) (M : am_Mem) : Option (Int32 × am_Mem) :=
  am_ck (am_k M r0 12) (am_ck (am_k M (am_R M r0 48) 14) (am_ck (am_in ((44 : Int32) + x2) (am_L M (am_R M r0 48))) (am_bd (fn12_of M r0 x1 (1 : Int32)) (fun v4 M5 => am_ck (am_k M5 r0 12) (am_bd (fn12_of M5 r0 x1 ((44 : Int32) + x3)) (fun v8 M9 => am_ck (am_k M9 r0 12) (am_ck (am_k M9 (am_R M9 r0 48) 14) (am_ck (am_in (1 : Int32) (am_L M9 (am_R M9 r0 48))) (if (lg_cmp ((am_I M (am_R M r0 48) ((44 : Int32) + x2).toNatClampNeg).toInt64 * v4.toInt64) (v8.toInt64 * (am_I M9 (am_R M9 r0 48) (1 : Int32).toNatClampNeg).toInt64)) = 0 then fn12_isThere_b104 N k2 a0 (1 : Int32) r0 x1 x2 x3 M9 else fn12_isThere_b104 N k2 a0 (0 : Int32) r0 x1 x2 x3 M9)))))))))
def fn12_isThere_b2B (N : Nat) (k2 : Nat → Int32 → Int32 → Int32 → am_Mem → Option (Int32 × am_Mem)) (r0 : Nat) (x1 : Int32) (x2 : Int32) (x3 : Int32) (M : am_Mem) : Option (Int32 × am_Mem) :=
  am_ck (am_k M r0 12) (am_bd (fn12_of M r0 x1 (0 : Int32)) (fun v2 M3 => if v2 ≤ x3 then some ((0 : Int32), M3) else am_ck (am_k M3 r0 12) (am_ck (am_k M3 (am_R M3 r0 48) 14) (am_ck (am_in ((4 : Int32) + x2) (am_L M3 (am_R M3 r0 48))) (am_bd (fn12_of M3 r0 x1 (1 : Int32)) (fun v8 M9 => am_ck (am_k M9 r0 12) (am_bd (fn12_of M9 r0 x1 ((4 : Int32) + x3)) (fun v12 M13 => am_ck (am_k M13 r0 12) (am_ck (am_k M13 (am_R M13 r0 48) 14) (am_ck (am_in (1 : Int32) (am_L M13 (am_R M13 r0 48))) (if (lg_cmp ((am_I M3 (am_R M3 r0 48) ((4 : Int32) + x2).toNatClampNeg).toInt64 * v8.toInt64) (v12.toInt64 * (am_I M13 (am_R M13 r0 48) (1 : Int32).toNatClampNeg).toInt64)) = 0 then fn12_isThere_b55 N k2 (1 : Int32) r0 x1 x2 x3 M13 else fn12_isThere_b55 N k2 (0 : Int32) r0 x1 x2 x3 M13)))))))))))
def fn12_isThere_b2 (N : Nat)  : Nat → Nat → Int32 → Int32 → Int32 → am_Mem → Option (Int32 × am_Mem)
  | 0 => fun _ _ _ _ _ => none
  | i + 1 => fn12_isThere_b2B N (fn12_isThere_b2 N  i)
def fn12_isThere_b0 (N : Nat)  (r0 : Nat) (x1 : Int32) (x2 : Int32) (M : am_Mem) : Option (Int32 × am_Mem) :=
  fn12_isThere_b2 N  N r0 x1 x2 (0 : Int32) M
def fn12_isThere (N : Nat) (M : am_Mem) (r0 : Nat) (x1 : Int32) (x2 : Int32) : Option (Int32 × am_Mem) := fn12_isThere_b0 N r0 x1 x2 M
def rm12_isThere : Room := { frames := 1, cells := 0, slots := 0, locals := 22 }
set_option maxRecDepth 20000 in
theorem sn12_isThere_b154 {l : Launch} {G : am_G} {v : Int32} {M' : am_Mem} {N : Nat} {k2 : Nat → Int32 → Int32 → Int32 → am_Mem → Option (Int32 × am_Mem)} (cx : am_Ctx l rm12_isThere yX12_isThere cX12_isThere 5 (some .boolean) (some (.inl v)) M' 0 0 G) (hk2 : ∀ (r0 : Nat) (x1 : Int32) (x2 : Int32) (x3 : Int32) (M : am_Mem), k2 r0 x1 x2 x3 M = some (v, M') → G 2 [(0, .inr (.inr (.inl r0))), (1, .inl x1), (2, .inl x2), (3, .inl x3)] [] M 0 0) {r0 : Nat} {x1 : Int32} {x2 : Int32} {x3 : Int32} {M : am_Mem} (hres : fn12_isThere_b154 N k2 r0 x1 x2 x3 M = some (v, M')) : G 154 [(0, .inr (.inr (.inl r0))), (1, .inl x1), (2, .inl x2), (3, .inl x3)] [] M 0 0 := by
  unfold fn12_isThere_b154 at hres
  refine am_iincw cx (lv' := [(0, .inr (.inr (.inl r0))), (1, .inl x1), (2, .inl x2), (3, .inl (x3 + (1 : Int32)))]) (w := (1 : Int32)) 3 dX12_isThere_154 (by decide) rfl (Nat.le_of_ble_eq_true rfl) rfl ?_
  refine am_goto cx (tgt := 2) dX12_isThere_157 (by decide) ?_
  exact hk2 _ _ _ _ _ hres
set_option maxRecDepth 20000 in
theorem sn12_isThere_b107 {l : Launch} {G : am_G} {v : Int32} {M' : am_Mem} {N : Nat} {k2 : Nat → Int32 → Int32 → Int32 → am_Mem → Option (Int32 × am_Mem)} (cx : am_Ctx l rm12_isThere yX12_isThere cX12_isThere 5 (some .boolean) (some (.inl v)) M' 0 0 G) (hk2 : ∀ (r0 : Nat) (x1 : Int32) (x2 : Int32) (x3 : Int32) (M : am_Mem), k2 r0 x1 x2 x3 M = some (v, M') → G 2 [(0, .inr (.inr (.inl r0))), (1, .inl x1), (2, .inl x2), (3, .inl x3)] [] M 0 0) {r0 : Nat} {x1 : Int32} {x2 : Int32} {x3 : Int32} {x4 : Int32} {M : am_Mem} (hres : fn12_isThere_b107 N k2 r0 x1 x2 x3 x4 M = some (v, M')) : G 107 [(0, .inr (.inr (.inl r0))), (1, .inl x1), (2, .inl x2), (3, .inl x3), (4, .inl x4)] [] M 0 0 := by
  unfold fn12_isThere_b107 at hres
  refine am_iload cx 4 dX12_isThere_107 rfl ?_
  refine am_if_eq cx (tgt := 154) dX12_isThere_109 (by decide) (fun h => ?_) (fun h => ?_)
  · have hres := am_ifp h hres
    refine am_sub cx [0, 1, 2, 3] rfl ?_
    exact sn12_isThere_b154 cx hk2 hres
  · have hres := am_ifn h hres
    refine am_aload_n cx 0 dX12_isThere_112 rfl ?_
    obtain ⟨q1, hres⟩ := am_ck_some hres
    refine am_getR cx dX12_isThere_113 flX12_100 (am_ke q1) ?_
    refine am_bipush cx (v := (84 : Int32)) dX12_isThere_116 (by decide) ?_
    refine am_iload_n cx 2 dX12_isThere_118 rfl ?_
    refine am_iadd cx dX12_isThere_119 ?_
    obtain ⟨q2, hres⟩ := am_ck_some hres
    obtain ⟨q3, hres⟩ := am_ck_some hres
    refine am_iald cx dX12_isThere_120 (am_ke q2) q3 ?_
    refine am_i2l cx dX12_isThere_121 ?_
    refine am_aload_n cx 0 dX12_isThere_122 rfl ?_
    refine am_iload_n cx 1 dX12_isThere_123 rfl ?_
    refine am_iconst cx (v := (1 : Int32)) dX12_isThere_124 (by decide) ?_
    obtain ⟨v4, M5, q6, hres⟩ := am_bd_some hres
    refine am_callV1 cx [.inl x1, .inl (1 : Int32)] dX12_isThere_125 cvX12_306 (mt12_of q6) (am_ke q1) ⟨rfl, rfl, Nat.le_of_ble_eq_true rfl, Nat.le_of_ble_eq_true rfl⟩ rfl (Nat.le_of_ble_eq_true rfl) ⟨Nat.le_of_ble_eq_true rfl, Nat.le_of_ble_eq_true rfl⟩ ?_
    refine am_i2l cx dX12_isThere_128 ?_
    refine am_lmul cx dX12_isThere_129 ?_
    refine am_aload_n cx 0 dX12_isThere_130 rfl ?_
    refine am_iload_n cx 1 dX12_isThere_131 rfl ?_
    refine am_bipush cx (v := (84 : Int32)) dX12_isThere_132 (by decide) ?_
    refine am_iload_n cx 3 dX12_isThere_134 rfl ?_
    refine am_iadd cx dX12_isThere_135 ?_
    obtain ⟨q7, hres⟩ := am_ck_some hres
    obtain ⟨v8, M9, q10, hres⟩ := am_bd_some hres
    refine am_callV1 cx [.inl x1, .inl ((84 : Int32) + x3)] dX12_isThere_136 cvX12_306 (mt12_of q10) (am_ke q7) ⟨rfl, rfl, Nat.le_of_ble_eq_true rfl, Nat.le_of_ble_eq_true rfl⟩ rfl (Nat.le_of_ble_eq_true rfl) ⟨Nat.le_of_ble_eq_true rfl, Nat.le_of_ble_eq_true rfl⟩ ?_
    refine am_i2l cx dX12_isThere_139 ?_
    refine am_aload_n cx 0 dX12_isThere_140 rfl ?_
    obtain ⟨q11, hres⟩ := am_ck_some hres
    refine am_getR cx dX12_isThere_141 flX12_100 (am_ke q11) ?_
    refine am_iconst cx (v := (1 : Int32)) dX12_isThere_144 (by decide) ?_
    obtain ⟨q12, hres⟩ := am_ck_some hres
    obtain ⟨q13, hres⟩ := am_ck_some hres
    refine am_iald cx dX12_isThere_145 (am_ke q12) q13 ?_
    refine am_i2l cx dX12_isThere_146 ?_
    refine am_lmul cx dX12_isThere_147 ?_
    refine am_lcmp cx dX12_isThere_148 ?_
    refine am_if_ne cx (tgt := 154) dX12_isThere_149 (by decide) (fun h => ?_) (fun h => ?_)
    · have hres := am_ifn h hres
      refine am_sub cx [0, 1, 2, 3] rfl ?_
      exact sn12_isThere_b154 cx hk2 hres
    · have hres := am_ifp h hres
      refine am_iconst cx (v := (1 : Int32)) dX12_isThere_152 (by decide) ?_
      obtain ⟨rfl, rfl⟩ := am_fin hres
      exact am_zret cx rfl dX12_isThere_153
set_option maxRecDepth 20000 in
theorem sn12_isThere_b104 {l : Launch} {G : am_G} {v : Int32} {M' : am_Mem} {N : Nat} {k2 : Nat → Int32 → Int32 → Int32 → am_Mem → Option (Int32 × am_Mem)} (cx : am_Ctx l rm12_isThere yX12_isThere cX12_isThere 5 (some .boolean) (some (.inl v)) M' 0 0 G) (hk2 : ∀ (r0 : Nat) (x1 : Int32) (x2 : Int32) (x3 : Int32) (M : am_Mem), k2 r0 x1 x2 x3 M = some (v, M') → G 2 [(0, .inr (.inr (.inl r0))), (1, .inl x1), (2, .inl x2), (3, .inl x3)] [] M 0 0) {a0 : Int32} {a1 : Int32} {r0 : Nat} {x1 : Int32} {x2 : Int32} {x3 : Int32} {M : am_Mem} (hres : fn12_isThere_b104 N k2 a0 a1 r0 x1 x2 x3 M = some (v, M')) : G 104 [(0, .inr (.inr (.inl r0))), (1, .inl x1), (2, .inl x2), (3, .inl x3)] [.inl a1, .inl a0] M 0 0 := by
  unfold fn12_isThere_b104 at hres
  refine am_iand cx dX12_isThere_104 ?_
  refine am_istore cx (lv' := [(0, .inr (.inr (.inl r0))), (1, .inl x1), (2, .inl x2), (3, .inl x3), (4, .inl (a0 &&& a1))]) dX12_isThere_105 (Nat.le_of_ble_eq_true rfl) rfl ?_
  exact sn12_isThere_b107 cx hk2 hres
set_option maxRecDepth 20000 in
theorem sn12_isThere_b55 {l : Launch} {G : am_G} {v : Int32} {M' : am_Mem} {N : Nat} {k2 : Nat → Int32 → Int32 → Int32 → am_Mem → Option (Int32 × am_Mem)} (cx : am_Ctx l rm12_isThere yX12_isThere cX12_isThere 5 (some .boolean) (some (.inl v)) M' 0 0 G) (hk2 : ∀ (r0 : Nat) (x1 : Int32) (x2 : Int32) (x3 : Int32) (M : am_Mem), k2 r0 x1 x2 x3 M = some (v, M') → G 2 [(0, .inr (.inr (.inl r0))), (1, .inl x1), (2, .inl x2), (3, .inl x3)] [] M 0 0) {a0 : Int32} {r0 : Nat} {x1 : Int32} {x2 : Int32} {x3 : Int32} {M : am_Mem} (hres : fn12_isThere_b55 N k2 a0 r0 x1 x2 x3 M = some (v, M')) : G 55 [(0, .inr (.inr (.inl r0))), (1, .inl x1), (2, .inl x2), (3, .inl x3)] [.inl a0] M 0 0 := by
  unfold fn12_isThere_b55 at hres
  refine am_istore cx (lv' := [(0, .inr (.inr (.inl r0))), (1, .inl x1), (2, .inl x2), (3, .inl x3), (4, .inl a0)]) dX12_isThere_55 (Nat.le_of_ble_eq_true rfl) rfl ?_
  refine am_iload cx 4 dX12_isThere_57 rfl ?_
  refine am_aload_n cx 0 dX12_isThere_59 rfl ?_
  obtain ⟨q1, hres⟩ := am_ck_some hres
  refine am_getR cx dX12_isThere_60 flX12_100 (am_ke q1) ?_
  refine am_bipush cx (v := (44 : Int32)) dX12_isThere_63 (by decide) ?_
  refine am_iload_n cx 2 dX12_isThere_65 rfl ?_
  refine am_iadd cx dX12_isThere_66 ?_
  obtain ⟨q2, hres⟩ := am_ck_some hres
  obtain ⟨q3, hres⟩ := am_ck_some hres
  refine am_iald cx dX12_isThere_67 (am_ke q2) q3 ?_
  refine am_i2l cx dX12_isThere_68 ?_
  refine am_aload_n cx 0 dX12_isThere_69 rfl ?_
  refine am_iload_n cx 1 dX12_isThere_70 rfl ?_
  refine am_iconst cx (v := (1 : Int32)) dX12_isThere_71 (by decide) ?_
  obtain ⟨v4, M5, q6, hres⟩ := am_bd_some hres
  refine am_callV1 cx [.inl x1, .inl (1 : Int32)] dX12_isThere_72 cvX12_306 (mt12_of q6) (am_ke q1) ⟨rfl, rfl, Nat.le_of_ble_eq_true rfl, Nat.le_of_ble_eq_true rfl⟩ rfl (Nat.le_of_ble_eq_true rfl) ⟨Nat.le_of_ble_eq_true rfl, Nat.le_of_ble_eq_true rfl⟩ ?_
  refine am_i2l cx dX12_isThere_75 ?_
  refine am_lmul cx dX12_isThere_76 ?_
  refine am_aload_n cx 0 dX12_isThere_77 rfl ?_
  refine am_iload_n cx 1 dX12_isThere_78 rfl ?_
  refine am_bipush cx (v := (44 : Int32)) dX12_isThere_79 (by decide) ?_
  refine am_iload_n cx 3 dX12_isThere_81 rfl ?_
  refine am_iadd cx dX12_isThere_82 ?_
  obtain ⟨q7, hres⟩ := am_ck_some hres
  obtain ⟨v8, M9, q10, hres⟩ := am_bd_some hres
  refine am_callV1 cx [.inl x1, .inl ((44 : Int32) + x3)] dX12_isThere_83 cvX12_306 (mt12_of q10) (am_ke q7) ⟨rfl, rfl, Nat.le_of_ble_eq_true rfl, Nat.le_of_ble_eq_true rfl⟩ rfl (Nat.le_of_ble_eq_true rfl) ⟨Nat.le_of_ble_eq_true rfl, Nat.le_of_ble_eq_true rfl⟩ ?_
  refine am_i2l cx dX12_isThere_86 ?_
  refine am_aload_n cx 0 dX12_isThere_87 rfl ?_
  obtain ⟨q11, hres⟩ := am_ck_some hres
  refine am_getR cx dX12_isThere_88 flX12_100 (am_ke q11) ?_
  refine am_iconst cx (v := (1 : Int32)) dX12_isThere_91 (by decide) ?_
  obtain ⟨q12, hres⟩ := am_ck_some hres
  obtain ⟨q13, hres⟩ := am_ck_some hres
  refine am_iald cx dX12_isThere_92 (am_ke q12) q13 ?_
  refine am_i2l cx dX12_isThere_93 ?_
  refine am_lmul cx dX12_isThere_94 ?_
  refine am_lcmp cx dX12_isThere_95 ?_
  refine am_if_ne cx (tgt := 103) dX12_isThere_96 (by decide) (fun h => ?_) (fun h => ?_)
  · have hres := am_ifn h hres
    refine am_iconst cx (v := (0 : Int32)) dX12_isThere_103 (by decide) ?_
    refine am_sub cx [0, 1, 2, 3] rfl ?_
    exact sn12_isThere_b104 cx hk2 hres
  · have hres := am_ifp h hres
    refine am_iconst cx (v := (1 : Int32)) dX12_isThere_99 (by decide) ?_
    refine am_goto cx (tgt := 104) dX12_isThere_100 (by decide) ?_
    refine am_sub cx [0, 1, 2, 3] rfl ?_
    exact sn12_isThere_b104 cx hk2 hres
set_option maxRecDepth 20000 in
theorem sn12_isThere_b2B {l : Launch} {G : am_G} {v : Int32} {M' : am_Mem} {N : Nat} {k2 : Nat → Int32 → Int32 → Int32 → am_Mem → Option (Int32 × am_Mem)} (cx : am_Ctx l rm12_isThere yX12_isThere cX12_isThere 5 (some .boolean) (some (.inl v)) M' 0 0 G) (hk2 : ∀ (r0 : Nat) (x1 : Int32) (x2 : Int32) (x3 : Int32) (M : am_Mem), k2 r0 x1 x2 x3 M = some (v, M') → G 2 [(0, .inr (.inr (.inl r0))), (1, .inl x1), (2, .inl x2), (3, .inl x3)] [] M 0 0) {r0 : Nat} {x1 : Int32} {x2 : Int32} {x3 : Int32} {M : am_Mem} (hres : fn12_isThere_b2B N k2 r0 x1 x2 x3 M = some (v, M')) : G 2 [(0, .inr (.inr (.inl r0))), (1, .inl x1), (2, .inl x2), (3, .inl x3)] [] M 0 0 := by
  unfold fn12_isThere_b2B at hres
  refine am_iload_n cx 3 dX12_isThere_2 rfl ?_
  refine am_aload_n cx 0 dX12_isThere_3 rfl ?_
  refine am_iload_n cx 1 dX12_isThere_4 rfl ?_
  refine am_iconst cx (v := (0 : Int32)) dX12_isThere_5 (by decide) ?_
  obtain ⟨q1, hres⟩ := am_ck_some hres
  obtain ⟨v2, M3, q4, hres⟩ := am_bd_some hres
  refine am_callV1 cx [.inl x1, .inl (0 : Int32)] dX12_isThere_6 cvX12_306 (mt12_of q4) (am_ke q1) ⟨rfl, rfl, Nat.le_of_ble_eq_true rfl, Nat.le_of_ble_eq_true rfl⟩ rfl (Nat.le_of_ble_eq_true rfl) ⟨Nat.le_of_ble_eq_true rfl, Nat.le_of_ble_eq_true rfl⟩ ?_
  refine am_icmp_ge cx (tgt := 160) dX12_isThere_9 (by decide) (fun h => ?_) (fun h => ?_)
  · have hres := am_ifp h hres
    refine am_iconst cx (v := (0 : Int32)) dX12_isThere_160 (by decide) ?_
    obtain ⟨rfl, rfl⟩ := am_fin hres
    exact am_zret cx rfl dX12_isThere_161
  · have hres := am_ifn h hres
    refine am_aload_n cx 0 dX12_isThere_12 rfl ?_
    obtain ⟨q5, hres⟩ := am_ck_some hres
    refine am_getR cx dX12_isThere_13 flX12_100 (am_ke q5) ?_
    refine am_iconst cx (v := (4 : Int32)) dX12_isThere_16 (by decide) ?_
    refine am_iload_n cx 2 dX12_isThere_17 rfl ?_
    refine am_iadd cx dX12_isThere_18 ?_
    obtain ⟨q6, hres⟩ := am_ck_some hres
    obtain ⟨q7, hres⟩ := am_ck_some hres
    refine am_iald cx dX12_isThere_19 (am_ke q6) q7 ?_
    refine am_i2l cx dX12_isThere_20 ?_
    refine am_aload_n cx 0 dX12_isThere_21 rfl ?_
    refine am_iload_n cx 1 dX12_isThere_22 rfl ?_
    refine am_iconst cx (v := (1 : Int32)) dX12_isThere_23 (by decide) ?_
    obtain ⟨v8, M9, q10, hres⟩ := am_bd_some hres
    refine am_callV1 cx [.inl x1, .inl (1 : Int32)] dX12_isThere_24 cvX12_306 (mt12_of q10) (am_ke q5) ⟨rfl, rfl, Nat.le_of_ble_eq_true rfl, Nat.le_of_ble_eq_true rfl⟩ rfl (Nat.le_of_ble_eq_true rfl) ⟨Nat.le_of_ble_eq_true rfl, Nat.le_of_ble_eq_true rfl⟩ ?_
    refine am_i2l cx dX12_isThere_27 ?_
    refine am_lmul cx dX12_isThere_28 ?_
    refine am_aload_n cx 0 dX12_isThere_29 rfl ?_
    refine am_iload_n cx 1 dX12_isThere_30 rfl ?_
    refine am_iconst cx (v := (4 : Int32)) dX12_isThere_31 (by decide) ?_
    refine am_iload_n cx 3 dX12_isThere_32 rfl ?_
    refine am_iadd cx dX12_isThere_33 ?_
    obtain ⟨q11, hres⟩ := am_ck_some hres
    obtain ⟨v12, M13, q14, hres⟩ := am_bd_some hres
    refine am_callV1 cx [.inl x1, .inl ((4 : Int32) + x3)] dX12_isThere_34 cvX12_306 (mt12_of q14) (am_ke q11) ⟨rfl, rfl, Nat.le_of_ble_eq_true rfl, Nat.le_of_ble_eq_true rfl⟩ rfl (Nat.le_of_ble_eq_true rfl) ⟨Nat.le_of_ble_eq_true rfl, Nat.le_of_ble_eq_true rfl⟩ ?_
    refine am_i2l cx dX12_isThere_37 ?_
    refine am_aload_n cx 0 dX12_isThere_38 rfl ?_
    obtain ⟨q15, hres⟩ := am_ck_some hres
    refine am_getR cx dX12_isThere_39 flX12_100 (am_ke q15) ?_
    refine am_iconst cx (v := (1 : Int32)) dX12_isThere_42 (by decide) ?_
    obtain ⟨q16, hres⟩ := am_ck_some hres
    obtain ⟨q17, hres⟩ := am_ck_some hres
    refine am_iald cx dX12_isThere_43 (am_ke q16) q17 ?_
    refine am_i2l cx dX12_isThere_44 ?_
    refine am_lmul cx dX12_isThere_45 ?_
    refine am_lcmp cx dX12_isThere_46 ?_
    refine am_if_ne cx (tgt := 54) dX12_isThere_47 (by decide) (fun h => ?_) (fun h => ?_)
    · have hres := am_ifn h hres
      refine am_iconst cx (v := (0 : Int32)) dX12_isThere_54 (by decide) ?_
      exact sn12_isThere_b55 cx hk2 hres
    · have hres := am_ifp h hres
      refine am_iconst cx (v := (1 : Int32)) dX12_isThere_50 (by decide) ?_
      refine am_goto cx (tgt := 55) dX12_isThere_51 (by decide) ?_
      exact sn12_isThere_b55 cx hk2 hres
set_option maxRecDepth 20000 in
theorem sn12_isThere_b2 {l : Launch} {G : am_G} {v : Int32} {M' : am_Mem} {N : Nat}  (cx : am_Ctx l rm12_isThere yX12_isThere cX12_isThere 5 (some .boolean) (some (.inl v)) M' 0 0 G)  (i : Nat) : ∀ (r0 : Nat) (x1 : Int32) (x2 : Int32) (x3 : Int32) (M : am_Mem), fn12_isThere_b2 N  i r0 x1 x2 x3 M = some (v, M') → G 2 [(0, .inr (.inr (.inl r0))), (1, .inl x1), (2, .inl x2), (3, .inl x3)] [] M 0 0 := by
  induction i with
  | zero => intro r0 x1 x2 x3 M hres; exact am_no hres
  | succ i ih => intro r0 x1 x2 x3 M hres; exact sn12_isThere_b2B cx ih hres
set_option maxRecDepth 20000 in
theorem sn12_isThere_b0 {l : Launch} {G : am_G} {v : Int32} {M' : am_Mem} {N : Nat}  (cx : am_Ctx l rm12_isThere yX12_isThere cX12_isThere 5 (some .boolean) (some (.inl v)) M' 0 0 G)  {r0 : Nat} {x1 : Int32} {x2 : Int32} {M : am_Mem} (hres : fn12_isThere_b0 N  r0 x1 x2 M = some (v, M')) : G 0 [(0, .inr (.inr (.inl r0))), (1, .inl x1), (2, .inl x2)] [] M 0 0 := by
  unfold fn12_isThere_b0 at hres
  refine am_iconst cx (v := (0 : Int32)) dX12_isThere_0 (by decide) ?_
  refine am_istore_n cx (lv' := [(0, .inr (.inr (.inl r0))), (1, .inl x1), (2, .inl x2), (3, .inl (0 : Int32))]) dX12_isThere_1 (Nat.le_of_ble_eq_true rfl) rfl ?_
  exact sn12_isThere_b2 cx  N _ _ _ _ _ hres
set_option maxRecDepth 20000 in
theorem mt12_isThere {l : Launch} {v : Int32} {M M' : am_Mem} {N : Nat} {r0 : Nat} {x1 : Int32} {x2 : Int32} (h : fn12_isThere N M r0 x1 x2 = some (v, M')) : am_Met l yX12_isThere cX12_isThere 5 (some .boolean) rm12_isThere 0 0 [.inr (.inr (.inl r0)), .inl x1, .inl x2] M (some (.inl v)) M' := am_mk (by decide) (Nat.le_of_ble_eq_true rfl) (fun G cx => (sn12_isThere_b0 cx h))
-- SquareCutsModel.areAlike
def fn12_areAlike_b53B (N : Nat) (k53 : Nat → Int32 → Int32 → am_Mem → Option (Int32 × am_Mem)) (r0 : Nat) (x1 : Int32) (x2 : Int32) (M : am_Mem) : Option (Int32 × am_Mem) :=
  am_ck (am_k M r0 12) (am_ck (am_k M (am_R M r0 48) 14) (am_ck (am_in (0 : Int32) (am_L M (am_R M r0 48))) (if (am_I M (am_R M r0 48) (0 : Int32).toNatClampNeg) ≤ x2 then some ((1 : Int32), M) else am_bd (fn12_isThere N M r0 x1 x2) (fun v4 M5 => if v4 = 0 then some ((0 : Int32), M5) else k53 r0 x1 (x2 + (1 : Int32)) M5))))
def fn12_areAlike_b53 (N : Nat)  : Nat → Nat → Int32 → Int32 → am_Mem → Option (Int32 × am_Mem)
  | 0 => fun _ _ _ _ => none
  | i + 1 => fn12_areAlike_b53B N (fn12_areAlike_b53 N  i)
def fn12_areAlike_b49 (N : Nat)   (M : am_Mem) : Option (Int32 × am_Mem) :=
  some ((0 : Int32), M)
def fn12_areAlike_b0 (N : Nat)  (r0 : Nat) (x1 : Int32) (M : am_Mem) : Option (Int32 × am_Mem) :=
  am_ck (am_k M r0 12) (am_ck (am_k M (am_R M r0 48) 14) (am_ck (am_in (0 : Int32) (am_L M (am_R M r0 48))) (am_bd (fn12_of M r0 x1 (0 : Int32)) (fun v4 M5 => if (am_I M (am_R M r0 48) (0 : Int32).toNatClampNeg) = v4 then am_ck (am_k M5 r0 12) (am_ck (am_k M5 (am_R M5 r0 48) 14) (am_ck (am_in (2 : Int32) (am_L M5 (am_R M5 r0 48))) (am_bd (fn12_of M5 r0 x1 (1 : Int32)) (fun v10 M11 => am_ck (am_k M11 r0 12) (am_bd (fn12_of M11 r0 x1 (2 : Int32)) (fun v14 M15 => am_ck (am_k M15 r0 12) (am_ck (am_k M15 (am_R M15 r0 48) 14) (am_ck (am_in (1 : Int32) (am_L M15 (am_R M15 r0 48))) (if (lg_cmp ((am_I M5 (am_R M5 r0 48) (2 : Int32).toNatClampNeg).toInt64 * v10.toInt64) (v14.toInt64 * (am_I M15 (am_R M15 r0 48) (1 : Int32).toNatClampNeg).toInt64)) = 0 then fn12_areAlike_b53 N  N r0 x1 (0 : Int32) M15 else fn12_areAlike_b49 N   M15))))))))) else fn12_areAlike_b49 N   M5))))
def fn12_areAlike (N : Nat) (M : am_Mem) (r0 : Nat) (x1 : Int32) : Option (Int32 × am_Mem) := fn12_areAlike_b0 N r0 x1 M
def rm12_areAlike : Room := { frames := 2, cells := 0, slots := 0, locals := 46 }
set_option maxRecDepth 20000 in
theorem sn12_areAlike_b53B {l : Launch} {G : am_G} {v : Int32} {M' : am_Mem} {N : Nat} {k53 : Nat → Int32 → Int32 → am_Mem → Option (Int32 × am_Mem)} (cx : am_Ctx l rm12_areAlike yX12_areAlike cX12_areAlike 3 (some .boolean) (some (.inl v)) M' 0 0 G) (hk53 : ∀ (r0 : Nat) (x1 : Int32) (x2 : Int32) (M : am_Mem), k53 r0 x1 x2 M = some (v, M') → G 53 [(0, .inr (.inr (.inl r0))), (1, .inl x1), (2, .inl x2)] [] M 0 0) {r0 : Nat} {x1 : Int32} {x2 : Int32} {M : am_Mem} (hres : fn12_areAlike_b53B N k53 r0 x1 x2 M = some (v, M')) : G 53 [(0, .inr (.inr (.inl r0))), (1, .inl x1), (2, .inl x2)] [] M 0 0 := by
  unfold fn12_areAlike_b53B at hres
  refine am_iload_n cx 2 dX12_areAlike_53 rfl ?_
  refine am_aload_n cx 0 dX12_areAlike_54 rfl ?_
  obtain ⟨q1, hres⟩ := am_ck_some hres
  refine am_getR cx dX12_areAlike_55 flX12_100 (am_ke q1) ?_
  refine am_iconst cx (v := (0 : Int32)) dX12_areAlike_58 (by decide) ?_
  obtain ⟨q2, hres⟩ := am_ck_some hres
  obtain ⟨q3, hres⟩ := am_ck_some hres
  refine am_iald cx dX12_areAlike_59 (am_ke q2) q3 ?_
  refine am_icmp_ge cx (tgt := 80) dX12_areAlike_60 (by decide) (fun h => ?_) (fun h => ?_)
  · have hres := am_ifp h hres
    refine am_iconst cx (v := (1 : Int32)) dX12_areAlike_80 (by decide) ?_
    obtain ⟨rfl, rfl⟩ := am_fin hres
    exact am_zret cx rfl dX12_areAlike_81
  · have hres := am_ifn h hres
    refine am_aload_n cx 0 dX12_areAlike_63 rfl ?_
    refine am_iload_n cx 1 dX12_areAlike_64 rfl ?_
    refine am_iload_n cx 2 dX12_areAlike_65 rfl ?_
    obtain ⟨v4, M5, q6, hres⟩ := am_bd_some hres
    refine am_callV1 cx [.inl x1, .inl x2] dX12_areAlike_66 cvX12_377 (mt12_isThere q6) (am_ke q1) ⟨rfl, rfl, Nat.le_of_ble_eq_true rfl, Nat.le_of_ble_eq_true rfl⟩ rfl (Nat.le_of_ble_eq_true rfl) ⟨Nat.le_of_ble_eq_true rfl, Nat.le_of_ble_eq_true rfl⟩ ?_
    refine am_if_ne cx (tgt := 74) dX12_areAlike_69 (by decide) (fun h => ?_) (fun h => ?_)
    · have hres := am_ifn h hres
      refine am_iincw cx (lv' := [(0, .inr (.inr (.inl r0))), (1, .inl x1), (2, .inl (x2 + (1 : Int32)))]) (w := (1 : Int32)) 2 dX12_areAlike_74 (by decide) rfl (Nat.le_of_ble_eq_true rfl) rfl ?_
      refine am_goto cx (tgt := 53) dX12_areAlike_77 (by decide) ?_
      exact hk53 _ _ _ _ hres
    · have hres := am_ifp h hres
      refine am_iconst cx (v := (0 : Int32)) dX12_areAlike_72 (by decide) ?_
      obtain ⟨rfl, rfl⟩ := am_fin hres
      exact am_zret cx rfl dX12_areAlike_73
set_option maxRecDepth 20000 in
theorem sn12_areAlike_b53 {l : Launch} {G : am_G} {v : Int32} {M' : am_Mem} {N : Nat}  (cx : am_Ctx l rm12_areAlike yX12_areAlike cX12_areAlike 3 (some .boolean) (some (.inl v)) M' 0 0 G)  (i : Nat) : ∀ (r0 : Nat) (x1 : Int32) (x2 : Int32) (M : am_Mem), fn12_areAlike_b53 N  i r0 x1 x2 M = some (v, M') → G 53 [(0, .inr (.inr (.inl r0))), (1, .inl x1), (2, .inl x2)] [] M 0 0 := by
  induction i with
  | zero => intro r0 x1 x2 M hres; exact am_no hres
  | succ i ih => intro r0 x1 x2 M hres; exact sn12_areAlike_b53B cx ih hres
set_option maxRecDepth 20000 in
theorem sn12_areAlike_b49 {l : Launch} {G : am_G} {v : Int32} {M' : am_Mem} {N : Nat}  (cx : am_Ctx l rm12_areAlike yX12_areAlike cX12_areAlike 3 (some .boolean) (some (.inl v)) M' 0 0 G)   {M : am_Mem} (hres : fn12_areAlike_b49 N   M = some (v, M')) : G 49 [] [] M 0 0 := by
  unfold fn12_areAlike_b49 at hres
  refine am_iconst cx (v := (0 : Int32)) dX12_areAlike_49 (by decide) ?_
  obtain ⟨rfl, rfl⟩ := am_fin hres
  exact am_zret cx rfl dX12_areAlike_50
set_option maxRecDepth 20000 in
theorem sn12_areAlike_b0 {l : Launch} {G : am_G} {v : Int32} {M' : am_Mem} {N : Nat}  (cx : am_Ctx l rm12_areAlike yX12_areAlike cX12_areAlike 3 (some .boolean) (some (.inl v)) M' 0 0 G)  {r0 : Nat} {x1 : Int32} {M : am_Mem} (hres : fn12_areAlike_b0 N  r0 x1 M = some (v, M')) : G 0 [(0, .inr (.inr (.inl r0))), (1, .inl x1)] [] M 0 0 := by
  unfold fn12_areAlike_b0 at hres
  refine am_aload_n cx 0 dX12_areAlike_0 rfl ?_
  obtain ⟨q1, hres⟩ := am_ck_some hres
  refine am_getR cx dX12_areAlike_1 flX12_100 (am_ke q1) ?_
  refine am_iconst cx (v := (0 : Int32)) dX12_areAlike_4 (by decide) ?_
  obtain ⟨q2, hres⟩ := am_ck_some hres
  obtain ⟨q3, hres⟩ := am_ck_some hres
  refine am_iald cx dX12_areAlike_5 (am_ke q2) q3 ?_
  refine am_aload_n cx 0 dX12_areAlike_6 rfl ?_
  refine am_iload_n cx 1 dX12_areAlike_7 rfl ?_
  refine am_iconst cx (v := (0 : Int32)) dX12_areAlike_8 (by decide) ?_
  obtain ⟨v4, M5, q6, hres⟩ := am_bd_some hres
  refine am_callV1 cx [.inl x1, .inl (0 : Int32)] dX12_areAlike_9 cvX12_306 (mt12_of q6) (am_ke q1) ⟨rfl, rfl, Nat.le_of_ble_eq_true rfl, Nat.le_of_ble_eq_true rfl⟩ rfl (Nat.le_of_ble_eq_true rfl) ⟨Nat.le_of_ble_eq_true rfl, Nat.le_of_ble_eq_true rfl⟩ ?_
  refine am_icmp_ne cx (tgt := 49) dX12_areAlike_12 (by decide) (fun h => ?_) (fun h => ?_)
  · have hres := am_ifn h hres
    refine am_sub cx [] rfl ?_
    exact sn12_areAlike_b49 cx  hres
  · have hres := am_ifp h hres
    refine am_aload_n cx 0 dX12_areAlike_15 rfl ?_
    obtain ⟨q7, hres⟩ := am_ck_some hres
    refine am_getR cx dX12_areAlike_16 flX12_100 (am_ke q7) ?_
    refine am_iconst cx (v := (2 : Int32)) dX12_areAlike_19 (by decide) ?_
    obtain ⟨q8, hres⟩ := am_ck_some hres
    obtain ⟨q9, hres⟩ := am_ck_some hres
    refine am_iald cx dX12_areAlike_20 (am_ke q8) q9 ?_
    refine am_i2l cx dX12_areAlike_21 ?_
    refine am_aload_n cx 0 dX12_areAlike_22 rfl ?_
    refine am_iload_n cx 1 dX12_areAlike_23 rfl ?_
    refine am_iconst cx (v := (1 : Int32)) dX12_areAlike_24 (by decide) ?_
    obtain ⟨v10, M11, q12, hres⟩ := am_bd_some hres
    refine am_callV1 cx [.inl x1, .inl (1 : Int32)] dX12_areAlike_25 cvX12_306 (mt12_of q12) (am_ke q7) ⟨rfl, rfl, Nat.le_of_ble_eq_true rfl, Nat.le_of_ble_eq_true rfl⟩ rfl (Nat.le_of_ble_eq_true rfl) ⟨Nat.le_of_ble_eq_true rfl, Nat.le_of_ble_eq_true rfl⟩ ?_
    refine am_i2l cx dX12_areAlike_28 ?_
    refine am_lmul cx dX12_areAlike_29 ?_
    refine am_aload_n cx 0 dX12_areAlike_30 rfl ?_
    refine am_iload_n cx 1 dX12_areAlike_31 rfl ?_
    refine am_iconst cx (v := (2 : Int32)) dX12_areAlike_32 (by decide) ?_
    obtain ⟨q13, hres⟩ := am_ck_some hres
    obtain ⟨v14, M15, q16, hres⟩ := am_bd_some hres
    refine am_callV1 cx [.inl x1, .inl (2 : Int32)] dX12_areAlike_33 cvX12_306 (mt12_of q16) (am_ke q13) ⟨rfl, rfl, Nat.le_of_ble_eq_true rfl, Nat.le_of_ble_eq_true rfl⟩ rfl (Nat.le_of_ble_eq_true rfl) ⟨Nat.le_of_ble_eq_true rfl, Nat.le_of_ble_eq_true rfl⟩ ?_
    refine am_i2l cx dX12_areAlike_36 ?_
    refine am_aload_n cx 0 dX12_areAlike_37 rfl ?_
    obtain ⟨q17, hres⟩ := am_ck_some hres
    refine am_getR cx dX12_areAlike_38 flX12_100 (am_ke q17) ?_
    refine am_iconst cx (v := (1 : Int32)) dX12_areAlike_41 (by decide) ?_
    obtain ⟨q18, hres⟩ := am_ck_some hres
    obtain ⟨q19, hres⟩ := am_ck_some hres
    refine am_iald cx dX12_areAlike_42 (am_ke q18) q19 ?_
    refine am_i2l cx dX12_areAlike_43 ?_
    refine am_lmul cx dX12_areAlike_44 ?_
    refine am_lcmp cx dX12_areAlike_45 ?_
    refine am_if_eq cx (tgt := 51) dX12_areAlike_46 (by decide) (fun h => ?_) (fun h => ?_)
    · have hres := am_ifp h hres
      refine am_iconst cx (v := (0 : Int32)) dX12_areAlike_51 (by decide) ?_
      refine am_istore_n cx (lv' := [(0, .inr (.inr (.inl r0))), (1, .inl x1), (2, .inl (0 : Int32))]) dX12_areAlike_52 (Nat.le_of_ble_eq_true rfl) rfl ?_
      exact sn12_areAlike_b53 cx  N _ _ _ _ hres
    · have hres := am_ifn h hres
      refine am_sub cx [] rfl ?_
      exact sn12_areAlike_b49 cx  hres
set_option maxRecDepth 20000 in
theorem mt12_areAlike {l : Launch} {v : Int32} {M M' : am_Mem} {N : Nat} {r0 : Nat} {x1 : Int32} (h : fn12_areAlike N M r0 x1 = some (v, M')) : am_Met l yX12_areAlike cX12_areAlike 3 (some .boolean) rm12_areAlike 0 0 [.inr (.inr (.inl r0)), .inl x1] M (some (.inl v)) M' := am_mk (by decide) (Nat.le_of_ble_eq_true rfl) (fun G cx => (sn12_areAlike_b0 cx h))
-- SquareCutsModel.alike
def fn12_alike_b21 (N : Nat)   (M : am_Mem) : Option (Int32 × am_Mem) :=
  some ((-1 : Int32), M)
def fn12_alike_b43B (N : Nat) (k43 : Nat → Int32 → Int32 → Int32 → am_Mem → Option (Int32 × am_Mem)) (r0 : Nat) (x1 : Int32) (x2 : Int32) (x3 : Int32) (M : am_Mem) : Option (Int32 × am_Mem) :=
  if (8 : Int32) ≤ x3 then some ((0 : Int32), M) else am_ck (am_k M r0 12) (am_bd (fn12_takes N M r0 x1) (fun v2 M3 => am_ck (am_k M3 r0 12) (am_bd (fn12_turns N M3 r0 x3) (fun v6 M7 => am_ck (am_k M7 r0 12) (am_bd (fn12_areAlike N M7 r0 x2) (fun v10 M11 => if v10 = 0 then k43 r0 x1 x2 (x3 + (1 : Int32)) M11 else some ((1 : Int32), M11)))))))
def fn12_alike_b43 (N : Nat)  : Nat → Nat → Int32 → Int32 → Int32 → am_Mem → Option (Int32 × am_Mem)
  | 0 => fun _ _ _ _ _ => none
  | i + 1 => fn12_alike_b43B N (fn12_alike_b43 N  i)
def fn12_alike_b39 (N : Nat)   (M : am_Mem) : Option (Int32 × am_Mem) :=
  some ((0 : Int32), M)
def fn12_alike_b0 (N : Nat)  (r0 : Nat) (x1 : Int32) (x2 : Int32) (M : am_Mem) : Option (Int32 × am_Mem) :=
  am_ck (am_k M r0 12) (am_bd (fn12_isRect (am_wI M r0 0 (0 : Int32)) r0 x1) (fun v2 M3 => if v2 = 0 then fn12_alike_b21 N   M3 else am_ck (am_k M3 r0 12) (am_bd (fn12_isRect M3 r0 x2) (fun v6 M7 => if v6 = 0 then fn12_alike_b21 N   M7 else am_ck (am_k M7 r0 12) (am_bd (fn12_doesFail M7 r0 x1) (fun v10 M11 => if v10 = 0 then am_ck (am_k M11 r0 12) (am_bd (fn12_doesFail M11 r0 x2) (fun v14 M15 => if v14 = 0 then fn12_alike_b43 N  N r0 x1 x2 (0 : Int32) M15 else fn12_alike_b39 N   M15)) else fn12_alike_b39 N   M11))))))
def fn12_alike (N : Nat) (M : am_Mem) (r0 : Nat) (x1 : Int32) (x2 : Int32) : Option (Int32 × am_Mem) := fn12_alike_b0 N r0 x1 x2 M
def rm12_alike : Room := { frames := 3, cells := 0, slots := 0, locals := 68 }
set_option maxRecDepth 20000 in
theorem sn12_alike_b21 {l : Launch} {G : am_G} {v : Int32} {M' : am_Mem} {N : Nat}  (cx : am_Ctx l rm12_alike yX12_alike cX12_alike 4 (some .int) (some (.inl v)) M' 0 0 G)   {M : am_Mem} (hres : fn12_alike_b21 N   M = some (v, M')) : G 21 [] [] M 0 0 := by
  unfold fn12_alike_b21 at hres
  refine am_iconst cx (v := (-1 : Int32)) dX12_alike_21 (by decide) ?_
  obtain ⟨rfl, rfl⟩ := am_fin hres
  exact am_iret cx dX12_alike_22
set_option maxRecDepth 20000 in
theorem sn12_alike_b43B {l : Launch} {G : am_G} {v : Int32} {M' : am_Mem} {N : Nat} {k43 : Nat → Int32 → Int32 → Int32 → am_Mem → Option (Int32 × am_Mem)} (cx : am_Ctx l rm12_alike yX12_alike cX12_alike 4 (some .int) (some (.inl v)) M' 0 0 G) (hk43 : ∀ (r0 : Nat) (x1 : Int32) (x2 : Int32) (x3 : Int32) (M : am_Mem), k43 r0 x1 x2 x3 M = some (v, M') → G 43 [(0, .inr (.inr (.inl r0))), (1, .inl x1), (2, .inl x2), (3, .inl x3)] [] M 0 0) {r0 : Nat} {x1 : Int32} {x2 : Int32} {x3 : Int32} {M : am_Mem} (hres : fn12_alike_b43B N k43 r0 x1 x2 x3 M = some (v, M')) : G 43 [(0, .inr (.inr (.inl r0))), (1, .inl x1), (2, .inl x2), (3, .inl x3)] [] M 0 0 := by
  unfold fn12_alike_b43B at hres
  refine am_iload_n cx 3 dX12_alike_43 rfl ?_
  refine am_bipush cx (v := (8 : Int32)) dX12_alike_44 (by decide) ?_
  refine am_icmp_ge cx (tgt := 75) dX12_alike_46 (by decide) (fun h => ?_) (fun h => ?_)
  · have hres := am_ifp h hres
    refine am_iconst cx (v := (0 : Int32)) dX12_alike_75 (by decide) ?_
    obtain ⟨rfl, rfl⟩ := am_fin hres
    exact am_iret cx dX12_alike_76
  · have hres := am_ifn h hres
    refine am_aload_n cx 0 dX12_alike_49 rfl ?_
    refine am_iload_n cx 1 dX12_alike_50 rfl ?_
    obtain ⟨q1, hres⟩ := am_ck_some hres
    obtain ⟨v2, M3, q4, hres⟩ := am_bd_some hres
    refine am_callV0 cx [.inl x1] dX12_alike_51 cvX12_380 (mt12_takes q4) (am_ke q1) ⟨rfl, rfl, Nat.le_of_ble_eq_true rfl, Nat.le_of_ble_eq_true rfl⟩ rfl (Nat.le_of_ble_eq_true rfl) ⟨Nat.le_of_ble_eq_true rfl, Nat.le_of_ble_eq_true rfl⟩ ?_
    refine am_aload_n cx 0 dX12_alike_54 rfl ?_
    refine am_iload_n cx 3 dX12_alike_55 rfl ?_
    obtain ⟨q5, hres⟩ := am_ck_some hres
    obtain ⟨v6, M7, q8, hres⟩ := am_bd_some hres
    refine am_callV0 cx [.inl x3] dX12_alike_56 cvX12_383 (mt12_turns q8) (am_ke q5) ⟨rfl, rfl, Nat.le_of_ble_eq_true rfl, Nat.le_of_ble_eq_true rfl⟩ rfl (Nat.le_of_ble_eq_true rfl) ⟨Nat.le_of_ble_eq_true rfl, Nat.le_of_ble_eq_true rfl⟩ ?_
    refine am_aload_n cx 0 dX12_alike_59 rfl ?_
    refine am_iload_n cx 2 dX12_alike_60 rfl ?_
    obtain ⟨q9, hres⟩ := am_ck_some hres
    obtain ⟨v10, M11, q12, hres⟩ := am_bd_some hres
    refine am_callV1 cx [.inl x2] dX12_alike_61 cvX12_386 (mt12_areAlike q12) (am_ke q9) ⟨rfl, rfl, Nat.le_of_ble_eq_true rfl, Nat.le_of_ble_eq_true rfl⟩ rfl (Nat.le_of_ble_eq_true rfl) ⟨Nat.le_of_ble_eq_true rfl, Nat.le_of_ble_eq_true rfl⟩ ?_
    refine am_if_eq cx (tgt := 69) dX12_alike_64 (by decide) (fun h => ?_) (fun h => ?_)
    · have hres := am_ifp h hres
      refine am_iincw cx (lv' := [(0, .inr (.inr (.inl r0))), (1, .inl x1), (2, .inl x2), (3, .inl (x3 + (1 : Int32)))]) (w := (1 : Int32)) 3 dX12_alike_69 (by decide) rfl (Nat.le_of_ble_eq_true rfl) rfl ?_
      refine am_goto cx (tgt := 43) dX12_alike_72 (by decide) ?_
      exact hk43 _ _ _ _ _ hres
    · have hres := am_ifn h hres
      refine am_iconst cx (v := (1 : Int32)) dX12_alike_67 (by decide) ?_
      obtain ⟨rfl, rfl⟩ := am_fin hres
      exact am_iret cx dX12_alike_68
set_option maxRecDepth 20000 in
theorem sn12_alike_b43 {l : Launch} {G : am_G} {v : Int32} {M' : am_Mem} {N : Nat}  (cx : am_Ctx l rm12_alike yX12_alike cX12_alike 4 (some .int) (some (.inl v)) M' 0 0 G)  (i : Nat) : ∀ (r0 : Nat) (x1 : Int32) (x2 : Int32) (x3 : Int32) (M : am_Mem), fn12_alike_b43 N  i r0 x1 x2 x3 M = some (v, M') → G 43 [(0, .inr (.inr (.inl r0))), (1, .inl x1), (2, .inl x2), (3, .inl x3)] [] M 0 0 := by
  induction i with
  | zero => intro r0 x1 x2 x3 M hres; exact am_no hres
  | succ i ih => intro r0 x1 x2 x3 M hres; exact sn12_alike_b43B cx ih hres
set_option maxRecDepth 20000 in
theorem sn12_alike_b39 {l : Launch} {G : am_G} {v : Int32} {M' : am_Mem} {N : Nat}  (cx : am_Ctx l rm12_alike yX12_alike cX12_alike 4 (some .int) (some (.inl v)) M' 0 0 G)   {M : am_Mem} (hres : fn12_alike_b39 N   M = some (v, M')) : G 39 [] [] M 0 0 := by
  unfold fn12_alike_b39 at hres
  refine am_iconst cx (v := (0 : Int32)) dX12_alike_39 (by decide) ?_
  obtain ⟨rfl, rfl⟩ := am_fin hres
  exact am_iret cx dX12_alike_40
set_option maxRecDepth 20000 in
theorem sn12_alike_b0 {l : Launch} {G : am_G} {v : Int32} {M' : am_Mem} {N : Nat}  (cx : am_Ctx l rm12_alike yX12_alike cX12_alike 4 (some .int) (some (.inl v)) M' 0 0 G)  {r0 : Nat} {x1 : Int32} {x2 : Int32} {M : am_Mem} (hres : fn12_alike_b0 N  r0 x1 x2 M = some (v, M')) : G 0 [(0, .inr (.inr (.inl r0))), (1, .inl x1), (2, .inl x2)] [] M 0 0 := by
  unfold fn12_alike_b0 at hres
  refine am_aload_n cx 0 dX12_alike_0 rfl ?_
  refine am_iconst cx (v := (0 : Int32)) dX12_alike_1 (by decide) ?_
  obtain ⟨q1, hres⟩ := am_ck_some hres
  refine am_putI cx dX12_alike_2 fpX12_103 (fun h => by cases h) (am_ke q1) ?_
  refine am_aload_n cx 0 dX12_alike_5 rfl ?_
  refine am_iload_n cx 1 dX12_alike_6 rfl ?_
  obtain ⟨v2, M3, q4, hres⟩ := am_bd_some hres
  refine am_callV1 cx [.inl x1] dX12_alike_7 cvX12_316 (mt12_isRect q4) (am_ke q1) ⟨rfl, rfl, Nat.le_of_ble_eq_true rfl, Nat.le_of_ble_eq_true rfl⟩ rfl (Nat.le_of_ble_eq_true rfl) ⟨Nat.le_of_ble_eq_true rfl, Nat.le_of_ble_eq_true rfl⟩ ?_
  refine am_if_eq cx (tgt := 21) dX12_alike_10 (by decide) (fun h => ?_) (fun h => ?_)
  · have hres := am_ifp h hres
    refine am_sub cx [] rfl ?_
    exact sn12_alike_b21 cx  hres
  · have hres := am_ifn h hres
    refine am_aload_n cx 0 dX12_alike_13 rfl ?_
    refine am_iload_n cx 2 dX12_alike_14 rfl ?_
    obtain ⟨q5, hres⟩ := am_ck_some hres
    obtain ⟨v6, M7, q8, hres⟩ := am_bd_some hres
    refine am_callV1 cx [.inl x2] dX12_alike_15 cvX12_316 (mt12_isRect q8) (am_ke q5) ⟨rfl, rfl, Nat.le_of_ble_eq_true rfl, Nat.le_of_ble_eq_true rfl⟩ rfl (Nat.le_of_ble_eq_true rfl) ⟨Nat.le_of_ble_eq_true rfl, Nat.le_of_ble_eq_true rfl⟩ ?_
    refine am_if_ne cx (tgt := 23) dX12_alike_18 (by decide) (fun h => ?_) (fun h => ?_)
    · have hres := am_ifn h hres
      refine am_aload_n cx 0 dX12_alike_23 rfl ?_
      refine am_iload_n cx 1 dX12_alike_24 rfl ?_
      obtain ⟨q9, hres⟩ := am_ck_some hres
      obtain ⟨v10, M11, q12, hres⟩ := am_bd_some hres
      refine am_callV1 cx [.inl x1] dX12_alike_25 cvX12_325 (mt12_doesFail q12) (am_ke q9) ⟨rfl, rfl, Nat.le_of_ble_eq_true rfl, Nat.le_of_ble_eq_true rfl⟩ rfl (Nat.le_of_ble_eq_true rfl) ⟨Nat.le_of_ble_eq_true rfl, Nat.le_of_ble_eq_true rfl⟩ ?_
      refine am_if_ne cx (tgt := 39) dX12_alike_28 (by decide) (fun h => ?_) (fun h => ?_)
      · have hres := am_ifn h hres
        refine am_sub cx [] rfl ?_
        exact sn12_alike_b39 cx  hres
      · have hres := am_ifp h hres
        refine am_aload_n cx 0 dX12_alike_31 rfl ?_
        refine am_iload_n cx 2 dX12_alike_32 rfl ?_
        obtain ⟨q13, hres⟩ := am_ck_some hres
        obtain ⟨v14, M15, q16, hres⟩ := am_bd_some hres
        refine am_callV1 cx [.inl x2] dX12_alike_33 cvX12_325 (mt12_doesFail q16) (am_ke q13) ⟨rfl, rfl, Nat.le_of_ble_eq_true rfl, Nat.le_of_ble_eq_true rfl⟩ rfl (Nat.le_of_ble_eq_true rfl) ⟨Nat.le_of_ble_eq_true rfl, Nat.le_of_ble_eq_true rfl⟩ ?_
        refine am_if_eq cx (tgt := 41) dX12_alike_36 (by decide) (fun h => ?_) (fun h => ?_)
        · have hres := am_ifp h hres
          refine am_iconst cx (v := (0 : Int32)) dX12_alike_41 (by decide) ?_
          refine am_istore_n cx (lv' := [(0, .inr (.inr (.inl r0))), (1, .inl x1), (2, .inl x2), (3, .inl (0 : Int32))]) dX12_alike_42 (Nat.le_of_ble_eq_true rfl) rfl ?_
          exact sn12_alike_b43 cx  N _ _ _ _ _ hres
        · have hres := am_ifn h hres
          refine am_sub cx [] rfl ?_
          exact sn12_alike_b39 cx  hres
    · have hres := am_ifp h hres
      refine am_sub cx [] rfl ?_
      exact sn12_alike_b21 cx  hres
set_option maxRecDepth 20000 in
theorem mt12_alike {l : Launch} {v : Int32} {M M' : am_Mem} {N : Nat} {r0 : Nat} {x1 : Int32} {x2 : Int32} (h : fn12_alike N M r0 x1 x2 = some (v, M')) : am_Met l yX12_alike cX12_alike 4 (some .int) rm12_alike 0 0 [.inr (.inr (.inl r0)), .inl x1, .inl x2] M (some (.inl v)) M' := am_mk (by decide) (Nat.le_of_ble_eq_true rfl) (fun G cx => (sn12_alike_b0 cx h))
-- SquareCutsModel.isAhead
def fn12_isAhead_b74  (a0 : Int32) (M : am_Mem) : Option (Int32 × am_Mem) :=
  am_ck (a0 == 0 || a0 == 1) (some (a0, M))
def fn12_isAhead_b0  (r0 : Nat) (x1 : Int32) (x2 : Int32) (M : am_Mem) : Option (Int32 × am_Mem) :=
  am_ck (am_k M r0 12) (am_ck (am_k M (am_R M r0 48) 14) (am_ck (am_in ((44 : Int32) + x1) (am_L M (am_R M r0 48))) (am_ck (am_in ((44 : Int32) + x2) (am_L M (am_R M r0 48))) (if (am_I M (am_R M r0 48) ((44 : Int32) + x1).toNatClampNeg) = (am_I M (am_R M r0 48) ((44 : Int32) + x2).toNatClampNeg) then am_ck (am_in ((4 : Int32) + x1) (am_L M (am_R M r0 48))) (am_ck (am_in ((4 : Int32) + x2) (am_L M (am_R M r0 48))) (if (am_I M (am_R M r0 48) ((4 : Int32) + x2).toNatClampNeg) ≤ (am_I M (am_R M r0 48) ((4 : Int32) + x1).toNatClampNeg) then fn12_isAhead_b74  (0 : Int32) M else fn12_isAhead_b74  (1 : Int32) M)) else am_ck (am_in ((44 : Int32) + x1) (am_L M (am_R M r0 48))) (am_ck (am_in ((44 : Int32) + x2) (am_L M (am_R M r0 48))) (if (am_I M (am_R M r0 48) ((44 : Int32) + x2).toNatClampNeg) ≤ (am_I M (am_R M r0 48) ((44 : Int32) + x1).toNatClampNeg) then fn12_isAhead_b74  (0 : Int32) M else fn12_isAhead_b74  (1 : Int32) M))))))
def fn12_isAhead (M : am_Mem) (r0 : Nat) (x1 : Int32) (x2 : Int32) : Option (Int32 × am_Mem) := fn12_isAhead_b0  r0 x1 x2 M
def rm12_isAhead : Room := { frames := 0, cells := 0, slots := 0, locals := 0 }
set_option maxRecDepth 20000 in
theorem sn12_isAhead_b74 {l : Launch} {G : am_G} {v : Int32} {M' : am_Mem}  (cx : am_Ctx l rm12_isAhead yX12_isAhead cX12_isAhead 3 (some .boolean) (some (.inl v)) M' 0 0 G)  {a0 : Int32} {M : am_Mem} (hres : fn12_isAhead_b74  a0 M = some (v, M')) : G 74 [] [.inl a0] M 0 0 := by
  unfold fn12_isAhead_b74 at hres
  obtain ⟨q1, hres⟩ := am_ck_some hres
  obtain ⟨rfl, rfl⟩ := am_fin hres
  exact am_zret cx q1 dX12_isAhead_74
set_option maxRecDepth 20000 in
theorem sn12_isAhead_b0 {l : Launch} {G : am_G} {v : Int32} {M' : am_Mem}  (cx : am_Ctx l rm12_isAhead yX12_isAhead cX12_isAhead 3 (some .boolean) (some (.inl v)) M' 0 0 G)  {r0 : Nat} {x1 : Int32} {x2 : Int32} {M : am_Mem} (hres : fn12_isAhead_b0  r0 x1 x2 M = some (v, M')) : G 0 [(0, .inr (.inr (.inl r0))), (1, .inl x1), (2, .inl x2)] [] M 0 0 := by
  unfold fn12_isAhead_b0 at hres
  refine am_aload_n cx 0 dX12_isAhead_0 rfl ?_
  obtain ⟨q1, hres⟩ := am_ck_some hres
  refine am_getR cx dX12_isAhead_1 flX12_100 (am_ke q1) ?_
  refine am_bipush cx (v := (44 : Int32)) dX12_isAhead_4 (by decide) ?_
  refine am_iload_n cx 1 dX12_isAhead_6 rfl ?_
  refine am_iadd cx dX12_isAhead_7 ?_
  obtain ⟨q2, hres⟩ := am_ck_some hres
  obtain ⟨q3, hres⟩ := am_ck_some hres
  refine am_iald cx dX12_isAhead_8 (am_ke q2) q3 ?_
  refine am_aload_n cx 0 dX12_isAhead_9 rfl ?_
  refine am_getR cx dX12_isAhead_10 flX12_100 (am_ke q1) ?_
  refine am_bipush cx (v := (44 : Int32)) dX12_isAhead_13 (by decide) ?_
  refine am_iload_n cx 2 dX12_isAhead_15 rfl ?_
  refine am_iadd cx dX12_isAhead_16 ?_
  obtain ⟨q4, hres⟩ := am_ck_some hres
  refine am_iald cx dX12_isAhead_17 (am_ke q2) q4 ?_
  refine am_icmp_eq cx (tgt := 50) dX12_isAhead_18 (by decide) (fun h => ?_) (fun h => ?_)
  · have hres := am_ifp h hres
    refine am_aload_n cx 0 dX12_isAhead_50 rfl ?_
    refine am_getR cx dX12_isAhead_51 flX12_100 (am_ke q1) ?_
    refine am_iconst cx (v := (4 : Int32)) dX12_isAhead_54 (by decide) ?_
    refine am_iload_n cx 1 dX12_isAhead_55 rfl ?_
    refine am_iadd cx dX12_isAhead_56 ?_
    obtain ⟨q5, hres⟩ := am_ck_some hres
    refine am_iald cx dX12_isAhead_57 (am_ke q2) q5 ?_
    refine am_aload_n cx 0 dX12_isAhead_58 rfl ?_
    refine am_getR cx dX12_isAhead_59 flX12_100 (am_ke q1) ?_
    refine am_iconst cx (v := (4 : Int32)) dX12_isAhead_62 (by decide) ?_
    refine am_iload_n cx 2 dX12_isAhead_63 rfl ?_
    refine am_iadd cx dX12_isAhead_64 ?_
    obtain ⟨q6, hres⟩ := am_ck_some hres
    refine am_iald cx dX12_isAhead_65 (am_ke q2) q6 ?_
    refine am_icmp_ge cx (tgt := 73) dX12_isAhead_66 (by decide) (fun h => ?_) (fun h => ?_)
    · have hres := am_ifp h hres
      refine am_iconst cx (v := (0 : Int32)) dX12_isAhead_73 (by decide) ?_
      refine am_sub cx [] rfl ?_
      exact sn12_isAhead_b74 cx  hres
    · have hres := am_ifn h hres
      refine am_iconst cx (v := (1 : Int32)) dX12_isAhead_69 (by decide) ?_
      refine am_goto cx (tgt := 74) dX12_isAhead_70 (by decide) ?_
      refine am_sub cx [] rfl ?_
      exact sn12_isAhead_b74 cx  hres
  · have hres := am_ifn h hres
    refine am_aload_n cx 0 dX12_isAhead_21 rfl ?_
    refine am_getR cx dX12_isAhead_22 flX12_100 (am_ke q1) ?_
    refine am_bipush cx (v := (44 : Int32)) dX12_isAhead_25 (by decide) ?_
    refine am_iload_n cx 1 dX12_isAhead_27 rfl ?_
    refine am_iadd cx dX12_isAhead_28 ?_
    obtain ⟨q7, hres⟩ := am_ck_some hres
    refine am_iald cx dX12_isAhead_29 (am_ke q2) q7 ?_
    refine am_aload_n cx 0 dX12_isAhead_30 rfl ?_
    refine am_getR cx dX12_isAhead_31 flX12_100 (am_ke q1) ?_
    refine am_bipush cx (v := (44 : Int32)) dX12_isAhead_34 (by decide) ?_
    refine am_iload_n cx 2 dX12_isAhead_36 rfl ?_
    refine am_iadd cx dX12_isAhead_37 ?_
    obtain ⟨q8, hres⟩ := am_ck_some hres
    refine am_iald cx dX12_isAhead_38 (am_ke q2) q8 ?_
    refine am_icmp_ge cx (tgt := 46) dX12_isAhead_39 (by decide) (fun h => ?_) (fun h => ?_)
    · have hres := am_ifp h hres
      refine am_iconst cx (v := (0 : Int32)) dX12_isAhead_46 (by decide) ?_
      refine am_goto cx (tgt := 74) dX12_isAhead_47 (by decide) ?_
      refine am_sub cx [] rfl ?_
      exact sn12_isAhead_b74 cx  hres
    · have hres := am_ifn h hres
      refine am_iconst cx (v := (1 : Int32)) dX12_isAhead_42 (by decide) ?_
      refine am_goto cx (tgt := 74) dX12_isAhead_43 (by decide) ?_
      refine am_sub cx [] rfl ?_
      exact sn12_isAhead_b74 cx  hres
set_option maxRecDepth 20000 in
theorem mt12_isAhead {l : Launch} {v : Int32} {M M' : am_Mem} {r0 : Nat} {x1 : Int32} {x2 : Int32} (h : fn12_isAhead M r0 x1 x2 = some (v, M')) : am_Met l yX12_isAhead cX12_isAhead 3 (some .boolean) rm12_isAhead 0 0 [.inr (.inr (.inl r0)), .inl x1, .inl x2] M (some (.inl v)) M' := am_mk (by decide) (Nat.le_of_ble_eq_true rfl) (fun G cx => (sn12_isAhead_b0 cx h))
-- SquareCutsModel.trades
def fn12_trades_b18 (N : Nat) (k2 : Nat → Int32 → Int32 → Int32 → am_Mem → Option (Unit × am_Mem)) (r0 : Nat) (x1 : Int32) (x2 : Int32) (x3 : Int32) (x4 : Int32) (M : am_Mem) : Option (Unit × am_Mem) :=
  am_ck (am_k M r0 12) (am_ck (am_k M (am_R M r0 48) 14) (am_ck (am_in (x3 + x2) (am_L M (am_R M r0 48))) (am_ck (am_in (x3 + x1) (am_L M (am_R M r0 48))) (am_ck (am_in (x3 + x2) (am_L M (am_R M r0 48))) (k2 r0 x1 x2 (x3 + (40 : Int32)) (am_wI (am_wI M (am_R M r0 48) (x3 + x1).toNatClampNeg (am_I M (am_R M r0 48) (x3 + x2).toNatClampNeg)) (am_R M r0 48) (x3 + x2).toNatClampNeg x4))))))
def fn12_trades_b2B (N : Nat) (k2 : Nat → Int32 → Int32 → Int32 → am_Mem → Option (Unit × am_Mem)) (r0 : Nat) (x1 : Int32) (x2 : Int32) (x3 : Int32) (M : am_Mem) : Option (Unit × am_Mem) :=
  if (84 : Int32) < x3 then some ((), M) else am_ck (am_k M r0 12) (am_ck (am_k M (am_R M r0 48) 14) (am_ck (am_in (x3 + x1) (am_L M (am_R M r0 48))) (fn12_trades_b18 N k2 r0 x1 x2 x3 (am_I M (am_R M r0 48) (x3 + x1).toNatClampNeg) M)))
def fn12_trades_b2 (N : Nat)  : Nat → Nat → Int32 → Int32 → Int32 → am_Mem → Option (Unit × am_Mem)
  | 0 => fun _ _ _ _ _ => none
  | i + 1 => fn12_trades_b2B N (fn12_trades_b2 N  i)
def fn12_trades_b0 (N : Nat)  (r0 : Nat) (x1 : Int32) (x2 : Int32) (M : am_Mem) : Option (Unit × am_Mem) :=
  fn12_trades_b2 N  N r0 x1 x2 (4 : Int32) M
def fn12_trades (N : Nat) (M : am_Mem) (r0 : Nat) (x1 : Int32) (x2 : Int32) : Option (Unit × am_Mem) := fn12_trades_b0 N r0 x1 x2 M
def rm12_trades : Room := { frames := 0, cells := 0, slots := 0, locals := 0 }
set_option maxRecDepth 20000 in
theorem sn12_trades_b18 {l : Launch} {G : am_G} {M' : am_Mem} {N : Nat} {k2 : Nat → Int32 → Int32 → Int32 → am_Mem → Option (Unit × am_Mem)} (cx : am_Ctx l rm12_trades yX12_trades cX12_trades 5 none none M' 0 0 G) (hk2 : ∀ (r0 : Nat) (x1 : Int32) (x2 : Int32) (x3 : Int32) (M : am_Mem), k2 r0 x1 x2 x3 M = some ((), M') → G 2 [(0, .inr (.inr (.inl r0))), (1, .inl x1), (2, .inl x2), (3, .inl x3)] [] M 0 0) {r0 : Nat} {x1 : Int32} {x2 : Int32} {x3 : Int32} {x4 : Int32} {M : am_Mem} (hres : fn12_trades_b18 N k2 r0 x1 x2 x3 x4 M = some ((), M')) : G 18 [(0, .inr (.inr (.inl r0))), (1, .inl x1), (2, .inl x2), (3, .inl x3), (4, .inl x4)] [] M 0 0 := by
  unfold fn12_trades_b18 at hres
  refine am_aload_n cx 0 dX12_trades_18 rfl ?_
  obtain ⟨q1, hres⟩ := am_ck_some hres
  refine am_getR cx dX12_trades_19 flX12_100 (am_ke q1) ?_
  refine am_iload_n cx 3 dX12_trades_22 rfl ?_
  refine am_iload_n cx 1 dX12_trades_23 rfl ?_
  refine am_iadd cx dX12_trades_24 ?_
  refine am_aload_n cx 0 dX12_trades_25 rfl ?_
  refine am_getR cx dX12_trades_26 flX12_100 (am_ke q1) ?_
  refine am_iload_n cx 3 dX12_trades_29 rfl ?_
  refine am_iload_n cx 2 dX12_trades_30 rfl ?_
  refine am_iadd cx dX12_trades_31 ?_
  obtain ⟨q2, hres⟩ := am_ck_some hres
  obtain ⟨q3, hres⟩ := am_ck_some hres
  refine am_iald cx dX12_trades_32 (am_ke q2) q3 ?_
  obtain ⟨q4, hres⟩ := am_ck_some hres
  refine am_iast cx dX12_trades_33 (am_ke q2) q4  ?_
  refine am_aload_n cx 0 dX12_trades_34 rfl ?_
  refine am_getR cx dX12_trades_35 flX12_100 (am_ke q1) ?_
  refine am_iload_n cx 3 dX12_trades_38 rfl ?_
  refine am_iload_n cx 2 dX12_trades_39 rfl ?_
  refine am_iadd cx dX12_trades_40 ?_
  refine am_iload cx 4 dX12_trades_41 rfl ?_
  obtain ⟨q5, hres⟩ := am_ck_some hres
  refine am_iast cx dX12_trades_43 (am_ke q2) q5  ?_
  refine am_iincw cx (lv' := [(0, .inr (.inr (.inl r0))), (1, .inl x1), (2, .inl x2), (3, .inl (x3 + (40 : Int32))), (4, .inl x4)]) (w := (40 : Int32)) 3 dX12_trades_44 (by decide) rfl (Nat.le_of_ble_eq_true rfl) rfl ?_
  refine am_goto cx (tgt := 2) dX12_trades_47 (by decide) ?_
  refine am_sub cx [0, 1, 2, 3] rfl ?_
  exact hk2 _ _ _ _ _ hres
set_option maxRecDepth 20000 in
theorem sn12_trades_b2B {l : Launch} {G : am_G} {M' : am_Mem} {N : Nat} {k2 : Nat → Int32 → Int32 → Int32 → am_Mem → Option (Unit × am_Mem)} (cx : am_Ctx l rm12_trades yX12_trades cX12_trades 5 none none M' 0 0 G) (hk2 : ∀ (r0 : Nat) (x1 : Int32) (x2 : Int32) (x3 : Int32) (M : am_Mem), k2 r0 x1 x2 x3 M = some ((), M') → G 2 [(0, .inr (.inr (.inl r0))), (1, .inl x1), (2, .inl x2), (3, .inl x3)] [] M 0 0) {r0 : Nat} {x1 : Int32} {x2 : Int32} {x3 : Int32} {M : am_Mem} (hres : fn12_trades_b2B N k2 r0 x1 x2 x3 M = some ((), M')) : G 2 [(0, .inr (.inr (.inl r0))), (1, .inl x1), (2, .inl x2), (3, .inl x3)] [] M 0 0 := by
  unfold fn12_trades_b2B at hres
  refine am_iload_n cx 3 dX12_trades_2 rfl ?_
  refine am_bipush cx (v := (84 : Int32)) dX12_trades_3 (by decide) ?_
  refine am_icmp_gt cx (tgt := 50) dX12_trades_5 (by decide) (fun h => ?_) (fun h => ?_)
  · have hres := am_ifp h hres
    obtain ⟨-, rfl⟩ := am_fin hres
    exact am_vret cx dX12_trades_50
  · have hres := am_ifn h hres
    refine am_aload_n cx 0 dX12_trades_8 rfl ?_
    obtain ⟨q1, hres⟩ := am_ck_some hres
    refine am_getR cx dX12_trades_9 flX12_100 (am_ke q1) ?_
    refine am_iload_n cx 3 dX12_trades_12 rfl ?_
    refine am_iload_n cx 1 dX12_trades_13 rfl ?_
    refine am_iadd cx dX12_trades_14 ?_
    obtain ⟨q2, hres⟩ := am_ck_some hres
    obtain ⟨q3, hres⟩ := am_ck_some hres
    refine am_iald cx dX12_trades_15 (am_ke q2) q3 ?_
    refine am_istore cx (lv' := [(0, .inr (.inr (.inl r0))), (1, .inl x1), (2, .inl x2), (3, .inl x3), (4, .inl (am_I M (am_R M r0 48) (x3 + x1).toNatClampNeg))]) dX12_trades_16 (Nat.le_of_ble_eq_true rfl) rfl ?_
    exact sn12_trades_b18 cx hk2 hres
set_option maxRecDepth 20000 in
theorem sn12_trades_b2 {l : Launch} {G : am_G} {M' : am_Mem} {N : Nat}  (cx : am_Ctx l rm12_trades yX12_trades cX12_trades 5 none none M' 0 0 G)  (i : Nat) : ∀ (r0 : Nat) (x1 : Int32) (x2 : Int32) (x3 : Int32) (M : am_Mem), fn12_trades_b2 N  i r0 x1 x2 x3 M = some ((), M') → G 2 [(0, .inr (.inr (.inl r0))), (1, .inl x1), (2, .inl x2), (3, .inl x3)] [] M 0 0 := by
  induction i with
  | zero => intro r0 x1 x2 x3 M hres; exact am_no hres
  | succ i ih => intro r0 x1 x2 x3 M hres; exact sn12_trades_b2B cx ih hres
set_option maxRecDepth 20000 in
theorem sn12_trades_b0 {l : Launch} {G : am_G} {M' : am_Mem} {N : Nat}  (cx : am_Ctx l rm12_trades yX12_trades cX12_trades 5 none none M' 0 0 G)  {r0 : Nat} {x1 : Int32} {x2 : Int32} {M : am_Mem} (hres : fn12_trades_b0 N  r0 x1 x2 M = some ((), M')) : G 0 [(0, .inr (.inr (.inl r0))), (1, .inl x1), (2, .inl x2)] [] M 0 0 := by
  unfold fn12_trades_b0 at hres
  refine am_iconst cx (v := (4 : Int32)) dX12_trades_0 (by decide) ?_
  refine am_istore_n cx (lv' := [(0, .inr (.inr (.inl r0))), (1, .inl x1), (2, .inl x2), (3, .inl (4 : Int32))]) dX12_trades_1 (Nat.le_of_ble_eq_true rfl) rfl ?_
  exact sn12_trades_b2 cx  N _ _ _ _ _ hres
set_option maxRecDepth 20000 in
theorem mt12_trades {l : Launch} {M M' : am_Mem} {N : Nat} {r0 : Nat} {x1 : Int32} {x2 : Int32} (h : fn12_trades N M r0 x1 x2 = some ((), M')) : am_Met l yX12_trades cX12_trades 5 none rm12_trades 0 0 [.inr (.inr (.inl r0)), .inl x1, .inl x2] M none M' := am_mk (by decide) (Nat.le_of_ble_eq_true rfl) (fun G cx => (sn12_trades_b0 cx h))
-- SquareCutsModel.canMake
def fn12_canMake_b30  (a0 : Int32) (M : am_Mem) : Option (Int32 × am_Mem) :=
  am_ck (a0 == 0 || a0 == 1) (some (a0, M))
def fn12_canMake_b29   (M : am_Mem) : Option (Int32 × am_Mem) :=
  fn12_canMake_b30  (0 : Int32) M
def fn12_canMake_b0  (r0 : Nat) (x1 : Int32) (M : am_Mem) : Option (Int32 × am_Mem) :=
  am_ck (am_k M r0 12) (am_bd (fn12_isRect M r0 x1) (fun v2 M3 => if v2 = 0 then fn12_canMake_b29   M3 else am_ck (am_k M3 r0 12) (am_bd (fn12_doesFail M3 r0 x1) (fun v6 M7 => if v6 = 0 then am_ck (am_k M7 r0 12) (if (12 : Int32) ≤ (am_I M7 r0 18) then fn12_canMake_b29   M7 else fn12_canMake_b30  (1 : Int32) M7) else fn12_canMake_b29   M7))))
def fn12_canMake (M : am_Mem) (r0 : Nat) (x1 : Int32) : Option (Int32 × am_Mem) := fn12_canMake_b0  r0 x1 M
def rm12_canMake : Room := { frames := 2, cells := 0, slots := 0, locals := 46 }
set_option maxRecDepth 20000 in
theorem sn12_canMake_b30 {l : Launch} {G : am_G} {v : Int32} {M' : am_Mem}  (cx : am_Ctx l rm12_canMake yX12_canMake cX12_canMake 2 (some .boolean) (some (.inl v)) M' 0 0 G)  {a0 : Int32} {M : am_Mem} (hres : fn12_canMake_b30  a0 M = some (v, M')) : G 30 [] [.inl a0] M 0 0 := by
  unfold fn12_canMake_b30 at hres
  obtain ⟨q1, hres⟩ := am_ck_some hres
  obtain ⟨rfl, rfl⟩ := am_fin hres
  exact am_zret cx q1 dX12_canMake_30
set_option maxRecDepth 20000 in
theorem sn12_canMake_b29 {l : Launch} {G : am_G} {v : Int32} {M' : am_Mem}  (cx : am_Ctx l rm12_canMake yX12_canMake cX12_canMake 2 (some .boolean) (some (.inl v)) M' 0 0 G)   {M : am_Mem} (hres : fn12_canMake_b29   M = some (v, M')) : G 29 [] [] M 0 0 := by
  unfold fn12_canMake_b29 at hres
  refine am_iconst cx (v := (0 : Int32)) dX12_canMake_29 (by decide) ?_
  exact sn12_canMake_b30 cx  hres
set_option maxRecDepth 20000 in
theorem sn12_canMake_b0 {l : Launch} {G : am_G} {v : Int32} {M' : am_Mem}  (cx : am_Ctx l rm12_canMake yX12_canMake cX12_canMake 2 (some .boolean) (some (.inl v)) M' 0 0 G)  {r0 : Nat} {x1 : Int32} {M : am_Mem} (hres : fn12_canMake_b0  r0 x1 M = some (v, M')) : G 0 [(0, .inr (.inr (.inl r0))), (1, .inl x1)] [] M 0 0 := by
  unfold fn12_canMake_b0 at hres
  refine am_aload_n cx 0 dX12_canMake_0 rfl ?_
  refine am_iload_n cx 1 dX12_canMake_1 rfl ?_
  obtain ⟨q1, hres⟩ := am_ck_some hres
  obtain ⟨v2, M3, q4, hres⟩ := am_bd_some hres
  refine am_callV1 cx [.inl x1] dX12_canMake_2 cvX12_316 (mt12_isRect q4) (am_ke q1) ⟨rfl, rfl, Nat.le_of_ble_eq_true rfl, Nat.le_of_ble_eq_true rfl⟩ rfl (Nat.le_of_ble_eq_true rfl) ⟨Nat.le_of_ble_eq_true rfl, Nat.le_of_ble_eq_true rfl⟩ ?_
  refine am_if_eq cx (tgt := 29) dX12_canMake_5 (by decide) (fun h => ?_) (fun h => ?_)
  · have hres := am_ifp h hres
    refine am_sub cx [] rfl ?_
    exact sn12_canMake_b29 cx  hres
  · have hres := am_ifn h hres
    refine am_aload_n cx 0 dX12_canMake_8 rfl ?_
    refine am_iload_n cx 1 dX12_canMake_9 rfl ?_
    obtain ⟨q5, hres⟩ := am_ck_some hres
    obtain ⟨v6, M7, q8, hres⟩ := am_bd_some hres
    refine am_callV1 cx [.inl x1] dX12_canMake_10 cvX12_325 (mt12_doesFail q8) (am_ke q5) ⟨rfl, rfl, Nat.le_of_ble_eq_true rfl, Nat.le_of_ble_eq_true rfl⟩ rfl (Nat.le_of_ble_eq_true rfl) ⟨Nat.le_of_ble_eq_true rfl, Nat.le_of_ble_eq_true rfl⟩ ?_
    refine am_if_ne cx (tgt := 29) dX12_canMake_13 (by decide) (fun h => ?_) (fun h => ?_)
    · have hres := am_ifn h hres
      refine am_sub cx [] rfl ?_
      exact sn12_canMake_b29 cx  hres
    · have hres := am_ifp h hres
      refine am_aload_n cx 0 dX12_canMake_16 rfl ?_
      obtain ⟨q9, hres⟩ := am_ck_some hres
      refine am_getI cx dX12_canMake_17 flX12_285 (am_ke q9) ?_
      refine am_bipush cx (v := (12 : Int32)) dX12_canMake_20 (by decide) ?_
      refine am_icmp_ge cx (tgt := 29) dX12_canMake_22 (by decide) (fun h => ?_) (fun h => ?_)
      · have hres := am_ifp h hres
        refine am_sub cx [] rfl ?_
        exact sn12_canMake_b29 cx  hres
      · have hres := am_ifn h hres
        refine am_iconst cx (v := (1 : Int32)) dX12_canMake_25 (by decide) ?_
        refine am_goto cx (tgt := 30) dX12_canMake_26 (by decide) ?_
        refine am_sub cx [] rfl ?_
        exact sn12_canMake_b30 cx  hres
set_option maxRecDepth 20000 in
theorem mt12_canMake {l : Launch} {v : Int32} {M M' : am_Mem} {r0 : Nat} {x1 : Int32} (h : fn12_canMake M r0 x1 = some (v, M')) : am_Met l yX12_canMake cX12_canMake 2 (some .boolean) rm12_canMake 0 0 [.inr (.inr (.inl r0)), .inl x1] M (some (.inl v)) M' := am_mk (by decide) (Nat.le_of_ble_eq_true rfl) (fun G cx => (sn12_canMake_b0 cx h))
-- SquareCutsModel.makes
def fn12_makes_b116 (N : Nat)  (c0 : Nat) (a1 : Int32) (r0 : Nat) (M : am_Mem) : Option (Int32 × am_Mem) :=
  am_ck (am_k M c0 12) (am_ck (am_k M r0 12) (some (((am_I (am_wI M c0 19 a1) r0 18) - (1 : Int32)), (am_wI M c0 19 a1))))
def fn12_makes_b51B (N : Nat) (k51 : Nat → Int32 → am_Mem → Option (Int32 × am_Mem)) (r0 : Nat) (x1 : Int32) (M : am_Mem) : Option (Int32 × am_Mem) :=
  if (124 : Int32) ≤ x1 then am_ck (am_k M r0 12) (if (12 : Int32) ≤ (am_I (am_wI M r0 18 ((am_I M r0 18) + (1 : Int32))) r0 19) then fn12_makes_b116 N  r0 (am_I (am_wI M r0 18 ((am_I M r0 18) + (1 : Int32))) r0 19) r0 (am_wI M r0 18 ((am_I M r0 18) + (1 : Int32))) else fn12_makes_b116 N  r0 ((am_I (am_wI M r0 18 ((am_I M r0 18) + (1 : Int32))) r0 19) + (1 : Int32)) r0 (am_wI M r0 18 ((am_I M r0 18) + (1 : Int32)))) else am_ck (am_k M r0 12) (am_ck (am_k M (am_R M r0 48) 14) (am_ck (am_in x1 (am_L M (am_R M r0 48))) (am_ck (am_k M (am_R M r0 17) 14) (am_ck (am_in (((124 : Int32) * (am_I M r0 18)) + x1) (am_L M (am_R M r0 17))) (k51 r0 (x1 + (1 : Int32)) (am_wI M (am_R M r0 17) (((124 : Int32) * (am_I M r0 18)) + x1).toNatClampNeg (am_I M (am_R M r0 48) x1.toNatClampNeg)))))))
def fn12_makes_b51 (N : Nat)  : Nat → Nat → Int32 → am_Mem → Option (Int32 × am_Mem)
  | 0 => fun _ _ _ => none
  | i + 1 => fn12_makes_b51B N (fn12_makes_b51 N  i)
def fn12_makes_b43 (N : Nat) (k2 : Nat → Int32 → am_Mem → Option (Int32 × am_Mem)) (r0 : Nat) (x1 : Int32) (M : am_Mem) : Option (Int32 × am_Mem) :=
  k2 r0 (x1 + (1 : Int32)) M
def fn12_makes_b14B (N : Nat) (k2 : Nat → Int32 → am_Mem → Option (Int32 × am_Mem)) (k14 : Nat → Int32 → Int32 → am_Mem → Option (Int32 × am_Mem)) (r0 : Nat) (x1 : Int32) (x2 : Int32) (M : am_Mem) : Option (Int32 × am_Mem) :=
  if x2 ≤ 0 then fn12_makes_b43 N k2 r0 x1 M else am_ck (am_k M r0 12) (am_bd (fn12_isAhead M r0 x2 (x2 - (1 : Int32))) (fun v2 M3 => if v2 = 0 then fn12_makes_b43 N k2 r0 x1 M3 else am_ck (am_k M3 r0 12) (am_bd (fn12_trades N M3 r0 x2 (x2 - (1 : Int32))) (fun v6 M7 => k14 r0 x1 (x2 + (-1 : Int32)) M7))))
def fn12_makes_b14 (N : Nat) (k2 : Nat → Int32 → am_Mem → Option (Int32 × am_Mem)) : Nat → Nat → Int32 → Int32 → am_Mem → Option (Int32 × am_Mem)
  | 0 => fun _ _ _ _ => none
  | i + 1 => fn12_makes_b14B N k2 (fn12_makes_b14 N k2 i)
def fn12_makes_b2B (N : Nat) (k2 : Nat → Int32 → am_Mem → Option (Int32 × am_Mem)) (r0 : Nat) (x1 : Int32) (M : am_Mem) : Option (Int32 × am_Mem) :=
  am_ck (am_k M r0 12) (am_ck (am_k M (am_R M r0 48) 14) (am_ck (am_in (0 : Int32) (am_L M (am_R M r0 48))) (if (am_I M (am_R M r0 48) (0 : Int32).toNatClampNeg) ≤ x1 then fn12_makes_b51 N  N r0 (0 : Int32) M else fn12_makes_b14 N k2 N r0 x1 x1 M)))
def fn12_makes_b2 (N : Nat)  : Nat → Nat → Int32 → am_Mem → Option (Int32 × am_Mem)
  | 0 => fun _ _ _ => none
  | i + 1 => fn12_makes_b2B N (fn12_makes_b2 N  i)
def fn12_makes_b0 (N : Nat)  (r0 : Nat) (M : am_Mem) : Option (Int32 × am_Mem) :=
  fn12_makes_b2 N  N r0 (1 : Int32) M
def fn12_makes (N : Nat) (M : am_Mem) (r0 : Nat) : Option (Int32 × am_Mem) := fn12_makes_b0 N r0 M
def rm12_makes : Room := { frames := 1, cells := 0, slots := 0, locals := 24 }
set_option maxRecDepth 20000 in
theorem sn12_makes_b116 {l : Launch} {G : am_G} {v : Int32} {M' : am_Mem} {N : Nat}  (cx : am_Ctx l rm12_makes yX12_makes cX12_makes 3 (some .int) (some (.inl v)) M' 0 0 G)  {c0 : Nat} {a1 : Int32} {r0 : Nat} {M : am_Mem} (hres : fn12_makes_b116 N  c0 a1 r0 M = some (v, M')) : G 116 [(0, .inr (.inr (.inl r0)))] [.inl a1, .inr (.inr (.inl c0))] M 0 0 := by
  unfold fn12_makes_b116 at hres
  obtain ⟨q1, hres⟩ := am_ck_some hres
  refine am_putI cx dX12_makes_116 fpX12_297 (fun h => by cases h) (am_ke q1) ?_
  refine am_aload_n cx 0 dX12_makes_119 rfl ?_
  obtain ⟨q2, hres⟩ := am_ck_some hres
  refine am_getI cx dX12_makes_120 flX12_285 (am_ke q2) ?_
  refine am_iconst cx (v := (1 : Int32)) dX12_makes_123 (by decide) ?_
  refine am_isub cx dX12_makes_124 ?_
  obtain ⟨rfl, rfl⟩ := am_fin hres
  exact am_iret cx dX12_makes_125
set_option maxRecDepth 20000 in
theorem sn12_makes_b51B {l : Launch} {G : am_G} {v : Int32} {M' : am_Mem} {N : Nat} {k51 : Nat → Int32 → am_Mem → Option (Int32 × am_Mem)} (cx : am_Ctx l rm12_makes yX12_makes cX12_makes 3 (some .int) (some (.inl v)) M' 0 0 G) (hk51 : ∀ (r0 : Nat) (x1 : Int32) (M : am_Mem), k51 r0 x1 M = some (v, M') → G 51 [(0, .inr (.inr (.inl r0))), (1, .inl x1)] [] M 0 0) {r0 : Nat} {x1 : Int32} {M : am_Mem} (hres : fn12_makes_b51B N k51 r0 x1 M = some (v, M')) : G 51 [(0, .inr (.inr (.inl r0))), (1, .inl x1)] [] M 0 0 := by
  unfold fn12_makes_b51B at hres
  refine am_iload_n cx 1 dX12_makes_51 rfl ?_
  refine am_bipush cx (v := (124 : Int32)) dX12_makes_52 (by decide) ?_
  refine am_icmp_ge cx (tgt := 83) dX12_makes_54 (by decide) (fun h => ?_) (fun h => ?_)
  · have hres := am_ifp h hres
    refine am_aload_n cx 0 dX12_makes_83 rfl ?_
    refine am_dup cx dX12_makes_84 rfl ?_
    obtain ⟨q1, hres⟩ := am_ck_some hres
    refine am_getI cx dX12_makes_85 flX12_285 (am_ke q1) ?_
    refine am_iconst cx (v := (1 : Int32)) dX12_makes_88 (by decide) ?_
    refine am_iadd cx dX12_makes_89 ?_
    refine am_putI cx dX12_makes_90 fpX12_285 (fun h => by cases h) (am_ke q1) ?_
    refine am_aload_n cx 0 dX12_makes_93 rfl ?_
    refine am_aload_n cx 0 dX12_makes_94 rfl ?_
    refine am_getI cx dX12_makes_95 flX12_297 (am_ke q1) ?_
    refine am_bipush cx (v := (12 : Int32)) dX12_makes_98 (by decide) ?_
    refine am_icmp_ge cx (tgt := 112) dX12_makes_100 (by decide) (fun h => ?_) (fun h => ?_)
    · have hres := am_ifp h hres
      refine am_aload_n cx 0 dX12_makes_112 rfl ?_
      refine am_getI cx dX12_makes_113 flX12_297 (am_ke q1) ?_
      refine am_sub cx [0] rfl ?_
      exact sn12_makes_b116 cx  hres
    · have hres := am_ifn h hres
      refine am_aload_n cx 0 dX12_makes_103 rfl ?_
      refine am_getI cx dX12_makes_104 flX12_297 (am_ke q1) ?_
      refine am_iconst cx (v := (1 : Int32)) dX12_makes_107 (by decide) ?_
      refine am_iadd cx dX12_makes_108 ?_
      refine am_goto cx (tgt := 116) dX12_makes_109 (by decide) ?_
      refine am_sub cx [0] rfl ?_
      exact sn12_makes_b116 cx  hres
  · have hres := am_ifn h hres
    refine am_aload_n cx 0 dX12_makes_57 rfl ?_
    obtain ⟨q2, hres⟩ := am_ck_some hres
    refine am_getR cx dX12_makes_58 flX12_30 (am_ke q2) ?_
    refine am_bipush cx (v := (124 : Int32)) dX12_makes_61 (by decide) ?_
    refine am_aload_n cx 0 dX12_makes_63 rfl ?_
    refine am_getI cx dX12_makes_64 flX12_285 (am_ke q2) ?_
    refine am_imul cx dX12_makes_67 ?_
    refine am_iload_n cx 1 dX12_makes_68 rfl ?_
    refine am_iadd cx dX12_makes_69 ?_
    refine am_aload_n cx 0 dX12_makes_70 rfl ?_
    refine am_getR cx dX12_makes_71 flX12_100 (am_ke q2) ?_
    refine am_iload_n cx 1 dX12_makes_74 rfl ?_
    obtain ⟨q3, hres⟩ := am_ck_some hres
    obtain ⟨q4, hres⟩ := am_ck_some hres
    refine am_iald cx dX12_makes_75 (am_ke q3) q4 ?_
    obtain ⟨q5, hres⟩ := am_ck_some hres
    obtain ⟨q6, hres⟩ := am_ck_some hres
    refine am_iast cx dX12_makes_76 (am_ke q5) q6  ?_
    refine am_iincw cx (lv' := [(0, .inr (.inr (.inl r0))), (1, .inl (x1 + (1 : Int32)))]) (w := (1 : Int32)) 1 dX12_makes_77 (by decide) rfl (Nat.le_of_ble_eq_true rfl) rfl ?_
    refine am_goto cx (tgt := 51) dX12_makes_80 (by decide) ?_
    exact hk51 _ _ _ hres
set_option maxRecDepth 20000 in
theorem sn12_makes_b51 {l : Launch} {G : am_G} {v : Int32} {M' : am_Mem} {N : Nat}  (cx : am_Ctx l rm12_makes yX12_makes cX12_makes 3 (some .int) (some (.inl v)) M' 0 0 G)  (i : Nat) : ∀ (r0 : Nat) (x1 : Int32) (M : am_Mem), fn12_makes_b51 N  i r0 x1 M = some (v, M') → G 51 [(0, .inr (.inr (.inl r0))), (1, .inl x1)] [] M 0 0 := by
  induction i with
  | zero => intro r0 x1 M hres; exact am_no hres
  | succ i ih => intro r0 x1 M hres; exact sn12_makes_b51B cx ih hres
set_option maxRecDepth 20000 in
theorem sn12_makes_b43 {l : Launch} {G : am_G} {v : Int32} {M' : am_Mem} {N : Nat} {k2 : Nat → Int32 → am_Mem → Option (Int32 × am_Mem)} (cx : am_Ctx l rm12_makes yX12_makes cX12_makes 3 (some .int) (some (.inl v)) M' 0 0 G) (hk2 : ∀ (r0 : Nat) (x1 : Int32) (M : am_Mem), k2 r0 x1 M = some (v, M') → G 2 [(0, .inr (.inr (.inl r0))), (1, .inl x1)] [] M 0 0) {r0 : Nat} {x1 : Int32} {M : am_Mem} (hres : fn12_makes_b43 N k2 r0 x1 M = some (v, M')) : G 43 [(0, .inr (.inr (.inl r0))), (1, .inl x1)] [] M 0 0 := by
  unfold fn12_makes_b43 at hres
  refine am_iincw cx (lv' := [(0, .inr (.inr (.inl r0))), (1, .inl (x1 + (1 : Int32)))]) (w := (1 : Int32)) 1 dX12_makes_43 (by decide) rfl (Nat.le_of_ble_eq_true rfl) rfl ?_
  refine am_goto cx (tgt := 2) dX12_makes_46 (by decide) ?_
  exact hk2 _ _ _ hres
set_option maxRecDepth 20000 in
theorem sn12_makes_b14B {l : Launch} {G : am_G} {v : Int32} {M' : am_Mem} {N : Nat} {k2 : Nat → Int32 → am_Mem → Option (Int32 × am_Mem)} {k14 : Nat → Int32 → Int32 → am_Mem → Option (Int32 × am_Mem)} (cx : am_Ctx l rm12_makes yX12_makes cX12_makes 3 (some .int) (some (.inl v)) M' 0 0 G) (hk2 : ∀ (r0 : Nat) (x1 : Int32) (M : am_Mem), k2 r0 x1 M = some (v, M') → G 2 [(0, .inr (.inr (.inl r0))), (1, .inl x1)] [] M 0 0) (hk14 : ∀ (r0 : Nat) (x1 : Int32) (x2 : Int32) (M : am_Mem), k14 r0 x1 x2 M = some (v, M') → G 14 [(0, .inr (.inr (.inl r0))), (1, .inl x1), (2, .inl x2)] [] M 0 0) {r0 : Nat} {x1 : Int32} {x2 : Int32} {M : am_Mem} (hres : fn12_makes_b14B N k2 k14 r0 x1 x2 M = some (v, M')) : G 14 [(0, .inr (.inr (.inl r0))), (1, .inl x1), (2, .inl x2)] [] M 0 0 := by
  unfold fn12_makes_b14B at hres
  refine am_iload_n cx 2 dX12_makes_14 rfl ?_
  refine am_if_le cx (tgt := 43) dX12_makes_15 (by decide) (fun h => ?_) (fun h => ?_)
  · have hres := am_ifp h hres
    refine am_sub cx [0, 1] rfl ?_
    exact sn12_makes_b43 cx hk2 hres
  · have hres := am_ifn h hres
    refine am_aload_n cx 0 dX12_makes_18 rfl ?_
    refine am_iload_n cx 2 dX12_makes_19 rfl ?_
    refine am_iload_n cx 2 dX12_makes_20 rfl ?_
    refine am_iconst cx (v := (1 : Int32)) dX12_makes_21 (by decide) ?_
    refine am_isub cx dX12_makes_22 ?_
    obtain ⟨q1, hres⟩ := am_ck_some hres
    obtain ⟨v2, M3, q4, hres⟩ := am_bd_some hres
    refine am_callV1 cx [.inl x2, .inl (x2 - (1 : Int32))] dX12_makes_23 cvX12_389 (mt12_isAhead q4) (am_ke q1) ⟨rfl, rfl, Nat.le_of_ble_eq_true rfl, Nat.le_of_ble_eq_true rfl⟩ rfl (Nat.le_of_ble_eq_true rfl) ⟨Nat.le_of_ble_eq_true rfl, Nat.le_of_ble_eq_true rfl⟩ ?_
    refine am_if_eq cx (tgt := 43) dX12_makes_26 (by decide) (fun h => ?_) (fun h => ?_)
    · have hres := am_ifp h hres
      refine am_sub cx [0, 1] rfl ?_
      exact sn12_makes_b43 cx hk2 hres
    · have hres := am_ifn h hres
      refine am_aload_n cx 0 dX12_makes_29 rfl ?_
      refine am_iload_n cx 2 dX12_makes_30 rfl ?_
      refine am_iload_n cx 2 dX12_makes_31 rfl ?_
      refine am_iconst cx (v := (1 : Int32)) dX12_makes_32 (by decide) ?_
      refine am_isub cx dX12_makes_33 ?_
      obtain ⟨q5, hres⟩ := am_ck_some hres
      obtain ⟨v6, M7, q8, hres⟩ := am_bd_some hres
      refine am_callV0 cx [.inl x2, .inl (x2 - (1 : Int32))] dX12_makes_34 cvX12_392 (mt12_trades q8) (am_ke q5) ⟨rfl, rfl, Nat.le_of_ble_eq_true rfl, Nat.le_of_ble_eq_true rfl⟩ rfl (Nat.le_of_ble_eq_true rfl) ⟨Nat.le_of_ble_eq_true rfl, Nat.le_of_ble_eq_true rfl⟩ ?_
      refine am_iincw cx (lv' := [(0, .inr (.inr (.inl r0))), (1, .inl x1), (2, .inl (x2 + (-1 : Int32)))]) (w := (-1 : Int32)) 2 dX12_makes_37 (by decide) rfl (Nat.le_of_ble_eq_true rfl) rfl ?_
      refine am_goto cx (tgt := 14) dX12_makes_40 (by decide) ?_
      exact hk14 _ _ _ _ hres
set_option maxRecDepth 20000 in
theorem sn12_makes_b14 {l : Launch} {G : am_G} {v : Int32} {M' : am_Mem} {N : Nat} {k2 : Nat → Int32 → am_Mem → Option (Int32 × am_Mem)} (cx : am_Ctx l rm12_makes yX12_makes cX12_makes 3 (some .int) (some (.inl v)) M' 0 0 G) (hk2 : ∀ (r0 : Nat) (x1 : Int32) (M : am_Mem), k2 r0 x1 M = some (v, M') → G 2 [(0, .inr (.inr (.inl r0))), (1, .inl x1)] [] M 0 0) (i : Nat) : ∀ (r0 : Nat) (x1 : Int32) (x2 : Int32) (M : am_Mem), fn12_makes_b14 N k2 i r0 x1 x2 M = some (v, M') → G 14 [(0, .inr (.inr (.inl r0))), (1, .inl x1), (2, .inl x2)] [] M 0 0 := by
  induction i with
  | zero => intro r0 x1 x2 M hres; exact am_no hres
  | succ i ih => intro r0 x1 x2 M hres; exact sn12_makes_b14B cx hk2 ih hres
set_option maxRecDepth 20000 in
theorem sn12_makes_b2B {l : Launch} {G : am_G} {v : Int32} {M' : am_Mem} {N : Nat} {k2 : Nat → Int32 → am_Mem → Option (Int32 × am_Mem)} (cx : am_Ctx l rm12_makes yX12_makes cX12_makes 3 (some .int) (some (.inl v)) M' 0 0 G) (hk2 : ∀ (r0 : Nat) (x1 : Int32) (M : am_Mem), k2 r0 x1 M = some (v, M') → G 2 [(0, .inr (.inr (.inl r0))), (1, .inl x1)] [] M 0 0) {r0 : Nat} {x1 : Int32} {M : am_Mem} (hres : fn12_makes_b2B N k2 r0 x1 M = some (v, M')) : G 2 [(0, .inr (.inr (.inl r0))), (1, .inl x1)] [] M 0 0 := by
  unfold fn12_makes_b2B at hres
  refine am_iload_n cx 1 dX12_makes_2 rfl ?_
  refine am_aload_n cx 0 dX12_makes_3 rfl ?_
  obtain ⟨q1, hres⟩ := am_ck_some hres
  refine am_getR cx dX12_makes_4 flX12_100 (am_ke q1) ?_
  refine am_iconst cx (v := (0 : Int32)) dX12_makes_7 (by decide) ?_
  obtain ⟨q2, hres⟩ := am_ck_some hres
  obtain ⟨q3, hres⟩ := am_ck_some hres
  refine am_iald cx dX12_makes_8 (am_ke q2) q3 ?_
  refine am_icmp_ge cx (tgt := 49) dX12_makes_9 (by decide) (fun h => ?_) (fun h => ?_)
  · have hres := am_ifp h hres
    refine am_iconst cx (v := (0 : Int32)) dX12_makes_49 (by decide) ?_
    refine am_istore_n cx (lv' := [(0, .inr (.inr (.inl r0))), (1, .inl (0 : Int32))]) dX12_makes_50 (Nat.le_of_ble_eq_true rfl) rfl ?_
    exact sn12_makes_b51 cx  N _ _ _ hres
  · have hres := am_ifn h hres
    refine am_iload_n cx 1 dX12_makes_12 rfl ?_
    refine am_istore_n cx (lv' := [(0, .inr (.inr (.inl r0))), (1, .inl x1), (2, .inl x1)]) dX12_makes_13 (Nat.le_of_ble_eq_true rfl) rfl ?_
    exact sn12_makes_b14 cx hk2 N _ _ _ _ hres
set_option maxRecDepth 20000 in
theorem sn12_makes_b2 {l : Launch} {G : am_G} {v : Int32} {M' : am_Mem} {N : Nat}  (cx : am_Ctx l rm12_makes yX12_makes cX12_makes 3 (some .int) (some (.inl v)) M' 0 0 G)  (i : Nat) : ∀ (r0 : Nat) (x1 : Int32) (M : am_Mem), fn12_makes_b2 N  i r0 x1 M = some (v, M') → G 2 [(0, .inr (.inr (.inl r0))), (1, .inl x1)] [] M 0 0 := by
  induction i with
  | zero => intro r0 x1 M hres; exact am_no hres
  | succ i ih => intro r0 x1 M hres; exact sn12_makes_b2B cx ih hres
set_option maxRecDepth 20000 in
theorem sn12_makes_b0 {l : Launch} {G : am_G} {v : Int32} {M' : am_Mem} {N : Nat}  (cx : am_Ctx l rm12_makes yX12_makes cX12_makes 3 (some .int) (some (.inl v)) M' 0 0 G)  {r0 : Nat} {M : am_Mem} (hres : fn12_makes_b0 N  r0 M = some (v, M')) : G 0 [(0, .inr (.inr (.inl r0)))] [] M 0 0 := by
  unfold fn12_makes_b0 at hres
  refine am_iconst cx (v := (1 : Int32)) dX12_makes_0 (by decide) ?_
  refine am_istore_n cx (lv' := [(0, .inr (.inr (.inl r0))), (1, .inl (1 : Int32))]) dX12_makes_1 (Nat.le_of_ble_eq_true rfl) rfl ?_
  exact sn12_makes_b2 cx  N _ _ _ hres
set_option maxRecDepth 20000 in
theorem mt12_makes {l : Launch} {v : Int32} {M M' : am_Mem} {N : Nat} {r0 : Nat} (h : fn12_makes N M r0 = some (v, M')) : am_Met l yX12_makes cX12_makes 3 (some .int) rm12_makes 0 0 [.inr (.inr (.inl r0))] M (some (.inl v)) M' := am_mk (by decide) (Nat.le_of_ble_eq_true rfl) (fun G cx => (sn12_makes_b0 cx h))
-- SquareCutsModel.mayGrow
def fn12_mayGrow_b37  (a0 : Int32) (M : am_Mem) : Option (Int32 × am_Mem) :=
  am_ck (a0 == 0 || a0 == 1) (some (a0, M))
def fn12_mayGrow_b36   (M : am_Mem) : Option (Int32 × am_Mem) :=
  fn12_mayGrow_b37  (0 : Int32) M
def fn12_mayGrow_b0  (r0 : Nat) (j1 : Int64) (M : am_Mem) : Option (Int32 × am_Mem) :=
  am_ck (am_k M r0 12) (am_ck (am_k M (am_R M r0 48) 14) (am_ck (am_in (1 : Int32) (am_L M (am_R M r0 48))) (if 0 < (lg_cmp ((am_I M (am_R M r0 48) (1 : Int32).toNatClampNeg).toInt64 * j1) (1000000000 : Int64)) then fn12_mayGrow_b36   M else am_ck (am_in (2 : Int32) (am_L M (am_R M r0 48))) (if 0 < (lg_cmp ((am_I M (am_R M r0 48) (2 : Int32).toNatClampNeg).toInt64 * j1) (1000000000 : Int64)) then fn12_mayGrow_b36   M else fn12_mayGrow_b37  (1 : Int32) M))))
def fn12_mayGrow (M : am_Mem) (r0 : Nat) (j1 : Int64) : Option (Int32 × am_Mem) := fn12_mayGrow_b0  r0 j1 M
def rm12_mayGrow : Room := { frames := 0, cells := 0, slots := 0, locals := 0 }
set_option maxRecDepth 20000 in
theorem sn12_mayGrow_b37 {l : Launch} {G : am_G} {v : Int32} {M' : am_Mem}  (cx : am_Ctx l rm12_mayGrow yX12_mayGrow cX12_mayGrow 3 (some .boolean) (some (.inl v)) M' 0 0 G)  {a0 : Int32} {M : am_Mem} (hres : fn12_mayGrow_b37  a0 M = some (v, M')) : G 37 [] [.inl a0] M 0 0 := by
  unfold fn12_mayGrow_b37 at hres
  obtain ⟨q1, hres⟩ := am_ck_some hres
  obtain ⟨rfl, rfl⟩ := am_fin hres
  exact am_zret cx q1 dX12_mayGrow_37
set_option maxRecDepth 20000 in
theorem sn12_mayGrow_b36 {l : Launch} {G : am_G} {v : Int32} {M' : am_Mem}  (cx : am_Ctx l rm12_mayGrow yX12_mayGrow cX12_mayGrow 3 (some .boolean) (some (.inl v)) M' 0 0 G)   {M : am_Mem} (hres : fn12_mayGrow_b36   M = some (v, M')) : G 36 [] [] M 0 0 := by
  unfold fn12_mayGrow_b36 at hres
  refine am_iconst cx (v := (0 : Int32)) dX12_mayGrow_36 (by decide) ?_
  exact sn12_mayGrow_b37 cx  hres
set_option maxRecDepth 20000 in
theorem sn12_mayGrow_b0 {l : Launch} {G : am_G} {v : Int32} {M' : am_Mem}  (cx : am_Ctx l rm12_mayGrow yX12_mayGrow cX12_mayGrow 3 (some .boolean) (some (.inl v)) M' 0 0 G)  {r0 : Nat} {j1 : Int64} {M : am_Mem} (hres : fn12_mayGrow_b0  r0 j1 M = some (v, M')) : G 0 [(0, .inr (.inr (.inl r0))), (1, .inr (.inl j1))] [] M 0 0 := by
  unfold fn12_mayGrow_b0 at hres
  refine am_aload_n cx 0 dX12_mayGrow_0 rfl ?_
  obtain ⟨q1, hres⟩ := am_ck_some hres
  refine am_getR cx dX12_mayGrow_1 flX12_100 (am_ke q1) ?_
  refine am_iconst cx (v := (1 : Int32)) dX12_mayGrow_4 (by decide) ?_
  obtain ⟨q2, hres⟩ := am_ck_some hres
  obtain ⟨q3, hres⟩ := am_ck_some hres
  refine am_iald cx dX12_mayGrow_5 (am_ke q2) q3 ?_
  refine am_i2l cx dX12_mayGrow_6 ?_
  refine am_lload_n cx 1 dX12_mayGrow_7 rfl ?_
  refine am_lmul cx dX12_mayGrow_8 ?_
  refine am_ldc2 cx dX12_mayGrow_9 aw_7_30 ?_
  refine am_lcmp cx dX12_mayGrow_12 ?_
  refine am_if_gt cx (tgt := 36) dX12_mayGrow_13 (by decide) (fun h => ?_) (fun h => ?_)
  · have hres := am_ifp h hres
    refine am_sub cx [] rfl ?_
    exact sn12_mayGrow_b36 cx  hres
  · have hres := am_ifn h hres
    refine am_aload_n cx 0 dX12_mayGrow_16 rfl ?_
    refine am_getR cx dX12_mayGrow_17 flX12_100 (am_ke q1) ?_
    refine am_iconst cx (v := (2 : Int32)) dX12_mayGrow_20 (by decide) ?_
    obtain ⟨q4, hres⟩ := am_ck_some hres
    refine am_iald cx dX12_mayGrow_21 (am_ke q2) q4 ?_
    refine am_i2l cx dX12_mayGrow_22 ?_
    refine am_lload_n cx 1 dX12_mayGrow_23 rfl ?_
    refine am_lmul cx dX12_mayGrow_24 ?_
    refine am_ldc2 cx dX12_mayGrow_25 aw_7_30 ?_
    refine am_lcmp cx dX12_mayGrow_28 ?_
    refine am_if_gt cx (tgt := 36) dX12_mayGrow_29 (by decide) (fun h => ?_) (fun h => ?_)
    · have hres := am_ifp h hres
      refine am_sub cx [] rfl ?_
      exact sn12_mayGrow_b36 cx  hres
    · have hres := am_ifn h hres
      refine am_iconst cx (v := (1 : Int32)) dX12_mayGrow_32 (by decide) ?_
      refine am_goto cx (tgt := 37) dX12_mayGrow_33 (by decide) ?_
      refine am_sub cx [] rfl ?_
      exact sn12_mayGrow_b37 cx  hres
set_option maxRecDepth 20000 in
theorem mt12_mayGrow {l : Launch} {v : Int32} {M M' : am_Mem} {r0 : Nat} {j1 : Int64} (h : fn12_mayGrow M r0 j1 = some (v, M')) : am_Met l yX12_mayGrow cX12_mayGrow 3 (some .boolean) rm12_mayGrow 0 0 [.inr (.inr (.inl r0)), .inr (.inl j1)] M (some (.inl v)) M' := am_mk (by decide) (Nat.le_of_ble_eq_true rfl) (fun G cx => (sn12_mayGrow_b0 cx h))
-- SquareCutsModel.grows
def fn12_grows_b22B (N : Nat) (k22 : Nat → Int32 → Int32 → am_Mem → Option (Unit × am_Mem)) (r0 : Nat) (x1 : Int32) (x2 : Int32) (M : am_Mem) : Option (Unit × am_Mem) :=
  am_ck (am_k M r0 12) (am_ck (am_k M (am_R M r0 48) 14) (am_ck (am_in (0 : Int32) (am_L M (am_R M r0 48))) (if (am_I M (am_R M r0 48) (0 : Int32).toNatClampNeg) ≤ x2 then some ((), M) else am_ck (am_in ((4 : Int32) + x2) (am_L M (am_R M r0 48))) (am_ck (am_in ((4 : Int32) + x2) (am_L M (am_R M r0 48))) (am_ck (am_in ((44 : Int32) + x2) (am_L M (am_R M r0 48))) (am_ck (am_in ((44 : Int32) + x2) (am_L M (am_R M r0 48))) (am_ck (am_in ((84 : Int32) + x2) (am_L M (am_R M r0 48))) (am_ck (am_in ((84 : Int32) + x2) (am_L M (am_R M r0 48))) (k22 r0 x1 (x2 + (1 : Int32)) (am_wI (am_wI (am_wI M (am_R M r0 48) ((4 : Int32) + x2).toNatClampNeg ((am_I M (am_R M r0 48) ((4 : Int32) + x2).toNatClampNeg) * x1)) (am_R M r0 48) ((44 : Int32) + x2).toNatClampNeg ((am_I (am_wI M (am_R M r0 48) ((4 : Int32) + x2).toNatClampNeg ((am_I M (am_R M r0 48) ((4 : Int32) + x2).toNatClampNeg) * x1)) (am_R M r0 48) ((44 : Int32) + x2).toNatClampNeg) * x1)) (am_R M r0 48) ((84 : Int32) + x2).toNatClampNeg ((am_I (am_wI (am_wI M (am_R M r0 48) ((4 : Int32) + x2).toNatClampNeg ((am_I M (am_R M r0 48) ((4 : Int32) + x2).toNatClampNeg) * x1)) (am_R M r0 48) ((44 : Int32) + x2).toNatClampNeg ((am_I (am_wI M (am_R M r0 48) ((4 : Int32) + x2).toNatClampNeg ((am_I M (am_R M r0 48) ((4 : Int32) + x2).toNatClampNeg) * x1)) (am_R M r0 48) ((44 : Int32) + x2).toNatClampNeg) * x1)) (am_R M r0 48) ((84 : Int32) + x2).toNatClampNeg) * x1)))))))))))
def fn12_grows_b22 (N : Nat)  : Nat → Nat → Int32 → Int32 → am_Mem → Option (Unit × am_Mem)
  | 0 => fun _ _ _ _ => none
  | i + 1 => fn12_grows_b22B N (fn12_grows_b22 N  i)
def fn12_grows_b0 (N : Nat)  (r0 : Nat) (x1 : Int32) (M : am_Mem) : Option (Unit × am_Mem) :=
  am_ck (am_k M r0 12) (am_ck (am_k M (am_R M r0 48) 14) (am_ck (am_in (1 : Int32) (am_L M (am_R M r0 48))) (am_ck (am_in (1 : Int32) (am_L M (am_R M r0 48))) (am_ck (am_in (2 : Int32) (am_L M (am_R M r0 48))) (am_ck (am_in (2 : Int32) (am_L M (am_R M r0 48))) (fn12_grows_b22 N  N r0 x1 (0 : Int32) (am_wI (am_wI M (am_R M r0 48) (1 : Int32).toNatClampNeg ((am_I M (am_R M r0 48) (1 : Int32).toNatClampNeg) * x1)) (am_R M r0 48) (2 : Int32).toNatClampNeg ((am_I (am_wI M (am_R M r0 48) (1 : Int32).toNatClampNeg ((am_I M (am_R M r0 48) (1 : Int32).toNatClampNeg) * x1)) (am_R M r0 48) (2 : Int32).toNatClampNeg) * x1))))))))
def fn12_grows (N : Nat) (M : am_Mem) (r0 : Nat) (x1 : Int32) : Option (Unit × am_Mem) := fn12_grows_b0 N r0 x1 M
def rm12_grows : Room := { frames := 0, cells := 0, slots := 0, locals := 0 }
set_option maxRecDepth 20000 in
theorem sn12_grows_b22B {l : Launch} {G : am_G} {M' : am_Mem} {N : Nat} {k22 : Nat → Int32 → Int32 → am_Mem → Option (Unit × am_Mem)} (cx : am_Ctx l rm12_grows yX12_grows cX12_grows 3 none none M' 0 0 G) (hk22 : ∀ (r0 : Nat) (x1 : Int32) (x2 : Int32) (M : am_Mem), k22 r0 x1 x2 M = some ((), M') → G 22 [(0, .inr (.inr (.inl r0))), (1, .inl x1), (2, .inl x2)] [] M 0 0) {r0 : Nat} {x1 : Int32} {x2 : Int32} {M : am_Mem} (hres : fn12_grows_b22B N k22 r0 x1 x2 M = some ((), M')) : G 22 [(0, .inr (.inr (.inl r0))), (1, .inl x1), (2, .inl x2)] [] M 0 0 := by
  unfold fn12_grows_b22B at hres
  refine am_iload_n cx 2 dX12_grows_22 rfl ?_
  refine am_aload_n cx 0 dX12_grows_23 rfl ?_
  obtain ⟨q1, hres⟩ := am_ck_some hres
  refine am_getR cx dX12_grows_24 flX12_100 (am_ke q1) ?_
  refine am_iconst cx (v := (0 : Int32)) dX12_grows_27 (by decide) ?_
  obtain ⟨q2, hres⟩ := am_ck_some hres
  obtain ⟨q3, hres⟩ := am_ck_some hres
  refine am_iald cx dX12_grows_28 (am_ke q2) q3 ?_
  refine am_icmp_ge cx (tgt := 76) dX12_grows_29 (by decide) (fun h => ?_) (fun h => ?_)
  · have hres := am_ifp h hres
    obtain ⟨-, rfl⟩ := am_fin hres
    exact am_vret cx dX12_grows_76
  · have hres := am_ifn h hres
    refine am_aload_n cx 0 dX12_grows_32 rfl ?_
    refine am_getR cx dX12_grows_33 flX12_100 (am_ke q1) ?_
    refine am_iconst cx (v := (4 : Int32)) dX12_grows_36 (by decide) ?_
    refine am_iload_n cx 2 dX12_grows_37 rfl ?_
    refine am_iadd cx dX12_grows_38 ?_
    refine am_dup2 cx dX12_grows_39 rfl rfl ?_
    obtain ⟨q4, hres⟩ := am_ck_some hres
    refine am_iald cx dX12_grows_40 (am_ke q2) q4 ?_
    refine am_iload_n cx 1 dX12_grows_41 rfl ?_
    refine am_imul cx dX12_grows_42 ?_
    obtain ⟨q5, hres⟩ := am_ck_some hres
    refine am_iast cx dX12_grows_43 (am_ke q2) q5  ?_
    refine am_aload_n cx 0 dX12_grows_44 rfl ?_
    refine am_getR cx dX12_grows_45 flX12_100 (am_ke q1) ?_
    refine am_bipush cx (v := (44 : Int32)) dX12_grows_48 (by decide) ?_
    refine am_iload_n cx 2 dX12_grows_50 rfl ?_
    refine am_iadd cx dX12_grows_51 ?_
    refine am_dup2 cx dX12_grows_52 rfl rfl ?_
    obtain ⟨q6, hres⟩ := am_ck_some hres
    refine am_iald cx dX12_grows_53 (am_ke q2) q6 ?_
    refine am_iload_n cx 1 dX12_grows_54 rfl ?_
    refine am_imul cx dX12_grows_55 ?_
    obtain ⟨q7, hres⟩ := am_ck_some hres
    refine am_iast cx dX12_grows_56 (am_ke q2) q7  ?_
    refine am_aload_n cx 0 dX12_grows_57 rfl ?_
    refine am_getR cx dX12_grows_58 flX12_100 (am_ke q1) ?_
    refine am_bipush cx (v := (84 : Int32)) dX12_grows_61 (by decide) ?_
    refine am_iload_n cx 2 dX12_grows_63 rfl ?_
    refine am_iadd cx dX12_grows_64 ?_
    refine am_dup2 cx dX12_grows_65 rfl rfl ?_
    obtain ⟨q8, hres⟩ := am_ck_some hres
    refine am_iald cx dX12_grows_66 (am_ke q2) q8 ?_
    refine am_iload_n cx 1 dX12_grows_67 rfl ?_
    refine am_imul cx dX12_grows_68 ?_
    obtain ⟨q9, hres⟩ := am_ck_some hres
    refine am_iast cx dX12_grows_69 (am_ke q2) q9  ?_
    refine am_iincw cx (lv' := [(0, .inr (.inr (.inl r0))), (1, .inl x1), (2, .inl (x2 + (1 : Int32)))]) (w := (1 : Int32)) 2 dX12_grows_70 (by decide) rfl (Nat.le_of_ble_eq_true rfl) rfl ?_
    refine am_goto cx (tgt := 22) dX12_grows_73 (by decide) ?_
    exact hk22 _ _ _ _ hres
set_option maxRecDepth 20000 in
theorem sn12_grows_b22 {l : Launch} {G : am_G} {M' : am_Mem} {N : Nat}  (cx : am_Ctx l rm12_grows yX12_grows cX12_grows 3 none none M' 0 0 G)  (i : Nat) : ∀ (r0 : Nat) (x1 : Int32) (x2 : Int32) (M : am_Mem), fn12_grows_b22 N  i r0 x1 x2 M = some ((), M') → G 22 [(0, .inr (.inr (.inl r0))), (1, .inl x1), (2, .inl x2)] [] M 0 0 := by
  induction i with
  | zero => intro r0 x1 x2 M hres; exact am_no hres
  | succ i ih => intro r0 x1 x2 M hres; exact sn12_grows_b22B cx ih hres
set_option maxRecDepth 20000 in
theorem sn12_grows_b0 {l : Launch} {G : am_G} {M' : am_Mem} {N : Nat}  (cx : am_Ctx l rm12_grows yX12_grows cX12_grows 3 none none M' 0 0 G)  {r0 : Nat} {x1 : Int32} {M : am_Mem} (hres : fn12_grows_b0 N  r0 x1 M = some ((), M')) : G 0 [(0, .inr (.inr (.inl r0))), (1, .inl x1)] [] M 0 0 := by
  unfold fn12_grows_b0 at hres
  refine am_aload_n cx 0 dX12_grows_0 rfl ?_
  obtain ⟨q1, hres⟩ := am_ck_some hres
  refine am_getR cx dX12_grows_1 flX12_100 (am_ke q1) ?_
  refine am_iconst cx (v := (1 : Int32)) dX12_grows_4 (by decide) ?_
  refine am_dup2 cx dX12_grows_5 rfl rfl ?_
  obtain ⟨q2, hres⟩ := am_ck_some hres
  obtain ⟨q3, hres⟩ := am_ck_some hres
  refine am_iald cx dX12_grows_6 (am_ke q2) q3 ?_
  refine am_iload_n cx 1 dX12_grows_7 rfl ?_
  refine am_imul cx dX12_grows_8 ?_
  obtain ⟨q4, hres⟩ := am_ck_some hres
  refine am_iast cx dX12_grows_9 (am_ke q2) q4  ?_
  refine am_aload_n cx 0 dX12_grows_10 rfl ?_
  refine am_getR cx dX12_grows_11 flX12_100 (am_ke q1) ?_
  refine am_iconst cx (v := (2 : Int32)) dX12_grows_14 (by decide) ?_
  refine am_dup2 cx dX12_grows_15 rfl rfl ?_
  obtain ⟨q5, hres⟩ := am_ck_some hres
  refine am_iald cx dX12_grows_16 (am_ke q2) q5 ?_
  refine am_iload_n cx 1 dX12_grows_17 rfl ?_
  refine am_imul cx dX12_grows_18 ?_
  obtain ⟨q6, hres⟩ := am_ck_some hres
  refine am_iast cx dX12_grows_19 (am_ke q2) q6  ?_
  refine am_iconst cx (v := (0 : Int32)) dX12_grows_20 (by decide) ?_
  refine am_istore_n cx (lv' := [(0, .inr (.inr (.inl r0))), (1, .inl x1), (2, .inl (0 : Int32))]) dX12_grows_21 (Nat.le_of_ble_eq_true rfl) rfl ?_
  exact sn12_grows_b22 cx  N _ _ _ _ hres
set_option maxRecDepth 20000 in
theorem mt12_grows {l : Launch} {M M' : am_Mem} {N : Nat} {r0 : Nat} {x1 : Int32} (h : fn12_grows N M r0 x1 = some ((), M')) : am_Met l yX12_grows cX12_grows 3 none rm12_grows 0 0 [.inr (.inr (.inl r0)), .inl x1] M none M' := am_mk (by decide) (Nat.le_of_ble_eq_true rfl) (fun G cx => (sn12_grows_b0 cx h))
-- SquareCutsModel.join
def fn12_join_b39 (N : Nat)   (M : am_Mem) : Option (Int32 × am_Mem) :=
  some ((-1 : Int32), M)
def fn12_join_b198 (N : Nat)   (M : am_Mem) : Option (Int32 × am_Mem) :=
  some ((-1 : Int32), M)
def fn12_join_b316 (N : Nat) (k223 : Nat → Int32 → Int32 → Int64 → Int64 → Int64 → Int32 → Int32 → am_Mem → Option (Int32 × am_Mem)) (c0 : Nat) (a1 : Int32) (a2 : Int32) (a3 : Int32) (r0 : Nat) (x2 : Int32) (x3 : Int32) (j10 : Int64) (j12 : Int64) (j14 : Int64) (x16 : Int32) (x17 : Int32) (M : am_Mem) : Option (Int32 × am_Mem) :=
  am_ck (am_k M c0 14) (am_ck (am_in a1 (am_L M c0)) (am_ck (am_k M r0 12) (am_bd (fn12_of (am_wI M c0 a1.toNatClampNeg (a2 + a3)) r0 x2 ((84 : Int32) + x17)) (fun v4 M5 => am_ck (am_k M5 (am_R M r0 48) 14) (am_ck (am_in (((84 : Int32) + x16) + x17) (am_L M5 (am_R M r0 48))) (k223 r0 x2 x3 j10 j12 j14 x16 (x17 + (1 : Int32)) (am_wI M5 (am_R M r0 48) (((84 : Int32) + x16) + x17).toNatClampNeg ((j10 * v4.toInt64).toInt32))))))))
def fn12_join_b273 (N : Nat) (k223 : Nat → Int32 → Int32 → Int64 → Int64 → Int64 → Int32 → Int32 → am_Mem → Option (Int32 × am_Mem)) (c0 : Nat) (a1 : Int32) (a2 : Int32) (a3 : Int32) (r0 : Nat) (x2 : Int32) (x3 : Int32) (j10 : Int64) (j12 : Int64) (j14 : Int64) (x16 : Int32) (x17 : Int32) (M : am_Mem) : Option (Int32 × am_Mem) :=
  am_ck (am_k M c0 14) (am_ck (am_in a1 (am_L M c0)) (am_ck (am_k M r0 12) (am_bd (fn12_of (am_wI M c0 a1.toNatClampNeg (a2 + a3)) r0 x2 ((44 : Int32) + x17)) (fun v4 M5 => if x3 = 0 then fn12_join_b316 N k223 (am_R M r0 48) (((44 : Int32) + x16) + x17) ((j10 * v4.toInt64).toInt32) (0 : Int32) r0 x2 x3 j10 j12 j14 x16 x17 M5 else am_ck (am_k M5 r0 12) (am_ck (am_k M5 (am_R M5 r0 48) 14) (am_ck (am_in (2 : Int32) (am_L M5 (am_R M5 r0 48))) (fn12_join_b316 N k223 (am_R M r0 48) (((44 : Int32) + x16) + x17) ((j10 * v4.toInt64).toInt32) (am_I M5 (am_R M5 r0 48) (2 : Int32).toNatClampNeg) r0 x2 x3 j10 j12 j14 x16 x17 M5)))))))
def fn12_join_b223B (N : Nat) (k223 : Nat → Int32 → Int32 → Int64 → Int64 → Int64 → Int32 → Int32 → am_Mem → Option (Int32 × am_Mem)) (r0 : Nat) (x2 : Int32) (x3 : Int32) (j10 : Int64) (j12 : Int64) (j14 : Int64) (x16 : Int32) (x17 : Int32) (M : am_Mem) : Option (Int32 × am_Mem) :=
  am_ck (am_k M r0 12) (am_bd (fn12_of M r0 x2 (0 : Int32)) (fun v2 M3 => if v2 ≤ x17 then am_ck (am_k M3 r0 12) (am_ck (am_k M3 (am_R M3 r0 48) 14) (am_ck (am_in (0 : Int32) (am_L M3 (am_R M3 r0 48))) (am_bd (fn12_of M3 r0 x2 (0 : Int32)) (fun v8 M9 => am_ck (am_k M9 (am_R M3 r0 48) 14) (am_ck (am_in (0 : Int32) (am_L M9 (am_R M3 r0 48))) (am_ck (am_k M9 r0 12) (am_ck (am_k M9 (am_R M9 r0 48) 14) (am_ck (am_in (1 : Int32) (am_L M9 (am_R M9 r0 48))) (am_ck (am_in (2 : Int32) (am_L M9 (am_R M9 r0 48))) (am_bd (fn12_makes N (am_wI (am_wI (am_wI M9 (am_R M3 r0 48) (0 : Int32).toNatClampNeg ((am_I M3 (am_R M3 r0 48) (0 : Int32).toNatClampNeg) + v8)) (am_R M9 r0 48) (1 : Int32).toNatClampNeg j12.toInt32) (am_R M9 r0 48) (2 : Int32).toNatClampNeg j14.toInt32) r0) (fun v17 M18 => some (v17, M18)))))))))))) else am_ck (am_k M3 r0 12) (am_bd (fn12_of M3 r0 x2 ((4 : Int32) + x17)) (fun v21 M22 => if x3 = 0 then am_ck (am_k M22 r0 12) (am_ck (am_k M22 (am_R M22 r0 48) 14) (am_ck (am_in (1 : Int32) (am_L M22 (am_R M22 r0 48))) (fn12_join_b273 N k223 (am_R M3 r0 48) (((4 : Int32) + x16) + x17) ((j10 * v21.toInt64).toInt32) (am_I M22 (am_R M22 r0 48) (1 : Int32).toNatClampNeg) r0 x2 x3 j10 j12 j14 x16 x17 M22))) else fn12_join_b273 N k223 (am_R M3 r0 48) (((4 : Int32) + x16) + x17) ((j10 * v21.toInt64).toInt32) (0 : Int32) r0 x2 x3 j10 j12 j14 x16 x17 M22))))
def fn12_join_b223 (N : Nat)  : Nat → Nat → Int32 → Int32 → Int64 → Int64 → Int64 → Int32 → Int32 → am_Mem → Option (Int32 × am_Mem)
  | 0 => fun _ _ _ _ _ _ _ _ _ => none
  | i + 1 => fn12_join_b223B N (fn12_join_b223 N  i)
def fn12_join_b220 (N : Nat)  (r0 : Nat) (x2 : Int32) (x3 : Int32) (j10 : Int64) (j12 : Int64) (j14 : Int64) (x16 : Int32) (M : am_Mem) : Option (Int32 × am_Mem) :=
  fn12_join_b223 N  N r0 x2 x3 j10 j12 j14 x16 (0 : Int32) M
def fn12_join_b180 (N : Nat)  (r0 : Nat) (x1 : Int32) (x2 : Int32) (x3 : Int32) (j8 : Int64) (j10 : Int64) (j12 : Int64) (j14 : Int64) (M : am_Mem) : Option (Int32 × am_Mem) :=
  if 0 < (lg_cmp j12 (1000000000 : Int64)) then fn12_join_b198 N   M else if (lg_cmp j14 (1000000000 : Int64)) ≤ 0 then am_ck (am_k M r0 12) (am_bd (fn12_takes N M r0 x1) (fun v2 M3 => am_ck (am_k M3 r0 12) (am_bd (fn12_grows N M3 r0 j8.toInt32) (fun v6 M7 => am_ck (am_k M7 r0 12) (am_ck (am_k M7 (am_R M7 r0 48) 14) (am_ck (am_in (0 : Int32) (am_L M7 (am_R M7 r0 48))) (fn12_join_b220 N  r0 x2 x3 j10 j12 j14 (am_I M7 (am_R M7 r0 48) (0 : Int32).toNatClampNeg) M7))))))) else fn12_join_b198 N   M
def fn12_join_b178 (N : Nat)  (b0 : Int64) (r0 : Nat) (x1 : Int32) (x2 : Int32) (x3 : Int32) (j8 : Int64) (j10 : Int64) (j12 : Int64) (M : am_Mem) : Option (Int32 × am_Mem) :=
  fn12_join_b180 N  r0 x1 x2 x3 j8 j10 j12 b0 M
def fn12_join_b140 (N : Nat)  (r0 : Nat) (x1 : Int32) (x2 : Int32) (x3 : Int32) (j8 : Int64) (j10 : Int64) (j12 : Int64) (M : am_Mem) : Option (Int32 × am_Mem) :=
  if x3 = 0 then am_ck (am_k M r0 12) (am_bd (fn12_of M r0 x1 (2 : Int32)) (fun v2 M3 => fn12_join_b178 N  (j8 * v2.toInt64) r0 x1 x2 x3 j8 j10 j12 M3)) else am_ck (am_k M r0 12) (am_bd (fn12_of M r0 x1 (2 : Int32)) (fun v6 M7 => am_ck (am_k M7 r0 12) (am_bd (fn12_of M7 r0 x2 (2 : Int32)) (fun v10 M11 => fn12_join_b178 N  ((j8 * v6.toInt64) + (j10 * v10.toInt64)) r0 x1 x2 x3 j8 j10 j12 M11))))
def fn12_join_b138 (N : Nat)  (b0 : Int64) (r0 : Nat) (x1 : Int32) (x2 : Int32) (x3 : Int32) (j8 : Int64) (j10 : Int64) (M : am_Mem) : Option (Int32 × am_Mem) :=
  fn12_join_b140 N  r0 x1 x2 x3 j8 j10 b0 M
def fn12_join_b100 (N : Nat)  (r0 : Nat) (x1 : Int32) (x2 : Int32) (x3 : Int32) (j8 : Int64) (j10 : Int64) (M : am_Mem) : Option (Int32 × am_Mem) :=
  if x3 = 0 then am_ck (am_k M r0 12) (am_bd (fn12_of M r0 x1 (1 : Int32)) (fun v2 M3 => am_ck (am_k M3 r0 12) (am_bd (fn12_of M3 r0 x2 (1 : Int32)) (fun v6 M7 => fn12_join_b138 N  ((j8 * v2.toInt64) + (j10 * v6.toInt64)) r0 x1 x2 x3 j8 j10 M7)))) else am_ck (am_k M r0 12) (am_bd (fn12_of M r0 x1 (1 : Int32)) (fun v10 M11 => fn12_join_b138 N  (j8 * v10.toInt64) r0 x1 x2 x3 j8 j10 M11))
def fn12_join_b92 (N : Nat)  (r0 : Nat) (x1 : Int32) (x2 : Int32) (x3 : Int32) (x4 : Int32) (j6 : Int64) (j8 : Int64) (M : am_Mem) : Option (Int32 × am_Mem) :=
  am_ck (decide (¬ j6 = 0)) (fn12_join_b100 N  r0 x1 x2 x3 j8 (x4.toInt64 / j6) M)
def fn12_join_b68 (N : Nat)  (c0 : Nat) (a1 : Int32) (a2 : Int32) (r0 : Nat) (x1 : Int32) (x2 : Int32) (x3 : Int32) (x4 : Int32) (M : am_Mem) : Option (Int32 × am_Mem) :=
  am_ck (am_k M c0 12) (am_bd (fn12_of M c0 a1 a2) (fun v2 M3 => am_bd (fn12_common N M3 x4.toInt64 v2.toInt64) (fun v5 M6 => am_ck (decide (¬ v5 = 0)) (fn12_join_b92 N  r0 x1 x2 x3 x4 v5 (v2.toInt64 / v5) M6))))
def fn12_join_b52 (N : Nat)  (c0 : Nat) (a1 : Int32) (a2 : Int32) (r0 : Nat) (x1 : Int32) (x2 : Int32) (x3 : Int32) (M : am_Mem) : Option (Int32 × am_Mem) :=
  am_ck (am_k M c0 12) (am_bd (fn12_of M c0 a1 a2) (fun v2 M3 => if x3 = 0 then fn12_join_b68 N  r0 x2 (2 : Int32) r0 x1 x2 x3 v2 M3 else fn12_join_b68 N  r0 x2 (1 : Int32) r0 x1 x2 x3 v2 M3))
def fn12_join_b0 (N : Nat)  (r0 : Nat) (x1 : Int32) (x2 : Int32) (x3 : Int32) (M : am_Mem) : Option (Int32 × am_Mem) :=
  am_ck (am_k M r0 12) (am_bd (fn12_canMake (am_wI M r0 0 (0 : Int32)) r0 x1) (fun v2 M3 => if v2 = 0 then fn12_join_b39 N   M3 else am_ck (am_k M3 r0 12) (am_bd (fn12_canMake M3 r0 x2) (fun v6 M7 => if v6 = 0 then fn12_join_b39 N   M7 else am_ck (am_k M7 r0 12) (am_bd (fn12_of M7 r0 x1 (0 : Int32)) (fun v10 M11 => am_ck (am_k M11 r0 12) (am_bd (fn12_of M11 r0 x2 (0 : Int32)) (fun v14 M15 => if (v10 + v14) ≤ (40 : Int32) then if x3 = 0 then fn12_join_b52 N  r0 x1 (2 : Int32) r0 x1 x2 x3 M15 else fn12_join_b52 N  r0 x1 (1 : Int32) r0 x1 x2 x3 M15 else fn12_join_b39 N   M15))))))))
def fn12_join (N : Nat) (M : am_Mem) (r0 : Nat) (x1 : Int32) (x2 : Int32) (x3 : Int32) : Option (Int32 × am_Mem) := fn12_join_b0 N r0 x1 x2 x3 M
def rm12_join : Room := { frames := 3, cells := 0, slots := 0, locals := 67 }
set_option maxRecDepth 20000 in
theorem sn12_join_b39 {l : Launch} {G : am_G} {v : Int32} {M' : am_Mem} {N : Nat}  (cx : am_Ctx l rm12_join yX12_join cX12_join 18 (some .int) (some (.inl v)) M' 0 0 G)   {M : am_Mem} (hres : fn12_join_b39 N   M = some (v, M')) : G 39 [] [] M 0 0 := by
  unfold fn12_join_b39 at hres
  refine am_iconst cx (v := (-1 : Int32)) dX12_join_39 (by decide) ?_
  obtain ⟨rfl, rfl⟩ := am_fin hres
  exact am_iret cx dX12_join_40
set_option maxRecDepth 20000 in
theorem sn12_join_b198 {l : Launch} {G : am_G} {v : Int32} {M' : am_Mem} {N : Nat}  (cx : am_Ctx l rm12_join yX12_join cX12_join 18 (some .int) (some (.inl v)) M' 0 0 G)   {M : am_Mem} (hres : fn12_join_b198 N   M = some (v, M')) : G 198 [] [] M 0 0 := by
  unfold fn12_join_b198 at hres
  refine am_iconst cx (v := (-1 : Int32)) dX12_join_198 (by decide) ?_
  obtain ⟨rfl, rfl⟩ := am_fin hres
  exact am_iret cx dX12_join_199
set_option maxRecDepth 20000 in
theorem sn12_join_b316 {l : Launch} {G : am_G} {v : Int32} {M' : am_Mem} {N : Nat} {k223 : Nat → Int32 → Int32 → Int64 → Int64 → Int64 → Int32 → Int32 → am_Mem → Option (Int32 × am_Mem)} (cx : am_Ctx l rm12_join yX12_join cX12_join 18 (some .int) (some (.inl v)) M' 0 0 G) (hk223 : ∀ (r0 : Nat) (x2 : Int32) (x3 : Int32) (j10 : Int64) (j12 : Int64) (j14 : Int64) (x16 : Int32) (x17 : Int32) (M : am_Mem), k223 r0 x2 x3 j10 j12 j14 x16 x17 M = some (v, M') → G 223 [(0, .inr (.inr (.inl r0))), (2, .inl x2), (3, .inl x3), (10, .inr (.inl j10)), (12, .inr (.inl j12)), (14, .inr (.inl j14)), (16, .inl x16), (17, .inl x17)] [] M 0 0) {c0 : Nat} {a1 : Int32} {a2 : Int32} {a3 : Int32} {r0 : Nat} {x2 : Int32} {x3 : Int32} {j10 : Int64} {j12 : Int64} {j14 : Int64} {x16 : Int32} {x17 : Int32} {M : am_Mem} (hres : fn12_join_b316 N k223 c0 a1 a2 a3 r0 x2 x3 j10 j12 j14 x16 x17 M = some (v, M')) : G 316 [(0, .inr (.inr (.inl r0))), (2, .inl x2), (3, .inl x3), (10, .inr (.inl j10)), (12, .inr (.inl j12)), (14, .inr (.inl j14)), (16, .inl x16), (17, .inl x17)] [.inl a3, .inl a2, .inl a1, .inr (.inr (.inl c0))] M 0 0 := by
  unfold fn12_join_b316 at hres
  refine am_iadd cx dX12_join_316 ?_
  obtain ⟨q1, hres⟩ := am_ck_some hres
  obtain ⟨q2, hres⟩ := am_ck_some hres
  refine am_iast cx dX12_join_317 (am_ke q1) q2  ?_
  refine am_aload_n cx 0 dX12_join_318 rfl ?_
  obtain ⟨q3, hres⟩ := am_ck_some hres
  refine am_getR cx dX12_join_319 flX12_100 (am_ke q3) ?_
  refine am_bipush cx (v := (84 : Int32)) dX12_join_322 (by decide) ?_
  refine am_iload cx 6 dX12_join_324 rfl ?_
  refine am_iadd cx dX12_join_326 ?_
  refine am_iload cx 7 dX12_join_327 rfl ?_
  refine am_iadd cx dX12_join_329 ?_
  refine am_lload cx 3 dX12_join_330 rfl ?_
  refine am_aload_n cx 0 dX12_join_332 rfl ?_
  refine am_iload_n cx 1 dX12_join_333 rfl ?_
  refine am_bipush cx (v := (84 : Int32)) dX12_join_334 (by decide) ?_
  refine am_iload cx 7 dX12_join_336 rfl ?_
  refine am_iadd cx dX12_join_338 ?_
  obtain ⟨v4, M5, q6, hres⟩ := am_bd_some hres
  refine am_callV1 cx [.inl x2, .inl ((84 : Int32) + x17)] dX12_join_339 cvX12_306 (mt12_of q6) (am_ke q3) ⟨rfl, rfl, Nat.le_of_ble_eq_true rfl, Nat.le_of_ble_eq_true rfl⟩ rfl (Nat.le_of_ble_eq_true rfl) ⟨Nat.le_of_ble_eq_true rfl, Nat.le_of_ble_eq_true rfl⟩ ?_
  refine am_i2l cx dX12_join_342 ?_
  refine am_lmul cx dX12_join_343 ?_
  refine am_l2i cx dX12_join_344 ?_
  obtain ⟨q7, hres⟩ := am_ck_some hres
  obtain ⟨q8, hres⟩ := am_ck_some hres
  refine am_iast cx dX12_join_345 (am_ke q7) q8  ?_
  refine am_iincw cx (lv' := [(0, .inr (.inr (.inl r0))), (2, .inl x2), (3, .inl x3), (10, .inr (.inl j10)), (12, .inr (.inl j12)), (14, .inr (.inl j14)), (16, .inl x16), (17, .inl (x17 + (1 : Int32)))]) (w := (1 : Int32)) 7 dX12_join_346 (by decide) rfl (Nat.le_of_ble_eq_true rfl) rfl ?_
  refine am_goto cx (tgt := 223) dX12_join_349 (by decide) ?_
  exact hk223 _ _ _ _ _ _ _ _ _ hres
set_option maxRecDepth 20000 in
theorem sn12_join_b273 {l : Launch} {G : am_G} {v : Int32} {M' : am_Mem} {N : Nat} {k223 : Nat → Int32 → Int32 → Int64 → Int64 → Int64 → Int32 → Int32 → am_Mem → Option (Int32 × am_Mem)} (cx : am_Ctx l rm12_join yX12_join cX12_join 18 (some .int) (some (.inl v)) M' 0 0 G) (hk223 : ∀ (r0 : Nat) (x2 : Int32) (x3 : Int32) (j10 : Int64) (j12 : Int64) (j14 : Int64) (x16 : Int32) (x17 : Int32) (M : am_Mem), k223 r0 x2 x3 j10 j12 j14 x16 x17 M = some (v, M') → G 223 [(0, .inr (.inr (.inl r0))), (2, .inl x2), (3, .inl x3), (10, .inr (.inl j10)), (12, .inr (.inl j12)), (14, .inr (.inl j14)), (16, .inl x16), (17, .inl x17)] [] M 0 0) {c0 : Nat} {a1 : Int32} {a2 : Int32} {a3 : Int32} {r0 : Nat} {x2 : Int32} {x3 : Int32} {j10 : Int64} {j12 : Int64} {j14 : Int64} {x16 : Int32} {x17 : Int32} {M : am_Mem} (hres : fn12_join_b273 N k223 c0 a1 a2 a3 r0 x2 x3 j10 j12 j14 x16 x17 M = some (v, M')) : G 273 [(0, .inr (.inr (.inl r0))), (2, .inl x2), (3, .inl x3), (10, .inr (.inl j10)), (12, .inr (.inl j12)), (14, .inr (.inl j14)), (16, .inl x16), (17, .inl x17)] [.inl a3, .inl a2, .inl a1, .inr (.inr (.inl c0))] M 0 0 := by
  unfold fn12_join_b273 at hres
  refine am_iadd cx dX12_join_273 ?_
  obtain ⟨q1, hres⟩ := am_ck_some hres
  obtain ⟨q2, hres⟩ := am_ck_some hres
  refine am_iast cx dX12_join_274 (am_ke q1) q2  ?_
  refine am_aload_n cx 0 dX12_join_275 rfl ?_
  obtain ⟨q3, hres⟩ := am_ck_some hres
  refine am_getR cx dX12_join_276 flX12_100 (am_ke q3) ?_
  refine am_bipush cx (v := (44 : Int32)) dX12_join_279 (by decide) ?_
  refine am_iload cx 6 dX12_join_281 rfl ?_
  refine am_iadd cx dX12_join_283 ?_
  refine am_iload cx 7 dX12_join_284 rfl ?_
  refine am_iadd cx dX12_join_286 ?_
  refine am_lload cx 3 dX12_join_287 rfl ?_
  refine am_aload_n cx 0 dX12_join_289 rfl ?_
  refine am_iload_n cx 1 dX12_join_290 rfl ?_
  refine am_bipush cx (v := (44 : Int32)) dX12_join_291 (by decide) ?_
  refine am_iload cx 7 dX12_join_293 rfl ?_
  refine am_iadd cx dX12_join_295 ?_
  obtain ⟨v4, M5, q6, hres⟩ := am_bd_some hres
  refine am_callV1 cx [.inl x2, .inl ((44 : Int32) + x17)] dX12_join_296 cvX12_306 (mt12_of q6) (am_ke q3) ⟨rfl, rfl, Nat.le_of_ble_eq_true rfl, Nat.le_of_ble_eq_true rfl⟩ rfl (Nat.le_of_ble_eq_true rfl) ⟨Nat.le_of_ble_eq_true rfl, Nat.le_of_ble_eq_true rfl⟩ ?_
  refine am_i2l cx dX12_join_299 ?_
  refine am_lmul cx dX12_join_300 ?_
  refine am_l2i cx dX12_join_301 ?_
  refine am_iload_n cx 2 dX12_join_302 rfl ?_
  refine am_if_eq cx (tgt := 315) dX12_join_303 (by decide) (fun h => ?_) (fun h => ?_)
  · have hres := am_ifp h hres
    refine am_iconst cx (v := (0 : Int32)) dX12_join_315 (by decide) ?_
    exact sn12_join_b316 cx hk223 hres
  · have hres := am_ifn h hres
    refine am_aload_n cx 0 dX12_join_306 rfl ?_
    obtain ⟨q7, hres⟩ := am_ck_some hres
    refine am_getR cx dX12_join_307 flX12_100 (am_ke q7) ?_
    refine am_iconst cx (v := (2 : Int32)) dX12_join_310 (by decide) ?_
    obtain ⟨q8, hres⟩ := am_ck_some hres
    obtain ⟨q9, hres⟩ := am_ck_some hres
    refine am_iald cx dX12_join_311 (am_ke q8) q9 ?_
    refine am_goto cx (tgt := 316) dX12_join_312 (by decide) ?_
    exact sn12_join_b316 cx hk223 hres
set_option maxRecDepth 20000 in
theorem sn12_join_b223B {l : Launch} {G : am_G} {v : Int32} {M' : am_Mem} {N : Nat} {k223 : Nat → Int32 → Int32 → Int64 → Int64 → Int64 → Int32 → Int32 → am_Mem → Option (Int32 × am_Mem)} (cx : am_Ctx l rm12_join yX12_join cX12_join 18 (some .int) (some (.inl v)) M' 0 0 G) (hk223 : ∀ (r0 : Nat) (x2 : Int32) (x3 : Int32) (j10 : Int64) (j12 : Int64) (j14 : Int64) (x16 : Int32) (x17 : Int32) (M : am_Mem), k223 r0 x2 x3 j10 j12 j14 x16 x17 M = some (v, M') → G 223 [(0, .inr (.inr (.inl r0))), (2, .inl x2), (3, .inl x3), (10, .inr (.inl j10)), (12, .inr (.inl j12)), (14, .inr (.inl j14)), (16, .inl x16), (17, .inl x17)] [] M 0 0) {r0 : Nat} {x2 : Int32} {x3 : Int32} {j10 : Int64} {j12 : Int64} {j14 : Int64} {x16 : Int32} {x17 : Int32} {M : am_Mem} (hres : fn12_join_b223B N k223 r0 x2 x3 j10 j12 j14 x16 x17 M = some (v, M')) : G 223 [(0, .inr (.inr (.inl r0))), (2, .inl x2), (3, .inl x3), (10, .inr (.inl j10)), (12, .inr (.inl j12)), (14, .inr (.inl j14)), (16, .inl x16), (17, .inl x17)] [] M 0 0 := by
  unfold fn12_join_b223B at hres
  refine am_iload cx 7 dX12_join_223 rfl ?_
  refine am_aload_n cx 0 dX12_join_225 rfl ?_
  refine am_iload_n cx 1 dX12_join_226 rfl ?_
  refine am_iconst cx (v := (0 : Int32)) dX12_join_227 (by decide) ?_
  obtain ⟨q1, hres⟩ := am_ck_some hres
  obtain ⟨v2, M3, q4, hres⟩ := am_bd_some hres
  refine am_callV1 cx [.inl x2, .inl (0 : Int32)] dX12_join_228 cvX12_306 (mt12_of q4) (am_ke q1) ⟨rfl, rfl, Nat.le_of_ble_eq_true rfl, Nat.le_of_ble_eq_true rfl⟩ rfl (Nat.le_of_ble_eq_true rfl) ⟨Nat.le_of_ble_eq_true rfl, Nat.le_of_ble_eq_true rfl⟩ ?_
  refine am_icmp_ge cx (tgt := 352) dX12_join_231 (by decide) (fun h => ?_) (fun h => ?_)
  · have hres := am_ifp h hres
    refine am_aload_n cx 0 dX12_join_352 rfl ?_
    obtain ⟨q5, hres⟩ := am_ck_some hres
    refine am_getR cx dX12_join_353 flX12_100 (am_ke q5) ?_
    refine am_iconst cx (v := (0 : Int32)) dX12_join_356 (by decide) ?_
    refine am_dup2 cx dX12_join_357 rfl rfl ?_
    obtain ⟨q6, hres⟩ := am_ck_some hres
    obtain ⟨q7, hres⟩ := am_ck_some hres
    refine am_iald cx dX12_join_358 (am_ke q6) q7 ?_
    refine am_aload_n cx 0 dX12_join_359 rfl ?_
    refine am_iload_n cx 1 dX12_join_360 rfl ?_
    refine am_iconst cx (v := (0 : Int32)) dX12_join_361 (by decide) ?_
    obtain ⟨v8, M9, q10, hres⟩ := am_bd_some hres
    refine am_callV1 cx [.inl x2, .inl (0 : Int32)] dX12_join_362 cvX12_306 (mt12_of q10) (am_ke q5) ⟨rfl, rfl, Nat.le_of_ble_eq_true rfl, Nat.le_of_ble_eq_true rfl⟩ rfl (Nat.le_of_ble_eq_true rfl) ⟨Nat.le_of_ble_eq_true rfl, Nat.le_of_ble_eq_true rfl⟩ ?_
    refine am_iadd cx dX12_join_365 ?_
    obtain ⟨q11, hres⟩ := am_ck_some hres
    obtain ⟨q12, hres⟩ := am_ck_some hres
    refine am_iast cx dX12_join_366 (am_ke q11) q12  ?_
    refine am_aload_n cx 0 dX12_join_367 rfl ?_
    obtain ⟨q13, hres⟩ := am_ck_some hres
    refine am_getR cx dX12_join_368 flX12_100 (am_ke q13) ?_
    refine am_iconst cx (v := (1 : Int32)) dX12_join_371 (by decide) ?_
    refine am_lload cx 4 dX12_join_372 rfl ?_
    refine am_l2i cx dX12_join_374 ?_
    obtain ⟨q14, hres⟩ := am_ck_some hres
    obtain ⟨q15, hres⟩ := am_ck_some hres
    refine am_iast cx dX12_join_375 (am_ke q14) q15  ?_
    refine am_aload_n cx 0 dX12_join_376 rfl ?_
    refine am_getR cx dX12_join_377 flX12_100 (am_ke q13) ?_
    refine am_iconst cx (v := (2 : Int32)) dX12_join_380 (by decide) ?_
    refine am_lload cx 5 dX12_join_381 rfl ?_
    refine am_l2i cx dX12_join_383 ?_
    obtain ⟨q16, hres⟩ := am_ck_some hres
    refine am_iast cx dX12_join_384 (am_ke q14) q16  ?_
    refine am_aload_n cx 0 dX12_join_385 rfl ?_
    obtain ⟨v17, M18, q19, hres⟩ := am_bd_some hres
    refine am_callV1 cx [] dX12_join_386 cvX12_403 (mt12_makes q19) (am_ke q13) ⟨rfl, rfl, Nat.le_of_ble_eq_true rfl, Nat.le_of_ble_eq_true rfl⟩ rfl (Nat.le_of_ble_eq_true rfl) ⟨Nat.le_of_ble_eq_true rfl, Nat.le_of_ble_eq_true rfl⟩ ?_
    obtain ⟨rfl, rfl⟩ := am_fin hres
    exact am_iret cx dX12_join_389
  · have hres := am_ifn h hres
    refine am_aload_n cx 0 dX12_join_234 rfl ?_
    obtain ⟨q20, hres⟩ := am_ck_some hres
    refine am_getR cx dX12_join_235 flX12_100 (am_ke q20) ?_
    refine am_iconst cx (v := (4 : Int32)) dX12_join_238 (by decide) ?_
    refine am_iload cx 6 dX12_join_239 rfl ?_
    refine am_iadd cx dX12_join_241 ?_
    refine am_iload cx 7 dX12_join_242 rfl ?_
    refine am_iadd cx dX12_join_244 ?_
    refine am_lload cx 3 dX12_join_245 rfl ?_
    refine am_aload_n cx 0 dX12_join_247 rfl ?_
    refine am_iload_n cx 1 dX12_join_248 rfl ?_
    refine am_iconst cx (v := (4 : Int32)) dX12_join_249 (by decide) ?_
    refine am_iload cx 7 dX12_join_250 rfl ?_
    refine am_iadd cx dX12_join_252 ?_
    obtain ⟨v21, M22, q23, hres⟩ := am_bd_some hres
    refine am_callV1 cx [.inl x2, .inl ((4 : Int32) + x17)] dX12_join_253 cvX12_306 (mt12_of q23) (am_ke q20) ⟨rfl, rfl, Nat.le_of_ble_eq_true rfl, Nat.le_of_ble_eq_true rfl⟩ rfl (Nat.le_of_ble_eq_true rfl) ⟨Nat.le_of_ble_eq_true rfl, Nat.le_of_ble_eq_true rfl⟩ ?_
    refine am_i2l cx dX12_join_256 ?_
    refine am_lmul cx dX12_join_257 ?_
    refine am_l2i cx dX12_join_258 ?_
    refine am_iload_n cx 2 dX12_join_259 rfl ?_
    refine am_if_eq cx (tgt := 267) dX12_join_260 (by decide) (fun h => ?_) (fun h => ?_)
    · have hres := am_ifp h hres
      refine am_aload_n cx 0 dX12_join_267 rfl ?_
      obtain ⟨q24, hres⟩ := am_ck_some hres
      refine am_getR cx dX12_join_268 flX12_100 (am_ke q24) ?_
      refine am_iconst cx (v := (1 : Int32)) dX12_join_271 (by decide) ?_
      obtain ⟨q25, hres⟩ := am_ck_some hres
      obtain ⟨q26, hres⟩ := am_ck_some hres
      refine am_iald cx dX12_join_272 (am_ke q25) q26 ?_
      exact sn12_join_b273 cx hk223 hres
    · have hres := am_ifn h hres
      refine am_iconst cx (v := (0 : Int32)) dX12_join_263 (by decide) ?_
      refine am_goto cx (tgt := 273) dX12_join_264 (by decide) ?_
      exact sn12_join_b273 cx hk223 hres
set_option maxRecDepth 20000 in
theorem sn12_join_b223 {l : Launch} {G : am_G} {v : Int32} {M' : am_Mem} {N : Nat}  (cx : am_Ctx l rm12_join yX12_join cX12_join 18 (some .int) (some (.inl v)) M' 0 0 G)  (i : Nat) : ∀ (r0 : Nat) (x2 : Int32) (x3 : Int32) (j10 : Int64) (j12 : Int64) (j14 : Int64) (x16 : Int32) (x17 : Int32) (M : am_Mem), fn12_join_b223 N  i r0 x2 x3 j10 j12 j14 x16 x17 M = some (v, M') → G 223 [(0, .inr (.inr (.inl r0))), (2, .inl x2), (3, .inl x3), (10, .inr (.inl j10)), (12, .inr (.inl j12)), (14, .inr (.inl j14)), (16, .inl x16), (17, .inl x17)] [] M 0 0 := by
  induction i with
  | zero => intro r0 x2 x3 j10 j12 j14 x16 x17 M hres; exact am_no hres
  | succ i ih => intro r0 x2 x3 j10 j12 j14 x16 x17 M hres; exact sn12_join_b223B cx ih hres
set_option maxRecDepth 20000 in
theorem sn12_join_b220 {l : Launch} {G : am_G} {v : Int32} {M' : am_Mem} {N : Nat}  (cx : am_Ctx l rm12_join yX12_join cX12_join 18 (some .int) (some (.inl v)) M' 0 0 G)  {r0 : Nat} {x2 : Int32} {x3 : Int32} {j10 : Int64} {j12 : Int64} {j14 : Int64} {x16 : Int32} {M : am_Mem} (hres : fn12_join_b220 N  r0 x2 x3 j10 j12 j14 x16 M = some (v, M')) : G 220 [(0, .inr (.inr (.inl r0))), (2, .inl x2), (3, .inl x3), (10, .inr (.inl j10)), (12, .inr (.inl j12)), (14, .inr (.inl j14)), (16, .inl x16)] [] M 0 0 := by
  unfold fn12_join_b220 at hres
  refine am_iconst cx (v := (0 : Int32)) dX12_join_220 (by decide) ?_
  refine am_istore cx (lv' := [(0, .inr (.inr (.inl r0))), (2, .inl x2), (3, .inl x3), (10, .inr (.inl j10)), (12, .inr (.inl j12)), (14, .inr (.inl j14)), (16, .inl x16), (17, .inl (0 : Int32))]) dX12_join_221 (Nat.le_of_ble_eq_true rfl) rfl ?_
  exact sn12_join_b223 cx  N _ _ _ _ _ _ _ _ _ hres
set_option maxRecDepth 20000 in
theorem sn12_join_b180 {l : Launch} {G : am_G} {v : Int32} {M' : am_Mem} {N : Nat}  (cx : am_Ctx l rm12_join yX12_join cX12_join 18 (some .int) (some (.inl v)) M' 0 0 G)  {r0 : Nat} {x1 : Int32} {x2 : Int32} {x3 : Int32} {j8 : Int64} {j10 : Int64} {j12 : Int64} {j14 : Int64} {M : am_Mem} (hres : fn12_join_b180 N  r0 x1 x2 x3 j8 j10 j12 j14 M = some (v, M')) : G 180 [(0, .inr (.inr (.inl r0))), (1, .inl x1), (2, .inl x2), (3, .inl x3), (8, .inr (.inl j8)), (10, .inr (.inl j10)), (12, .inr (.inl j12)), (14, .inr (.inl j14))] [] M 0 0 := by
  unfold fn12_join_b180 at hres
  refine am_lload cx 6 dX12_join_180 rfl ?_
  refine am_ldc2 cx dX12_join_182 aw_7_30 ?_
  refine am_lcmp cx dX12_join_185 ?_
  refine am_if_gt cx (tgt := 198) dX12_join_186 (by decide) (fun h => ?_) (fun h => ?_)
  · have hres := am_ifp h hres
    refine am_sub cx [] rfl ?_
    exact sn12_join_b198 cx  hres
  · have hres := am_ifn h hres
    refine am_lload cx 7 dX12_join_189 rfl ?_
    refine am_ldc2 cx dX12_join_191 aw_7_30 ?_
    refine am_lcmp cx dX12_join_194 ?_
    refine am_if_le cx (tgt := 200) dX12_join_195 (by decide) (fun h => ?_) (fun h => ?_)
    · have hres := am_ifp h hres
      refine am_aload_n cx 0 dX12_join_200 rfl ?_
      refine am_iload_n cx 1 dX12_join_201 rfl ?_
      obtain ⟨q1, hres⟩ := am_ck_some hres
      obtain ⟨v2, M3, q4, hres⟩ := am_bd_some hres
      refine am_callV0 cx [.inl x1] dX12_join_202 cvX12_380 (mt12_takes q4) (am_ke q1) ⟨rfl, rfl, Nat.le_of_ble_eq_true rfl, Nat.le_of_ble_eq_true rfl⟩ rfl (Nat.le_of_ble_eq_true rfl) ⟨Nat.le_of_ble_eq_true rfl, Nat.le_of_ble_eq_true rfl⟩ ?_
      refine am_aload_n cx 0 dX12_join_205 rfl ?_
      refine am_lload cx 4 dX12_join_206 rfl ?_
      refine am_l2i cx dX12_join_208 ?_
      obtain ⟨q5, hres⟩ := am_ck_some hres
      obtain ⟨v6, M7, q8, hres⟩ := am_bd_some hres
      refine am_callV0 cx [.inl j8.toInt32] dX12_join_209 cvX12_400 (mt12_grows q8) (am_ke q5) ⟨rfl, rfl, Nat.le_of_ble_eq_true rfl, Nat.le_of_ble_eq_true rfl⟩ rfl (Nat.le_of_ble_eq_true rfl) ⟨Nat.le_of_ble_eq_true rfl, Nat.le_of_ble_eq_true rfl⟩ ?_
      refine am_aload_n cx 0 dX12_join_212 rfl ?_
      obtain ⟨q9, hres⟩ := am_ck_some hres
      refine am_getR cx dX12_join_213 flX12_100 (am_ke q9) ?_
      refine am_iconst cx (v := (0 : Int32)) dX12_join_216 (by decide) ?_
      obtain ⟨q10, hres⟩ := am_ck_some hres
      obtain ⟨q11, hres⟩ := am_ck_some hres
      refine am_iald cx dX12_join_217 (am_ke q10) q11 ?_
      refine am_istore cx (lv' := [(0, .inr (.inr (.inl r0))), (1, .inl x1), (2, .inl x2), (3, .inl x3), (8, .inr (.inl j8)), (10, .inr (.inl j10)), (12, .inr (.inl j12)), (14, .inr (.inl j14)), (16, .inl (am_I M7 (am_R M7 r0 48) (0 : Int32).toNatClampNeg))]) dX12_join_218 (Nat.le_of_ble_eq_true rfl) rfl ?_
      refine am_sub cx [0, 2, 3, 5, 6, 7, 8] rfl ?_
      exact sn12_join_b220 cx  hres
    · have hres := am_ifn h hres
      refine am_sub cx [] rfl ?_
      exact sn12_join_b198 cx  hres
set_option maxRecDepth 20000 in
theorem sn12_join_b178 {l : Launch} {G : am_G} {v : Int32} {M' : am_Mem} {N : Nat}  (cx : am_Ctx l rm12_join yX12_join cX12_join 18 (some .int) (some (.inl v)) M' 0 0 G)  {b0 : Int64} {r0 : Nat} {x1 : Int32} {x2 : Int32} {x3 : Int32} {j8 : Int64} {j10 : Int64} {j12 : Int64} {M : am_Mem} (hres : fn12_join_b178 N  b0 r0 x1 x2 x3 j8 j10 j12 M = some (v, M')) : G 178 [(0, .inr (.inr (.inl r0))), (1, .inl x1), (2, .inl x2), (3, .inl x3), (8, .inr (.inl j8)), (10, .inr (.inl j10)), (12, .inr (.inl j12))] [.inr (.inl b0)] M 0 0 := by
  unfold fn12_join_b178 at hres
  refine am_lstore cx (lv' := [(0, .inr (.inr (.inl r0))), (1, .inl x1), (2, .inl x2), (3, .inl x3), (8, .inr (.inl j8)), (10, .inr (.inl j10)), (12, .inr (.inl j12)), (14, .inr (.inl b0))]) dX12_join_178 (Nat.le_of_ble_eq_true rfl) rfl ?_
  exact sn12_join_b180 cx  hres
set_option maxRecDepth 20000 in
theorem sn12_join_b140 {l : Launch} {G : am_G} {v : Int32} {M' : am_Mem} {N : Nat}  (cx : am_Ctx l rm12_join yX12_join cX12_join 18 (some .int) (some (.inl v)) M' 0 0 G)  {r0 : Nat} {x1 : Int32} {x2 : Int32} {x3 : Int32} {j8 : Int64} {j10 : Int64} {j12 : Int64} {M : am_Mem} (hres : fn12_join_b140 N  r0 x1 x2 x3 j8 j10 j12 M = some (v, M')) : G 140 [(0, .inr (.inr (.inl r0))), (1, .inl x1), (2, .inl x2), (3, .inl x3), (8, .inr (.inl j8)), (10, .inr (.inl j10)), (12, .inr (.inl j12))] [] M 0 0 := by
  unfold fn12_join_b140 at hres
  refine am_iload_n cx 3 dX12_join_140 rfl ?_
  refine am_if_eq cx (tgt := 168) dX12_join_141 (by decide) (fun h => ?_) (fun h => ?_)
  · have hres := am_ifp h hres
    refine am_lload cx 4 dX12_join_168 rfl ?_
    refine am_aload_n cx 0 dX12_join_170 rfl ?_
    refine am_iload_n cx 1 dX12_join_171 rfl ?_
    refine am_iconst cx (v := (2 : Int32)) dX12_join_172 (by decide) ?_
    obtain ⟨q1, hres⟩ := am_ck_some hres
    obtain ⟨v2, M3, q4, hres⟩ := am_bd_some hres
    refine am_callV1 cx [.inl x1, .inl (2 : Int32)] dX12_join_173 cvX12_306 (mt12_of q4) (am_ke q1) ⟨rfl, rfl, Nat.le_of_ble_eq_true rfl, Nat.le_of_ble_eq_true rfl⟩ rfl (Nat.le_of_ble_eq_true rfl) ⟨Nat.le_of_ble_eq_true rfl, Nat.le_of_ble_eq_true rfl⟩ ?_
    refine am_i2l cx dX12_join_176 ?_
    refine am_lmul cx dX12_join_177 ?_
    exact sn12_join_b178 cx  hres
  · have hres := am_ifn h hres
    refine am_lload cx 4 dX12_join_144 rfl ?_
    refine am_aload_n cx 0 dX12_join_146 rfl ?_
    refine am_iload_n cx 1 dX12_join_147 rfl ?_
    refine am_iconst cx (v := (2 : Int32)) dX12_join_148 (by decide) ?_
    obtain ⟨q5, hres⟩ := am_ck_some hres
    obtain ⟨v6, M7, q8, hres⟩ := am_bd_some hres
    refine am_callV1 cx [.inl x1, .inl (2 : Int32)] dX12_join_149 cvX12_306 (mt12_of q8) (am_ke q5) ⟨rfl, rfl, Nat.le_of_ble_eq_true rfl, Nat.le_of_ble_eq_true rfl⟩ rfl (Nat.le_of_ble_eq_true rfl) ⟨Nat.le_of_ble_eq_true rfl, Nat.le_of_ble_eq_true rfl⟩ ?_
    refine am_i2l cx dX12_join_152 ?_
    refine am_lmul cx dX12_join_153 ?_
    refine am_lload cx 5 dX12_join_154 rfl ?_
    refine am_aload_n cx 0 dX12_join_156 rfl ?_
    refine am_iload_n cx 2 dX12_join_157 rfl ?_
    refine am_iconst cx (v := (2 : Int32)) dX12_join_158 (by decide) ?_
    obtain ⟨q9, hres⟩ := am_ck_some hres
    obtain ⟨v10, M11, q12, hres⟩ := am_bd_some hres
    refine am_callV1 cx [.inl x2, .inl (2 : Int32)] dX12_join_159 cvX12_306 (mt12_of q12) (am_ke q9) ⟨rfl, rfl, Nat.le_of_ble_eq_true rfl, Nat.le_of_ble_eq_true rfl⟩ rfl (Nat.le_of_ble_eq_true rfl) ⟨Nat.le_of_ble_eq_true rfl, Nat.le_of_ble_eq_true rfl⟩ ?_
    refine am_i2l cx dX12_join_162 ?_
    refine am_lmul cx dX12_join_163 ?_
    refine am_ladd cx dX12_join_164 ?_
    refine am_goto cx (tgt := 178) dX12_join_165 (by decide) ?_
    exact sn12_join_b178 cx  hres
set_option maxRecDepth 20000 in
theorem sn12_join_b138 {l : Launch} {G : am_G} {v : Int32} {M' : am_Mem} {N : Nat}  (cx : am_Ctx l rm12_join yX12_join cX12_join 18 (some .int) (some (.inl v)) M' 0 0 G)  {b0 : Int64} {r0 : Nat} {x1 : Int32} {x2 : Int32} {x3 : Int32} {j8 : Int64} {j10 : Int64} {M : am_Mem} (hres : fn12_join_b138 N  b0 r0 x1 x2 x3 j8 j10 M = some (v, M')) : G 138 [(0, .inr (.inr (.inl r0))), (1, .inl x1), (2, .inl x2), (3, .inl x3), (8, .inr (.inl j8)), (10, .inr (.inl j10))] [.inr (.inl b0)] M 0 0 := by
  unfold fn12_join_b138 at hres
  refine am_lstore cx (lv' := [(0, .inr (.inr (.inl r0))), (1, .inl x1), (2, .inl x2), (3, .inl x3), (8, .inr (.inl j8)), (10, .inr (.inl j10)), (12, .inr (.inl b0))]) dX12_join_138 (Nat.le_of_ble_eq_true rfl) rfl ?_
  exact sn12_join_b140 cx  hres
set_option maxRecDepth 20000 in
theorem sn12_join_b100 {l : Launch} {G : am_G} {v : Int32} {M' : am_Mem} {N : Nat}  (cx : am_Ctx l rm12_join yX12_join cX12_join 18 (some .int) (some (.inl v)) M' 0 0 G)  {r0 : Nat} {x1 : Int32} {x2 : Int32} {x3 : Int32} {j8 : Int64} {j10 : Int64} {M : am_Mem} (hres : fn12_join_b100 N  r0 x1 x2 x3 j8 j10 M = some (v, M')) : G 100 [(0, .inr (.inr (.inl r0))), (1, .inl x1), (2, .inl x2), (3, .inl x3), (8, .inr (.inl j8)), (10, .inr (.inl j10))] [] M 0 0 := by
  unfold fn12_join_b100 at hres
  refine am_iload_n cx 3 dX12_join_100 rfl ?_
  refine am_if_eq cx (tgt := 117) dX12_join_101 (by decide) (fun h => ?_) (fun h => ?_)
  · have hres := am_ifp h hres
    refine am_lload cx 4 dX12_join_117 rfl ?_
    refine am_aload_n cx 0 dX12_join_119 rfl ?_
    refine am_iload_n cx 1 dX12_join_120 rfl ?_
    refine am_iconst cx (v := (1 : Int32)) dX12_join_121 (by decide) ?_
    obtain ⟨q1, hres⟩ := am_ck_some hres
    obtain ⟨v2, M3, q4, hres⟩ := am_bd_some hres
    refine am_callV1 cx [.inl x1, .inl (1 : Int32)] dX12_join_122 cvX12_306 (mt12_of q4) (am_ke q1) ⟨rfl, rfl, Nat.le_of_ble_eq_true rfl, Nat.le_of_ble_eq_true rfl⟩ rfl (Nat.le_of_ble_eq_true rfl) ⟨Nat.le_of_ble_eq_true rfl, Nat.le_of_ble_eq_true rfl⟩ ?_
    refine am_i2l cx dX12_join_125 ?_
    refine am_lmul cx dX12_join_126 ?_
    refine am_lload cx 5 dX12_join_127 rfl ?_
    refine am_aload_n cx 0 dX12_join_129 rfl ?_
    refine am_iload_n cx 2 dX12_join_130 rfl ?_
    refine am_iconst cx (v := (1 : Int32)) dX12_join_131 (by decide) ?_
    obtain ⟨q5, hres⟩ := am_ck_some hres
    obtain ⟨v6, M7, q8, hres⟩ := am_bd_some hres
    refine am_callV1 cx [.inl x2, .inl (1 : Int32)] dX12_join_132 cvX12_306 (mt12_of q8) (am_ke q5) ⟨rfl, rfl, Nat.le_of_ble_eq_true rfl, Nat.le_of_ble_eq_true rfl⟩ rfl (Nat.le_of_ble_eq_true rfl) ⟨Nat.le_of_ble_eq_true rfl, Nat.le_of_ble_eq_true rfl⟩ ?_
    refine am_i2l cx dX12_join_135 ?_
    refine am_lmul cx dX12_join_136 ?_
    refine am_ladd cx dX12_join_137 ?_
    exact sn12_join_b138 cx  hres
  · have hres := am_ifn h hres
    refine am_lload cx 4 dX12_join_104 rfl ?_
    refine am_aload_n cx 0 dX12_join_106 rfl ?_
    refine am_iload_n cx 1 dX12_join_107 rfl ?_
    refine am_iconst cx (v := (1 : Int32)) dX12_join_108 (by decide) ?_
    obtain ⟨q9, hres⟩ := am_ck_some hres
    obtain ⟨v10, M11, q12, hres⟩ := am_bd_some hres
    refine am_callV1 cx [.inl x1, .inl (1 : Int32)] dX12_join_109 cvX12_306 (mt12_of q12) (am_ke q9) ⟨rfl, rfl, Nat.le_of_ble_eq_true rfl, Nat.le_of_ble_eq_true rfl⟩ rfl (Nat.le_of_ble_eq_true rfl) ⟨Nat.le_of_ble_eq_true rfl, Nat.le_of_ble_eq_true rfl⟩ ?_
    refine am_i2l cx dX12_join_112 ?_
    refine am_lmul cx dX12_join_113 ?_
    refine am_goto cx (tgt := 138) dX12_join_114 (by decide) ?_
    exact sn12_join_b138 cx  hres
set_option maxRecDepth 20000 in
theorem sn12_join_b92 {l : Launch} {G : am_G} {v : Int32} {M' : am_Mem} {N : Nat}  (cx : am_Ctx l rm12_join yX12_join cX12_join 18 (some .int) (some (.inl v)) M' 0 0 G)  {r0 : Nat} {x1 : Int32} {x2 : Int32} {x3 : Int32} {x4 : Int32} {j6 : Int64} {j8 : Int64} {M : am_Mem} (hres : fn12_join_b92 N  r0 x1 x2 x3 x4 j6 j8 M = some (v, M')) : G 92 [(0, .inr (.inr (.inl r0))), (1, .inl x1), (2, .inl x2), (3, .inl x3), (4, .inl x4), (6, .inr (.inl j6)), (8, .inr (.inl j8))] [] M 0 0 := by
  unfold fn12_join_b92 at hres
  refine am_iload cx 4 dX12_join_92 rfl ?_
  refine am_i2l cx dX12_join_94 ?_
  refine am_lload cx 5 dX12_join_95 rfl ?_
  obtain ⟨q1, hres⟩ := am_ck_some hres
  refine am_ldiv cx dX12_join_97 (of_decide_eq_true q1) ?_
  refine am_lstore cx (lv' := [(0, .inr (.inr (.inl r0))), (1, .inl x1), (2, .inl x2), (3, .inl x3), (4, .inl x4), (6, .inr (.inl j6)), (8, .inr (.inl j8)), (10, .inr (.inl (x4.toInt64 / j6)))]) dX12_join_98 (Nat.le_of_ble_eq_true rfl) rfl ?_
  refine am_sub cx [0, 1, 2, 3, 6, 7] rfl ?_
  exact sn12_join_b100 cx  hres
set_option maxRecDepth 20000 in
theorem sn12_join_b68 {l : Launch} {G : am_G} {v : Int32} {M' : am_Mem} {N : Nat}  (cx : am_Ctx l rm12_join yX12_join cX12_join 18 (some .int) (some (.inl v)) M' 0 0 G)  {c0 : Nat} {a1 : Int32} {a2 : Int32} {r0 : Nat} {x1 : Int32} {x2 : Int32} {x3 : Int32} {x4 : Int32} {M : am_Mem} (hres : fn12_join_b68 N  c0 a1 a2 r0 x1 x2 x3 x4 M = some (v, M')) : G 68 [(0, .inr (.inr (.inl r0))), (1, .inl x1), (2, .inl x2), (3, .inl x3), (4, .inl x4)] [.inl a2, .inl a1, .inr (.inr (.inl c0))] M 0 0 := by
  unfold fn12_join_b68 at hres
  obtain ⟨q1, hres⟩ := am_ck_some hres
  obtain ⟨v2, M3, q4, hres⟩ := am_bd_some hres
  refine am_callV1 cx [.inl a1, .inl a2] dX12_join_68 cvX12_306 (mt12_of q4) (am_ke q1) ⟨rfl, rfl, Nat.le_of_ble_eq_true rfl, Nat.le_of_ble_eq_true rfl⟩ rfl (Nat.le_of_ble_eq_true rfl) ⟨Nat.le_of_ble_eq_true rfl, Nat.le_of_ble_eq_true rfl⟩ ?_
  refine am_istore cx (lv' := [(0, .inr (.inr (.inl r0))), (1, .inl x1), (2, .inl x2), (3, .inl x3), (4, .inl x4), (5, .inl v2)]) dX12_join_71 (Nat.le_of_ble_eq_true rfl) rfl ?_
  refine am_iload cx 4 dX12_join_73 rfl ?_
  refine am_i2l cx dX12_join_75 ?_
  refine am_iload cx 5 dX12_join_76 rfl ?_
  refine am_i2l cx dX12_join_78 ?_
  obtain ⟨v5, M6, q7, hres⟩ := am_bd_some hres
  refine am_callS1 cx [.inr (.inl x4.toInt64), .inr (.inl v2.toInt64)] dX12_join_79 csX12_260 (mt12_common q7)  ⟨rfl, rfl, Nat.le_of_ble_eq_true rfl, Nat.le_of_ble_eq_true rfl⟩ rfl (Nat.le_of_ble_eq_true rfl) ⟨Nat.le_of_ble_eq_true rfl, Nat.le_of_ble_eq_true rfl⟩ ?_
  refine am_lstore cx (lv' := [(0, .inr (.inr (.inl r0))), (1, .inl x1), (2, .inl x2), (3, .inl x3), (4, .inl x4), (5, .inl v2), (6, .inr (.inl v5))]) dX12_join_82 (Nat.le_of_ble_eq_true rfl) rfl ?_
  refine am_iload cx 5 dX12_join_84 rfl ?_
  refine am_i2l cx dX12_join_86 ?_
  refine am_lload cx 6 dX12_join_87 rfl ?_
  obtain ⟨q8, hres⟩ := am_ck_some hres
  refine am_ldiv cx dX12_join_89 (of_decide_eq_true q8) ?_
  refine am_lstore cx (lv' := [(0, .inr (.inr (.inl r0))), (1, .inl x1), (2, .inl x2), (3, .inl x3), (4, .inl x4), (5, .inl v2), (6, .inr (.inl v5)), (8, .inr (.inl (v2.toInt64 / v5)))]) dX12_join_90 (Nat.le_of_ble_eq_true rfl) rfl ?_
  refine am_sub cx [0, 1, 2, 3, 4, 6, 7] rfl ?_
  exact sn12_join_b92 cx  hres
set_option maxRecDepth 20000 in
theorem sn12_join_b52 {l : Launch} {G : am_G} {v : Int32} {M' : am_Mem} {N : Nat}  (cx : am_Ctx l rm12_join yX12_join cX12_join 18 (some .int) (some (.inl v)) M' 0 0 G)  {c0 : Nat} {a1 : Int32} {a2 : Int32} {r0 : Nat} {x1 : Int32} {x2 : Int32} {x3 : Int32} {M : am_Mem} (hres : fn12_join_b52 N  c0 a1 a2 r0 x1 x2 x3 M = some (v, M')) : G 52 [(0, .inr (.inr (.inl r0))), (1, .inl x1), (2, .inl x2), (3, .inl x3)] [.inl a2, .inl a1, .inr (.inr (.inl c0))] M 0 0 := by
  unfold fn12_join_b52 at hres
  obtain ⟨q1, hres⟩ := am_ck_some hres
  obtain ⟨v2, M3, q4, hres⟩ := am_bd_some hres
  refine am_callV1 cx [.inl a1, .inl a2] dX12_join_52 cvX12_306 (mt12_of q4) (am_ke q1) ⟨rfl, rfl, Nat.le_of_ble_eq_true rfl, Nat.le_of_ble_eq_true rfl⟩ rfl (Nat.le_of_ble_eq_true rfl) ⟨Nat.le_of_ble_eq_true rfl, Nat.le_of_ble_eq_true rfl⟩ ?_
  refine am_istore cx (lv' := [(0, .inr (.inr (.inl r0))), (1, .inl x1), (2, .inl x2), (3, .inl x3), (4, .inl v2)]) dX12_join_55 (Nat.le_of_ble_eq_true rfl) rfl ?_
  refine am_aload_n cx 0 dX12_join_57 rfl ?_
  refine am_iload_n cx 2 dX12_join_58 rfl ?_
  refine am_iload_n cx 3 dX12_join_59 rfl ?_
  refine am_if_eq cx (tgt := 67) dX12_join_60 (by decide) (fun h => ?_) (fun h => ?_)
  · have hres := am_ifp h hres
    refine am_iconst cx (v := (2 : Int32)) dX12_join_67 (by decide) ?_
    exact sn12_join_b68 cx  hres
  · have hres := am_ifn h hres
    refine am_iconst cx (v := (1 : Int32)) dX12_join_63 (by decide) ?_
    refine am_goto cx (tgt := 68) dX12_join_64 (by decide) ?_
    exact sn12_join_b68 cx  hres
set_option maxRecDepth 20000 in
theorem sn12_join_b0 {l : Launch} {G : am_G} {v : Int32} {M' : am_Mem} {N : Nat}  (cx : am_Ctx l rm12_join yX12_join cX12_join 18 (some .int) (some (.inl v)) M' 0 0 G)  {r0 : Nat} {x1 : Int32} {x2 : Int32} {x3 : Int32} {M : am_Mem} (hres : fn12_join_b0 N  r0 x1 x2 x3 M = some (v, M')) : G 0 [(0, .inr (.inr (.inl r0))), (1, .inl x1), (2, .inl x2), (3, .inl x3)] [] M 0 0 := by
  unfold fn12_join_b0 at hres
  refine am_aload_n cx 0 dX12_join_0 rfl ?_
  refine am_iconst cx (v := (0 : Int32)) dX12_join_1 (by decide) ?_
  obtain ⟨q1, hres⟩ := am_ck_some hres
  refine am_putI cx dX12_join_2 fpX12_103 (fun h => by cases h) (am_ke q1) ?_
  refine am_aload_n cx 0 dX12_join_5 rfl ?_
  refine am_iload_n cx 1 dX12_join_6 rfl ?_
  obtain ⟨v2, M3, q4, hres⟩ := am_bd_some hres
  refine am_callV1 cx [.inl x1] dX12_join_7 cvX12_397 (mt12_canMake q4) (am_ke q1) ⟨rfl, rfl, Nat.le_of_ble_eq_true rfl, Nat.le_of_ble_eq_true rfl⟩ rfl (Nat.le_of_ble_eq_true rfl) ⟨Nat.le_of_ble_eq_true rfl, Nat.le_of_ble_eq_true rfl⟩ ?_
  refine am_if_eq cx (tgt := 39) dX12_join_10 (by decide) (fun h => ?_) (fun h => ?_)
  · have hres := am_ifp h hres
    refine am_sub cx [] rfl ?_
    exact sn12_join_b39 cx  hres
  · have hres := am_ifn h hres
    refine am_aload_n cx 0 dX12_join_13 rfl ?_
    refine am_iload_n cx 2 dX12_join_14 rfl ?_
    obtain ⟨q5, hres⟩ := am_ck_some hres
    obtain ⟨v6, M7, q8, hres⟩ := am_bd_some hres
    refine am_callV1 cx [.inl x2] dX12_join_15 cvX12_397 (mt12_canMake q8) (am_ke q5) ⟨rfl, rfl, Nat.le_of_ble_eq_true rfl, Nat.le_of_ble_eq_true rfl⟩ rfl (Nat.le_of_ble_eq_true rfl) ⟨Nat.le_of_ble_eq_true rfl, Nat.le_of_ble_eq_true rfl⟩ ?_
    refine am_if_eq cx (tgt := 39) dX12_join_18 (by decide) (fun h => ?_) (fun h => ?_)
    · have hres := am_ifp h hres
      refine am_sub cx [] rfl ?_
      exact sn12_join_b39 cx  hres
    · have hres := am_ifn h hres
      refine am_aload_n cx 0 dX12_join_21 rfl ?_
      refine am_iload_n cx 1 dX12_join_22 rfl ?_
      refine am_iconst cx (v := (0 : Int32)) dX12_join_23 (by decide) ?_
      obtain ⟨q9, hres⟩ := am_ck_some hres
      obtain ⟨v10, M11, q12, hres⟩ := am_bd_some hres
      refine am_callV1 cx [.inl x1, .inl (0 : Int32)] dX12_join_24 cvX12_306 (mt12_of q12) (am_ke q9) ⟨rfl, rfl, Nat.le_of_ble_eq_true rfl, Nat.le_of_ble_eq_true rfl⟩ rfl (Nat.le_of_ble_eq_true rfl) ⟨Nat.le_of_ble_eq_true rfl, Nat.le_of_ble_eq_true rfl⟩ ?_
      refine am_aload_n cx 0 dX12_join_27 rfl ?_
      refine am_iload_n cx 2 dX12_join_28 rfl ?_
      refine am_iconst cx (v := (0 : Int32)) dX12_join_29 (by decide) ?_
      obtain ⟨q13, hres⟩ := am_ck_some hres
      obtain ⟨v14, M15, q16, hres⟩ := am_bd_some hres
      refine am_callV1 cx [.inl x2, .inl (0 : Int32)] dX12_join_30 cvX12_306 (mt12_of q16) (am_ke q13) ⟨rfl, rfl, Nat.le_of_ble_eq_true rfl, Nat.le_of_ble_eq_true rfl⟩ rfl (Nat.le_of_ble_eq_true rfl) ⟨Nat.le_of_ble_eq_true rfl, Nat.le_of_ble_eq_true rfl⟩ ?_
      refine am_iadd cx dX12_join_33 ?_
      refine am_bipush cx (v := (40 : Int32)) dX12_join_34 (by decide) ?_
      refine am_icmp_le cx (tgt := 41) dX12_join_36 (by decide) (fun h => ?_) (fun h => ?_)
      · have hres := am_ifp h hres
        refine am_aload_n cx 0 dX12_join_41 rfl ?_
        refine am_iload_n cx 1 dX12_join_42 rfl ?_
        refine am_iload_n cx 3 dX12_join_43 rfl ?_
        refine am_if_eq cx (tgt := 51) dX12_join_44 (by decide) (fun h => ?_) (fun h => ?_)
        · have hres := am_ifp h hres
          refine am_iconst cx (v := (2 : Int32)) dX12_join_51 (by decide) ?_
          exact sn12_join_b52 cx  hres
        · have hres := am_ifn h hres
          refine am_iconst cx (v := (1 : Int32)) dX12_join_47 (by decide) ?_
          refine am_goto cx (tgt := 52) dX12_join_48 (by decide) ?_
          exact sn12_join_b52 cx  hres
      · have hres := am_ifn h hres
        refine am_sub cx [] rfl ?_
        exact sn12_join_b39 cx  hres
set_option maxRecDepth 20000 in
theorem mt12_join {l : Launch} {v : Int32} {M M' : am_Mem} {N : Nat} {r0 : Nat} {x1 : Int32} {x2 : Int32} {x3 : Int32} (h : fn12_join N M r0 x1 x2 x3 = some (v, M')) : am_Met l yX12_join cX12_join 18 (some .int) rm12_join 0 0 [.inr (.inr (.inl r0)), .inl x1, .inl x2, .inl x3] M (some (.inl v)) M' := am_mk (by decide) (Nat.le_of_ble_eq_true rfl) (fun G cx => (sn12_join_b0 cx h))
