-- SquareCutsModel.common
def fn12_common_b42 (N : Nat) (k28 : Int64 → Int64 → am_Mem → Option (Int64 × am_Mem)) (j6 : Int64) (j8 : Int64) (M : am_Mem) : Option (Int64 × am_Mem) :=
  k28 j6 j8 M
def fn12_common_b28B (N : Nat) (k28 : Int64 → Int64 → am_Mem → Option (Int64 × am_Mem)) (j4 : Int64) (j6 : Int64) (M : am_Mem) : Option (Int64 × am_Mem) :=
  if (lg_cmp j6 (0 : Int64)) = 0 then some (j4, M) else am_ck (decide (¬ j6 = 0)) (fn12_common_b42 N k28 j6 (j4 - j4 / j6 * j6) M)
def fn12_common_b28 (N : Nat)  : Nat → Int64 → Int64 → am_Mem → Option (Int64 × am_Mem)
  | 0 => fun _ _ _ => none
  | i + 1 => fn12_common_b28B N (fn12_common_b28 N  i)
def fn12_common_b26 (N : Nat)  (b0 : Int64) (j4 : Int64) (M : am_Mem) : Option (Int64 × am_Mem) :=
  fn12_common_b28 N  N j4 b0 M
def fn12_common_b12 (N : Nat)  (b0 : Int64) (j2 : Int64) (M : am_Mem) : Option (Int64 × am_Mem) :=
  if 0 ≤ (lg_cmp j2 (0 : Int64)) then fn12_common_b26 N  j2 b0 M else fn12_common_b26 N  (-j2) b0 M
def fn12_common_b0 (N : Nat)  (j0 : Int64) (j2 : Int64) (M : am_Mem) : Option (Int64 × am_Mem) :=
  if 0 ≤ (lg_cmp j0 (0 : Int64)) then fn12_common_b12 N  j0 j2 M else fn12_common_b12 N  (-j0) j2 M
def fn12_common (N : Nat) (M : am_Mem) (j0 : Int64) (j2 : Int64) : Option (Int64 × am_Mem) := fn12_common_b0 N j0 j2 M
def rm12_common : Room := { frames := 0, cells := 0, slots := 0, locals := 0 }
set_option maxRecDepth 20000 in
theorem sn12_common_b42 {l : Launch} {G : am_G} {v : Int64} {M' : am_Mem} {N : Nat} {k28 : Int64 → Int64 → am_Mem → Option (Int64 × am_Mem)} (cx : am_Ctx l rm12_common yX12_common cX12_common 10 (some .long) (some (.inr (.inl v))) M' 0 0 G) (hk28 : ∀ (j4 : Int64) (j6 : Int64) (M : am_Mem), k28 j4 j6 M = some (v, M') → G 28 [(4, .inr (.inl j4)), (6, .inr (.inl j6))] [] M 0 0) {j6 : Int64} {j8 : Int64} {M : am_Mem} (hres : fn12_common_b42 N k28 j6 j8 M = some (v, M')) : G 42 [(6, .inr (.inl j6)), (8, .inr (.inl j8))] [] M 0 0 := by
  unfold fn12_common_b42 at hres
  refine am_lload cx 0 dX12_common_42 rfl ?_
  refine am_lstore cx (lv' := [(4, .inr (.inl j6)), (6, .inr (.inl j6)), (8, .inr (.inl j8))]) dX12_common_44 (Nat.le_of_ble_eq_true rfl) rfl ?_
  refine am_lload cx 2 dX12_common_46 rfl ?_
  refine am_lstore cx (lv' := [(4, .inr (.inl j6)), (6, .inr (.inl j8)), (8, .inr (.inl j8))]) dX12_common_48 (Nat.le_of_ble_eq_true rfl) rfl ?_
  refine am_goto cx (tgt := 28) dX12_common_50 (by decide) ?_
  refine am_sub cx [0, 1] rfl ?_
  exact hk28 _ _ _ hres
set_option maxRecDepth 20000 in
theorem sn12_common_b28B {l : Launch} {G : am_G} {v : Int64} {M' : am_Mem} {N : Nat} {k28 : Int64 → Int64 → am_Mem → Option (Int64 × am_Mem)} (cx : am_Ctx l rm12_common yX12_common cX12_common 10 (some .long) (some (.inr (.inl v))) M' 0 0 G) (hk28 : ∀ (j4 : Int64) (j6 : Int64) (M : am_Mem), k28 j4 j6 M = some (v, M') → G 28 [(4, .inr (.inl j4)), (6, .inr (.inl j6))] [] M 0 0) {j4 : Int64} {j6 : Int64} {M : am_Mem} (hres : fn12_common_b28B N k28 j4 j6 M = some (v, M')) : G 28 [(4, .inr (.inl j4)), (6, .inr (.inl j6))] [] M 0 0 := by
  unfold fn12_common_b28B at hres
  refine am_lload cx 1 dX12_common_28 rfl ?_
  refine am_lconst cx (v := (0 : Int64)) dX12_common_30 (by decide) ?_
  refine am_lcmp cx dX12_common_31 ?_
  refine am_if_eq cx (tgt := 53) dX12_common_32 (by decide) (fun h => ?_) (fun h => ?_)
  · have hres := am_ifp h hres
    refine am_lload cx 0 dX12_common_53 rfl ?_
    obtain ⟨rfl, rfl⟩ := am_fin hres
    exact am_lret cx dX12_common_55
  · have hres := am_ifn h hres
    refine am_lload cx 0 dX12_common_35 rfl ?_
    refine am_lload cx 1 dX12_common_37 rfl ?_
    obtain ⟨q1, hres⟩ := am_ck_some hres
    refine am_lrem cx dX12_common_39 (of_decide_eq_true q1) ?_
    refine am_lstore cx (lv' := [(4, .inr (.inl j4)), (6, .inr (.inl j6)), (8, .inr (.inl (j4 - j4 / j6 * j6)))]) dX12_common_40 (Nat.le_of_ble_eq_true rfl) rfl ?_
    refine am_sub cx [1, 2] rfl ?_
    exact sn12_common_b42 cx hk28 hres
set_option maxRecDepth 20000 in
theorem sn12_common_b28 {l : Launch} {G : am_G} {v : Int64} {M' : am_Mem} {N : Nat}  (cx : am_Ctx l rm12_common yX12_common cX12_common 10 (some .long) (some (.inr (.inl v))) M' 0 0 G)  (i : Nat) : ∀ (j4 : Int64) (j6 : Int64) (M : am_Mem), fn12_common_b28 N  i j4 j6 M = some (v, M') → G 28 [(4, .inr (.inl j4)), (6, .inr (.inl j6))] [] M 0 0 := by
  induction i with
  | zero => intro j4 j6 M hres; exact am_no hres
  | succ i ih => intro j4 j6 M hres; exact sn12_common_b28B cx ih hres
set_option maxRecDepth 20000 in
theorem sn12_common_b26 {l : Launch} {G : am_G} {v : Int64} {M' : am_Mem} {N : Nat}  (cx : am_Ctx l rm12_common yX12_common cX12_common 10 (some .long) (some (.inr (.inl v))) M' 0 0 G)  {b0 : Int64} {j4 : Int64} {M : am_Mem} (hres : fn12_common_b26 N  b0 j4 M = some (v, M')) : G 26 [(4, .inr (.inl j4))] [.inr (.inl b0)] M 0 0 := by
  unfold fn12_common_b26 at hres
  refine am_lstore cx (lv' := [(4, .inr (.inl j4)), (6, .inr (.inl b0))]) dX12_common_26 (Nat.le_of_ble_eq_true rfl) rfl ?_
  exact sn12_common_b28 cx  N _ _ _ hres
set_option maxRecDepth 20000 in
theorem sn12_common_b12 {l : Launch} {G : am_G} {v : Int64} {M' : am_Mem} {N : Nat}  (cx : am_Ctx l rm12_common yX12_common cX12_common 10 (some .long) (some (.inr (.inl v))) M' 0 0 G)  {b0 : Int64} {j2 : Int64} {M : am_Mem} (hres : fn12_common_b12 N  b0 j2 M = some (v, M')) : G 12 [(2, .inr (.inl j2))] [.inr (.inl b0)] M 0 0 := by
  unfold fn12_common_b12 at hres
  refine am_lstore cx (lv' := [(2, .inr (.inl j2)), (4, .inr (.inl b0))]) dX12_common_12 (Nat.le_of_ble_eq_true rfl) rfl ?_
  refine am_lload_n cx 0 dX12_common_14 rfl ?_
  refine am_lconst cx (v := (0 : Int64)) dX12_common_15 (by decide) ?_
  refine am_lcmp cx dX12_common_16 ?_
  refine am_if_ge cx (tgt := 25) dX12_common_17 (by decide) (fun h => ?_) (fun h => ?_)
  · have hres := am_ifp h hres
    refine am_lload_n cx 0 dX12_common_25 rfl ?_
    refine am_sub cx [1] rfl ?_
    exact sn12_common_b26 cx  hres
  · have hres := am_ifn h hres
    refine am_lload_n cx 0 dX12_common_20 rfl ?_
    refine am_lneg cx dX12_common_21 ?_
    refine am_goto cx (tgt := 26) dX12_common_22 (by decide) ?_
    refine am_sub cx [1] rfl ?_
    exact sn12_common_b26 cx  hres
set_option maxRecDepth 20000 in
theorem sn12_common_b0 {l : Launch} {G : am_G} {v : Int64} {M' : am_Mem} {N : Nat}  (cx : am_Ctx l rm12_common yX12_common cX12_common 10 (some .long) (some (.inr (.inl v))) M' 0 0 G)  {j0 : Int64} {j2 : Int64} {M : am_Mem} (hres : fn12_common_b0 N  j0 j2 M = some (v, M')) : G 0 [(0, .inr (.inl j0)), (2, .inr (.inl j2))] [] M 0 0 := by
  unfold fn12_common_b0 at hres
  refine am_lload_n cx 0 dX12_common_0 rfl ?_
  refine am_lconst cx (v := (0 : Int64)) dX12_common_1 (by decide) ?_
  refine am_lcmp cx dX12_common_2 ?_
  refine am_if_ge cx (tgt := 11) dX12_common_3 (by decide) (fun h => ?_) (fun h => ?_)
  · have hres := am_ifp h hres
    refine am_lload_n cx 0 dX12_common_11 rfl ?_
    refine am_sub cx [1] rfl ?_
    exact sn12_common_b12 cx  hres
  · have hres := am_ifn h hres
    refine am_lload_n cx 0 dX12_common_6 rfl ?_
    refine am_lneg cx dX12_common_7 ?_
    refine am_goto cx (tgt := 12) dX12_common_8 (by decide) ?_
    refine am_sub cx [1] rfl ?_
    exact sn12_common_b12 cx  hres
set_option maxRecDepth 20000 in
theorem mt12_common {l : Launch} {v : Int64} {M M' : am_Mem} {N : Nat} {j0 : Int64} {j2 : Int64} (h : fn12_common N M j0 j2 = some (v, M')) : am_Met l yX12_common cX12_common 10 (some .long) rm12_common 0 0 [.inr (.inl j0), .inr (.inl j2)] M (some (.inr (.inl v))) M' := am_mk (by decide) (Nat.le_of_ble_eq_true rfl) (fun G cx => (sn12_common_b0 cx h))
-- SquareCutsModel.topOf
def fn12_topOf_b64  (b0 : Int64) (M : am_Mem) : Option (Int64 × am_Mem) :=
  some (b0, M)
def fn12_topOf_b51  (j3 : Int64) (j5 : Int64) (M : am_Mem) : Option (Int64 × am_Mem) :=
  if (lg_cmp j3 j5) ≤ 0 then fn12_topOf_b64  j5 M else fn12_topOf_b64  j3 M
def fn12_topOf_b24  (r0 : Nat) (x1 : Int32) (x2 : Int32) (j3 : Int64) (M : am_Mem) : Option (Int64 × am_Mem) :=
  am_ck (am_k M r0 12) (am_ck (am_k M (am_R M r0 26) 14) (am_ck (am_in ((((28 : Int32) * x1) + ((2 : Int32) * x2)) + (1 : Int32)) (am_L M (am_R M r0 26))) (am_ck (am_k M (am_R M r0 30) 15) (am_ck (am_in (((9 : Int32) * x1) + (am_I M (am_R M r0 26) ((((28 : Int32) * x1) + ((2 : Int32) * x2)) + (1 : Int32)).toNatClampNeg)) (am_L M (am_R M r0 30))) (fn12_topOf_b51  j3 (am_J M (am_R M r0 30) (((9 : Int32) * x1) + (am_I M (am_R M r0 26) ((((28 : Int32) * x1) + ((2 : Int32) * x2)) + (1 : Int32)).toNatClampNeg)).toNatClampNeg) M)))))
def fn12_topOf_b0  (r0 : Nat) (x1 : Int32) (x2 : Int32) (M : am_Mem) : Option (Int64 × am_Mem) :=
  am_ck (am_k M r0 12) (am_ck (am_k M (am_R M r0 26) 14) (am_ck (am_in (((28 : Int32) * x1) + ((2 : Int32) * x2)) (am_L M (am_R M r0 26))) (am_ck (am_k M (am_R M r0 30) 15) (am_ck (am_in (((9 : Int32) * x1) + (am_I M (am_R M r0 26) (((28 : Int32) * x1) + ((2 : Int32) * x2)).toNatClampNeg)) (am_L M (am_R M r0 30))) (fn12_topOf_b24  r0 x1 x2 (am_J M (am_R M r0 30) (((9 : Int32) * x1) + (am_I M (am_R M r0 26) (((28 : Int32) * x1) + ((2 : Int32) * x2)).toNatClampNeg)).toNatClampNeg) M)))))
def fn12_topOf (M : am_Mem) (r0 : Nat) (x1 : Int32) (x2 : Int32) : Option (Int64 × am_Mem) := fn12_topOf_b0  r0 x1 x2 M
def rm12_topOf : Room := { frames := 0, cells := 0, slots := 0, locals := 0 }
set_option maxRecDepth 20000 in
theorem sn12_topOf_b64 {l : Launch} {G : am_G} {v : Int64} {M' : am_Mem}  (cx : am_Ctx l rm12_topOf yX12_topOf cX12_topOf 7 (some .long) (some (.inr (.inl v))) M' 0 0 G)  {b0 : Int64} {M : am_Mem} (hres : fn12_topOf_b64  b0 M = some (v, M')) : G 64 [] [.inr (.inl b0)] M 0 0 := by
  unfold fn12_topOf_b64 at hres
  obtain ⟨rfl, rfl⟩ := am_fin hres
  exact am_lret cx dX12_topOf_64
set_option maxRecDepth 20000 in
theorem sn12_topOf_b51 {l : Launch} {G : am_G} {v : Int64} {M' : am_Mem}  (cx : am_Ctx l rm12_topOf yX12_topOf cX12_topOf 7 (some .long) (some (.inr (.inl v))) M' 0 0 G)  {j3 : Int64} {j5 : Int64} {M : am_Mem} (hres : fn12_topOf_b51  j3 j5 M = some (v, M')) : G 51 [(3, .inr (.inl j3)), (5, .inr (.inl j5))] [] M 0 0 := by
  unfold fn12_topOf_b51 at hres
  refine am_lload_n cx 0 dX12_topOf_51 rfl ?_
  refine am_lload cx 1 dX12_topOf_52 rfl ?_
  refine am_lcmp cx dX12_topOf_54 ?_
  refine am_if_le cx (tgt := 62) dX12_topOf_55 (by decide) (fun h => ?_) (fun h => ?_)
  · have hres := am_ifp h hres
    refine am_lload cx 1 dX12_topOf_62 rfl ?_
    refine am_sub cx [] rfl ?_
    exact sn12_topOf_b64 cx  hres
  · have hres := am_ifn h hres
    refine am_lload_n cx 0 dX12_topOf_58 rfl ?_
    refine am_goto cx (tgt := 64) dX12_topOf_59 (by decide) ?_
    refine am_sub cx [] rfl ?_
    exact sn12_topOf_b64 cx  hres
set_option maxRecDepth 20000 in
theorem sn12_topOf_b24 {l : Launch} {G : am_G} {v : Int64} {M' : am_Mem}  (cx : am_Ctx l rm12_topOf yX12_topOf cX12_topOf 7 (some .long) (some (.inr (.inl v))) M' 0 0 G)  {r0 : Nat} {x1 : Int32} {x2 : Int32} {j3 : Int64} {M : am_Mem} (hres : fn12_topOf_b24  r0 x1 x2 j3 M = some (v, M')) : G 24 [(0, .inr (.inr (.inl r0))), (1, .inl x1), (2, .inl x2), (3, .inr (.inl j3))] [] M 0 0 := by
  unfold fn12_topOf_b24 at hres
  refine am_aload_n cx 0 dX12_topOf_24 rfl ?_
  obtain ⟨q1, hres⟩ := am_ck_some hres
  refine am_getR cx dX12_topOf_25 flX12_64 (am_ke q1) ?_
  refine am_bipush cx (v := (9 : Int32)) dX12_topOf_28 (by decide) ?_
  refine am_iload_n cx 1 dX12_topOf_30 rfl ?_
  refine am_imul cx dX12_topOf_31 ?_
  refine am_aload_n cx 0 dX12_topOf_32 rfl ?_
  refine am_getR cx dX12_topOf_33 flX12_52 (am_ke q1) ?_
  refine am_bipush cx (v := (28 : Int32)) dX12_topOf_36 (by decide) ?_
  refine am_iload_n cx 1 dX12_topOf_38 rfl ?_
  refine am_imul cx dX12_topOf_39 ?_
  refine am_iconst cx (v := (2 : Int32)) dX12_topOf_40 (by decide) ?_
  refine am_iload_n cx 2 dX12_topOf_41 rfl ?_
  refine am_imul cx dX12_topOf_42 ?_
  refine am_iadd cx dX12_topOf_43 ?_
  refine am_iconst cx (v := (1 : Int32)) dX12_topOf_44 (by decide) ?_
  refine am_iadd cx dX12_topOf_45 ?_
  obtain ⟨q2, hres⟩ := am_ck_some hres
  obtain ⟨q3, hres⟩ := am_ck_some hres
  refine am_iald cx dX12_topOf_46 (am_ke q2) q3 ?_
  refine am_iadd cx dX12_topOf_47 ?_
  obtain ⟨q4, hres⟩ := am_ck_some hres
  obtain ⟨q5, hres⟩ := am_ck_some hres
  refine am_lald cx dX12_topOf_48 (am_ke q4) q5 ?_
  refine am_lstore cx (lv' := [(0, .inr (.inr (.inl r0))), (1, .inl x1), (2, .inl x2), (3, .inr (.inl j3)), (5, .inr (.inl (am_J M (am_R M r0 30) (((9 : Int32) * x1) + (am_I M (am_R M r0 26) ((((28 : Int32) * x1) + ((2 : Int32) * x2)) + (1 : Int32)).toNatClampNeg)).toNatClampNeg)))]) dX12_topOf_49 (Nat.le_of_ble_eq_true rfl) rfl ?_
  refine am_sub cx [3, 4] rfl ?_
  exact sn12_topOf_b51 cx  hres
set_option maxRecDepth 20000 in
theorem sn12_topOf_b0 {l : Launch} {G : am_G} {v : Int64} {M' : am_Mem}  (cx : am_Ctx l rm12_topOf yX12_topOf cX12_topOf 7 (some .long) (some (.inr (.inl v))) M' 0 0 G)  {r0 : Nat} {x1 : Int32} {x2 : Int32} {M : am_Mem} (hres : fn12_topOf_b0  r0 x1 x2 M = some (v, M')) : G 0 [(0, .inr (.inr (.inl r0))), (1, .inl x1), (2, .inl x2)] [] M 0 0 := by
  unfold fn12_topOf_b0 at hres
  refine am_aload_n cx 0 dX12_topOf_0 rfl ?_
  obtain ⟨q1, hres⟩ := am_ck_some hres
  refine am_getR cx dX12_topOf_1 flX12_64 (am_ke q1) ?_
  refine am_bipush cx (v := (9 : Int32)) dX12_topOf_4 (by decide) ?_
  refine am_iload_n cx 1 dX12_topOf_6 rfl ?_
  refine am_imul cx dX12_topOf_7 ?_
  refine am_aload_n cx 0 dX12_topOf_8 rfl ?_
  refine am_getR cx dX12_topOf_9 flX12_52 (am_ke q1) ?_
  refine am_bipush cx (v := (28 : Int32)) dX12_topOf_12 (by decide) ?_
  refine am_iload_n cx 1 dX12_topOf_14 rfl ?_
  refine am_imul cx dX12_topOf_15 ?_
  refine am_iconst cx (v := (2 : Int32)) dX12_topOf_16 (by decide) ?_
  refine am_iload_n cx 2 dX12_topOf_17 rfl ?_
  refine am_imul cx dX12_topOf_18 ?_
  refine am_iadd cx dX12_topOf_19 ?_
  obtain ⟨q2, hres⟩ := am_ck_some hres
  obtain ⟨q3, hres⟩ := am_ck_some hres
  refine am_iald cx dX12_topOf_20 (am_ke q2) q3 ?_
  refine am_iadd cx dX12_topOf_21 ?_
  obtain ⟨q4, hres⟩ := am_ck_some hres
  obtain ⟨q5, hres⟩ := am_ck_some hres
  refine am_lald cx dX12_topOf_22 (am_ke q4) q5 ?_
  refine am_lstore_n cx (lv' := [(0, .inr (.inr (.inl r0))), (1, .inl x1), (2, .inl x2), (3, .inr (.inl (am_J M (am_R M r0 30) (((9 : Int32) * x1) + (am_I M (am_R M r0 26) (((28 : Int32) * x1) + ((2 : Int32) * x2)).toNatClampNeg)).toNatClampNeg)))]) dX12_topOf_23 (Nat.le_of_ble_eq_true rfl) rfl ?_
  exact sn12_topOf_b24 cx  hres
set_option maxRecDepth 20000 in
theorem mt12_topOf {l : Launch} {v : Int64} {M M' : am_Mem} {r0 : Nat} {x1 : Int32} {x2 : Int32} (h : fn12_topOf M r0 x1 x2 = some (v, M')) : am_Met l yX12_topOf cX12_topOf 7 (some .long) rm12_topOf 0 0 [.inr (.inr (.inl r0)), .inl x1, .inl x2] M (some (.inr (.inl v))) M' := am_mk (by decide) (Nat.le_of_ble_eq_true rfl) (fun G cx => (sn12_topOf_b0 cx h))
-- SquareCutsModel.sizeOf
def fn12_sizeOf_b42  (b0 : Int64) (M : am_Mem) : Option (Int32 × am_Mem) :=
  some (b0.toInt32, M)
def fn12_sizeOf_b0  (r0 : Nat) (x1 : Int32) (x2 : Int32) (M : am_Mem) : Option (Int32 × am_Mem) :=
  am_ck (am_k M r0 12) (am_ck (am_k M (am_R M r0 31) 15) (am_ck (am_in (((14 : Int32) * x1) + x2) (am_L M (am_R M r0 31))) (if 0 ≤ (lg_cmp (am_J M (am_R M r0 31) (((14 : Int32) * x1) + x2).toNatClampNeg) (0 : Int64)) then am_ck (am_in (((14 : Int32) * x1) + x2) (am_L M (am_R M r0 31))) (fn12_sizeOf_b42  (am_J M (am_R M r0 31) (((14 : Int32) * x1) + x2).toNatClampNeg) M) else am_ck (am_in (((14 : Int32) * x1) + x2) (am_L M (am_R M r0 31))) (fn12_sizeOf_b42  (-(am_J M (am_R M r0 31) (((14 : Int32) * x1) + x2).toNatClampNeg)) M))))
def fn12_sizeOf (M : am_Mem) (r0 : Nat) (x1 : Int32) (x2 : Int32) : Option (Int32 × am_Mem) := fn12_sizeOf_b0  r0 x1 x2 M
def rm12_sizeOf : Room := { frames := 0, cells := 0, slots := 0, locals := 0 }
set_option maxRecDepth 20000 in
theorem sn12_sizeOf_b42 {l : Launch} {G : am_G} {v : Int32} {M' : am_Mem}  (cx : am_Ctx l rm12_sizeOf yX12_sizeOf cX12_sizeOf 3 (some .int) (some (.inl v)) M' 0 0 G)  {b0 : Int64} {M : am_Mem} (hres : fn12_sizeOf_b42  b0 M = some (v, M')) : G 42 [] [.inr (.inl b0)] M 0 0 := by
  unfold fn12_sizeOf_b42 at hres
  refine am_l2i cx dX12_sizeOf_42 ?_
  obtain ⟨rfl, rfl⟩ := am_fin hres
  exact am_iret cx dX12_sizeOf_43
set_option maxRecDepth 20000 in
theorem sn12_sizeOf_b0 {l : Launch} {G : am_G} {v : Int32} {M' : am_Mem}  (cx : am_Ctx l rm12_sizeOf yX12_sizeOf cX12_sizeOf 3 (some .int) (some (.inl v)) M' 0 0 G)  {r0 : Nat} {x1 : Int32} {x2 : Int32} {M : am_Mem} (hres : fn12_sizeOf_b0  r0 x1 x2 M = some (v, M')) : G 0 [(0, .inr (.inr (.inl r0))), (1, .inl x1), (2, .inl x2)] [] M 0 0 := by
  unfold fn12_sizeOf_b0 at hres
  refine am_aload_n cx 0 dX12_sizeOf_0 rfl ?_
  obtain ⟨q1, hres⟩ := am_ck_some hres
  refine am_getR cx dX12_sizeOf_1 flX12_67 (am_ke q1) ?_
  refine am_bipush cx (v := (14 : Int32)) dX12_sizeOf_4 (by decide) ?_
  refine am_iload_n cx 1 dX12_sizeOf_6 rfl ?_
  refine am_imul cx dX12_sizeOf_7 ?_
  refine am_iload_n cx 2 dX12_sizeOf_8 rfl ?_
  refine am_iadd cx dX12_sizeOf_9 ?_
  obtain ⟨q2, hres⟩ := am_ck_some hres
  obtain ⟨q3, hres⟩ := am_ck_some hres
  refine am_lald cx dX12_sizeOf_10 (am_ke q2) q3 ?_
  refine am_lconst cx (v := (0 : Int64)) dX12_sizeOf_11 (by decide) ?_
  refine am_lcmp cx dX12_sizeOf_12 ?_
  refine am_if_ge cx (tgt := 31) dX12_sizeOf_13 (by decide) (fun h => ?_) (fun h => ?_)
  · have hres := am_ifp h hres
    refine am_aload_n cx 0 dX12_sizeOf_31 rfl ?_
    refine am_getR cx dX12_sizeOf_32 flX12_67 (am_ke q1) ?_
    refine am_bipush cx (v := (14 : Int32)) dX12_sizeOf_35 (by decide) ?_
    refine am_iload_n cx 1 dX12_sizeOf_37 rfl ?_
    refine am_imul cx dX12_sizeOf_38 ?_
    refine am_iload_n cx 2 dX12_sizeOf_39 rfl ?_
    refine am_iadd cx dX12_sizeOf_40 ?_
    obtain ⟨q4, hres⟩ := am_ck_some hres
    refine am_lald cx dX12_sizeOf_41 (am_ke q2) q4 ?_
    refine am_sub cx [] rfl ?_
    exact sn12_sizeOf_b42 cx  hres
  · have hres := am_ifn h hres
    refine am_aload_n cx 0 dX12_sizeOf_16 rfl ?_
    refine am_getR cx dX12_sizeOf_17 flX12_67 (am_ke q1) ?_
    refine am_bipush cx (v := (14 : Int32)) dX12_sizeOf_20 (by decide) ?_
    refine am_iload_n cx 1 dX12_sizeOf_22 rfl ?_
    refine am_imul cx dX12_sizeOf_23 ?_
    refine am_iload_n cx 2 dX12_sizeOf_24 rfl ?_
    refine am_iadd cx dX12_sizeOf_25 ?_
    obtain ⟨q5, hres⟩ := am_ck_some hres
    refine am_lald cx dX12_sizeOf_26 (am_ke q2) q5 ?_
    refine am_lneg cx dX12_sizeOf_27 ?_
    refine am_goto cx (tgt := 42) dX12_sizeOf_28 (by decide) ?_
    refine am_sub cx [] rfl ?_
    exact sn12_sizeOf_b42 cx  hres
set_option maxRecDepth 20000 in
theorem mt12_sizeOf {l : Launch} {v : Int32} {M M' : am_Mem} {r0 : Nat} {x1 : Int32} {x2 : Int32} (h : fn12_sizeOf M r0 x1 x2 = some (v, M')) : am_Met l yX12_sizeOf cX12_sizeOf 3 (some .int) rm12_sizeOf 0 0 [.inr (.inr (.inl r0)), .inl x1, .inl x2] M (some (.inl v)) M' := am_mk (by decide) (Nat.le_of_ble_eq_true rfl) (fun G cx => (sn12_sizeOf_b0 cx h))
-- SquareCutsModel.goes
def fn12_goes_b192 (N : Nat) (kr : am_Mem → Nat → Int32 → Int32 → Option (Int32 × am_Mem))   (M : am_Mem) : Option (Int32 × am_Mem) :=
  some ((0 : Int32), M)
def fn12_goes_b186 (N : Nat) (kr : am_Mem → Nat → Int32 → Int32 → Option (Int32 × am_Mem)) (k33 : Nat → Int32 → Int32 → Int32 → Int64 → Int32 → am_Mem → Option (Int32 × am_Mem)) (r0 : Nat) (x1 : Int32) (x2 : Int32) (x3 : Int32) (j4 : Int64) (x6 : Int32) (M : am_Mem) : Option (Int32 × am_Mem) :=
  k33 r0 x1 x2 x3 j4 (x6 + (1 : Int32)) M
def fn12_goes_b33B (N : Nat) (kr : am_Mem → Nat → Int32 → Int32 → Option (Int32 × am_Mem)) (k33 : Nat → Int32 → Int32 → Int32 → Int64 → Int32 → am_Mem → Option (Int32 × am_Mem)) (r0 : Nat) (x1 : Int32) (x2 : Int32) (x3 : Int32) (j4 : Int64) (x6 : Int32) (M : am_Mem) : Option (Int32 × am_Mem) :=
  am_ck (am_k M r0 12) (am_ck (am_k M (am_R M r0 25) 14) (am_ck (am_in x1 (am_L M (am_R M r0 25))) (if (am_I M (am_R M r0 25) x1.toNatClampNeg) ≤ x6 then fn12_goes_b192 N kr   M else if (am_I M r0 39) = 0 then am_bd (fn12_sizeOf M r0 x1 x6) (fun v4 M5 => am_ck (am_k M5 r0 12) (am_ck (am_k M5 (am_R M5 r0 37) 16) (am_ck (am_in x6 (am_L M5 (am_R M5 r0 37))) (if (am_I M5 (am_R M5 r0 37) x6.toNatClampNeg) = 0 then if v4 = 0 then fn12_goes_b186 N kr k33 r0 x1 x2 x3 j4 x6 M5 else am_bd (fn12_widthOf M5 r0 x2 x3) (fun v10 M11 => if v10 < v4 then fn12_goes_b186 N kr k33 r0 x1 x2 x3 j4 x6 M11 else am_ck (am_k M11 r0 12) (am_bd (fn12_topOf M11 r0 x1 x6) (fun v14 M15 => am_ck (am_k M15 r0 12) (am_ck (am_k M15 (am_R M15 r0 30) 15) (am_ck (am_in ((9 : Int32) * x1) (am_L M15 (am_R M15 r0 30))) (if (lg_cmp v14 ((am_J M15 (am_R M15 r0 30) ((9 : Int32) * x1).toNatClampNeg) - j4)) = 0 then am_ck (am_k M15 (am_R M15 r0 28) 14) (am_ck (am_in x1 (am_L M15 (am_R M15 r0 28))) (if (am_I M15 (am_R M15 r0 28) x1.toNatClampNeg) = (20000 : Int32) then some ((0 : Int32), (am_wI M15 r0 39 (1 : Int32))) else am_ck (am_in x1 (am_L M15 (am_R M15 r0 28))) (am_ck (am_in x1 (am_L M15 (am_R M15 r0 28))) (am_ck (am_k M15 (am_R M15 r0 37) 16) (am_ck (am_in x6 (am_L M15 (am_R M15 r0 37))) (am_bd (fn12_squares N (am_wI (am_wI M15 (am_R M15 r0 28) x1.toNatClampNeg ((am_I M15 (am_R M15 r0 28) x1.toNatClampNeg) + (1 : Int32))) (am_R M15 r0 37) x6.toNatClampNeg ((1 : Int32) &&& 1)) r0 x1 x2 x2 v4) (fun v26 M27 => am_ck (am_k M27 r0 12) (am_bd (fn12_laysOn N M27 r0 x2 v4) (fun v30 M31 => am_ck (am_k M31 r0 12) (am_bd (kr M31 r0 x1 (x2 + (1 : Int32))) (fun v34 M35 => if v34 = 0 then am_ck (am_k M35 r0 12) (am_ck (am_k M35 (am_R M35 r0 37) 16) (am_ck (am_in x6 (am_L M35 (am_R M35 r0 37))) (fn12_goes_b186 N kr k33 r0 x1 x2 x3 j4 x6 (am_wI M35 (am_R M35 r0 37) x6.toNatClampNeg ((0 : Int32) &&& 1))))) else some ((1 : Int32), M35)))))))))))) else fn12_goes_b186 N kr k33 r0 x1 x2 x3 j4 x6 M15)))))) else fn12_goes_b186 N kr k33 r0 x1 x2 x3 j4 x6 M5)))) else fn12_goes_b192 N kr   M)))
def fn12_goes_b33 (N : Nat) (kr : am_Mem → Nat → Int32 → Int32 → Option (Int32 × am_Mem))  : Nat → Nat → Int32 → Int32 → Int32 → Int64 → Int32 → am_Mem → Option (Int32 × am_Mem)
  | 0 => fun _ _ _ _ _ _ _ => none
  | i + 1 => fn12_goes_b33B N kr (fn12_goes_b33 N kr  i)
def fn12_goes_b30 (N : Nat) (kr : am_Mem → Nat → Int32 → Int32 → Option (Int32 × am_Mem))  (r0 : Nat) (x1 : Int32) (x2 : Int32) (x3 : Int32) (j4 : Int64) (M : am_Mem) : Option (Int32 × am_Mem) :=
  fn12_goes_b33 N kr  N r0 x1 x2 x3 j4 (0 : Int32) M
def fn12_goes_b0 (N : Nat) (kr : am_Mem → Nat → Int32 → Int32 → Option (Int32 × am_Mem))  (r0 : Nat) (x1 : Int32) (x2 : Int32) (M : am_Mem) : Option (Int32 × am_Mem) :=
  am_ck (am_k M r0 12) (if x2 = (am_I M r0 38) then some ((1 : Int32), M) else am_bd (fn12_notchAt N M r0 x2) (fun v2 M3 => am_ck (am_k M3 r0 12) (am_ck (am_k M3 (am_R M3 r0 34) 14) (am_ck (am_in (((42 : Int32) * x2) + v2) (am_L M3 (am_R M3 r0 34))) (fn12_goes_b30 N kr  r0 x1 x2 v2 ((am_I M3 (am_R M3 r0 34) (((42 : Int32) * x2) + v2).toNatClampNeg).toInt64) M3)))))
def fn12_goes (N : Nat) : Nat → am_Mem → Nat → Int32 → Int32 → Option (Int32 × am_Mem)
  | 0 => fun _ _ _ _ => none
  | d + 1 => fun M r0 x1 x2 => fn12_goes_b0 N (fn12_goes N d) r0 x1 x2 M
def rm12_goes (d : Nat) : Room := { frames := 3 + d, cells := 0, slots := 0, locals := 69 + d * 27 }
set_option maxRecDepth 20000 in
theorem sn12_goes_b192 {l : Launch} {G : am_G} {v : Int32} {M' : am_Mem} {N : Nat} {kr : am_Mem → Nat → Int32 → Int32 → Option (Int32 × am_Mem)} {d : Nat}  (cx : am_Ctx l (rm12_goes (d + 1)) yX12_goes cX12_goes 8 (some .boolean) (some (.inl v)) M' 0 0 G) (hkr : ∀ {M : am_Mem} {r0 : Nat} {x1 : Int32} {x2 : Int32} {v : Int32} {M' : am_Mem}, kr M r0 x1 x2 = some (v, M') → am_Met l yX12_goes cX12_goes 8 (some .boolean) (rm12_goes d) 0 0 [.inr (.inr (.inl r0)), .inl x1, .inl x2] M (some (.inl v)) M')   {M : am_Mem} (hres : fn12_goes_b192 N kr   M = some (v, M')) : G 192 [] [] M 0 0 := by
  unfold fn12_goes_b192 at hres
  refine am_iconst cx (v := (0 : Int32)) dX12_goes_192 (by decide) ?_
  obtain ⟨rfl, rfl⟩ := am_fin hres
  exact am_zret cx rfl dX12_goes_193
set_option maxRecDepth 20000 in
theorem sn12_goes_b186 {l : Launch} {G : am_G} {v : Int32} {M' : am_Mem} {N : Nat} {kr : am_Mem → Nat → Int32 → Int32 → Option (Int32 × am_Mem)} {d : Nat} {k33 : Nat → Int32 → Int32 → Int32 → Int64 → Int32 → am_Mem → Option (Int32 × am_Mem)} (cx : am_Ctx l (rm12_goes (d + 1)) yX12_goes cX12_goes 8 (some .boolean) (some (.inl v)) M' 0 0 G) (hkr : ∀ {M : am_Mem} {r0 : Nat} {x1 : Int32} {x2 : Int32} {v : Int32} {M' : am_Mem}, kr M r0 x1 x2 = some (v, M') → am_Met l yX12_goes cX12_goes 8 (some .boolean) (rm12_goes d) 0 0 [.inr (.inr (.inl r0)), .inl x1, .inl x2] M (some (.inl v)) M') (hk33 : ∀ (r0 : Nat) (x1 : Int32) (x2 : Int32) (x3 : Int32) (j4 : Int64) (x6 : Int32) (M : am_Mem), k33 r0 x1 x2 x3 j4 x6 M = some (v, M') → G 33 [(0, .inr (.inr (.inl r0))), (1, .inl x1), (2, .inl x2), (3, .inl x3), (4, .inr (.inl j4)), (6, .inl x6)] [] M 0 0) {r0 : Nat} {x1 : Int32} {x2 : Int32} {x3 : Int32} {j4 : Int64} {x6 : Int32} {M : am_Mem} (hres : fn12_goes_b186 N kr k33 r0 x1 x2 x3 j4 x6 M = some (v, M')) : G 186 [(0, .inr (.inr (.inl r0))), (1, .inl x1), (2, .inl x2), (3, .inl x3), (4, .inr (.inl j4)), (6, .inl x6)] [] M 0 0 := by
  unfold fn12_goes_b186 at hres
  refine am_iincw cx (lv' := [(0, .inr (.inr (.inl r0))), (1, .inl x1), (2, .inl x2), (3, .inl x3), (4, .inr (.inl j4)), (6, .inl (x6 + (1 : Int32)))]) (w := (1 : Int32)) 5 dX12_goes_186 (by decide) rfl (Nat.le_of_ble_eq_true rfl) rfl ?_
  refine am_goto cx (tgt := 33) dX12_goes_189 (by decide) ?_
  exact hk33 _ _ _ _ _ _ _ hres
set_option maxRecDepth 20000 in
theorem sn12_goes_b33B {l : Launch} {G : am_G} {v : Int32} {M' : am_Mem} {N : Nat} {kr : am_Mem → Nat → Int32 → Int32 → Option (Int32 × am_Mem)} {d : Nat} {k33 : Nat → Int32 → Int32 → Int32 → Int64 → Int32 → am_Mem → Option (Int32 × am_Mem)} (cx : am_Ctx l (rm12_goes (d + 1)) yX12_goes cX12_goes 8 (some .boolean) (some (.inl v)) M' 0 0 G) (hkr : ∀ {M : am_Mem} {r0 : Nat} {x1 : Int32} {x2 : Int32} {v : Int32} {M' : am_Mem}, kr M r0 x1 x2 = some (v, M') → am_Met l yX12_goes cX12_goes 8 (some .boolean) (rm12_goes d) 0 0 [.inr (.inr (.inl r0)), .inl x1, .inl x2] M (some (.inl v)) M') (hk33 : ∀ (r0 : Nat) (x1 : Int32) (x2 : Int32) (x3 : Int32) (j4 : Int64) (x6 : Int32) (M : am_Mem), k33 r0 x1 x2 x3 j4 x6 M = some (v, M') → G 33 [(0, .inr (.inr (.inl r0))), (1, .inl x1), (2, .inl x2), (3, .inl x3), (4, .inr (.inl j4)), (6, .inl x6)] [] M 0 0) {r0 : Nat} {x1 : Int32} {x2 : Int32} {x3 : Int32} {j4 : Int64} {x6 : Int32} {M : am_Mem} (hres : fn12_goes_b33B N kr k33 r0 x1 x2 x3 j4 x6 M = some (v, M')) : G 33 [(0, .inr (.inr (.inl r0))), (1, .inl x1), (2, .inl x2), (3, .inl x3), (4, .inr (.inl j4)), (6, .inl x6)] [] M 0 0 := by
  unfold fn12_goes_b33B at hres
  refine am_iload cx 5 dX12_goes_33 rfl ?_
  refine am_aload_n cx 0 dX12_goes_35 rfl ?_
  obtain ⟨q1, hres⟩ := am_ck_some hres
  refine am_getR cx dX12_goes_36 flX12_49 (am_ke q1) ?_
  refine am_iload_n cx 1 dX12_goes_39 rfl ?_
  obtain ⟨q2, hres⟩ := am_ck_some hres
  obtain ⟨q3, hres⟩ := am_ck_some hres
  refine am_iald cx dX12_goes_40 (am_ke q2) q3 ?_
  refine am_icmp_ge cx (tgt := 192) dX12_goes_41 (by decide) (fun h => ?_) (fun h => ?_)
  · have hres := am_ifp h hres
    refine am_sub cx [] rfl ?_
    exact sn12_goes_b192 cx hkr  hres
  · have hres := am_ifn h hres
    refine am_aload_n cx 0 dX12_goes_44 rfl ?_
    refine am_getI cx dX12_goes_45 flX12_267 (am_ke q1) ?_
    refine am_if_ne cx (tgt := 192) dX12_goes_48 (by decide) (fun h => ?_) (fun h => ?_)
    · have hres := am_ifn h hres
      refine am_sub cx [] rfl ?_
      exact sn12_goes_b192 cx hkr  hres
    · have hres := am_ifp h hres
      refine am_aload_n cx 0 dX12_goes_51 rfl ?_
      refine am_iload_n cx 1 dX12_goes_52 rfl ?_
      refine am_iload cx 5 dX12_goes_53 rfl ?_
      obtain ⟨v4, M5, q6, hres⟩ := am_bd_some hres
      refine am_callV1 cx [.inl x1, .inl x6] dX12_goes_55 cvX12_271 (mt12_sizeOf q6) (am_ke q1) ⟨rfl, rfl, by show 1 ≤ 3 + (d + 1); omega, by show 22 ≤ 69 + (d + 1) * 27; omega⟩ rfl (Nat.le_of_ble_eq_true rfl) ⟨Nat.le_of_ble_eq_true rfl, Nat.le_of_ble_eq_true rfl⟩ ?_
      refine am_istore cx (lv' := [(0, .inr (.inr (.inl r0))), (1, .inl x1), (2, .inl x2), (3, .inl x3), (4, .inr (.inl j4)), (6, .inl x6), (7, .inl v4)]) dX12_goes_58 (Nat.le_of_ble_eq_true rfl) rfl ?_
      refine am_aload_n cx 0 dX12_goes_60 rfl ?_
      obtain ⟨q7, hres⟩ := am_ck_some hres
      refine am_getR cx dX12_goes_61 flX12_82 (am_ke q7) ?_
      refine am_iload cx 5 dX12_goes_64 rfl ?_
      obtain ⟨q8, hres⟩ := am_ck_some hres
      obtain ⟨q9, hres⟩ := am_ck_some hres
      refine am_zald cx dX12_goes_66 (am_ke q8) q9 ?_
      refine am_if_ne cx (tgt := 186) dX12_goes_67 (by decide) (fun h => ?_) (fun h => ?_)
      · have hres := am_ifn h hres
        refine am_sub cx [0, 1, 2, 3, 4, 5] rfl ?_
        exact sn12_goes_b186 cx hkr hk33 hres
      · have hres := am_ifp h hres
        refine am_iload cx 6 dX12_goes_70 rfl ?_
        refine am_if_eq cx (tgt := 186) dX12_goes_72 (by decide) (fun h => ?_) (fun h => ?_)
        · have hres := am_ifp h hres
          refine am_sub cx [0, 1, 2, 3, 4, 5] rfl ?_
          exact sn12_goes_b186 cx hkr hk33 hres
        · have hres := am_ifn h hres
          refine am_iload cx 6 dX12_goes_75 rfl ?_
          refine am_aload_n cx 0 dX12_goes_77 rfl ?_
          refine am_iload_n cx 2 dX12_goes_78 rfl ?_
          refine am_iload_n cx 3 dX12_goes_79 rfl ?_
          obtain ⟨v10, M11, q12, hres⟩ := am_bd_some hres
          refine am_callV1 cx [.inl x2, .inl x3] dX12_goes_80 cvX12_223 (mt12_widthOf q12) (am_ke q7) ⟨rfl, rfl, by show 2 ≤ 3 + (d + 1); omega, by show 44 ≤ 69 + (d + 1) * 27; omega⟩ rfl (Nat.le_of_ble_eq_true rfl) ⟨Nat.le_of_ble_eq_true rfl, Nat.le_of_ble_eq_true rfl⟩ ?_
          refine am_icmp_gt cx (tgt := 186) dX12_goes_83 (by decide) (fun h => ?_) (fun h => ?_)
          · have hres := am_ifp h hres
            refine am_sub cx [0, 1, 2, 3, 4, 5] rfl ?_
            exact sn12_goes_b186 cx hkr hk33 hres
          · have hres := am_ifn h hres
            refine am_aload_n cx 0 dX12_goes_86 rfl ?_
            refine am_iload_n cx 1 dX12_goes_87 rfl ?_
            refine am_iload cx 5 dX12_goes_88 rfl ?_
            obtain ⟨q13, hres⟩ := am_ck_some hres
            obtain ⟨v14, M15, q16, hres⟩ := am_bd_some hres
            refine am_callV1 cx [.inl x1, .inl x6] dX12_goes_90 cvX12_274 (mt12_topOf q16) (am_ke q13) ⟨rfl, rfl, by show 1 ≤ 3 + (d + 1); omega, by show 26 ≤ 69 + (d + 1) * 27; omega⟩ rfl (Nat.le_of_ble_eq_true rfl) ⟨Nat.le_of_ble_eq_true rfl, Nat.le_of_ble_eq_true rfl⟩ ?_
            refine am_aload_n cx 0 dX12_goes_93 rfl ?_
            obtain ⟨q17, hres⟩ := am_ck_some hres
            refine am_getR cx dX12_goes_94 flX12_64 (am_ke q17) ?_
            refine am_bipush cx (v := (9 : Int32)) dX12_goes_97 (by decide) ?_
            refine am_iload_n cx 1 dX12_goes_99 rfl ?_
            refine am_imul cx dX12_goes_100 ?_
            obtain ⟨q18, hres⟩ := am_ck_some hres
            obtain ⟨q19, hres⟩ := am_ck_some hres
            refine am_lald cx dX12_goes_101 (am_ke q18) q19 ?_
            refine am_lload cx 4 dX12_goes_102 rfl ?_
            refine am_lsub cx dX12_goes_104 ?_
            refine am_lcmp cx dX12_goes_105 ?_
            refine am_if_eq cx (tgt := 112) dX12_goes_106 (by decide) (fun h => ?_) (fun h => ?_)
            · have hres := am_ifp h hres
              refine am_aload_n cx 0 dX12_goes_112 rfl ?_
              refine am_getR cx dX12_goes_113 flX12_58 (am_ke q17) ?_
              refine am_iload_n cx 1 dX12_goes_116 rfl ?_
              obtain ⟨q20, hres⟩ := am_ck_some hres
              obtain ⟨q21, hres⟩ := am_ck_some hres
              refine am_iald cx dX12_goes_117 (am_ke q20) q21 ?_
              refine am_sipush cx (v := (20000 : Int32)) dX12_goes_118 (by decide) ?_
              refine am_icmp_ne cx (tgt := 131) dX12_goes_121 (by decide) (fun h => ?_) (fun h => ?_)
              · have hres := am_ifn h hres
                refine am_aload_n cx 0 dX12_goes_131 rfl ?_
                refine am_getR cx dX12_goes_132 flX12_58 (am_ke q17) ?_
                refine am_iload_n cx 1 dX12_goes_135 rfl ?_
                refine am_dup2 cx dX12_goes_136 rfl rfl ?_
                obtain ⟨q22, hres⟩ := am_ck_some hres
                refine am_iald cx dX12_goes_137 (am_ke q20) q22 ?_
                refine am_iconst cx (v := (1 : Int32)) dX12_goes_138 (by decide) ?_
                refine am_iadd cx dX12_goes_139 ?_
                obtain ⟨q23, hres⟩ := am_ck_some hres
                refine am_iast cx dX12_goes_140 (am_ke q20) q23  ?_
                refine am_aload_n cx 0 dX12_goes_141 rfl ?_
                refine am_getR cx dX12_goes_142 flX12_82 (am_ke q17) ?_
                refine am_iload cx 5 dX12_goes_145 rfl ?_
                refine am_iconst cx (v := (1 : Int32)) dX12_goes_147 (by decide) ?_
                obtain ⟨q24, hres⟩ := am_ck_some hres
                obtain ⟨q25, hres⟩ := am_ck_some hres
                refine am_zast cx dX12_goes_148 (am_ke q24) q25  ?_
                refine am_aload_n cx 0 dX12_goes_149 rfl ?_
                refine am_iload_n cx 1 dX12_goes_150 rfl ?_
                refine am_iload_n cx 2 dX12_goes_151 rfl ?_
                refine am_iload_n cx 2 dX12_goes_152 rfl ?_
                refine am_iload cx 6 dX12_goes_153 rfl ?_
                obtain ⟨v26, M27, q28, hres⟩ := am_bd_some hres
                refine am_callV0 cx [.inl x1, .inl x2, .inl x2, .inl v4] dX12_goes_155 cvX12_238 (mt12_squares q28) (am_ke q17) ⟨rfl, rfl, by show 2 ≤ 3 + (d + 1); omega, by show 48 ≤ 69 + (d + 1) * 27; omega⟩ rfl (Nat.le_of_ble_eq_true rfl) ⟨Nat.le_of_ble_eq_true rfl, Nat.le_of_ble_eq_true rfl⟩ ?_
                refine am_aload_n cx 0 dX12_goes_158 rfl ?_
                refine am_iload_n cx 2 dX12_goes_159 rfl ?_
                refine am_iload cx 6 dX12_goes_160 rfl ?_
                obtain ⟨q29, hres⟩ := am_ck_some hres
                obtain ⟨v30, M31, q32, hres⟩ := am_bd_some hres
                refine am_callV0 cx [.inl x2, .inl v4] dX12_goes_162 cvX12_242 (mt12_laysOn q32) (am_ke q29) ⟨rfl, rfl, by show 3 ≤ 3 + (d + 1); omega, by show 69 ≤ 69 + (d + 1) * 27; omega⟩ rfl (Nat.le_of_ble_eq_true rfl) ⟨Nat.le_of_ble_eq_true rfl, Nat.le_of_ble_eq_true rfl⟩ ?_
                refine am_aload_n cx 0 dX12_goes_165 rfl ?_
                refine am_iload_n cx 1 dX12_goes_166 rfl ?_
                refine am_iload_n cx 2 dX12_goes_167 rfl ?_
                refine am_iconst cx (v := (1 : Int32)) dX12_goes_168 (by decide) ?_
                refine am_iadd cx dX12_goes_169 ?_
                obtain ⟨q33, hres⟩ := am_ck_some hres
                obtain ⟨v34, M35, q36, hres⟩ := am_bd_some hres
                refine am_callV1 cx [.inl x1, .inl (x2 + (1 : Int32))] dX12_goes_170 cvX12_278 (hkr q36) (am_ke q33) ⟨rfl, rfl, by show 3 + d + 1 ≤ 3 + (d + 1); omega, by show 8 + (8 + 11) + (69 + d * 27) ≤ 69 + (d + 1) * 27; omega⟩ rfl (Nat.le_of_ble_eq_true rfl) ⟨Nat.le_of_ble_eq_true rfl, Nat.le_of_ble_eq_true rfl⟩ ?_
                refine am_if_eq cx (tgt := 178) dX12_goes_173 (by decide) (fun h => ?_) (fun h => ?_)
                · have hres := am_ifp h hres
                  refine am_aload_n cx 0 dX12_goes_178 rfl ?_
                  obtain ⟨q37, hres⟩ := am_ck_some hres
                  refine am_getR cx dX12_goes_179 flX12_82 (am_ke q37) ?_
                  refine am_iload cx 5 dX12_goes_182 rfl ?_
                  refine am_iconst cx (v := (0 : Int32)) dX12_goes_184 (by decide) ?_
                  obtain ⟨q38, hres⟩ := am_ck_some hres
                  obtain ⟨q39, hres⟩ := am_ck_some hres
                  refine am_zast cx dX12_goes_185 (am_ke q38) q39  ?_
                  refine am_sub cx [0, 1, 2, 3, 4, 5] rfl ?_
                  exact sn12_goes_b186 cx hkr hk33 hres
                · have hres := am_ifn h hres
                  refine am_iconst cx (v := (1 : Int32)) dX12_goes_176 (by decide) ?_
                  obtain ⟨rfl, rfl⟩ := am_fin hres
                  exact am_zret cx rfl dX12_goes_177
              · have hres := am_ifp h hres
                refine am_aload_n cx 0 dX12_goes_124 rfl ?_
                refine am_iconst cx (v := (1 : Int32)) dX12_goes_125 (by decide) ?_
                refine am_putZ cx dX12_goes_126 fpX12_267 (fun h => by cases h) rfl (am_ke q17) ?_
                refine am_iconst cx (v := (0 : Int32)) dX12_goes_129 (by decide) ?_
                obtain ⟨rfl, rfl⟩ := am_fin hres
                exact am_zret cx rfl dX12_goes_130
            · have hres := am_ifn h hres
              refine am_goto cx (tgt := 186) dX12_goes_109 (by decide) ?_
              refine am_sub cx [0, 1, 2, 3, 4, 5] rfl ?_
              exact sn12_goes_b186 cx hkr hk33 hres
set_option maxRecDepth 20000 in
theorem sn12_goes_b33 {l : Launch} {G : am_G} {v : Int32} {M' : am_Mem} {N : Nat} {kr : am_Mem → Nat → Int32 → Int32 → Option (Int32 × am_Mem)} {d : Nat}  (cx : am_Ctx l (rm12_goes (d + 1)) yX12_goes cX12_goes 8 (some .boolean) (some (.inl v)) M' 0 0 G) (hkr : ∀ {M : am_Mem} {r0 : Nat} {x1 : Int32} {x2 : Int32} {v : Int32} {M' : am_Mem}, kr M r0 x1 x2 = some (v, M') → am_Met l yX12_goes cX12_goes 8 (some .boolean) (rm12_goes d) 0 0 [.inr (.inr (.inl r0)), .inl x1, .inl x2] M (some (.inl v)) M')  (i : Nat) : ∀ (r0 : Nat) (x1 : Int32) (x2 : Int32) (x3 : Int32) (j4 : Int64) (x6 : Int32) (M : am_Mem), fn12_goes_b33 N kr  i r0 x1 x2 x3 j4 x6 M = some (v, M') → G 33 [(0, .inr (.inr (.inl r0))), (1, .inl x1), (2, .inl x2), (3, .inl x3), (4, .inr (.inl j4)), (6, .inl x6)] [] M 0 0 := by
  induction i with
  | zero => intro r0 x1 x2 x3 j4 x6 M hres; exact am_no hres
  | succ i ih => intro r0 x1 x2 x3 j4 x6 M hres; exact sn12_goes_b33B cx hkr ih hres
set_option maxRecDepth 20000 in
theorem sn12_goes_b30 {l : Launch} {G : am_G} {v : Int32} {M' : am_Mem} {N : Nat} {kr : am_Mem → Nat → Int32 → Int32 → Option (Int32 × am_Mem)} {d : Nat}  (cx : am_Ctx l (rm12_goes (d + 1)) yX12_goes cX12_goes 8 (some .boolean) (some (.inl v)) M' 0 0 G) (hkr : ∀ {M : am_Mem} {r0 : Nat} {x1 : Int32} {x2 : Int32} {v : Int32} {M' : am_Mem}, kr M r0 x1 x2 = some (v, M') → am_Met l yX12_goes cX12_goes 8 (some .boolean) (rm12_goes d) 0 0 [.inr (.inr (.inl r0)), .inl x1, .inl x2] M (some (.inl v)) M')  {r0 : Nat} {x1 : Int32} {x2 : Int32} {x3 : Int32} {j4 : Int64} {M : am_Mem} (hres : fn12_goes_b30 N kr  r0 x1 x2 x3 j4 M = some (v, M')) : G 30 [(0, .inr (.inr (.inl r0))), (1, .inl x1), (2, .inl x2), (3, .inl x3), (4, .inr (.inl j4))] [] M 0 0 := by
  unfold fn12_goes_b30 at hres
  refine am_iconst cx (v := (0 : Int32)) dX12_goes_30 (by decide) ?_
  refine am_istore cx (lv' := [(0, .inr (.inr (.inl r0))), (1, .inl x1), (2, .inl x2), (3, .inl x3), (4, .inr (.inl j4)), (6, .inl (0 : Int32))]) dX12_goes_31 (Nat.le_of_ble_eq_true rfl) rfl ?_
  exact sn12_goes_b33 cx hkr  N _ _ _ _ _ _ _ hres
set_option maxRecDepth 20000 in
theorem sn12_goes_b0 {l : Launch} {G : am_G} {v : Int32} {M' : am_Mem} {N : Nat} {kr : am_Mem → Nat → Int32 → Int32 → Option (Int32 × am_Mem)} {d : Nat}  (cx : am_Ctx l (rm12_goes (d + 1)) yX12_goes cX12_goes 8 (some .boolean) (some (.inl v)) M' 0 0 G) (hkr : ∀ {M : am_Mem} {r0 : Nat} {x1 : Int32} {x2 : Int32} {v : Int32} {M' : am_Mem}, kr M r0 x1 x2 = some (v, M') → am_Met l yX12_goes cX12_goes 8 (some .boolean) (rm12_goes d) 0 0 [.inr (.inr (.inl r0)), .inl x1, .inl x2] M (some (.inl v)) M')  {r0 : Nat} {x1 : Int32} {x2 : Int32} {M : am_Mem} (hres : fn12_goes_b0 N kr  r0 x1 x2 M = some (v, M')) : G 0 [(0, .inr (.inr (.inl r0))), (1, .inl x1), (2, .inl x2)] [] M 0 0 := by
  unfold fn12_goes_b0 at hres
  refine am_iload_n cx 2 dX12_goes_0 rfl ?_
  refine am_aload_n cx 0 dX12_goes_1 rfl ?_
  obtain ⟨q1, hres⟩ := am_ck_some hres
  refine am_getI cx dX12_goes_2 flX12_264 (am_ke q1) ?_
  refine am_icmp_ne cx (tgt := 10) dX12_goes_5 (by decide) (fun h => ?_) (fun h => ?_)
  · have hres := am_ifn h hres
    refine am_aload_n cx 0 dX12_goes_10 rfl ?_
    refine am_iload_n cx 2 dX12_goes_11 rfl ?_
    obtain ⟨v2, M3, q4, hres⟩ := am_bd_some hres
    refine am_callV1 cx [.inl x2] dX12_goes_12 cvX12_216 (mt12_notchAt q4) (am_ke q1) ⟨rfl, rfl, by show 1 ≤ 3 + (d + 1); omega, by show 23 ≤ 69 + (d + 1) * 27; omega⟩ rfl (Nat.le_of_ble_eq_true rfl) ⟨Nat.le_of_ble_eq_true rfl, Nat.le_of_ble_eq_true rfl⟩ ?_
    refine am_istore_n cx (lv' := [(0, .inr (.inr (.inl r0))), (1, .inl x1), (2, .inl x2), (3, .inl v2)]) dX12_goes_15 (Nat.le_of_ble_eq_true rfl) rfl ?_
    refine am_aload_n cx 0 dX12_goes_16 rfl ?_
    obtain ⟨q5, hres⟩ := am_ck_some hres
    refine am_getR cx dX12_goes_17 flX12_76 (am_ke q5) ?_
    refine am_bipush cx (v := (42 : Int32)) dX12_goes_20 (by decide) ?_
    refine am_iload_n cx 2 dX12_goes_22 rfl ?_
    refine am_imul cx dX12_goes_23 ?_
    refine am_iload_n cx 3 dX12_goes_24 rfl ?_
    refine am_iadd cx dX12_goes_25 ?_
    obtain ⟨q6, hres⟩ := am_ck_some hres
    obtain ⟨q7, hres⟩ := am_ck_some hres
    refine am_iald cx dX12_goes_26 (am_ke q6) q7 ?_
    refine am_i2l cx dX12_goes_27 ?_
    refine am_lstore cx (lv' := [(0, .inr (.inr (.inl r0))), (1, .inl x1), (2, .inl x2), (3, .inl v2), (4, .inr (.inl (am_I M3 (am_R M3 r0 34) (((42 : Int32) * x2) + v2).toNatClampNeg).toInt64))]) dX12_goes_28 (Nat.le_of_ble_eq_true rfl) rfl ?_
    exact sn12_goes_b30 cx hkr  hres
  · have hres := am_ifp h hres
    refine am_iconst cx (v := (1 : Int32)) dX12_goes_8 (by decide) ?_
    obtain ⟨rfl, rfl⟩ := am_fin hres
    exact am_zret cx rfl dX12_goes_9
set_option maxRecDepth 20000 in
theorem mt12_goes {l : Launch} {N : Nat} (d : Nat) : ∀ {M : am_Mem} {r0 : Nat} {x1 : Int32} {x2 : Int32} {v : Int32} {M' : am_Mem}, fn12_goes N d M r0 x1 x2 = some (v, M') → am_Met l yX12_goes cX12_goes 8 (some .boolean) (rm12_goes d) 0 0 [.inr (.inr (.inl r0)), .inl x1, .inl x2] M (some (.inl v)) M' := by
  induction d with
  | zero => intro M r0 x1 x2 v M' h; exact am_no h
  | succ d ih => intro M r0 x1 x2 v M' h; exact am_mk (by decide) (Nat.le_of_ble_eq_true rfl) (fun G cx => sn12_goes_b0 cx ih h)
-- SquareCutsModel.isRect
def fn12_isRect_b0  (r0 : Nat) (x1 : Int32) (M : am_Mem) : Option (Int32 × am_Mem) :=
  am_ck (am_k M r0 12) (am_bd (fn12_within M x1.toInt64 (0 : Int64) (((am_I M r0 18) - (1 : Int32)).toInt64)) (fun v2 M3 => am_ck (v2 == 0 || v2 == 1) (some (v2, M3))))
def fn12_isRect (M : am_Mem) (r0 : Nat) (x1 : Int32) : Option (Int32 × am_Mem) := fn12_isRect_b0  r0 x1 M
def rm12_isRect : Room := { frames := 1, cells := 0, slots := 0, locals := 25 }
set_option maxRecDepth 20000 in
theorem sn12_isRect_b0 {l : Launch} {G : am_G} {v : Int32} {M' : am_Mem}  (cx : am_Ctx l rm12_isRect yX12_isRect cX12_isRect 2 (some .boolean) (some (.inl v)) M' 0 0 G)  {r0 : Nat} {x1 : Int32} {M : am_Mem} (hres : fn12_isRect_b0  r0 x1 M = some (v, M')) : G 0 [(0, .inr (.inr (.inl r0))), (1, .inl x1)] [] M 0 0 := by
  unfold fn12_isRect_b0 at hres
  refine am_iload_n cx 1 dX12_isRect_0 rfl ?_
  refine am_i2l cx dX12_isRect_1 ?_
  refine am_lconst cx (v := (0 : Int64)) dX12_isRect_2 (by decide) ?_
  refine am_aload_n cx 0 dX12_isRect_3 rfl ?_
  obtain ⟨q1, hres⟩ := am_ck_some hres
  refine am_getI cx dX12_isRect_4 flX12_285 (am_ke q1) ?_
  refine am_iconst cx (v := (1 : Int32)) dX12_isRect_7 (by decide) ?_
  refine am_isub cx dX12_isRect_8 ?_
  refine am_i2l cx dX12_isRect_9 ?_
  obtain ⟨v2, M3, q4, hres⟩ := am_bd_some hres
  refine am_callS1 cx [.inr (.inl x1.toInt64), .inr (.inl (0 : Int64)), .inr (.inl ((am_I M r0 18) - (1 : Int32)).toInt64)] dX12_isRect_10 csX12_141 (mt12_within q4)  ⟨rfl, rfl, Nat.le_of_ble_eq_true rfl, Nat.le_of_ble_eq_true rfl⟩ rfl (Nat.le_of_ble_eq_true rfl) ⟨Nat.le_of_ble_eq_true rfl, Nat.le_of_ble_eq_true rfl⟩ ?_
  obtain ⟨q5, hres⟩ := am_ck_some hres
  obtain ⟨rfl, rfl⟩ := am_fin hres
  exact am_zret cx q5 dX12_isRect_13
set_option maxRecDepth 20000 in
theorem mt12_isRect {l : Launch} {v : Int32} {M M' : am_Mem} {r0 : Nat} {x1 : Int32} (h : fn12_isRect M r0 x1 = some (v, M')) : am_Met l yX12_isRect cX12_isRect 2 (some .boolean) rm12_isRect 0 0 [.inr (.inr (.inl r0)), .inl x1] M (some (.inl v)) M' := am_mk (by decide) (Nat.le_of_ble_eq_true rfl) (fun G cx => (sn12_isRect_b0 cx h))
-- SquareCutsModel.doesFail
def fn12_doesFail_b15  (a0 : Int32) (M : am_Mem) : Option (Int32 × am_Mem) :=
  am_ck (a0 == 0 || a0 == 1) (some (a0, M))
def fn12_doesFail_b0  (r0 : Nat) (x1 : Int32) (M : am_Mem) : Option (Int32 × am_Mem) :=
  am_ck (am_k M r0 12) (am_bd (fn12_of M r0 x1 (3 : Int32)) (fun v2 M3 => if v2 = (1 : Int32) then fn12_doesFail_b15  (1 : Int32) M3 else fn12_doesFail_b15  (0 : Int32) M3))
def fn12_doesFail (M : am_Mem) (r0 : Nat) (x1 : Int32) : Option (Int32 × am_Mem) := fn12_doesFail_b0  r0 x1 M
def rm12_doesFail : Room := { frames := 1, cells := 0, slots := 0, locals := 22 }
set_option maxRecDepth 20000 in
theorem sn12_doesFail_b15 {l : Launch} {G : am_G} {v : Int32} {M' : am_Mem}  (cx : am_Ctx l rm12_doesFail yX12_doesFail cX12_doesFail 2 (some .boolean) (some (.inl v)) M' 0 0 G)  {a0 : Int32} {M : am_Mem} (hres : fn12_doesFail_b15  a0 M = some (v, M')) : G 15 [] [.inl a0] M 0 0 := by
  unfold fn12_doesFail_b15 at hres
  obtain ⟨q1, hres⟩ := am_ck_some hres
  obtain ⟨rfl, rfl⟩ := am_fin hres
  exact am_zret cx q1 dX12_doesFail_15
set_option maxRecDepth 20000 in
theorem sn12_doesFail_b0 {l : Launch} {G : am_G} {v : Int32} {M' : am_Mem}  (cx : am_Ctx l rm12_doesFail yX12_doesFail cX12_doesFail 2 (some .boolean) (some (.inl v)) M' 0 0 G)  {r0 : Nat} {x1 : Int32} {M : am_Mem} (hres : fn12_doesFail_b0  r0 x1 M = some (v, M')) : G 0 [(0, .inr (.inr (.inl r0))), (1, .inl x1)] [] M 0 0 := by
  unfold fn12_doesFail_b0 at hres
  refine am_aload_n cx 0 dX12_doesFail_0 rfl ?_
  refine am_iload_n cx 1 dX12_doesFail_1 rfl ?_
  refine am_iconst cx (v := (3 : Int32)) dX12_doesFail_2 (by decide) ?_
  obtain ⟨q1, hres⟩ := am_ck_some hres
  obtain ⟨v2, M3, q4, hres⟩ := am_bd_some hres
  refine am_callV1 cx [.inl x1, .inl (3 : Int32)] dX12_doesFail_3 cvX12_306 (mt12_of q4) (am_ke q1) ⟨rfl, rfl, Nat.le_of_ble_eq_true rfl, Nat.le_of_ble_eq_true rfl⟩ rfl (Nat.le_of_ble_eq_true rfl) ⟨Nat.le_of_ble_eq_true rfl, Nat.le_of_ble_eq_true rfl⟩ ?_
  refine am_iconst cx (v := (1 : Int32)) dX12_doesFail_6 (by decide) ?_
  refine am_icmp_ne cx (tgt := 14) dX12_doesFail_7 (by decide) (fun h => ?_) (fun h => ?_)
  · have hres := am_ifn h hres
    refine am_iconst cx (v := (0 : Int32)) dX12_doesFail_14 (by decide) ?_
    refine am_sub cx [] rfl ?_
    exact sn12_doesFail_b15 cx  hres
  · have hres := am_ifp h hres
    refine am_iconst cx (v := (1 : Int32)) dX12_doesFail_10 (by decide) ?_
    refine am_goto cx (tgt := 15) dX12_doesFail_11 (by decide) ?_
    refine am_sub cx [] rfl ?_
    exact sn12_doesFail_b15 cx  hres
set_option maxRecDepth 20000 in
theorem mt12_doesFail {l : Launch} {v : Int32} {M M' : am_Mem} {r0 : Nat} {x1 : Int32} (h : fn12_doesFail M r0 x1 = some (v, M')) : am_Met l yX12_doesFail cX12_doesFail 2 (some .boolean) rm12_doesFail 0 0 [.inr (.inr (.inl r0)), .inl x1] M (some (.inl v)) M' := am_mk (by decide) (Nat.le_of_ble_eq_true rfl) (fun G cx => (sn12_doesFail_b0 cx h))
-- SquareCutsModel.kindOf
def fn12_kindOf_b18  (a0 : Int32) (M : am_Mem) : Option (Int32 × am_Mem) :=
  some (a0, M)
def fn12_kindOf_b0  (r0 : Nat) (x1 : Int32) (M : am_Mem) : Option (Int32 × am_Mem) :=
  am_ck (am_k M r0 12) (if (am_I M r0 40) ≤ x1 then fn12_kindOf_b18  (2 : Int32) M else am_ck (am_k M (am_R M r0 23) 14) (am_ck (am_in x1 (am_L M (am_R M r0 23))) (fn12_kindOf_b18  (am_I M (am_R M r0 23) x1.toNatClampNeg) M)))
def fn12_kindOf (M : am_Mem) (r0 : Nat) (x1 : Int32) : Option (Int32 × am_Mem) := fn12_kindOf_b0  r0 x1 M
def rm12_kindOf : Room := { frames := 0, cells := 0, slots := 0, locals := 0 }
set_option maxRecDepth 20000 in
theorem sn12_kindOf_b18 {l : Launch} {G : am_G} {v : Int32} {M' : am_Mem}  (cx : am_Ctx l rm12_kindOf yX12_kindOf cX12_kindOf 2 (some .int) (some (.inl v)) M' 0 0 G)  {a0 : Int32} {M : am_Mem} (hres : fn12_kindOf_b18  a0 M = some (v, M')) : G 18 [] [.inl a0] M 0 0 := by
  unfold fn12_kindOf_b18 at hres
  obtain ⟨rfl, rfl⟩ := am_fin hres
  exact am_iret cx dX12_kindOf_18
set_option maxRecDepth 20000 in
theorem sn12_kindOf_b0 {l : Launch} {G : am_G} {v : Int32} {M' : am_Mem}  (cx : am_Ctx l rm12_kindOf yX12_kindOf cX12_kindOf 2 (some .int) (some (.inl v)) M' 0 0 G)  {r0 : Nat} {x1 : Int32} {M : am_Mem} (hres : fn12_kindOf_b0  r0 x1 M = some (v, M')) : G 0 [(0, .inr (.inr (.inl r0))), (1, .inl x1)] [] M 0 0 := by
  unfold fn12_kindOf_b0 at hres
  refine am_iload_n cx 1 dX12_kindOf_0 rfl ?_
  refine am_aload_n cx 0 dX12_kindOf_1 rfl ?_
  obtain ⟨q1, hres⟩ := am_ck_some hres
  refine am_getI cx dX12_kindOf_2 flX12_288 (am_ke q1) ?_
  refine am_icmp_ge cx (tgt := 17) dX12_kindOf_5 (by decide) (fun h => ?_) (fun h => ?_)
  · have hres := am_ifp h hres
    refine am_iconst cx (v := (2 : Int32)) dX12_kindOf_17 (by decide) ?_
    refine am_sub cx [] rfl ?_
    exact sn12_kindOf_b18 cx  hres
  · have hres := am_ifn h hres
    refine am_aload_n cx 0 dX12_kindOf_8 rfl ?_
    refine am_getR cx dX12_kindOf_9 flX12_43 (am_ke q1) ?_
    refine am_iload_n cx 1 dX12_kindOf_12 rfl ?_
    obtain ⟨q2, hres⟩ := am_ck_some hres
    obtain ⟨q3, hres⟩ := am_ck_some hres
    refine am_iald cx dX12_kindOf_13 (am_ke q2) q3 ?_
    refine am_goto cx (tgt := 18) dX12_kindOf_14 (by decide) ?_
    refine am_sub cx [] rfl ?_
    exact sn12_kindOf_b18 cx  hres
set_option maxRecDepth 20000 in
theorem mt12_kindOf {l : Launch} {v : Int32} {M M' : am_Mem} {r0 : Nat} {x1 : Int32} (h : fn12_kindOf M r0 x1 = some (v, M')) : am_Met l yX12_kindOf cX12_kindOf 2 (some .int) rm12_kindOf 0 0 [.inr (.inr (.inl r0)), .inl x1] M (some (.inl v)) M' := am_mk (by decide) (Nat.le_of_ble_eq_true rfl) (fun G cx => (sn12_kindOf_b0 cx h))
-- SquareCutsModel.arePerfect
def fn12_arePerfect_b69 (N : Nat)  (a0 : Int32) (M : am_Mem) : Option (Int32 × am_Mem) :=
  am_ck (a0 == 0 || a0 == 1) (some (a0, M))
def fn12_arePerfect_b17B (N : Nat) (k9 : Nat → Int32 → Int32 → Int32 → am_Mem → Option (Int32 × am_Mem)) (k17 : Nat → Int32 → Int32 → Int32 → Int32 → am_Mem → Option (Int32 × am_Mem)) (r0 : Nat) (x1 : Int32) (x2 : Int32) (x3 : Int32) (x4 : Int32) (M : am_Mem) : Option (Int32 × am_Mem) :=
  if x3 ≤ x4 then k9 r0 x1 x2 (x3 + (1 : Int32)) M else am_ck (am_k M r0 12) (am_bd (fn12_of M r0 x1 ((84 : Int32) + x3)) (fun v2 M3 => am_ck (am_k M3 r0 12) (am_bd (fn12_of M3 r0 x1 ((84 : Int32) + x4)) (fun v6 M7 => if v2 = v6 then some ((0 : Int32), M7) else k17 r0 x1 x2 x3 (x4 + (1 : Int32)) M7))))
def fn12_arePerfect_b17 (N : Nat) (k9 : Nat → Int32 → Int32 → Int32 → am_Mem → Option (Int32 × am_Mem)) : Nat → Nat → Int32 → Int32 → Int32 → Int32 → am_Mem → Option (Int32 × am_Mem)
  | 0 => fun _ _ _ _ _ _ => none
  | i + 1 => fn12_arePerfect_b17B N k9 (fn12_arePerfect_b17 N k9 i)
def fn12_arePerfect_b9B (N : Nat) (k9 : Nat → Int32 → Int32 → Int32 → am_Mem → Option (Int32 × am_Mem)) (r0 : Nat) (x1 : Int32) (x2 : Int32) (x3 : Int32) (M : am_Mem) : Option (Int32 × am_Mem) :=
  if x2 ≤ x3 then if x2 ≤ (1 : Int32) then fn12_arePerfect_b69 N  (0 : Int32) M else fn12_arePerfect_b69 N  (1 : Int32) M else fn12_arePerfect_b17 N k9 N r0 x1 x2 x3 (0 : Int32) M
def fn12_arePerfect_b9 (N : Nat)  : Nat → Nat → Int32 → Int32 → Int32 → am_Mem → Option (Int32 × am_Mem)
  | 0 => fun _ _ _ _ _ => none
  | i + 1 => fn12_arePerfect_b9B N (fn12_arePerfect_b9 N  i)
def fn12_arePerfect_b0 (N : Nat)  (r0 : Nat) (x1 : Int32) (M : am_Mem) : Option (Int32 × am_Mem) :=
  am_ck (am_k M r0 12) (am_bd (fn12_of M r0 x1 (0 : Int32)) (fun v2 M3 => fn12_arePerfect_b9 N  N r0 x1 v2 (0 : Int32) M3))
def fn12_arePerfect (N : Nat) (M : am_Mem) (r0 : Nat) (x1 : Int32) : Option (Int32 × am_Mem) := fn12_arePerfect_b0 N r0 x1 M
def rm12_arePerfect : Room := { frames := 1, cells := 0, slots := 0, locals := 22 }
set_option maxRecDepth 20000 in
theorem sn12_arePerfect_b69 {l : Launch} {G : am_G} {v : Int32} {M' : am_Mem} {N : Nat}  (cx : am_Ctx l rm12_arePerfect yX12_arePerfect cX12_arePerfect 5 (some .boolean) (some (.inl v)) M' 0 0 G)  {a0 : Int32} {M : am_Mem} (hres : fn12_arePerfect_b69 N  a0 M = some (v, M')) : G 69 [] [.inl a0] M 0 0 := by
  unfold fn12_arePerfect_b69 at hres
  obtain ⟨q1, hres⟩ := am_ck_some hres
  obtain ⟨rfl, rfl⟩ := am_fin hres
  exact am_zret cx q1 dX12_arePerfect_69
set_option maxRecDepth 20000 in
theorem sn12_arePerfect_b17B {l : Launch} {G : am_G} {v : Int32} {M' : am_Mem} {N : Nat} {k9 : Nat → Int32 → Int32 → Int32 → am_Mem → Option (Int32 × am_Mem)} {k17 : Nat → Int32 → Int32 → Int32 → Int32 → am_Mem → Option (Int32 × am_Mem)} (cx : am_Ctx l rm12_arePerfect yX12_arePerfect cX12_arePerfect 5 (some .boolean) (some (.inl v)) M' 0 0 G) (hk9 : ∀ (r0 : Nat) (x1 : Int32) (x2 : Int32) (x3 : Int32) (M : am_Mem), k9 r0 x1 x2 x3 M = some (v, M') → G 9 [(0, .inr (.inr (.inl r0))), (1, .inl x1), (2, .inl x2), (3, .inl x3)] [] M 0 0) (hk17 : ∀ (r0 : Nat) (x1 : Int32) (x2 : Int32) (x3 : Int32) (x4 : Int32) (M : am_Mem), k17 r0 x1 x2 x3 x4 M = some (v, M') → G 17 [(0, .inr (.inr (.inl r0))), (1, .inl x1), (2, .inl x2), (3, .inl x3), (4, .inl x4)] [] M 0 0) {r0 : Nat} {x1 : Int32} {x2 : Int32} {x3 : Int32} {x4 : Int32} {M : am_Mem} (hres : fn12_arePerfect_b17B N k9 k17 r0 x1 x2 x3 x4 M = some (v, M')) : G 17 [(0, .inr (.inr (.inl r0))), (1, .inl x1), (2, .inl x2), (3, .inl x3), (4, .inl x4)] [] M 0 0 := by
  unfold fn12_arePerfect_b17B at hres
  refine am_iload cx 4 dX12_arePerfect_17 rfl ?_
  refine am_iload_n cx 3 dX12_arePerfect_19 rfl ?_
  refine am_icmp_ge cx (tgt := 53) dX12_arePerfect_20 (by decide) (fun h => ?_) (fun h => ?_)
  · have hres := am_ifp h hres
    refine am_iincw cx (lv' := [(0, .inr (.inr (.inl r0))), (1, .inl x1), (2, .inl x2), (3, .inl (x3 + (1 : Int32))), (4, .inl x4)]) (w := (1 : Int32)) 3 dX12_arePerfect_53 (by decide) rfl (Nat.le_of_ble_eq_true rfl) rfl ?_
    refine am_goto cx (tgt := 9) dX12_arePerfect_56 (by decide) ?_
    refine am_sub cx [0, 1, 2, 3] rfl ?_
    exact hk9 _ _ _ _ _ hres
  · have hres := am_ifn h hres
    refine am_aload_n cx 0 dX12_arePerfect_23 rfl ?_
    refine am_iload_n cx 1 dX12_arePerfect_24 rfl ?_
    refine am_bipush cx (v := (84 : Int32)) dX12_arePerfect_25 (by decide) ?_
    refine am_iload_n cx 3 dX12_arePerfect_27 rfl ?_
    refine am_iadd cx dX12_arePerfect_28 ?_
    obtain ⟨q1, hres⟩ := am_ck_some hres
    obtain ⟨v2, M3, q4, hres⟩ := am_bd_some hres
    refine am_callV1 cx [.inl x1, .inl ((84 : Int32) + x3)] dX12_arePerfect_29 cvX12_306 (mt12_of q4) (am_ke q1) ⟨rfl, rfl, Nat.le_of_ble_eq_true rfl, Nat.le_of_ble_eq_true rfl⟩ rfl (Nat.le_of_ble_eq_true rfl) ⟨Nat.le_of_ble_eq_true rfl, Nat.le_of_ble_eq_true rfl⟩ ?_
    refine am_aload_n cx 0 dX12_arePerfect_32 rfl ?_
    refine am_iload_n cx 1 dX12_arePerfect_33 rfl ?_
    refine am_bipush cx (v := (84 : Int32)) dX12_arePerfect_34 (by decide) ?_
    refine am_iload cx 4 dX12_arePerfect_36 rfl ?_
    refine am_iadd cx dX12_arePerfect_38 ?_
    obtain ⟨q5, hres⟩ := am_ck_some hres
    obtain ⟨v6, M7, q8, hres⟩ := am_bd_some hres
    refine am_callV1 cx [.inl x1, .inl ((84 : Int32) + x4)] dX12_arePerfect_39 cvX12_306 (mt12_of q8) (am_ke q5) ⟨rfl, rfl, Nat.le_of_ble_eq_true rfl, Nat.le_of_ble_eq_true rfl⟩ rfl (Nat.le_of_ble_eq_true rfl) ⟨Nat.le_of_ble_eq_true rfl, Nat.le_of_ble_eq_true rfl⟩ ?_
    refine am_icmp_ne cx (tgt := 47) dX12_arePerfect_42 (by decide) (fun h => ?_) (fun h => ?_)
    · have hres := am_ifn h hres
      refine am_iincw cx (lv' := [(0, .inr (.inr (.inl r0))), (1, .inl x1), (2, .inl x2), (3, .inl x3), (4, .inl (x4 + (1 : Int32)))]) (w := (1 : Int32)) 4 dX12_arePerfect_47 (by decide) rfl (Nat.le_of_ble_eq_true rfl) rfl ?_
      refine am_goto cx (tgt := 17) dX12_arePerfect_50 (by decide) ?_
      exact hk17 _ _ _ _ _ _ hres
    · have hres := am_ifp h hres
      refine am_iconst cx (v := (0 : Int32)) dX12_arePerfect_45 (by decide) ?_
      obtain ⟨rfl, rfl⟩ := am_fin hres
      exact am_zret cx rfl dX12_arePerfect_46
set_option maxRecDepth 20000 in
theorem sn12_arePerfect_b17 {l : Launch} {G : am_G} {v : Int32} {M' : am_Mem} {N : Nat} {k9 : Nat → Int32 → Int32 → Int32 → am_Mem → Option (Int32 × am_Mem)} (cx : am_Ctx l rm12_arePerfect yX12_arePerfect cX12_arePerfect 5 (some .boolean) (some (.inl v)) M' 0 0 G) (hk9 : ∀ (r0 : Nat) (x1 : Int32) (x2 : Int32) (x3 : Int32) (M : am_Mem), k9 r0 x1 x2 x3 M = some (v, M') → G 9 [(0, .inr (.inr (.inl r0))), (1, .inl x1), (2, .inl x2), (3, .inl x3)] [] M 0 0) (i : Nat) : ∀ (r0 : Nat) (x1 : Int32) (x2 : Int32) (x3 : Int32) (x4 : Int32) (M : am_Mem), fn12_arePerfect_b17 N k9 i r0 x1 x2 x3 x4 M = some (v, M') → G 17 [(0, .inr (.inr (.inl r0))), (1, .inl x1), (2, .inl x2), (3, .inl x3), (4, .inl x4)] [] M 0 0 := by
  induction i with
  | zero => intro r0 x1 x2 x3 x4 M hres; exact am_no hres
  | succ i ih => intro r0 x1 x2 x3 x4 M hres; exact sn12_arePerfect_b17B cx hk9 ih hres
set_option maxRecDepth 20000 in
theorem sn12_arePerfect_b9B {l : Launch} {G : am_G} {v : Int32} {M' : am_Mem} {N : Nat} {k9 : Nat → Int32 → Int32 → Int32 → am_Mem → Option (Int32 × am_Mem)} (cx : am_Ctx l rm12_arePerfect yX12_arePerfect cX12_arePerfect 5 (some .boolean) (some (.inl v)) M' 0 0 G) (hk9 : ∀ (r0 : Nat) (x1 : Int32) (x2 : Int32) (x3 : Int32) (M : am_Mem), k9 r0 x1 x2 x3 M = some (v, M') → G 9 [(0, .inr (.inr (.inl r0))), (1, .inl x1), (2, .inl x2), (3, .inl x3)] [] M 0 0) {r0 : Nat} {x1 : Int32} {x2 : Int32} {x3 : Int32} {M : am_Mem} (hres : fn12_arePerfect_b9B N k9 r0 x1 x2 x3 M = some (v, M')) : G 9 [(0, .inr (.inr (.inl r0))), (1, .inl x1), (2, .inl x2), (3, .inl x3)] [] M 0 0 := by
  unfold fn12_arePerfect_b9B at hres
  refine am_iload_n cx 3 dX12_arePerfect_9 rfl ?_
  refine am_iload_n cx 2 dX12_arePerfect_10 rfl ?_
  refine am_icmp_ge cx (tgt := 59) dX12_arePerfect_11 (by decide) (fun h => ?_) (fun h => ?_)
  · have hres := am_ifp h hres
    refine am_iload_n cx 2 dX12_arePerfect_59 rfl ?_
    refine am_iconst cx (v := (1 : Int32)) dX12_arePerfect_60 (by decide) ?_
    refine am_icmp_le cx (tgt := 68) dX12_arePerfect_61 (by decide) (fun h => ?_) (fun h => ?_)
    · have hres := am_ifp h hres
      refine am_iconst cx (v := (0 : Int32)) dX12_arePerfect_68 (by decide) ?_
      refine am_sub cx [] rfl ?_
      exact sn12_arePerfect_b69 cx  hres
    · have hres := am_ifn h hres
      refine am_iconst cx (v := (1 : Int32)) dX12_arePerfect_64 (by decide) ?_
      refine am_goto cx (tgt := 69) dX12_arePerfect_65 (by decide) ?_
      refine am_sub cx [] rfl ?_
      exact sn12_arePerfect_b69 cx  hres
  · have hres := am_ifn h hres
    refine am_iconst cx (v := (0 : Int32)) dX12_arePerfect_14 (by decide) ?_
    refine am_istore cx (lv' := [(0, .inr (.inr (.inl r0))), (1, .inl x1), (2, .inl x2), (3, .inl x3), (4, .inl (0 : Int32))]) dX12_arePerfect_15 (Nat.le_of_ble_eq_true rfl) rfl ?_
    exact sn12_arePerfect_b17 cx hk9 N _ _ _ _ _ _ hres
set_option maxRecDepth 20000 in
theorem sn12_arePerfect_b9 {l : Launch} {G : am_G} {v : Int32} {M' : am_Mem} {N : Nat}  (cx : am_Ctx l rm12_arePerfect yX12_arePerfect cX12_arePerfect 5 (some .boolean) (some (.inl v)) M' 0 0 G)  (i : Nat) : ∀ (r0 : Nat) (x1 : Int32) (x2 : Int32) (x3 : Int32) (M : am_Mem), fn12_arePerfect_b9 N  i r0 x1 x2 x3 M = some (v, M') → G 9 [(0, .inr (.inr (.inl r0))), (1, .inl x1), (2, .inl x2), (3, .inl x3)] [] M 0 0 := by
  induction i with
  | zero => intro r0 x1 x2 x3 M hres; exact am_no hres
  | succ i ih => intro r0 x1 x2 x3 M hres; exact sn12_arePerfect_b9B cx ih hres
set_option maxRecDepth 20000 in
theorem sn12_arePerfect_b0 {l : Launch} {G : am_G} {v : Int32} {M' : am_Mem} {N : Nat}  (cx : am_Ctx l rm12_arePerfect yX12_arePerfect cX12_arePerfect 5 (some .boolean) (some (.inl v)) M' 0 0 G)  {r0 : Nat} {x1 : Int32} {M : am_Mem} (hres : fn12_arePerfect_b0 N  r0 x1 M = some (v, M')) : G 0 [(0, .inr (.inr (.inl r0))), (1, .inl x1)] [] M 0 0 := by
  unfold fn12_arePerfect_b0 at hres
  refine am_aload_n cx 0 dX12_arePerfect_0 rfl ?_
  refine am_iload_n cx 1 dX12_arePerfect_1 rfl ?_
  refine am_iconst cx (v := (0 : Int32)) dX12_arePerfect_2 (by decide) ?_
  obtain ⟨q1, hres⟩ := am_ck_some hres
  obtain ⟨v2, M3, q4, hres⟩ := am_bd_some hres
  refine am_callV1 cx [.inl x1, .inl (0 : Int32)] dX12_arePerfect_3 cvX12_306 (mt12_of q4) (am_ke q1) ⟨rfl, rfl, Nat.le_of_ble_eq_true rfl, Nat.le_of_ble_eq_true rfl⟩ rfl (Nat.le_of_ble_eq_true rfl) ⟨Nat.le_of_ble_eq_true rfl, Nat.le_of_ble_eq_true rfl⟩ ?_
  refine am_istore_n cx (lv' := [(0, .inr (.inr (.inl r0))), (1, .inl x1), (2, .inl v2)]) dX12_arePerfect_6 (Nat.le_of_ble_eq_true rfl) rfl ?_
  refine am_iconst cx (v := (0 : Int32)) dX12_arePerfect_7 (by decide) ?_
  refine am_istore_n cx (lv' := [(0, .inr (.inr (.inl r0))), (1, .inl x1), (2, .inl v2), (3, .inl (0 : Int32))]) dX12_arePerfect_8 (Nat.le_of_ble_eq_true rfl) rfl ?_
  exact sn12_arePerfect_b9 cx  N _ _ _ _ _ hres
set_option maxRecDepth 20000 in
theorem mt12_arePerfect {l : Launch} {v : Int32} {M M' : am_Mem} {N : Nat} {r0 : Nat} {x1 : Int32} (h : fn12_arePerfect N M r0 x1 = some (v, M')) : am_Met l yX12_arePerfect cX12_arePerfect 5 (some .boolean) rm12_arePerfect 0 0 [.inr (.inr (.inl r0)), .inl x1] M (some (.inl v)) M' := am_mk (by decide) (Nat.le_of_ble_eq_true rfl) (fun G cx => (sn12_arePerfect_b0 cx h))
-- SquareCutsModel.isPart
def fn12_isPart_b162 (N : Nat)  (a0 : Int32) (M : am_Mem) : Option (Int32 × am_Mem) :=
  am_ck (a0 == 0 || a0 == 1) (some (a0, M))
def fn12_isPart_b161 (N : Nat)   (M : am_Mem) : Option (Int32 × am_Mem) :=
  fn12_isPart_b162 N  (0 : Int32) M
def fn12_isPart_b117 (N : Nat) (k9 : Nat → Int32 → Int32 → Int32 → Int32 → Int32 → Int32 → Int64 → Int32 → am_Mem → Option (Int32 × am_Mem)) (r0 : Nat) (x1 : Int32) (x2 : Int32) (x3 : Int32) (x4 : Int32) (x5 : Int32) (x6 : Int32) (j7 : Int64) (x9 : Int32) (M : am_Mem) : Option (Int32 × am_Mem) :=
  k9 r0 x1 x2 x3 x4 x5 x6 j7 (x9 + (1 : Int32)) M
def fn12_isPart_b33 (N : Nat) (k9 : Nat → Int32 → Int32 → Int32 → Int32 → Int32 → Int32 → Int64 → Int32 → am_Mem → Option (Int32 × am_Mem)) (r0 : Nat) (x1 : Int32) (x2 : Int32) (x3 : Int32) (x4 : Int32) (x5 : Int32) (x6 : Int32) (j7 : Int64) (x9 : Int32) (j10 : Int64) (M : am_Mem) : Option (Int32 × am_Mem) :=
  am_ck (am_k M r0 12) (am_bd (fn12_of M r0 x1 ((4 : Int32) + x9)) (fun v2 M3 => if v2 < x2 then fn12_isPart_b117 N k9 r0 x1 x2 x3 x4 x5 x6 j7 x9 M3 else am_ck (am_k M3 r0 12) (am_bd (fn12_of M3 r0 x1 ((44 : Int32) + x9)) (fun v6 M7 => if v6 < x3 then fn12_isPart_b117 N k9 r0 x1 x2 x3 x4 x5 x6 j7 x9 M7 else am_ck (am_k M7 r0 12) (am_bd (fn12_of M7 r0 x1 ((4 : Int32) + x9)) (fun v10 M11 => if 0 < (lg_cmp (v10.toInt64 + j10) x4.toInt64) then fn12_isPart_b117 N k9 r0 x1 x2 x3 x4 x5 x6 j7 x9 M11 else am_ck (am_k M11 r0 12) (am_bd (fn12_of M11 r0 x1 ((44 : Int32) + x9)) (fun v14 M15 => if (lg_cmp (v14.toInt64 + j10) x5.toInt64) ≤ 0 then fn12_isPart_b117 N k9 r0 x1 x2 x3 x4 x5 (x6 + (1 : Int32)) (j7 + (j10 * j10)) x9 M15 else fn12_isPart_b117 N k9 r0 x1 x2 x3 x4 x5 x6 j7 x9 M15))))))))
def fn12_isPart_b9B (N : Nat) (k9 : Nat → Int32 → Int32 → Int32 → Int32 → Int32 → Int32 → Int64 → Int32 → am_Mem → Option (Int32 × am_Mem)) (r0 : Nat) (x1 : Int32) (x2 : Int32) (x3 : Int32) (x4 : Int32) (x5 : Int32) (x6 : Int32) (j7 : Int64) (x9 : Int32) (M : am_Mem) : Option (Int32 × am_Mem) :=
  am_ck (am_k M r0 12) (am_bd (fn12_of M r0 x1 (0 : Int32)) (fun v2 M3 => if v2 ≤ x9 then if x6 ≤ (1 : Int32) then fn12_isPart_b161 N   M3 else am_ck (am_k M3 r0 12) (am_bd (fn12_of M3 r0 x1 (0 : Int32)) (fun v6 M7 => if v6 ≤ x6 then fn12_isPart_b161 N   M7 else if (lg_cmp j7 ((x4 - x2).toInt64 * (x5 - x3).toInt64)) = 0 then fn12_isPart_b162 N  (1 : Int32) M7 else fn12_isPart_b161 N   M7)) else am_ck (am_k M3 r0 12) (am_bd (fn12_of M3 r0 x1 ((84 : Int32) + x9)) (fun v10 M11 => fn12_isPart_b33 N k9 r0 x1 x2 x3 x4 x5 x6 j7 x9 v10.toInt64 M11))))
def fn12_isPart_b9 (N : Nat)  : Nat → Nat → Int32 → Int32 → Int32 → Int32 → Int32 → Int32 → Int64 → Int32 → am_Mem → Option (Int32 × am_Mem)
  | 0 => fun _ _ _ _ _ _ _ _ _ _ => none
  | i + 1 => fn12_isPart_b9B N (fn12_isPart_b9 N  i)
def fn12_isPart_b0 (N : Nat)  (r0 : Nat) (x1 : Int32) (x2 : Int32) (x3 : Int32) (x4 : Int32) (x5 : Int32) (M : am_Mem) : Option (Int32 × am_Mem) :=
  fn12_isPart_b9 N  N r0 x1 x2 x3 x4 x5 (0 : Int32) (0 : Int64) (0 : Int32) M
def fn12_isPart (N : Nat) (M : am_Mem) (r0 : Nat) (x1 : Int32) (x2 : Int32) (x3 : Int32) (x4 : Int32) (x5 : Int32) : Option (Int32 × am_Mem) := fn12_isPart_b0 N r0 x1 x2 x3 x4 x5 M
def rm12_isPart : Room := { frames := 1, cells := 0, slots := 0, locals := 22 }
set_option maxRecDepth 20000 in
theorem sn12_isPart_b162 {l : Launch} {G : am_G} {v : Int32} {M' : am_Mem} {N : Nat}  (cx : am_Ctx l rm12_isPart yX12_isPart cX12_isPart 12 (some .boolean) (some (.inl v)) M' 0 0 G)  {a0 : Int32} {M : am_Mem} (hres : fn12_isPart_b162 N  a0 M = some (v, M')) : G 162 [] [.inl a0] M 0 0 := by
  unfold fn12_isPart_b162 at hres
  obtain ⟨q1, hres⟩ := am_ck_some hres
  obtain ⟨rfl, rfl⟩ := am_fin hres
  exact am_zret cx q1 dX12_isPart_162
set_option maxRecDepth 20000 in
theorem sn12_isPart_b161 {l : Launch} {G : am_G} {v : Int32} {M' : am_Mem} {N : Nat}  (cx : am_Ctx l rm12_isPart yX12_isPart cX12_isPart 12 (some .boolean) (some (.inl v)) M' 0 0 G)   {M : am_Mem} (hres : fn12_isPart_b161 N   M = some (v, M')) : G 161 [] [] M 0 0 := by
  unfold fn12_isPart_b161 at hres
  refine am_iconst cx (v := (0 : Int32)) dX12_isPart_161 (by decide) ?_
  exact sn12_isPart_b162 cx  hres
set_option maxRecDepth 20000 in
theorem sn12_isPart_b117 {l : Launch} {G : am_G} {v : Int32} {M' : am_Mem} {N : Nat} {k9 : Nat → Int32 → Int32 → Int32 → Int32 → Int32 → Int32 → Int64 → Int32 → am_Mem → Option (Int32 × am_Mem)} (cx : am_Ctx l rm12_isPart yX12_isPart cX12_isPart 12 (some .boolean) (some (.inl v)) M' 0 0 G) (hk9 : ∀ (r0 : Nat) (x1 : Int32) (x2 : Int32) (x3 : Int32) (x4 : Int32) (x5 : Int32) (x6 : Int32) (j7 : Int64) (x9 : Int32) (M : am_Mem), k9 r0 x1 x2 x3 x4 x5 x6 j7 x9 M = some (v, M') → G 9 [(0, .inr (.inr (.inl r0))), (1, .inl x1), (2, .inl x2), (3, .inl x3), (4, .inl x4), (5, .inl x5), (6, .inl x6), (7, .inr (.inl j7)), (9, .inl x9)] [] M 0 0) {r0 : Nat} {x1 : Int32} {x2 : Int32} {x3 : Int32} {x4 : Int32} {x5 : Int32} {x6 : Int32} {j7 : Int64} {x9 : Int32} {M : am_Mem} (hres : fn12_isPart_b117 N k9 r0 x1 x2 x3 x4 x5 x6 j7 x9 M = some (v, M')) : G 117 [(0, .inr (.inr (.inl r0))), (1, .inl x1), (2, .inl x2), (3, .inl x3), (4, .inl x4), (5, .inl x5), (6, .inl x6), (7, .inr (.inl j7)), (9, .inl x9)] [] M 0 0 := by
  unfold fn12_isPart_b117 at hres
  refine am_iincw cx (lv' := [(0, .inr (.inr (.inl r0))), (1, .inl x1), (2, .inl x2), (3, .inl x3), (4, .inl x4), (5, .inl x5), (6, .inl x6), (7, .inr (.inl j7)), (9, .inl (x9 + (1 : Int32)))]) (w := (1 : Int32)) 8 dX12_isPart_117 (by decide) rfl (Nat.le_of_ble_eq_true rfl) rfl ?_
  refine am_goto cx (tgt := 9) dX12_isPart_120 (by decide) ?_
  exact hk9 _ _ _ _ _ _ _ _ _ _ hres
set_option maxRecDepth 20000 in
theorem sn12_isPart_b33 {l : Launch} {G : am_G} {v : Int32} {M' : am_Mem} {N : Nat} {k9 : Nat → Int32 → Int32 → Int32 → Int32 → Int32 → Int32 → Int64 → Int32 → am_Mem → Option (Int32 × am_Mem)} (cx : am_Ctx l rm12_isPart yX12_isPart cX12_isPart 12 (some .boolean) (some (.inl v)) M' 0 0 G) (hk9 : ∀ (r0 : Nat) (x1 : Int32) (x2 : Int32) (x3 : Int32) (x4 : Int32) (x5 : Int32) (x6 : Int32) (j7 : Int64) (x9 : Int32) (M : am_Mem), k9 r0 x1 x2 x3 x4 x5 x6 j7 x9 M = some (v, M') → G 9 [(0, .inr (.inr (.inl r0))), (1, .inl x1), (2, .inl x2), (3, .inl x3), (4, .inl x4), (5, .inl x5), (6, .inl x6), (7, .inr (.inl j7)), (9, .inl x9)] [] M 0 0) {r0 : Nat} {x1 : Int32} {x2 : Int32} {x3 : Int32} {x4 : Int32} {x5 : Int32} {x6 : Int32} {j7 : Int64} {x9 : Int32} {j10 : Int64} {M : am_Mem} (hres : fn12_isPart_b33 N k9 r0 x1 x2 x3 x4 x5 x6 j7 x9 j10 M = some (v, M')) : G 33 [(0, .inr (.inr (.inl r0))), (1, .inl x1), (2, .inl x2), (3, .inl x3), (4, .inl x4), (5, .inl x5), (6, .inl x6), (7, .inr (.inl j7)), (9, .inl x9), (10, .inr (.inl j10))] [] M 0 0 := by
  unfold fn12_isPart_b33 at hres
  refine am_aload_n cx 0 dX12_isPart_33 rfl ?_
  refine am_iload_n cx 1 dX12_isPart_34 rfl ?_
  refine am_iconst cx (v := (4 : Int32)) dX12_isPart_35 (by decide) ?_
  refine am_iload cx 8 dX12_isPart_36 rfl ?_
  refine am_iadd cx dX12_isPart_38 ?_
  obtain ⟨q1, hres⟩ := am_ck_some hres
  obtain ⟨v2, M3, q4, hres⟩ := am_bd_some hres
  refine am_callV1 cx [.inl x1, .inl ((4 : Int32) + x9)] dX12_isPart_39 cvX12_306 (mt12_of q4) (am_ke q1) ⟨rfl, rfl, Nat.le_of_ble_eq_true rfl, Nat.le_of_ble_eq_true rfl⟩ rfl (Nat.le_of_ble_eq_true rfl) ⟨Nat.le_of_ble_eq_true rfl, Nat.le_of_ble_eq_true rfl⟩ ?_
  refine am_iload_n cx 2 dX12_isPart_42 rfl ?_
  refine am_icmp_lt cx (tgt := 117) dX12_isPart_43 (by decide) (fun h => ?_) (fun h => ?_)
  · have hres := am_ifp h hres
    refine am_sub cx [0, 1, 2, 3, 4, 5, 6, 7, 8] rfl ?_
    exact sn12_isPart_b117 cx hk9 hres
  · have hres := am_ifn h hres
    refine am_aload_n cx 0 dX12_isPart_46 rfl ?_
    refine am_iload_n cx 1 dX12_isPart_47 rfl ?_
    refine am_bipush cx (v := (44 : Int32)) dX12_isPart_48 (by decide) ?_
    refine am_iload cx 8 dX12_isPart_50 rfl ?_
    refine am_iadd cx dX12_isPart_52 ?_
    obtain ⟨q5, hres⟩ := am_ck_some hres
    obtain ⟨v6, M7, q8, hres⟩ := am_bd_some hres
    refine am_callV1 cx [.inl x1, .inl ((44 : Int32) + x9)] dX12_isPart_53 cvX12_306 (mt12_of q8) (am_ke q5) ⟨rfl, rfl, Nat.le_of_ble_eq_true rfl, Nat.le_of_ble_eq_true rfl⟩ rfl (Nat.le_of_ble_eq_true rfl) ⟨Nat.le_of_ble_eq_true rfl, Nat.le_of_ble_eq_true rfl⟩ ?_
    refine am_iload_n cx 3 dX12_isPart_56 rfl ?_
    refine am_icmp_lt cx (tgt := 117) dX12_isPart_57 (by decide) (fun h => ?_) (fun h => ?_)
    · have hres := am_ifp h hres
      refine am_sub cx [0, 1, 2, 3, 4, 5, 6, 7, 8] rfl ?_
      exact sn12_isPart_b117 cx hk9 hres
    · have hres := am_ifn h hres
      refine am_aload_n cx 0 dX12_isPart_60 rfl ?_
      refine am_iload_n cx 1 dX12_isPart_61 rfl ?_
      refine am_iconst cx (v := (4 : Int32)) dX12_isPart_62 (by decide) ?_
      refine am_iload cx 8 dX12_isPart_63 rfl ?_
      refine am_iadd cx dX12_isPart_65 ?_
      obtain ⟨q9, hres⟩ := am_ck_some hres
      obtain ⟨v10, M11, q12, hres⟩ := am_bd_some hres
      refine am_callV1 cx [.inl x1, .inl ((4 : Int32) + x9)] dX12_isPart_66 cvX12_306 (mt12_of q12) (am_ke q9) ⟨rfl, rfl, Nat.le_of_ble_eq_true rfl, Nat.le_of_ble_eq_true rfl⟩ rfl (Nat.le_of_ble_eq_true rfl) ⟨Nat.le_of_ble_eq_true rfl, Nat.le_of_ble_eq_true rfl⟩ ?_
      refine am_i2l cx dX12_isPart_69 ?_
      refine am_lload cx 9 dX12_isPart_70 rfl ?_
      refine am_ladd cx dX12_isPart_72 ?_
      refine am_iload cx 4 dX12_isPart_73 rfl ?_
      refine am_i2l cx dX12_isPart_75 ?_
      refine am_lcmp cx dX12_isPart_76 ?_
      refine am_if_gt cx (tgt := 117) dX12_isPart_77 (by decide) (fun h => ?_) (fun h => ?_)
      · have hres := am_ifp h hres
        refine am_sub cx [0, 1, 2, 3, 4, 5, 6, 7, 8] rfl ?_
        exact sn12_isPart_b117 cx hk9 hres
      · have hres := am_ifn h hres
        refine am_aload_n cx 0 dX12_isPart_80 rfl ?_
        refine am_iload_n cx 1 dX12_isPart_81 rfl ?_
        refine am_bipush cx (v := (44 : Int32)) dX12_isPart_82 (by decide) ?_
        refine am_iload cx 8 dX12_isPart_84 rfl ?_
        refine am_iadd cx dX12_isPart_86 ?_
        obtain ⟨q13, hres⟩ := am_ck_some hres
        obtain ⟨v14, M15, q16, hres⟩ := am_bd_some hres
        refine am_callV1 cx [.inl x1, .inl ((44 : Int32) + x9)] dX12_isPart_87 cvX12_306 (mt12_of q16) (am_ke q13) ⟨rfl, rfl, Nat.le_of_ble_eq_true rfl, Nat.le_of_ble_eq_true rfl⟩ rfl (Nat.le_of_ble_eq_true rfl) ⟨Nat.le_of_ble_eq_true rfl, Nat.le_of_ble_eq_true rfl⟩ ?_
        refine am_i2l cx dX12_isPart_90 ?_
        refine am_lload cx 9 dX12_isPart_91 rfl ?_
        refine am_ladd cx dX12_isPart_93 ?_
        refine am_iload cx 5 dX12_isPart_94 rfl ?_
        refine am_i2l cx dX12_isPart_96 ?_
        refine am_lcmp cx dX12_isPart_97 ?_
        refine am_if_le cx (tgt := 104) dX12_isPart_98 (by decide) (fun h => ?_) (fun h => ?_)
        · have hres := am_ifp h hres
          refine am_iincw cx (lv' := [(0, .inr (.inr (.inl r0))), (1, .inl x1), (2, .inl x2), (3, .inl x3), (4, .inl x4), (5, .inl x5), (6, .inl (x6 + (1 : Int32))), (7, .inr (.inl j7)), (9, .inl x9), (10, .inr (.inl j10))]) (w := (1 : Int32)) 6 dX12_isPart_104 (by decide) rfl (Nat.le_of_ble_eq_true rfl) rfl ?_
          refine am_lload cx 7 dX12_isPart_107 rfl ?_
          refine am_lload cx 9 dX12_isPart_109 rfl ?_
          refine am_lload cx 9 dX12_isPart_111 rfl ?_
          refine am_lmul cx dX12_isPart_113 ?_
          refine am_ladd cx dX12_isPart_114 ?_
          refine am_lstore cx (lv' := [(0, .inr (.inr (.inl r0))), (1, .inl x1), (2, .inl x2), (3, .inl x3), (4, .inl x4), (5, .inl x5), (6, .inl (x6 + (1 : Int32))), (7, .inr (.inl (j7 + (j10 * j10)))), (9, .inl x9), (10, .inr (.inl j10))]) dX12_isPart_115 (Nat.le_of_ble_eq_true rfl) rfl ?_
          refine am_sub cx [0, 1, 2, 3, 4, 5, 6, 7, 8] rfl ?_
          exact sn12_isPart_b117 cx hk9 hres
        · have hres := am_ifn h hres
          refine am_goto cx (tgt := 117) dX12_isPart_101 (by decide) ?_
          refine am_sub cx [0, 1, 2, 3, 4, 5, 6, 7, 8] rfl ?_
          exact sn12_isPart_b117 cx hk9 hres
set_option maxRecDepth 20000 in
theorem sn12_isPart_b9B {l : Launch} {G : am_G} {v : Int32} {M' : am_Mem} {N : Nat} {k9 : Nat → Int32 → Int32 → Int32 → Int32 → Int32 → Int32 → Int64 → Int32 → am_Mem → Option (Int32 × am_Mem)} (cx : am_Ctx l rm12_isPart yX12_isPart cX12_isPart 12 (some .boolean) (some (.inl v)) M' 0 0 G) (hk9 : ∀ (r0 : Nat) (x1 : Int32) (x2 : Int32) (x3 : Int32) (x4 : Int32) (x5 : Int32) (x6 : Int32) (j7 : Int64) (x9 : Int32) (M : am_Mem), k9 r0 x1 x2 x3 x4 x5 x6 j7 x9 M = some (v, M') → G 9 [(0, .inr (.inr (.inl r0))), (1, .inl x1), (2, .inl x2), (3, .inl x3), (4, .inl x4), (5, .inl x5), (6, .inl x6), (7, .inr (.inl j7)), (9, .inl x9)] [] M 0 0) {r0 : Nat} {x1 : Int32} {x2 : Int32} {x3 : Int32} {x4 : Int32} {x5 : Int32} {x6 : Int32} {j7 : Int64} {x9 : Int32} {M : am_Mem} (hres : fn12_isPart_b9B N k9 r0 x1 x2 x3 x4 x5 x6 j7 x9 M = some (v, M')) : G 9 [(0, .inr (.inr (.inl r0))), (1, .inl x1), (2, .inl x2), (3, .inl x3), (4, .inl x4), (5, .inl x5), (6, .inl x6), (7, .inr (.inl j7)), (9, .inl x9)] [] M 0 0 := by
  unfold fn12_isPart_b9B at hres
  refine am_iload cx 8 dX12_isPart_9 rfl ?_
  refine am_aload_n cx 0 dX12_isPart_11 rfl ?_
  refine am_iload_n cx 1 dX12_isPart_12 rfl ?_
  refine am_iconst cx (v := (0 : Int32)) dX12_isPart_13 (by decide) ?_
  obtain ⟨q1, hres⟩ := am_ck_some hres
  obtain ⟨v2, M3, q4, hres⟩ := am_bd_some hres
  refine am_callV1 cx [.inl x1, .inl (0 : Int32)] dX12_isPart_14 cvX12_306 (mt12_of q4) (am_ke q1) ⟨rfl, rfl, Nat.le_of_ble_eq_true rfl, Nat.le_of_ble_eq_true rfl⟩ rfl (Nat.le_of_ble_eq_true rfl) ⟨Nat.le_of_ble_eq_true rfl, Nat.le_of_ble_eq_true rfl⟩ ?_
  refine am_icmp_ge cx (tgt := 123) dX12_isPart_17 (by decide) (fun h => ?_) (fun h => ?_)
  · have hres := am_ifp h hres
    refine am_iload cx 6 dX12_isPart_123 rfl ?_
    refine am_iconst cx (v := (1 : Int32)) dX12_isPart_125 (by decide) ?_
    refine am_icmp_le cx (tgt := 161) dX12_isPart_126 (by decide) (fun h => ?_) (fun h => ?_)
    · have hres := am_ifp h hres
      refine am_sub cx [] rfl ?_
      exact sn12_isPart_b161 cx  hres
    · have hres := am_ifn h hres
      refine am_iload cx 6 dX12_isPart_129 rfl ?_
      refine am_aload_n cx 0 dX12_isPart_131 rfl ?_
      refine am_iload_n cx 1 dX12_isPart_132 rfl ?_
      refine am_iconst cx (v := (0 : Int32)) dX12_isPart_133 (by decide) ?_
      obtain ⟨q5, hres⟩ := am_ck_some hres
      obtain ⟨v6, M7, q8, hres⟩ := am_bd_some hres
      refine am_callV1 cx [.inl x1, .inl (0 : Int32)] dX12_isPart_134 cvX12_306 (mt12_of q8) (am_ke q5) ⟨rfl, rfl, Nat.le_of_ble_eq_true rfl, Nat.le_of_ble_eq_true rfl⟩ rfl (Nat.le_of_ble_eq_true rfl) ⟨Nat.le_of_ble_eq_true rfl, Nat.le_of_ble_eq_true rfl⟩ ?_
      refine am_icmp_ge cx (tgt := 161) dX12_isPart_137 (by decide) (fun h => ?_) (fun h => ?_)
      · have hres := am_ifp h hres
        refine am_sub cx [] rfl ?_
        exact sn12_isPart_b161 cx  hres
      · have hres := am_ifn h hres
        refine am_lload cx 7 dX12_isPart_140 rfl ?_
        refine am_iload cx 4 dX12_isPart_142 rfl ?_
        refine am_iload_n cx 2 dX12_isPart_144 rfl ?_
        refine am_isub cx dX12_isPart_145 ?_
        refine am_i2l cx dX12_isPart_146 ?_
        refine am_iload cx 5 dX12_isPart_147 rfl ?_
        refine am_iload_n cx 3 dX12_isPart_149 rfl ?_
        refine am_isub cx dX12_isPart_150 ?_
        refine am_i2l cx dX12_isPart_151 ?_
        refine am_lmul cx dX12_isPart_152 ?_
        refine am_lcmp cx dX12_isPart_153 ?_
        refine am_if_ne cx (tgt := 161) dX12_isPart_154 (by decide) (fun h => ?_) (fun h => ?_)
        · have hres := am_ifn h hres
          refine am_sub cx [] rfl ?_
          exact sn12_isPart_b161 cx  hres
        · have hres := am_ifp h hres
          refine am_iconst cx (v := (1 : Int32)) dX12_isPart_157 (by decide) ?_
          refine am_goto cx (tgt := 162) dX12_isPart_158 (by decide) ?_
          refine am_sub cx [] rfl ?_
          exact sn12_isPart_b162 cx  hres
  · have hres := am_ifn h hres
    refine am_aload_n cx 0 dX12_isPart_20 rfl ?_
    refine am_iload_n cx 1 dX12_isPart_21 rfl ?_
    refine am_bipush cx (v := (84 : Int32)) dX12_isPart_22 (by decide) ?_
    refine am_iload cx 8 dX12_isPart_24 rfl ?_
    refine am_iadd cx dX12_isPart_26 ?_
    obtain ⟨q9, hres⟩ := am_ck_some hres
    obtain ⟨v10, M11, q12, hres⟩ := am_bd_some hres
    refine am_callV1 cx [.inl x1, .inl ((84 : Int32) + x9)] dX12_isPart_27 cvX12_306 (mt12_of q12) (am_ke q9) ⟨rfl, rfl, Nat.le_of_ble_eq_true rfl, Nat.le_of_ble_eq_true rfl⟩ rfl (Nat.le_of_ble_eq_true rfl) ⟨Nat.le_of_ble_eq_true rfl, Nat.le_of_ble_eq_true rfl⟩ ?_
    refine am_i2l cx dX12_isPart_30 ?_
    refine am_lstore cx (lv' := [(0, .inr (.inr (.inl r0))), (1, .inl x1), (2, .inl x2), (3, .inl x3), (4, .inl x4), (5, .inl x5), (6, .inl x6), (7, .inr (.inl j7)), (9, .inl x9), (10, .inr (.inl v10.toInt64))]) dX12_isPart_31 (Nat.le_of_ble_eq_true rfl) rfl ?_
    exact sn12_isPart_b33 cx hk9 hres
set_option maxRecDepth 20000 in
theorem sn12_isPart_b9 {l : Launch} {G : am_G} {v : Int32} {M' : am_Mem} {N : Nat}  (cx : am_Ctx l rm12_isPart yX12_isPart cX12_isPart 12 (some .boolean) (some (.inl v)) M' 0 0 G)  (i : Nat) : ∀ (r0 : Nat) (x1 : Int32) (x2 : Int32) (x3 : Int32) (x4 : Int32) (x5 : Int32) (x6 : Int32) (j7 : Int64) (x9 : Int32) (M : am_Mem), fn12_isPart_b9 N  i r0 x1 x2 x3 x4 x5 x6 j7 x9 M = some (v, M') → G 9 [(0, .inr (.inr (.inl r0))), (1, .inl x1), (2, .inl x2), (3, .inl x3), (4, .inl x4), (5, .inl x5), (6, .inl x6), (7, .inr (.inl j7)), (9, .inl x9)] [] M 0 0 := by
  induction i with
  | zero => intro r0 x1 x2 x3 x4 x5 x6 j7 x9 M hres; exact am_no hres
  | succ i ih => intro r0 x1 x2 x3 x4 x5 x6 j7 x9 M hres; exact sn12_isPart_b9B cx ih hres
set_option maxRecDepth 20000 in
theorem sn12_isPart_b0 {l : Launch} {G : am_G} {v : Int32} {M' : am_Mem} {N : Nat}  (cx : am_Ctx l rm12_isPart yX12_isPart cX12_isPart 12 (some .boolean) (some (.inl v)) M' 0 0 G)  {r0 : Nat} {x1 : Int32} {x2 : Int32} {x3 : Int32} {x4 : Int32} {x5 : Int32} {M : am_Mem} (hres : fn12_isPart_b0 N  r0 x1 x2 x3 x4 x5 M = some (v, M')) : G 0 [(0, .inr (.inr (.inl r0))), (1, .inl x1), (2, .inl x2), (3, .inl x3), (4, .inl x4), (5, .inl x5)] [] M 0 0 := by
  unfold fn12_isPart_b0 at hres
  refine am_iconst cx (v := (0 : Int32)) dX12_isPart_0 (by decide) ?_
  refine am_istore cx (lv' := [(0, .inr (.inr (.inl r0))), (1, .inl x1), (2, .inl x2), (3, .inl x3), (4, .inl x4), (5, .inl x5), (6, .inl (0 : Int32))]) dX12_isPart_1 (Nat.le_of_ble_eq_true rfl) rfl ?_
  refine am_lconst cx (v := (0 : Int64)) dX12_isPart_3 (by decide) ?_
  refine am_lstore cx (lv' := [(0, .inr (.inr (.inl r0))), (1, .inl x1), (2, .inl x2), (3, .inl x3), (4, .inl x4), (5, .inl x5), (6, .inl (0 : Int32)), (7, .inr (.inl (0 : Int64)))]) dX12_isPart_4 (Nat.le_of_ble_eq_true rfl) rfl ?_
  refine am_iconst cx (v := (0 : Int32)) dX12_isPart_6 (by decide) ?_
  refine am_istore cx (lv' := [(0, .inr (.inr (.inl r0))), (1, .inl x1), (2, .inl x2), (3, .inl x3), (4, .inl x4), (5, .inl x5), (6, .inl (0 : Int32)), (7, .inr (.inl (0 : Int64))), (9, .inl (0 : Int32))]) dX12_isPart_7 (Nat.le_of_ble_eq_true rfl) rfl ?_
  exact sn12_isPart_b9 cx  N _ _ _ _ _ _ _ _ _ _ hres
set_option maxRecDepth 20000 in
theorem mt12_isPart {l : Launch} {v : Int32} {M M' : am_Mem} {N : Nat} {r0 : Nat} {x1 : Int32} {x2 : Int32} {x3 : Int32} {x4 : Int32} {x5 : Int32} (h : fn12_isPart N M r0 x1 x2 x3 x4 x5 = some (v, M')) : am_Met l yX12_isPart cX12_isPart 12 (some .boolean) rm12_isPart 0 0 [.inr (.inr (.inl r0)), .inl x1, .inl x2, .inl x3, .inl x4, .inl x5] M (some (.inl v)) M' := am_mk (by decide) (Nat.le_of_ble_eq_true rfl) (fun G cx => (sn12_isPart_b0 cx h))
-- SquareCutsModel.partsOf
def fn12_partsOf_b146 (N : Nat) (k4 : Nat → Int32 → Int32 → Int32 → am_Mem → Option (Int32 × am_Mem)) (k17 : Nat → Int32 → Int32 → Int32 → Int32 → am_Mem → Option (Int32 × am_Mem)) (r0 : Nat) (x1 : Int32) (x2 : Int32) (x3 : Int32) (x4 : Int32) (M : am_Mem) : Option (Int32 × am_Mem) :=
  k17 r0 x1 x2 x3 (x4 + (1 : Int32)) M
def fn12_partsOf_b144 (N : Nat) (k4 : Nat → Int32 → Int32 → Int32 → am_Mem → Option (Int32 × am_Mem)) (k17 : Nat → Int32 → Int32 → Int32 → Int32 → am_Mem → Option (Int32 × am_Mem)) (a0 : Int32) (a1 : Int32) (r0 : Nat) (x1 : Int32) (x3 : Int32) (x4 : Int32) (M : am_Mem) : Option (Int32 × am_Mem) :=
  fn12_partsOf_b146 N k4 k17 r0 x1 (a0 + a1) x3 x4 M
def fn12_partsOf_b73 (N : Nat) (k4 : Nat → Int32 → Int32 → Int32 → am_Mem → Option (Int32 × am_Mem)) (k17 : Nat → Int32 → Int32 → Int32 → Int32 → am_Mem → Option (Int32 × am_Mem)) (r0 : Nat) (x1 : Int32) (x2 : Int32) (x3 : Int32) (x4 : Int32) (x5 : Int32) (x6 : Int32) (M : am_Mem) : Option (Int32 × am_Mem) :=
  if x3 = x4 then fn12_partsOf_b146 N k4 k17 r0 x1 x2 x3 x4 M else am_ck (am_k M r0 12) (am_bd (fn12_of M r0 x1 ((4 : Int32) + x3)) (fun v2 M3 => if x5 ≤ v2 then fn12_partsOf_b146 N k4 k17 r0 x1 x2 x3 x4 M3 else am_ck (am_k M3 r0 12) (am_bd (fn12_of M3 r0 x1 ((44 : Int32) + x3)) (fun v6 M7 => if v6 < x6 then am_ck (am_k M7 r0 12) (am_bd (fn12_of M7 r0 x1 ((4 : Int32) + x3)) (fun v10 M11 => am_ck (am_k M11 r0 12) (am_bd (fn12_of M11 r0 x1 ((44 : Int32) + x3)) (fun v14 M15 => am_ck (am_k M15 r0 12) (am_bd (fn12_isPart N M15 r0 x1 v10 v14 x5 x6) (fun v18 M19 => if v18 = 0 then fn12_partsOf_b144 N k4 k17 x2 (0 : Int32) r0 x1 x3 x4 M19 else fn12_partsOf_b144 N k4 k17 x2 (1 : Int32) r0 x1 x3 x4 M19)))))) else fn12_partsOf_b146 N k4 k17 r0 x1 x2 x3 x4 M7))))
def fn12_partsOf_b50 (N : Nat) (k4 : Nat → Int32 → Int32 → Int32 → am_Mem → Option (Int32 × am_Mem)) (k17 : Nat → Int32 → Int32 → Int32 → Int32 → am_Mem → Option (Int32 × am_Mem)) (r0 : Nat) (x1 : Int32) (x2 : Int32) (x3 : Int32) (x4 : Int32) (x5 : Int32) (M : am_Mem) : Option (Int32 × am_Mem) :=
  am_ck (am_k M r0 12) (am_bd (fn12_of M r0 x1 ((44 : Int32) + x4)) (fun v2 M3 => am_ck (am_k M3 r0 12) (am_bd (fn12_of M3 r0 x1 ((84 : Int32) + x4)) (fun v6 M7 => fn12_partsOf_b73 N k4 k17 r0 x1 x2 x3 x4 x5 (v2 + v6) M7))))
def fn12_partsOf_b17B (N : Nat) (k4 : Nat → Int32 → Int32 → Int32 → am_Mem → Option (Int32 × am_Mem)) (k17 : Nat → Int32 → Int32 → Int32 → Int32 → am_Mem → Option (Int32 × am_Mem)) (r0 : Nat) (x1 : Int32) (x2 : Int32) (x3 : Int32) (x4 : Int32) (M : am_Mem) : Option (Int32 × am_Mem) :=
  am_ck (am_k M r0 12) (am_bd (fn12_of M r0 x1 (0 : Int32)) (fun v2 M3 => if v2 ≤ x4 then k4 r0 x1 x2 (x3 + (1 : Int32)) M3 else am_ck (am_k M3 r0 12) (am_bd (fn12_of M3 r0 x1 ((4 : Int32) + x4)) (fun v6 M7 => am_ck (am_k M7 r0 12) (am_bd (fn12_of M7 r0 x1 ((84 : Int32) + x4)) (fun v10 M11 => fn12_partsOf_b50 N k4 k17 r0 x1 x2 x3 x4 (v6 + v10) M11))))))
def fn12_partsOf_b17 (N : Nat) (k4 : Nat → Int32 → Int32 → Int32 → am_Mem → Option (Int32 × am_Mem)) : Nat → Nat → Int32 → Int32 → Int32 → Int32 → am_Mem → Option (Int32 × am_Mem)
  | 0 => fun _ _ _ _ _ _ => none
  | i + 1 => fn12_partsOf_b17B N k4 (fn12_partsOf_b17 N k4 i)
def fn12_partsOf_b4B (N : Nat) (k4 : Nat → Int32 → Int32 → Int32 → am_Mem → Option (Int32 × am_Mem)) (r0 : Nat) (x1 : Int32) (x2 : Int32) (x3 : Int32) (M : am_Mem) : Option (Int32 × am_Mem) :=
  am_ck (am_k M r0 12) (am_bd (fn12_of M r0 x1 (0 : Int32)) (fun v2 M3 => if v2 ≤ x3 then some (x2, M3) else fn12_partsOf_b17 N k4 N r0 x1 x2 x3 (0 : Int32) M3))
def fn12_partsOf_b4 (N : Nat)  : Nat → Nat → Int32 → Int32 → Int32 → am_Mem → Option (Int32 × am_Mem)
  | 0 => fun _ _ _ _ _ => none
  | i + 1 => fn12_partsOf_b4B N (fn12_partsOf_b4 N  i)
def fn12_partsOf_b0 (N : Nat)  (r0 : Nat) (x1 : Int32) (M : am_Mem) : Option (Int32 × am_Mem) :=
  fn12_partsOf_b4 N  N r0 x1 (0 : Int32) (0 : Int32) M
def fn12_partsOf (N : Nat) (M : am_Mem) (r0 : Nat) (x1 : Int32) : Option (Int32 × am_Mem) := fn12_partsOf_b0 N r0 x1 M
def rm12_partsOf : Room := { frames := 2, cells := 0, slots := 0, locals := 53 }
set_option maxRecDepth 20000 in
theorem sn12_partsOf_b146 {l : Launch} {G : am_G} {v : Int32} {M' : am_Mem} {N : Nat} {k4 : Nat → Int32 → Int32 → Int32 → am_Mem → Option (Int32 × am_Mem)} {k17 : Nat → Int32 → Int32 → Int32 → Int32 → am_Mem → Option (Int32 × am_Mem)} (cx : am_Ctx l rm12_partsOf yX12_partsOf cX12_partsOf 7 (some .int) (some (.inl v)) M' 0 0 G) (hk4 : ∀ (r0 : Nat) (x1 : Int32) (x2 : Int32) (x3 : Int32) (M : am_Mem), k4 r0 x1 x2 x3 M = some (v, M') → G 4 [(0, .inr (.inr (.inl r0))), (1, .inl x1), (2, .inl x2), (3, .inl x3)] [] M 0 0) (hk17 : ∀ (r0 : Nat) (x1 : Int32) (x2 : Int32) (x3 : Int32) (x4 : Int32) (M : am_Mem), k17 r0 x1 x2 x3 x4 M = some (v, M') → G 17 [(0, .inr (.inr (.inl r0))), (1, .inl x1), (2, .inl x2), (3, .inl x3), (4, .inl x4)] [] M 0 0) {r0 : Nat} {x1 : Int32} {x2 : Int32} {x3 : Int32} {x4 : Int32} {M : am_Mem} (hres : fn12_partsOf_b146 N k4 k17 r0 x1 x2 x3 x4 M = some (v, M')) : G 146 [(0, .inr (.inr (.inl r0))), (1, .inl x1), (2, .inl x2), (3, .inl x3), (4, .inl x4)] [] M 0 0 := by
  unfold fn12_partsOf_b146 at hres
  refine am_iincw cx (lv' := [(0, .inr (.inr (.inl r0))), (1, .inl x1), (2, .inl x2), (3, .inl x3), (4, .inl (x4 + (1 : Int32)))]) (w := (1 : Int32)) 4 dX12_partsOf_146 (by decide) rfl (Nat.le_of_ble_eq_true rfl) rfl ?_
  refine am_goto cx (tgt := 17) dX12_partsOf_149 (by decide) ?_
  exact hk17 _ _ _ _ _ _ hres
set_option maxRecDepth 20000 in
theorem sn12_partsOf_b144 {l : Launch} {G : am_G} {v : Int32} {M' : am_Mem} {N : Nat} {k4 : Nat → Int32 → Int32 → Int32 → am_Mem → Option (Int32 × am_Mem)} {k17 : Nat → Int32 → Int32 → Int32 → Int32 → am_Mem → Option (Int32 × am_Mem)} (cx : am_Ctx l rm12_partsOf yX12_partsOf cX12_partsOf 7 (some .int) (some (.inl v)) M' 0 0 G) (hk4 : ∀ (r0 : Nat) (x1 : Int32) (x2 : Int32) (x3 : Int32) (M : am_Mem), k4 r0 x1 x2 x3 M = some (v, M') → G 4 [(0, .inr (.inr (.inl r0))), (1, .inl x1), (2, .inl x2), (3, .inl x3)] [] M 0 0) (hk17 : ∀ (r0 : Nat) (x1 : Int32) (x2 : Int32) (x3 : Int32) (x4 : Int32) (M : am_Mem), k17 r0 x1 x2 x3 x4 M = some (v, M') → G 17 [(0, .inr (.inr (.inl r0))), (1, .inl x1), (2, .inl x2), (3, .inl x3), (4, .inl x4)] [] M 0 0) {a0 : Int32} {a1 : Int32} {r0 : Nat} {x1 : Int32} {x3 : Int32} {x4 : Int32} {M : am_Mem} (hres : fn12_partsOf_b144 N k4 k17 a0 a1 r0 x1 x3 x4 M = some (v, M')) : G 144 [(0, .inr (.inr (.inl r0))), (1, .inl x1), (3, .inl x3), (4, .inl x4)] [.inl a1, .inl a0] M 0 0 := by
  unfold fn12_partsOf_b144 at hres
  refine am_iadd cx dX12_partsOf_144 ?_
  refine am_istore_n cx (lv' := [(0, .inr (.inr (.inl r0))), (1, .inl x1), (2, .inl (a0 + a1)), (3, .inl x3), (4, .inl x4)]) dX12_partsOf_145 (Nat.le_of_ble_eq_true rfl) rfl ?_
  exact sn12_partsOf_b146 cx hk4 hk17 hres
set_option maxRecDepth 20000 in
theorem sn12_partsOf_b73 {l : Launch} {G : am_G} {v : Int32} {M' : am_Mem} {N : Nat} {k4 : Nat → Int32 → Int32 → Int32 → am_Mem → Option (Int32 × am_Mem)} {k17 : Nat → Int32 → Int32 → Int32 → Int32 → am_Mem → Option (Int32 × am_Mem)} (cx : am_Ctx l rm12_partsOf yX12_partsOf cX12_partsOf 7 (some .int) (some (.inl v)) M' 0 0 G) (hk4 : ∀ (r0 : Nat) (x1 : Int32) (x2 : Int32) (x3 : Int32) (M : am_Mem), k4 r0 x1 x2 x3 M = some (v, M') → G 4 [(0, .inr (.inr (.inl r0))), (1, .inl x1), (2, .inl x2), (3, .inl x3)] [] M 0 0) (hk17 : ∀ (r0 : Nat) (x1 : Int32) (x2 : Int32) (x3 : Int32) (x4 : Int32) (M : am_Mem), k17 r0 x1 x2 x3 x4 M = some (v, M') → G 17 [(0, .inr (.inr (.inl r0))), (1, .inl x1), (2, .inl x2), (3, .inl x3), (4, .inl x4)] [] M 0 0) {r0 : Nat} {x1 : Int32} {x2 : Int32} {x3 : Int32} {x4 : Int32} {x5 : Int32} {x6 : Int32} {M : am_Mem} (hres : fn12_partsOf_b73 N k4 k17 r0 x1 x2 x3 x4 x5 x6 M = some (v, M')) : G 73 [(0, .inr (.inr (.inl r0))), (1, .inl x1), (2, .inl x2), (3, .inl x3), (4, .inl x4), (5, .inl x5), (6, .inl x6)] [] M 0 0 := by
  unfold fn12_partsOf_b73 at hres
  refine am_iload_n cx 3 dX12_partsOf_73 rfl ?_
  refine am_iload cx 4 dX12_partsOf_74 rfl ?_
  refine am_icmp_eq cx (tgt := 146) dX12_partsOf_76 (by decide) (fun h => ?_) (fun h => ?_)
  · have hres := am_ifp h hres
    refine am_sub cx [0, 1, 2, 3, 4] rfl ?_
    exact sn12_partsOf_b146 cx hk4 hk17 hres
  · have hres := am_ifn h hres
    refine am_iload cx 5 dX12_partsOf_79 rfl ?_
    refine am_aload_n cx 0 dX12_partsOf_81 rfl ?_
    refine am_iload_n cx 1 dX12_partsOf_82 rfl ?_
    refine am_iconst cx (v := (4 : Int32)) dX12_partsOf_83 (by decide) ?_
    refine am_iload_n cx 3 dX12_partsOf_84 rfl ?_
    refine am_iadd cx dX12_partsOf_85 ?_
    obtain ⟨q1, hres⟩ := am_ck_some hres
    obtain ⟨v2, M3, q4, hres⟩ := am_bd_some hres
    refine am_callV1 cx [.inl x1, .inl ((4 : Int32) + x3)] dX12_partsOf_86 cvX12_306 (mt12_of q4) (am_ke q1) ⟨rfl, rfl, Nat.le_of_ble_eq_true rfl, Nat.le_of_ble_eq_true rfl⟩ rfl (Nat.le_of_ble_eq_true rfl) ⟨Nat.le_of_ble_eq_true rfl, Nat.le_of_ble_eq_true rfl⟩ ?_
    refine am_icmp_le cx (tgt := 146) dX12_partsOf_89 (by decide) (fun h => ?_) (fun h => ?_)
    · have hres := am_ifp h hres
      refine am_sub cx [0, 1, 2, 3, 4] rfl ?_
      exact sn12_partsOf_b146 cx hk4 hk17 hres
    · have hres := am_ifn h hres
      refine am_iload cx 6 dX12_partsOf_92 rfl ?_
      refine am_aload_n cx 0 dX12_partsOf_94 rfl ?_
      refine am_iload_n cx 1 dX12_partsOf_95 rfl ?_
      refine am_bipush cx (v := (44 : Int32)) dX12_partsOf_96 (by decide) ?_
      refine am_iload_n cx 3 dX12_partsOf_98 rfl ?_
      refine am_iadd cx dX12_partsOf_99 ?_
      obtain ⟨q5, hres⟩ := am_ck_some hres
      obtain ⟨v6, M7, q8, hres⟩ := am_bd_some hres
      refine am_callV1 cx [.inl x1, .inl ((44 : Int32) + x3)] dX12_partsOf_100 cvX12_306 (mt12_of q8) (am_ke q5) ⟨rfl, rfl, Nat.le_of_ble_eq_true rfl, Nat.le_of_ble_eq_true rfl⟩ rfl (Nat.le_of_ble_eq_true rfl) ⟨Nat.le_of_ble_eq_true rfl, Nat.le_of_ble_eq_true rfl⟩ ?_
      refine am_icmp_gt cx (tgt := 109) dX12_partsOf_103 (by decide) (fun h => ?_) (fun h => ?_)
      · have hres := am_ifp h hres
        refine am_iload_n cx 2 dX12_partsOf_109 rfl ?_
        refine am_aload_n cx 0 dX12_partsOf_110 rfl ?_
        refine am_iload_n cx 1 dX12_partsOf_111 rfl ?_
        refine am_aload_n cx 0 dX12_partsOf_112 rfl ?_
        refine am_iload_n cx 1 dX12_partsOf_113 rfl ?_
        refine am_iconst cx (v := (4 : Int32)) dX12_partsOf_114 (by decide) ?_
        refine am_iload_n cx 3 dX12_partsOf_115 rfl ?_
        refine am_iadd cx dX12_partsOf_116 ?_
        obtain ⟨q9, hres⟩ := am_ck_some hres
        obtain ⟨v10, M11, q12, hres⟩ := am_bd_some hres
        refine am_callV1 cx [.inl x1, .inl ((4 : Int32) + x3)] dX12_partsOf_117 cvX12_306 (mt12_of q12) (am_ke q9) ⟨rfl, rfl, Nat.le_of_ble_eq_true rfl, Nat.le_of_ble_eq_true rfl⟩ rfl (Nat.le_of_ble_eq_true rfl) ⟨Nat.le_of_ble_eq_true rfl, Nat.le_of_ble_eq_true rfl⟩ ?_
        refine am_aload_n cx 0 dX12_partsOf_120 rfl ?_
        refine am_iload_n cx 1 dX12_partsOf_121 rfl ?_
        refine am_bipush cx (v := (44 : Int32)) dX12_partsOf_122 (by decide) ?_
        refine am_iload_n cx 3 dX12_partsOf_124 rfl ?_
        refine am_iadd cx dX12_partsOf_125 ?_
        obtain ⟨q13, hres⟩ := am_ck_some hres
        obtain ⟨v14, M15, q16, hres⟩ := am_bd_some hres
        refine am_callV1 cx [.inl x1, .inl ((44 : Int32) + x3)] dX12_partsOf_126 cvX12_306 (mt12_of q16) (am_ke q13) ⟨rfl, rfl, Nat.le_of_ble_eq_true rfl, Nat.le_of_ble_eq_true rfl⟩ rfl (Nat.le_of_ble_eq_true rfl) ⟨Nat.le_of_ble_eq_true rfl, Nat.le_of_ble_eq_true rfl⟩ ?_
        refine am_iload cx 5 dX12_partsOf_129 rfl ?_
        refine am_iload cx 6 dX12_partsOf_131 rfl ?_
        obtain ⟨q17, hres⟩ := am_ck_some hres
        obtain ⟨v18, M19, q20, hres⟩ := am_bd_some hres
        refine am_callV1 cx [.inl x1, .inl v10, .inl v14, .inl x5, .inl x6] dX12_partsOf_133 cvX12_309 (mt12_isPart q20) (am_ke q17) ⟨rfl, rfl, Nat.le_of_ble_eq_true rfl, Nat.le_of_ble_eq_true rfl⟩ rfl (Nat.le_of_ble_eq_true rfl) ⟨Nat.le_of_ble_eq_true rfl, Nat.le_of_ble_eq_true rfl⟩ ?_
        refine am_if_eq cx (tgt := 143) dX12_partsOf_136 (by decide) (fun h => ?_) (fun h => ?_)
        · have hres := am_ifp h hres
          refine am_iconst cx (v := (0 : Int32)) dX12_partsOf_143 (by decide) ?_
          refine am_sub cx [0, 1, 3, 4] rfl ?_
          exact sn12_partsOf_b144 cx hk4 hk17 hres
        · have hres := am_ifn h hres
          refine am_iconst cx (v := (1 : Int32)) dX12_partsOf_139 (by decide) ?_
          refine am_goto cx (tgt := 144) dX12_partsOf_140 (by decide) ?_
          refine am_sub cx [0, 1, 3, 4] rfl ?_
          exact sn12_partsOf_b144 cx hk4 hk17 hres
      · have hres := am_ifn h hres
        refine am_goto cx (tgt := 146) dX12_partsOf_106 (by decide) ?_
        refine am_sub cx [0, 1, 2, 3, 4] rfl ?_
        exact sn12_partsOf_b146 cx hk4 hk17 hres
set_option maxRecDepth 20000 in
theorem sn12_partsOf_b50 {l : Launch} {G : am_G} {v : Int32} {M' : am_Mem} {N : Nat} {k4 : Nat → Int32 → Int32 → Int32 → am_Mem → Option (Int32 × am_Mem)} {k17 : Nat → Int32 → Int32 → Int32 → Int32 → am_Mem → Option (Int32 × am_Mem)} (cx : am_Ctx l rm12_partsOf yX12_partsOf cX12_partsOf 7 (some .int) (some (.inl v)) M' 0 0 G) (hk4 : ∀ (r0 : Nat) (x1 : Int32) (x2 : Int32) (x3 : Int32) (M : am_Mem), k4 r0 x1 x2 x3 M = some (v, M') → G 4 [(0, .inr (.inr (.inl r0))), (1, .inl x1), (2, .inl x2), (3, .inl x3)] [] M 0 0) (hk17 : ∀ (r0 : Nat) (x1 : Int32) (x2 : Int32) (x3 : Int32) (x4 : Int32) (M : am_Mem), k17 r0 x1 x2 x3 x4 M = some (v, M') → G 17 [(0, .inr (.inr (.inl r0))), (1, .inl x1), (2, .inl x2), (3, .inl x3), (4, .inl x4)] [] M 0 0) {r0 : Nat} {x1 : Int32} {x2 : Int32} {x3 : Int32} {x4 : Int32} {x5 : Int32} {M : am_Mem} (hres : fn12_partsOf_b50 N k4 k17 r0 x1 x2 x3 x4 x5 M = some (v, M')) : G 50 [(0, .inr (.inr (.inl r0))), (1, .inl x1), (2, .inl x2), (3, .inl x3), (4, .inl x4), (5, .inl x5)] [] M 0 0 := by
  unfold fn12_partsOf_b50 at hres
  refine am_aload_n cx 0 dX12_partsOf_50 rfl ?_
  refine am_iload_n cx 1 dX12_partsOf_51 rfl ?_
  refine am_bipush cx (v := (44 : Int32)) dX12_partsOf_52 (by decide) ?_
  refine am_iload cx 4 dX12_partsOf_54 rfl ?_
  refine am_iadd cx dX12_partsOf_56 ?_
  obtain ⟨q1, hres⟩ := am_ck_some hres
  obtain ⟨v2, M3, q4, hres⟩ := am_bd_some hres
  refine am_callV1 cx [.inl x1, .inl ((44 : Int32) + x4)] dX12_partsOf_57 cvX12_306 (mt12_of q4) (am_ke q1) ⟨rfl, rfl, Nat.le_of_ble_eq_true rfl, Nat.le_of_ble_eq_true rfl⟩ rfl (Nat.le_of_ble_eq_true rfl) ⟨Nat.le_of_ble_eq_true rfl, Nat.le_of_ble_eq_true rfl⟩ ?_
  refine am_aload_n cx 0 dX12_partsOf_60 rfl ?_
  refine am_iload_n cx 1 dX12_partsOf_61 rfl ?_
  refine am_bipush cx (v := (84 : Int32)) dX12_partsOf_62 (by decide) ?_
  refine am_iload cx 4 dX12_partsOf_64 rfl ?_
  refine am_iadd cx dX12_partsOf_66 ?_
  obtain ⟨q5, hres⟩ := am_ck_some hres
  obtain ⟨v6, M7, q8, hres⟩ := am_bd_some hres
  refine am_callV1 cx [.inl x1, .inl ((84 : Int32) + x4)] dX12_partsOf_67 cvX12_306 (mt12_of q8) (am_ke q5) ⟨rfl, rfl, Nat.le_of_ble_eq_true rfl, Nat.le_of_ble_eq_true rfl⟩ rfl (Nat.le_of_ble_eq_true rfl) ⟨Nat.le_of_ble_eq_true rfl, Nat.le_of_ble_eq_true rfl⟩ ?_
  refine am_iadd cx dX12_partsOf_70 ?_
  refine am_istore cx (lv' := [(0, .inr (.inr (.inl r0))), (1, .inl x1), (2, .inl x2), (3, .inl x3), (4, .inl x4), (5, .inl x5), (6, .inl (v2 + v6))]) dX12_partsOf_71 (Nat.le_of_ble_eq_true rfl) rfl ?_
  exact sn12_partsOf_b73 cx hk4 hk17 hres
set_option maxRecDepth 20000 in
theorem sn12_partsOf_b17B {l : Launch} {G : am_G} {v : Int32} {M' : am_Mem} {N : Nat} {k4 : Nat → Int32 → Int32 → Int32 → am_Mem → Option (Int32 × am_Mem)} {k17 : Nat → Int32 → Int32 → Int32 → Int32 → am_Mem → Option (Int32 × am_Mem)} (cx : am_Ctx l rm12_partsOf yX12_partsOf cX12_partsOf 7 (some .int) (some (.inl v)) M' 0 0 G) (hk4 : ∀ (r0 : Nat) (x1 : Int32) (x2 : Int32) (x3 : Int32) (M : am_Mem), k4 r0 x1 x2 x3 M = some (v, M') → G 4 [(0, .inr (.inr (.inl r0))), (1, .inl x1), (2, .inl x2), (3, .inl x3)] [] M 0 0) (hk17 : ∀ (r0 : Nat) (x1 : Int32) (x2 : Int32) (x3 : Int32) (x4 : Int32) (M : am_Mem), k17 r0 x1 x2 x3 x4 M = some (v, M') → G 17 [(0, .inr (.inr (.inl r0))), (1, .inl x1), (2, .inl x2), (3, .inl x3), (4, .inl x4)] [] M 0 0) {r0 : Nat} {x1 : Int32} {x2 : Int32} {x3 : Int32} {x4 : Int32} {M : am_Mem} (hres : fn12_partsOf_b17B N k4 k17 r0 x1 x2 x3 x4 M = some (v, M')) : G 17 [(0, .inr (.inr (.inl r0))), (1, .inl x1), (2, .inl x2), (3, .inl x3), (4, .inl x4)] [] M 0 0 := by
  unfold fn12_partsOf_b17B at hres
  refine am_iload cx 4 dX12_partsOf_17 rfl ?_
  refine am_aload_n cx 0 dX12_partsOf_19 rfl ?_
  refine am_iload_n cx 1 dX12_partsOf_20 rfl ?_
  refine am_iconst cx (v := (0 : Int32)) dX12_partsOf_21 (by decide) ?_
  obtain ⟨q1, hres⟩ := am_ck_some hres
  obtain ⟨v2, M3, q4, hres⟩ := am_bd_some hres
  refine am_callV1 cx [.inl x1, .inl (0 : Int32)] dX12_partsOf_22 cvX12_306 (mt12_of q4) (am_ke q1) ⟨rfl, rfl, Nat.le_of_ble_eq_true rfl, Nat.le_of_ble_eq_true rfl⟩ rfl (Nat.le_of_ble_eq_true rfl) ⟨Nat.le_of_ble_eq_true rfl, Nat.le_of_ble_eq_true rfl⟩ ?_
  refine am_icmp_ge cx (tgt := 152) dX12_partsOf_25 (by decide) (fun h => ?_) (fun h => ?_)
  · have hres := am_ifp h hres
    refine am_iincw cx (lv' := [(0, .inr (.inr (.inl r0))), (1, .inl x1), (2, .inl x2), (3, .inl (x3 + (1 : Int32))), (4, .inl x4)]) (w := (1 : Int32)) 3 dX12_partsOf_152 (by decide) rfl (Nat.le_of_ble_eq_true rfl) rfl ?_
    refine am_goto cx (tgt := 4) dX12_partsOf_155 (by decide) ?_
    refine am_sub cx [0, 1, 2, 3] rfl ?_
    exact hk4 _ _ _ _ _ hres
  · have hres := am_ifn h hres
    refine am_aload_n cx 0 dX12_partsOf_28 rfl ?_
    refine am_iload_n cx 1 dX12_partsOf_29 rfl ?_
    refine am_iconst cx (v := (4 : Int32)) dX12_partsOf_30 (by decide) ?_
    refine am_iload cx 4 dX12_partsOf_31 rfl ?_
    refine am_iadd cx dX12_partsOf_33 ?_
    obtain ⟨q5, hres⟩ := am_ck_some hres
    obtain ⟨v6, M7, q8, hres⟩ := am_bd_some hres
    refine am_callV1 cx [.inl x1, .inl ((4 : Int32) + x4)] dX12_partsOf_34 cvX12_306 (mt12_of q8) (am_ke q5) ⟨rfl, rfl, Nat.le_of_ble_eq_true rfl, Nat.le_of_ble_eq_true rfl⟩ rfl (Nat.le_of_ble_eq_true rfl) ⟨Nat.le_of_ble_eq_true rfl, Nat.le_of_ble_eq_true rfl⟩ ?_
    refine am_aload_n cx 0 dX12_partsOf_37 rfl ?_
    refine am_iload_n cx 1 dX12_partsOf_38 rfl ?_
    refine am_bipush cx (v := (84 : Int32)) dX12_partsOf_39 (by decide) ?_
    refine am_iload cx 4 dX12_partsOf_41 rfl ?_
    refine am_iadd cx dX12_partsOf_43 ?_
    obtain ⟨q9, hres⟩ := am_ck_some hres
    obtain ⟨v10, M11, q12, hres⟩ := am_bd_some hres
    refine am_callV1 cx [.inl x1, .inl ((84 : Int32) + x4)] dX12_partsOf_44 cvX12_306 (mt12_of q12) (am_ke q9) ⟨rfl, rfl, Nat.le_of_ble_eq_true rfl, Nat.le_of_ble_eq_true rfl⟩ rfl (Nat.le_of_ble_eq_true rfl) ⟨Nat.le_of_ble_eq_true rfl, Nat.le_of_ble_eq_true rfl⟩ ?_
    refine am_iadd cx dX12_partsOf_47 ?_
    refine am_istore cx (lv' := [(0, .inr (.inr (.inl r0))), (1, .inl x1), (2, .inl x2), (3, .inl x3), (4, .inl x4), (5, .inl (v6 + v10))]) dX12_partsOf_48 (Nat.le_of_ble_eq_true rfl) rfl ?_
    exact sn12_partsOf_b50 cx hk4 hk17 hres
set_option maxRecDepth 20000 in
theorem sn12_partsOf_b17 {l : Launch} {G : am_G} {v : Int32} {M' : am_Mem} {N : Nat} {k4 : Nat → Int32 → Int32 → Int32 → am_Mem → Option (Int32 × am_Mem)} (cx : am_Ctx l rm12_partsOf yX12_partsOf cX12_partsOf 7 (some .int) (some (.inl v)) M' 0 0 G) (hk4 : ∀ (r0 : Nat) (x1 : Int32) (x2 : Int32) (x3 : Int32) (M : am_Mem), k4 r0 x1 x2 x3 M = some (v, M') → G 4 [(0, .inr (.inr (.inl r0))), (1, .inl x1), (2, .inl x2), (3, .inl x3)] [] M 0 0) (i : Nat) : ∀ (r0 : Nat) (x1 : Int32) (x2 : Int32) (x3 : Int32) (x4 : Int32) (M : am_Mem), fn12_partsOf_b17 N k4 i r0 x1 x2 x3 x4 M = some (v, M') → G 17 [(0, .inr (.inr (.inl r0))), (1, .inl x1), (2, .inl x2), (3, .inl x3), (4, .inl x4)] [] M 0 0 := by
  induction i with
  | zero => intro r0 x1 x2 x3 x4 M hres; exact am_no hres
  | succ i ih => intro r0 x1 x2 x3 x4 M hres; exact sn12_partsOf_b17B cx hk4 ih hres
set_option maxRecDepth 20000 in
theorem sn12_partsOf_b4B {l : Launch} {G : am_G} {v : Int32} {M' : am_Mem} {N : Nat} {k4 : Nat → Int32 → Int32 → Int32 → am_Mem → Option (Int32 × am_Mem)} (cx : am_Ctx l rm12_partsOf yX12_partsOf cX12_partsOf 7 (some .int) (some (.inl v)) M' 0 0 G) (hk4 : ∀ (r0 : Nat) (x1 : Int32) (x2 : Int32) (x3 : Int32) (M : am_Mem), k4 r0 x1 x2 x3 M = some (v, M') → G 4 [(0, .inr (.inr (.inl r0))), (1, .inl x1), (2, .inl x2), (3, .inl x3)] [] M 0 0) {r0 : Nat} {x1 : Int32} {x2 : Int32} {x3 : Int32} {M : am_Mem} (hres : fn12_partsOf_b4B N k4 r0 x1 x2 x3 M = some (v, M')) : G 4 [(0, .inr (.inr (.inl r0))), (1, .inl x1), (2, .inl x2), (3, .inl x3)] [] M 0 0 := by
  unfold fn12_partsOf_b4B at hres
  refine am_iload_n cx 3 dX12_partsOf_4 rfl ?_
  refine am_aload_n cx 0 dX12_partsOf_5 rfl ?_
  refine am_iload_n cx 1 dX12_partsOf_6 rfl ?_
  refine am_iconst cx (v := (0 : Int32)) dX12_partsOf_7 (by decide) ?_
  obtain ⟨q1, hres⟩ := am_ck_some hres
  obtain ⟨v2, M3, q4, hres⟩ := am_bd_some hres
  refine am_callV1 cx [.inl x1, .inl (0 : Int32)] dX12_partsOf_8 cvX12_306 (mt12_of q4) (am_ke q1) ⟨rfl, rfl, Nat.le_of_ble_eq_true rfl, Nat.le_of_ble_eq_true rfl⟩ rfl (Nat.le_of_ble_eq_true rfl) ⟨Nat.le_of_ble_eq_true rfl, Nat.le_of_ble_eq_true rfl⟩ ?_
  refine am_icmp_ge cx (tgt := 158) dX12_partsOf_11 (by decide) (fun h => ?_) (fun h => ?_)
  · have hres := am_ifp h hres
    refine am_iload_n cx 2 dX12_partsOf_158 rfl ?_
    obtain ⟨rfl, rfl⟩ := am_fin hres
    exact am_iret cx dX12_partsOf_159
  · have hres := am_ifn h hres
    refine am_iconst cx (v := (0 : Int32)) dX12_partsOf_14 (by decide) ?_
    refine am_istore cx (lv' := [(0, .inr (.inr (.inl r0))), (1, .inl x1), (2, .inl x2), (3, .inl x3), (4, .inl (0 : Int32))]) dX12_partsOf_15 (Nat.le_of_ble_eq_true rfl) rfl ?_
    exact sn12_partsOf_b17 cx hk4 N _ _ _ _ _ _ hres
set_option maxRecDepth 20000 in
theorem sn12_partsOf_b4 {l : Launch} {G : am_G} {v : Int32} {M' : am_Mem} {N : Nat}  (cx : am_Ctx l rm12_partsOf yX12_partsOf cX12_partsOf 7 (some .int) (some (.inl v)) M' 0 0 G)  (i : Nat) : ∀ (r0 : Nat) (x1 : Int32) (x2 : Int32) (x3 : Int32) (M : am_Mem), fn12_partsOf_b4 N  i r0 x1 x2 x3 M = some (v, M') → G 4 [(0, .inr (.inr (.inl r0))), (1, .inl x1), (2, .inl x2), (3, .inl x3)] [] M 0 0 := by
  induction i with
  | zero => intro r0 x1 x2 x3 M hres; exact am_no hres
  | succ i ih => intro r0 x1 x2 x3 M hres; exact sn12_partsOf_b4B cx ih hres
set_option maxRecDepth 20000 in
theorem sn12_partsOf_b0 {l : Launch} {G : am_G} {v : Int32} {M' : am_Mem} {N : Nat}  (cx : am_Ctx l rm12_partsOf yX12_partsOf cX12_partsOf 7 (some .int) (some (.inl v)) M' 0 0 G)  {r0 : Nat} {x1 : Int32} {M : am_Mem} (hres : fn12_partsOf_b0 N  r0 x1 M = some (v, M')) : G 0 [(0, .inr (.inr (.inl r0))), (1, .inl x1)] [] M 0 0 := by
  unfold fn12_partsOf_b0 at hres
  refine am_iconst cx (v := (0 : Int32)) dX12_partsOf_0 (by decide) ?_
  refine am_istore_n cx (lv' := [(0, .inr (.inr (.inl r0))), (1, .inl x1), (2, .inl (0 : Int32))]) dX12_partsOf_1 (Nat.le_of_ble_eq_true rfl) rfl ?_
  refine am_iconst cx (v := (0 : Int32)) dX12_partsOf_2 (by decide) ?_
  refine am_istore_n cx (lv' := [(0, .inr (.inr (.inl r0))), (1, .inl x1), (2, .inl (0 : Int32)), (3, .inl (0 : Int32))]) dX12_partsOf_3 (Nat.le_of_ble_eq_true rfl) rfl ?_
  exact sn12_partsOf_b4 cx  N _ _ _ _ _ hres
set_option maxRecDepth 20000 in
theorem mt12_partsOf {l : Launch} {v : Int32} {M M' : am_Mem} {N : Nat} {r0 : Nat} {x1 : Int32} (h : fn12_partsOf N M r0 x1 = some (v, M')) : am_Met l yX12_partsOf cX12_partsOf 7 (some .int) rm12_partsOf 0 0 [.inr (.inr (.inl r0)), .inl x1] M (some (.inl v)) M' := am_mk (by decide) (Nat.le_of_ble_eq_true rfl) (fun G cx => (sn12_partsOf_b0 cx h))
-- SquareCutsModel.corners
def fn12_corners_b115 (N : Nat) (k6 : Nat → Int32 → Int32 → Int32 → Int32 → Int32 → am_Mem → Option (Int32 × am_Mem)) (r0 : Nat) (x1 : Int32) (x2 : Int32) (x3 : Int32) (x4 : Int32) (x5 : Int32) (M : am_Mem) : Option (Int32 × am_Mem) :=
  k6 r0 x1 x2 x3 x4 (x5 + (1 : Int32)) M
def fn12_corners_b112 (N : Nat) (k6 : Nat → Int32 → Int32 → Int32 → Int32 → Int32 → am_Mem → Option (Int32 × am_Mem)) (a0 : Int32) (a1 : Int32) (r0 : Nat) (x1 : Int32) (x2 : Int32) (x3 : Int32) (x5 : Int32) (M : am_Mem) : Option (Int32 × am_Mem) :=
  fn12_corners_b115 N k6 r0 x1 x2 x3 (a0 + a1) x5 M
def fn12_corners_b111 (N : Nat) (k6 : Nat → Int32 → Int32 → Int32 → Int32 → Int32 → am_Mem → Option (Int32 × am_Mem)) (a0 : Int32) (r0 : Nat) (x1 : Int32) (x2 : Int32) (x3 : Int32) (x5 : Int32) (M : am_Mem) : Option (Int32 × am_Mem) :=
  fn12_corners_b112 N k6 a0 (0 : Int32) r0 x1 x2 x3 x5 M
def fn12_corners_b107 (N : Nat) (k6 : Nat → Int32 → Int32 → Int32 → Int32 → Int32 → am_Mem → Option (Int32 × am_Mem)) (a0 : Int32) (r0 : Nat) (x1 : Int32) (x2 : Int32) (x3 : Int32) (x5 : Int32) (M : am_Mem) : Option (Int32 × am_Mem) :=
  fn12_corners_b112 N k6 a0 (1 : Int32) r0 x1 x2 x3 x5 M
def fn12_corners_b59 (N : Nat) (k6 : Nat → Int32 → Int32 → Int32 → Int32 → Int32 → am_Mem → Option (Int32 × am_Mem)) (a0 : Int32) (r0 : Nat) (x1 : Int32) (x2 : Int32) (x3 : Int32) (x4 : Int32) (x5 : Int32) (M : am_Mem) : Option (Int32 × am_Mem) :=
  if a0 = 0 then fn12_corners_b111 N k6 x4 r0 x1 x2 x3 x5 M else am_ck (am_k M r0 12) (am_bd (fn12_of M r0 x1 ((44 : Int32) + x5)) (fun v2 M3 => if x3 = v2 then fn12_corners_b107 N k6 x4 r0 x1 x2 x3 x5 M3 else am_ck (am_k M3 r0 12) (am_bd (fn12_of M3 r0 x1 ((44 : Int32) + x5)) (fun v6 M7 => am_ck (am_k M7 r0 12) (am_bd (fn12_of M7 r0 x1 ((84 : Int32) + x5)) (fun v10 M11 => if x3 = (v6 + v10) then fn12_corners_b107 N k6 x4 r0 x1 x2 x3 x5 M11 else fn12_corners_b111 N k6 x4 r0 x1 x2 x3 x5 M11))))))
def fn12_corners_b54 (N : Nat) (k6 : Nat → Int32 → Int32 → Int32 → Int32 → Int32 → am_Mem → Option (Int32 × am_Mem)) (r0 : Nat) (x1 : Int32) (x2 : Int32) (x3 : Int32) (x4 : Int32) (x5 : Int32) (M : am_Mem) : Option (Int32 × am_Mem) :=
  fn12_corners_b59 N k6 (1 : Int32) r0 x1 x2 x3 x4 x5 M
def fn12_corners_b6B (N : Nat) (k6 : Nat → Int32 → Int32 → Int32 → Int32 → Int32 → am_Mem → Option (Int32 × am_Mem)) (r0 : Nat) (x1 : Int32) (x2 : Int32) (x3 : Int32) (x4 : Int32) (x5 : Int32) (M : am_Mem) : Option (Int32 × am_Mem) :=
  am_ck (am_k M r0 12) (am_bd (fn12_of M r0 x1 (0 : Int32)) (fun v2 M3 => if v2 ≤ x5 then some (x4, M3) else am_ck (am_k M3 r0 12) (am_bd (fn12_of M3 r0 x1 ((4 : Int32) + x5)) (fun v6 M7 => if x2 = v6 then fn12_corners_b54 N k6 r0 x1 x2 x3 x4 x5 M7 else am_ck (am_k M7 r0 12) (am_bd (fn12_of M7 r0 x1 ((4 : Int32) + x5)) (fun v10 M11 => am_ck (am_k M11 r0 12) (am_bd (fn12_of M11 r0 x1 ((84 : Int32) + x5)) (fun v14 M15 => if x2 = (v10 + v14) then fn12_corners_b54 N k6 r0 x1 x2 x3 x4 x5 M15 else fn12_corners_b59 N k6 (0 : Int32) r0 x1 x2 x3 x4 x5 M15))))))))
def fn12_corners_b6 (N : Nat)  : Nat → Nat → Int32 → Int32 → Int32 → Int32 → Int32 → am_Mem → Option (Int32 × am_Mem)
  | 0 => fun _ _ _ _ _ _ _ => none
  | i + 1 => fn12_corners_b6B N (fn12_corners_b6 N  i)
def fn12_corners_b0 (N : Nat)  (r0 : Nat) (x1 : Int32) (x2 : Int32) (x3 : Int32) (M : am_Mem) : Option (Int32 × am_Mem) :=
  fn12_corners_b6 N  N r0 x1 x2 x3 (0 : Int32) (0 : Int32) M
def fn12_corners (N : Nat) (M : am_Mem) (r0 : Nat) (x1 : Int32) (x2 : Int32) (x3 : Int32) : Option (Int32 × am_Mem) := fn12_corners_b0 N r0 x1 x2 x3 M
def rm12_corners : Room := { frames := 1, cells := 0, slots := 0, locals := 22 }
set_option maxRecDepth 20000 in
theorem sn12_corners_b115 {l : Launch} {G : am_G} {v : Int32} {M' : am_Mem} {N : Nat} {k6 : Nat → Int32 → Int32 → Int32 → Int32 → Int32 → am_Mem → Option (Int32 × am_Mem)} (cx : am_Ctx l rm12_corners yX12_corners cX12_corners 7 (some .int) (some (.inl v)) M' 0 0 G) (hk6 : ∀ (r0 : Nat) (x1 : Int32) (x2 : Int32) (x3 : Int32) (x4 : Int32) (x5 : Int32) (M : am_Mem), k6 r0 x1 x2 x3 x4 x5 M = some (v, M') → G 6 [(0, .inr (.inr (.inl r0))), (1, .inl x1), (2, .inl x2), (3, .inl x3), (4, .inl x4), (5, .inl x5)] [] M 0 0) {r0 : Nat} {x1 : Int32} {x2 : Int32} {x3 : Int32} {x4 : Int32} {x5 : Int32} {M : am_Mem} (hres : fn12_corners_b115 N k6 r0 x1 x2 x3 x4 x5 M = some (v, M')) : G 115 [(0, .inr (.inr (.inl r0))), (1, .inl x1), (2, .inl x2), (3, .inl x3), (4, .inl x4), (5, .inl x5)] [] M 0 0 := by
  unfold fn12_corners_b115 at hres
  refine am_iincw cx (lv' := [(0, .inr (.inr (.inl r0))), (1, .inl x1), (2, .inl x2), (3, .inl x3), (4, .inl x4), (5, .inl (x5 + (1 : Int32)))]) (w := (1 : Int32)) 5 dX12_corners_115 (by decide) rfl (Nat.le_of_ble_eq_true rfl) rfl ?_
  refine am_goto cx (tgt := 6) dX12_corners_118 (by decide) ?_
  exact hk6 _ _ _ _ _ _ _ hres
set_option maxRecDepth 20000 in
theorem sn12_corners_b112 {l : Launch} {G : am_G} {v : Int32} {M' : am_Mem} {N : Nat} {k6 : Nat → Int32 → Int32 → Int32 → Int32 → Int32 → am_Mem → Option (Int32 × am_Mem)} (cx : am_Ctx l rm12_corners yX12_corners cX12_corners 7 (some .int) (some (.inl v)) M' 0 0 G) (hk6 : ∀ (r0 : Nat) (x1 : Int32) (x2 : Int32) (x3 : Int32) (x4 : Int32) (x5 : Int32) (M : am_Mem), k6 r0 x1 x2 x3 x4 x5 M = some (v, M') → G 6 [(0, .inr (.inr (.inl r0))), (1, .inl x1), (2, .inl x2), (3, .inl x3), (4, .inl x4), (5, .inl x5)] [] M 0 0) {a0 : Int32} {a1 : Int32} {r0 : Nat} {x1 : Int32} {x2 : Int32} {x3 : Int32} {x5 : Int32} {M : am_Mem} (hres : fn12_corners_b112 N k6 a0 a1 r0 x1 x2 x3 x5 M = some (v, M')) : G 112 [(0, .inr (.inr (.inl r0))), (1, .inl x1), (2, .inl x2), (3, .inl x3), (5, .inl x5)] [.inl a1, .inl a0] M 0 0 := by
  unfold fn12_corners_b112 at hres
  refine am_iadd cx dX12_corners_112 ?_
  refine am_istore cx (lv' := [(0, .inr (.inr (.inl r0))), (1, .inl x1), (2, .inl x2), (3, .inl x3), (4, .inl (a0 + a1)), (5, .inl x5)]) dX12_corners_113 (Nat.le_of_ble_eq_true rfl) rfl ?_
  exact sn12_corners_b115 cx hk6 hres
set_option maxRecDepth 20000 in
theorem sn12_corners_b111 {l : Launch} {G : am_G} {v : Int32} {M' : am_Mem} {N : Nat} {k6 : Nat → Int32 → Int32 → Int32 → Int32 → Int32 → am_Mem → Option (Int32 × am_Mem)} (cx : am_Ctx l rm12_corners yX12_corners cX12_corners 7 (some .int) (some (.inl v)) M' 0 0 G) (hk6 : ∀ (r0 : Nat) (x1 : Int32) (x2 : Int32) (x3 : Int32) (x4 : Int32) (x5 : Int32) (M : am_Mem), k6 r0 x1 x2 x3 x4 x5 M = some (v, M') → G 6 [(0, .inr (.inr (.inl r0))), (1, .inl x1), (2, .inl x2), (3, .inl x3), (4, .inl x4), (5, .inl x5)] [] M 0 0) {a0 : Int32} {r0 : Nat} {x1 : Int32} {x2 : Int32} {x3 : Int32} {x5 : Int32} {M : am_Mem} (hres : fn12_corners_b111 N k6 a0 r0 x1 x2 x3 x5 M = some (v, M')) : G 111 [(0, .inr (.inr (.inl r0))), (1, .inl x1), (2, .inl x2), (3, .inl x3), (5, .inl x5)] [.inl a0] M 0 0 := by
  unfold fn12_corners_b111 at hres
  refine am_iconst cx (v := (0 : Int32)) dX12_corners_111 (by decide) ?_
  exact sn12_corners_b112 cx hk6 hres
set_option maxRecDepth 20000 in
theorem sn12_corners_b107 {l : Launch} {G : am_G} {v : Int32} {M' : am_Mem} {N : Nat} {k6 : Nat → Int32 → Int32 → Int32 → Int32 → Int32 → am_Mem → Option (Int32 × am_Mem)} (cx : am_Ctx l rm12_corners yX12_corners cX12_corners 7 (some .int) (some (.inl v)) M' 0 0 G) (hk6 : ∀ (r0 : Nat) (x1 : Int32) (x2 : Int32) (x3 : Int32) (x4 : Int32) (x5 : Int32) (M : am_Mem), k6 r0 x1 x2 x3 x4 x5 M = some (v, M') → G 6 [(0, .inr (.inr (.inl r0))), (1, .inl x1), (2, .inl x2), (3, .inl x3), (4, .inl x4), (5, .inl x5)] [] M 0 0) {a0 : Int32} {r0 : Nat} {x1 : Int32} {x2 : Int32} {x3 : Int32} {x5 : Int32} {M : am_Mem} (hres : fn12_corners_b107 N k6 a0 r0 x1 x2 x3 x5 M = some (v, M')) : G 107 [(0, .inr (.inr (.inl r0))), (1, .inl x1), (2, .inl x2), (3, .inl x3), (5, .inl x5)] [.inl a0] M 0 0 := by
  unfold fn12_corners_b107 at hres
  refine am_iconst cx (v := (1 : Int32)) dX12_corners_107 (by decide) ?_
  refine am_goto cx (tgt := 112) dX12_corners_108 (by decide) ?_
  exact sn12_corners_b112 cx hk6 hres
set_option maxRecDepth 20000 in
theorem sn12_corners_b59 {l : Launch} {G : am_G} {v : Int32} {M' : am_Mem} {N : Nat} {k6 : Nat → Int32 → Int32 → Int32 → Int32 → Int32 → am_Mem → Option (Int32 × am_Mem)} (cx : am_Ctx l rm12_corners yX12_corners cX12_corners 7 (some .int) (some (.inl v)) M' 0 0 G) (hk6 : ∀ (r0 : Nat) (x1 : Int32) (x2 : Int32) (x3 : Int32) (x4 : Int32) (x5 : Int32) (M : am_Mem), k6 r0 x1 x2 x3 x4 x5 M = some (v, M') → G 6 [(0, .inr (.inr (.inl r0))), (1, .inl x1), (2, .inl x2), (3, .inl x3), (4, .inl x4), (5, .inl x5)] [] M 0 0) {a0 : Int32} {r0 : Nat} {x1 : Int32} {x2 : Int32} {x3 : Int32} {x4 : Int32} {x5 : Int32} {M : am_Mem} (hres : fn12_corners_b59 N k6 a0 r0 x1 x2 x3 x4 x5 M = some (v, M')) : G 59 [(0, .inr (.inr (.inl r0))), (1, .inl x1), (2, .inl x2), (3, .inl x3), (4, .inl x4), (5, .inl x5)] [.inl a0] M 0 0 := by
  unfold fn12_corners_b59 at hres
  refine am_istore cx (lv' := [(0, .inr (.inr (.inl r0))), (1, .inl x1), (2, .inl x2), (3, .inl x3), (4, .inl x4), (5, .inl x5), (6, .inl a0)]) dX12_corners_59 (Nat.le_of_ble_eq_true rfl) rfl ?_
  refine am_iload cx 4 dX12_corners_61 rfl ?_
  refine am_iload cx 6 dX12_corners_63 rfl ?_
  refine am_if_eq cx (tgt := 111) dX12_corners_65 (by decide) (fun h => ?_) (fun h => ?_)
  · have hres := am_ifp h hres
    refine am_sub cx [0, 1, 2, 3, 5] rfl ?_
    exact sn12_corners_b111 cx hk6 hres
  · have hres := am_ifn h hres
    refine am_iload_n cx 3 dX12_corners_68 rfl ?_
    refine am_aload_n cx 0 dX12_corners_69 rfl ?_
    refine am_iload_n cx 1 dX12_corners_70 rfl ?_
    refine am_bipush cx (v := (44 : Int32)) dX12_corners_71 (by decide) ?_
    refine am_iload cx 5 dX12_corners_73 rfl ?_
    refine am_iadd cx dX12_corners_75 ?_
    obtain ⟨q1, hres⟩ := am_ck_some hres
    obtain ⟨v2, M3, q4, hres⟩ := am_bd_some hres
    refine am_callV1 cx [.inl x1, .inl ((44 : Int32) + x5)] dX12_corners_76 cvX12_306 (mt12_of q4) (am_ke q1) ⟨rfl, rfl, Nat.le_of_ble_eq_true rfl, Nat.le_of_ble_eq_true rfl⟩ rfl (Nat.le_of_ble_eq_true rfl) ⟨Nat.le_of_ble_eq_true rfl, Nat.le_of_ble_eq_true rfl⟩ ?_
    refine am_icmp_eq cx (tgt := 107) dX12_corners_79 (by decide) (fun h => ?_) (fun h => ?_)
    · have hres := am_ifp h hres
      refine am_sub cx [0, 1, 2, 3, 5] rfl ?_
      exact sn12_corners_b107 cx hk6 hres
    · have hres := am_ifn h hres
      refine am_iload_n cx 3 dX12_corners_82 rfl ?_
      refine am_aload_n cx 0 dX12_corners_83 rfl ?_
      refine am_iload_n cx 1 dX12_corners_84 rfl ?_
      refine am_bipush cx (v := (44 : Int32)) dX12_corners_85 (by decide) ?_
      refine am_iload cx 5 dX12_corners_87 rfl ?_
      refine am_iadd cx dX12_corners_89 ?_
      obtain ⟨q5, hres⟩ := am_ck_some hres
      obtain ⟨v6, M7, q8, hres⟩ := am_bd_some hres
      refine am_callV1 cx [.inl x1, .inl ((44 : Int32) + x5)] dX12_corners_90 cvX12_306 (mt12_of q8) (am_ke q5) ⟨rfl, rfl, Nat.le_of_ble_eq_true rfl, Nat.le_of_ble_eq_true rfl⟩ rfl (Nat.le_of_ble_eq_true rfl) ⟨Nat.le_of_ble_eq_true rfl, Nat.le_of_ble_eq_true rfl⟩ ?_
      refine am_aload_n cx 0 dX12_corners_93 rfl ?_
      refine am_iload_n cx 1 dX12_corners_94 rfl ?_
      refine am_bipush cx (v := (84 : Int32)) dX12_corners_95 (by decide) ?_
      refine am_iload cx 5 dX12_corners_97 rfl ?_
      refine am_iadd cx dX12_corners_99 ?_
      obtain ⟨q9, hres⟩ := am_ck_some hres
      obtain ⟨v10, M11, q12, hres⟩ := am_bd_some hres
      refine am_callV1 cx [.inl x1, .inl ((84 : Int32) + x5)] dX12_corners_100 cvX12_306 (mt12_of q12) (am_ke q9) ⟨rfl, rfl, Nat.le_of_ble_eq_true rfl, Nat.le_of_ble_eq_true rfl⟩ rfl (Nat.le_of_ble_eq_true rfl) ⟨Nat.le_of_ble_eq_true rfl, Nat.le_of_ble_eq_true rfl⟩ ?_
      refine am_iadd cx dX12_corners_103 ?_
      refine am_icmp_ne cx (tgt := 111) dX12_corners_104 (by decide) (fun h => ?_) (fun h => ?_)
      · have hres := am_ifn h hres
        refine am_sub cx [0, 1, 2, 3, 5] rfl ?_
        exact sn12_corners_b111 cx hk6 hres
      · have hres := am_ifp h hres
        refine am_sub cx [0, 1, 2, 3, 5] rfl ?_
        exact sn12_corners_b107 cx hk6 hres
set_option maxRecDepth 20000 in
theorem sn12_corners_b54 {l : Launch} {G : am_G} {v : Int32} {M' : am_Mem} {N : Nat} {k6 : Nat → Int32 → Int32 → Int32 → Int32 → Int32 → am_Mem → Option (Int32 × am_Mem)} (cx : am_Ctx l rm12_corners yX12_corners cX12_corners 7 (some .int) (some (.inl v)) M' 0 0 G) (hk6 : ∀ (r0 : Nat) (x1 : Int32) (x2 : Int32) (x3 : Int32) (x4 : Int32) (x5 : Int32) (M : am_Mem), k6 r0 x1 x2 x3 x4 x5 M = some (v, M') → G 6 [(0, .inr (.inr (.inl r0))), (1, .inl x1), (2, .inl x2), (3, .inl x3), (4, .inl x4), (5, .inl x5)] [] M 0 0) {r0 : Nat} {x1 : Int32} {x2 : Int32} {x3 : Int32} {x4 : Int32} {x5 : Int32} {M : am_Mem} (hres : fn12_corners_b54 N k6 r0 x1 x2 x3 x4 x5 M = some (v, M')) : G 54 [(0, .inr (.inr (.inl r0))), (1, .inl x1), (2, .inl x2), (3, .inl x3), (4, .inl x4), (5, .inl x5)] [] M 0 0 := by
  unfold fn12_corners_b54 at hres
  refine am_iconst cx (v := (1 : Int32)) dX12_corners_54 (by decide) ?_
  refine am_goto cx (tgt := 59) dX12_corners_55 (by decide) ?_
  exact sn12_corners_b59 cx hk6 hres
set_option maxRecDepth 20000 in
theorem sn12_corners_b6B {l : Launch} {G : am_G} {v : Int32} {M' : am_Mem} {N : Nat} {k6 : Nat → Int32 → Int32 → Int32 → Int32 → Int32 → am_Mem → Option (Int32 × am_Mem)} (cx : am_Ctx l rm12_corners yX12_corners cX12_corners 7 (some .int) (some (.inl v)) M' 0 0 G) (hk6 : ∀ (r0 : Nat) (x1 : Int32) (x2 : Int32) (x3 : Int32) (x4 : Int32) (x5 : Int32) (M : am_Mem), k6 r0 x1 x2 x3 x4 x5 M = some (v, M') → G 6 [(0, .inr (.inr (.inl r0))), (1, .inl x1), (2, .inl x2), (3, .inl x3), (4, .inl x4), (5, .inl x5)] [] M 0 0) {r0 : Nat} {x1 : Int32} {x2 : Int32} {x3 : Int32} {x4 : Int32} {x5 : Int32} {M : am_Mem} (hres : fn12_corners_b6B N k6 r0 x1 x2 x3 x4 x5 M = some (v, M')) : G 6 [(0, .inr (.inr (.inl r0))), (1, .inl x1), (2, .inl x2), (3, .inl x3), (4, .inl x4), (5, .inl x5)] [] M 0 0 := by
  unfold fn12_corners_b6B at hres
  refine am_iload cx 5 dX12_corners_6 rfl ?_
  refine am_aload_n cx 0 dX12_corners_8 rfl ?_
  refine am_iload_n cx 1 dX12_corners_9 rfl ?_
  refine am_iconst cx (v := (0 : Int32)) dX12_corners_10 (by decide) ?_
  obtain ⟨q1, hres⟩ := am_ck_some hres
  obtain ⟨v2, M3, q4, hres⟩ := am_bd_some hres
  refine am_callV1 cx [.inl x1, .inl (0 : Int32)] dX12_corners_11 cvX12_306 (mt12_of q4) (am_ke q1) ⟨rfl, rfl, Nat.le_of_ble_eq_true rfl, Nat.le_of_ble_eq_true rfl⟩ rfl (Nat.le_of_ble_eq_true rfl) ⟨Nat.le_of_ble_eq_true rfl, Nat.le_of_ble_eq_true rfl⟩ ?_
  refine am_icmp_ge cx (tgt := 121) dX12_corners_14 (by decide) (fun h => ?_) (fun h => ?_)
  · have hres := am_ifp h hres
    refine am_iload cx 4 dX12_corners_121 rfl ?_
    obtain ⟨rfl, rfl⟩ := am_fin hres
    exact am_iret cx dX12_corners_123
  · have hres := am_ifn h hres
    refine am_iload_n cx 2 dX12_corners_17 rfl ?_
    refine am_aload_n cx 0 dX12_corners_18 rfl ?_
    refine am_iload_n cx 1 dX12_corners_19 rfl ?_
    refine am_iconst cx (v := (4 : Int32)) dX12_corners_20 (by decide) ?_
    refine am_iload cx 5 dX12_corners_21 rfl ?_
    refine am_iadd cx dX12_corners_23 ?_
    obtain ⟨q5, hres⟩ := am_ck_some hres
    obtain ⟨v6, M7, q8, hres⟩ := am_bd_some hres
    refine am_callV1 cx [.inl x1, .inl ((4 : Int32) + x5)] dX12_corners_24 cvX12_306 (mt12_of q8) (am_ke q5) ⟨rfl, rfl, Nat.le_of_ble_eq_true rfl, Nat.le_of_ble_eq_true rfl⟩ rfl (Nat.le_of_ble_eq_true rfl) ⟨Nat.le_of_ble_eq_true rfl, Nat.le_of_ble_eq_true rfl⟩ ?_
    refine am_icmp_eq cx (tgt := 54) dX12_corners_27 (by decide) (fun h => ?_) (fun h => ?_)
    · have hres := am_ifp h hres
      exact sn12_corners_b54 cx hk6 hres
    · have hres := am_ifn h hres
      refine am_iload_n cx 2 dX12_corners_30 rfl ?_
      refine am_aload_n cx 0 dX12_corners_31 rfl ?_
      refine am_iload_n cx 1 dX12_corners_32 rfl ?_
      refine am_iconst cx (v := (4 : Int32)) dX12_corners_33 (by decide) ?_
      refine am_iload cx 5 dX12_corners_34 rfl ?_
      refine am_iadd cx dX12_corners_36 ?_
      obtain ⟨q9, hres⟩ := am_ck_some hres
      obtain ⟨v10, M11, q12, hres⟩ := am_bd_some hres
      refine am_callV1 cx [.inl x1, .inl ((4 : Int32) + x5)] dX12_corners_37 cvX12_306 (mt12_of q12) (am_ke q9) ⟨rfl, rfl, Nat.le_of_ble_eq_true rfl, Nat.le_of_ble_eq_true rfl⟩ rfl (Nat.le_of_ble_eq_true rfl) ⟨Nat.le_of_ble_eq_true rfl, Nat.le_of_ble_eq_true rfl⟩ ?_
      refine am_aload_n cx 0 dX12_corners_40 rfl ?_
      refine am_iload_n cx 1 dX12_corners_41 rfl ?_
      refine am_bipush cx (v := (84 : Int32)) dX12_corners_42 (by decide) ?_
      refine am_iload cx 5 dX12_corners_44 rfl ?_
      refine am_iadd cx dX12_corners_46 ?_
      obtain ⟨q13, hres⟩ := am_ck_some hres
      obtain ⟨v14, M15, q16, hres⟩ := am_bd_some hres
      refine am_callV1 cx [.inl x1, .inl ((84 : Int32) + x5)] dX12_corners_47 cvX12_306 (mt12_of q16) (am_ke q13) ⟨rfl, rfl, Nat.le_of_ble_eq_true rfl, Nat.le_of_ble_eq_true rfl⟩ rfl (Nat.le_of_ble_eq_true rfl) ⟨Nat.le_of_ble_eq_true rfl, Nat.le_of_ble_eq_true rfl⟩ ?_
      refine am_iadd cx dX12_corners_50 ?_
      refine am_icmp_ne cx (tgt := 58) dX12_corners_51 (by decide) (fun h => ?_) (fun h => ?_)
      · have hres := am_ifn h hres
        refine am_iconst cx (v := (0 : Int32)) dX12_corners_58 (by decide) ?_
        exact sn12_corners_b59 cx hk6 hres
      · have hres := am_ifp h hres
        exact sn12_corners_b54 cx hk6 hres
set_option maxRecDepth 20000 in
theorem sn12_corners_b6 {l : Launch} {G : am_G} {v : Int32} {M' : am_Mem} {N : Nat}  (cx : am_Ctx l rm12_corners yX12_corners cX12_corners 7 (some .int) (some (.inl v)) M' 0 0 G)  (i : Nat) : ∀ (r0 : Nat) (x1 : Int32) (x2 : Int32) (x3 : Int32) (x4 : Int32) (x5 : Int32) (M : am_Mem), fn12_corners_b6 N  i r0 x1 x2 x3 x4 x5 M = some (v, M') → G 6 [(0, .inr (.inr (.inl r0))), (1, .inl x1), (2, .inl x2), (3, .inl x3), (4, .inl x4), (5, .inl x5)] [] M 0 0 := by
  induction i with
  | zero => intro r0 x1 x2 x3 x4 x5 M hres; exact am_no hres
  | succ i ih => intro r0 x1 x2 x3 x4 x5 M hres; exact sn12_corners_b6B cx ih hres
set_option maxRecDepth 20000 in
theorem sn12_corners_b0 {l : Launch} {G : am_G} {v : Int32} {M' : am_Mem} {N : Nat}  (cx : am_Ctx l rm12_corners yX12_corners cX12_corners 7 (some .int) (some (.inl v)) M' 0 0 G)  {r0 : Nat} {x1 : Int32} {x2 : Int32} {x3 : Int32} {M : am_Mem} (hres : fn12_corners_b0 N  r0 x1 x2 x3 M = some (v, M')) : G 0 [(0, .inr (.inr (.inl r0))), (1, .inl x1), (2, .inl x2), (3, .inl x3)] [] M 0 0 := by
  unfold fn12_corners_b0 at hres
  refine am_iconst cx (v := (0 : Int32)) dX12_corners_0 (by decide) ?_
  refine am_istore cx (lv' := [(0, .inr (.inr (.inl r0))), (1, .inl x1), (2, .inl x2), (3, .inl x3), (4, .inl (0 : Int32))]) dX12_corners_1 (Nat.le_of_ble_eq_true rfl) rfl ?_
  refine am_iconst cx (v := (0 : Int32)) dX12_corners_3 (by decide) ?_
  refine am_istore cx (lv' := [(0, .inr (.inr (.inl r0))), (1, .inl x1), (2, .inl x2), (3, .inl x3), (4, .inl (0 : Int32)), (5, .inl (0 : Int32))]) dX12_corners_4 (Nat.le_of_ble_eq_true rfl) rfl ?_
  exact sn12_corners_b6 cx  N _ _ _ _ _ _ _ hres
set_option maxRecDepth 20000 in
theorem mt12_corners {l : Launch} {v : Int32} {M M' : am_Mem} {N : Nat} {r0 : Nat} {x1 : Int32} {x2 : Int32} {x3 : Int32} (h : fn12_corners N M r0 x1 x2 x3 = some (v, M')) : am_Met l yX12_corners cX12_corners 7 (some .int) rm12_corners 0 0 [.inr (.inr (.inl r0)), .inl x1, .inl x2, .inl x3] M (some (.inl v)) M' := am_mk (by decide) (Nat.le_of_ble_eq_true rfl) (fun G cx => (sn12_corners_b0 cx h))
