-- SquareCuts.refusalFor
def fn11_refusalFor_b10  (a0 : Int32) (M : am_Mem) : Option (Int32 × am_Mem) :=
  some (a0, M)
def fn11_refusalFor_b0  (r0 : Nat) (M : am_Mem) : Option (Int32 × am_Mem) :=
  if r0 = 0 then fn11_refusalFor_b10  (-1 : Int32) M else fn11_refusalFor_b10  (-2 : Int32) M
def fn11_refusalFor (M : am_Mem) (r0 : Nat) : Option (Int32 × am_Mem) := fn11_refusalFor_b0  r0 M
def rm11_refusalFor : Room := { frames := 0, cells := 0, slots := 0, locals := 0 }
set_option maxRecDepth 20000 in
theorem sn11_refusalFor_b10 {l : Launch} {G : am_G} {v : Int32} {M' : am_Mem}  (cx : am_Ctx l rm11_refusalFor yX11_refusalFor cX11_refusalFor 1 (some .int) (some (.inl v)) M' 0 0 G)  {a0 : Int32} {M : am_Mem} (hres : fn11_refusalFor_b10  a0 M = some (v, M')) : G 10 [] [.inl a0] M 0 0 := by
  unfold fn11_refusalFor_b10 at hres
  obtain ⟨rfl, rfl⟩ := am_fin hres
  exact am_iret cx dX11_refusalFor_10
set_option maxRecDepth 20000 in
theorem sn11_refusalFor_b0 {l : Launch} {G : am_G} {v : Int32} {M' : am_Mem}  (cx : am_Ctx l rm11_refusalFor yX11_refusalFor cX11_refusalFor 1 (some .int) (some (.inl v)) M' 0 0 G)  {r0 : Nat} {M : am_Mem} (hres : fn11_refusalFor_b0  r0 M = some (v, M')) : G 0 [(0, .inr (.inr (.inl r0)))] [] M 0 0 := by
  unfold fn11_refusalFor_b0 at hres
  refine am_aload_n cx 0 dX11_refusalFor_0 rfl ?_
  refine am_ifnonnull cx (tgt := 8) dX11_refusalFor_1 (by decide) (fun h => ?_) (fun h => ?_)
  · have hres := am_ifn h hres
    refine am_bipush cx (v := (-2 : Int32)) dX11_refusalFor_8 (by decide) ?_
    refine am_sub cx [] rfl ?_
    exact sn11_refusalFor_b10 cx  hres
  · have hres := am_ifp h hres
    refine am_iconst cx (v := (-1 : Int32)) dX11_refusalFor_4 (by decide) ?_
    refine am_goto cx (tgt := 10) dX11_refusalFor_5 (by decide) ?_
    refine am_sub cx [] rfl ?_
    exact sn11_refusalFor_b10 cx  hres
set_option maxRecDepth 20000 in
theorem mt11_refusalFor {l : Launch} {v : Int32} {M M' : am_Mem} {r0 : Nat} (h : fn11_refusalFor M r0 = some (v, M')) : am_Met l yX11_refusalFor cX11_refusalFor 1 (some .int) rm11_refusalFor 0 0 [.inr (.inr (.inl r0))] M (some (.inl v)) M' := am_mk (by decide) (Nat.le_of_ble_eq_true rfl) (fun G cx => (sn11_refusalFor_b0 cx h))
-- SquareCuts.flowingNet
def fn11_flowingNet_b32   (M : am_Mem) : Option (Nat × am_Mem) :=
  some (0, M)
def fn11_flowingNet_b0  (r0 : Nat) (x1 : Int32) (M : am_Mem) : Option (Nat × am_Mem) :=
  am_ck (am_k M r0 11) (am_ck (am_k M (am_R M r0 8) 9) (am_bd (fn9_find M (am_R M r0 8) x1) (fun v3 M4 => if v3 = 0 then fn11_flowingNet_b32   M4 else am_ck (am_k M4 v3 10) (if (am_R M4 v3 3) = 0 then fn11_flowingNet_b32   M4 else am_ck (am_k M4 (am_R M4 v3 3) 3) (if (lg_cmp (am_J M4 (am_R M4 v3 3) 4) (0 : Int64)) = 0 then fn11_flowingNet_b32   M4 else some ((am_R M4 v3 3), M4))))))
def fn11_flowingNet (M : am_Mem) (r0 : Nat) (x1 : Int32) : Option (Nat × am_Mem) := fn11_flowingNet_b0  r0 x1 M
def rm11_flowingNet : Room := { frames := 1, cells := 0, slots := 0, locals := 21 }
set_option maxRecDepth 20000 in
theorem sn11_flowingNet_b32 {l : Launch} {G : am_G} {v : Nat} {M' : am_Mem}  (cx : am_Ctx l rm11_flowingNet yX11_flowingNet cX11_flowingNet 3 (some (.object "SquareCuts$Net")) (some (.inr (.inr (.inl v)))) M' 0 0 G)   {M : am_Mem} (hres : fn11_flowingNet_b32   M = some (v, M')) : G 32 [] [] M 0 0 := by
  unfold fn11_flowingNet_b32 at hres
  refine am_null cx dX11_flowingNet_32 ?_
  obtain ⟨rfl, rfl⟩ := am_fin hres
  exact am_aret cx dX11_flowingNet_33
set_option maxRecDepth 20000 in
theorem sn11_flowingNet_b0 {l : Launch} {G : am_G} {v : Nat} {M' : am_Mem}  (cx : am_Ctx l rm11_flowingNet yX11_flowingNet cX11_flowingNet 3 (some (.object "SquareCuts$Net")) (some (.inr (.inr (.inl v)))) M' 0 0 G)  {r0 : Nat} {x1 : Int32} {M : am_Mem} (hres : fn11_flowingNet_b0  r0 x1 M = some (v, M')) : G 0 [(0, .inr (.inr (.inl r0))), (1, .inl x1)] [] M 0 0 := by
  unfold fn11_flowingNet_b0 at hres
  refine am_aload_n cx 0 dX11_flowingNet_0 rfl ?_
  obtain ⟨q1, hres⟩ := am_ck_some hres
  refine am_getR cx dX11_flowingNet_1 flX11_66 (am_ke q1) ?_
  refine am_iload_n cx 1 dX11_flowingNet_4 rfl ?_
  obtain ⟨q2, hres⟩ := am_ck_some hres
  obtain ⟨v3, M4, q5, hres⟩ := am_bd_some hres
  refine am_callV1 cx [.inl x1] dX11_flowingNet_5 cvX11_115 (mt9_find q5) (am_ke q2) ⟨rfl, rfl, Nat.le_of_ble_eq_true rfl, Nat.le_of_ble_eq_true rfl⟩ rfl (Nat.le_of_ble_eq_true rfl) ⟨Nat.le_of_ble_eq_true rfl, Nat.le_of_ble_eq_true rfl⟩ ?_
  refine am_astore_n cx (lv' := [(0, .inr (.inr (.inl r0))), (1, .inl x1), (2, .inr (.inr (.inl v3)))]) dX11_flowingNet_8 (Nat.le_of_ble_eq_true rfl) rfl ?_
  refine am_aload_n cx 2 dX11_flowingNet_9 rfl ?_
  refine am_ifnull cx (tgt := 32) dX11_flowingNet_10 (by decide) (fun h => ?_) (fun h => ?_)
  · have hres := am_ifp h hres
    refine am_sub cx [] rfl ?_
    exact sn11_flowingNet_b32 cx  hres
  · have hres := am_ifn h hres
    refine am_aload_n cx 2 dX11_flowingNet_13 rfl ?_
    obtain ⟨q6, hres⟩ := am_ck_some hres
    refine am_getR cx dX11_flowingNet_14 flX11_191 (am_ke q6) ?_
    refine am_ifnull cx (tgt := 32) dX11_flowingNet_17 (by decide) (fun h => ?_) (fun h => ?_)
    · have hres := am_ifp h hres
      refine am_sub cx [] rfl ?_
      exact sn11_flowingNet_b32 cx  hres
    · have hres := am_ifn h hres
      refine am_aload_n cx 2 dX11_flowingNet_20 rfl ?_
      refine am_getR cx dX11_flowingNet_21 flX11_191 (am_ke q6) ?_
      obtain ⟨q7, hres⟩ := am_ck_some hres
      refine am_getJ cx dX11_flowingNet_24 flX11_197 (am_ke q7) ?_
      refine am_lconst cx (v := (0 : Int64)) dX11_flowingNet_27 (by decide) ?_
      refine am_lcmp cx dX11_flowingNet_28 ?_
      refine am_if_ne cx (tgt := 34) dX11_flowingNet_29 (by decide) (fun h => ?_) (fun h => ?_)
      · have hres := am_ifn h hres
        refine am_aload_n cx 2 dX11_flowingNet_34 rfl ?_
        refine am_getR cx dX11_flowingNet_35 flX11_191 (am_ke q6) ?_
        obtain ⟨rfl, rfl⟩ := am_fin hres
        exact am_aret cx dX11_flowingNet_38
      · have hres := am_ifp h hres
        refine am_sub cx [] rfl ?_
        exact sn11_flowingNet_b32 cx  hres
set_option maxRecDepth 20000 in
theorem mt11_flowingNet {l : Launch} {v : Nat} {M M' : am_Mem} {r0 : Nat} {x1 : Int32} (h : fn11_flowingNet M r0 x1 = some (v, M')) : am_Met l yX11_flowingNet cX11_flowingNet 3 (some (.object "SquareCuts$Net")) rm11_flowingNet 0 0 [.inr (.inr (.inl r0)), .inl x1] M (some (.inr (.inr (.inl v)))) M' := am_mk (by decide) (Nat.le_of_ble_eq_true rfl) (fun G cx => (sn11_flowingNet_b0 cx h))
-- SquareCuts.usable
def fn11_usable_b37  (c0 : Nat) (M : am_Mem) : Option (Nat × am_Mem) :=
  some (c0, M)
def fn11_usable_b32   (M : am_Mem) : Option (Nat × am_Mem) :=
  fn11_usable_b37  0 M
def fn11_usable_b0  (r0 : Nat) (x1 : Int32) (M : am_Mem) : Option (Nat × am_Mem) :=
  am_ck (am_k M r0 11) (am_ck (am_k M (am_R M r0 8) 9) (am_bd (fn9_find M (am_R M r0 8) x1) (fun v3 M4 => if v3 = 0 then fn11_usable_b32   M4 else am_ck (am_k M4 v3 10) (if (am_I M4 v3 1) = 0 then am_ck (am_k M4 r0 11) (am_ck (am_k M4 (am_R M4 r0 8) 9) (if (am_I M4 (am_R M4 r0 8) 1) < (12 : Int32) then fn11_usable_b37  v3 M4 else fn11_usable_b32   M4)) else fn11_usable_b32   M4))))
def fn11_usable (M : am_Mem) (r0 : Nat) (x1 : Int32) : Option (Nat × am_Mem) := fn11_usable_b0  r0 x1 M
def rm11_usable : Room := { frames := 1, cells := 0, slots := 0, locals := 21 }
set_option maxRecDepth 20000 in
theorem sn11_usable_b37 {l : Launch} {G : am_G} {v : Nat} {M' : am_Mem}  (cx : am_Ctx l rm11_usable yX11_usable cX11_usable 3 (some (.object "SquareCuts$Tiling")) (some (.inr (.inr (.inl v)))) M' 0 0 G)  {c0 : Nat} {M : am_Mem} (hres : fn11_usable_b37  c0 M = some (v, M')) : G 37 [] [.inr (.inr (.inl c0))] M 0 0 := by
  unfold fn11_usable_b37 at hres
  obtain ⟨rfl, rfl⟩ := am_fin hres
  exact am_aret cx dX11_usable_37
set_option maxRecDepth 20000 in
theorem sn11_usable_b32 {l : Launch} {G : am_G} {v : Nat} {M' : am_Mem}  (cx : am_Ctx l rm11_usable yX11_usable cX11_usable 3 (some (.object "SquareCuts$Tiling")) (some (.inr (.inr (.inl v)))) M' 0 0 G)   {M : am_Mem} (hres : fn11_usable_b32   M = some (v, M')) : G 32 [] [] M 0 0 := by
  unfold fn11_usable_b32 at hres
  refine am_null cx dX11_usable_32 ?_
  refine am_goto cx (tgt := 37) dX11_usable_33 (by decide) ?_
  exact sn11_usable_b37 cx  hres
set_option maxRecDepth 20000 in
theorem sn11_usable_b0 {l : Launch} {G : am_G} {v : Nat} {M' : am_Mem}  (cx : am_Ctx l rm11_usable yX11_usable cX11_usable 3 (some (.object "SquareCuts$Tiling")) (some (.inr (.inr (.inl v)))) M' 0 0 G)  {r0 : Nat} {x1 : Int32} {M : am_Mem} (hres : fn11_usable_b0  r0 x1 M = some (v, M')) : G 0 [(0, .inr (.inr (.inl r0))), (1, .inl x1)] [] M 0 0 := by
  unfold fn11_usable_b0 at hres
  refine am_aload_n cx 0 dX11_usable_0 rfl ?_
  obtain ⟨q1, hres⟩ := am_ck_some hres
  refine am_getR cx dX11_usable_1 flX11_66 (am_ke q1) ?_
  refine am_iload_n cx 1 dX11_usable_4 rfl ?_
  obtain ⟨q2, hres⟩ := am_ck_some hres
  obtain ⟨v3, M4, q5, hres⟩ := am_bd_some hres
  refine am_callV1 cx [.inl x1] dX11_usable_5 cvX11_115 (mt9_find q5) (am_ke q2) ⟨rfl, rfl, Nat.le_of_ble_eq_true rfl, Nat.le_of_ble_eq_true rfl⟩ rfl (Nat.le_of_ble_eq_true rfl) ⟨Nat.le_of_ble_eq_true rfl, Nat.le_of_ble_eq_true rfl⟩ ?_
  refine am_astore_n cx (lv' := [(0, .inr (.inr (.inl r0))), (1, .inl x1), (2, .inr (.inr (.inl v3)))]) dX11_usable_8 (Nat.le_of_ble_eq_true rfl) rfl ?_
  refine am_aload_n cx 2 dX11_usable_9 rfl ?_
  refine am_ifnull cx (tgt := 32) dX11_usable_10 (by decide) (fun h => ?_) (fun h => ?_)
  · have hres := am_ifp h hres
    refine am_sub cx [] rfl ?_
    exact sn11_usable_b32 cx  hres
  · have hres := am_ifn h hres
    refine am_aload_n cx 2 dX11_usable_13 rfl ?_
    obtain ⟨q6, hres⟩ := am_ck_some hres
    refine am_getI cx dX11_usable_14 flX11_123 (am_ke q6) ?_
    refine am_if_ne cx (tgt := 32) dX11_usable_17 (by decide) (fun h => ?_) (fun h => ?_)
    · have hres := am_ifn h hres
      refine am_sub cx [] rfl ?_
      exact sn11_usable_b32 cx  hres
    · have hres := am_ifp h hres
      refine am_aload_n cx 0 dX11_usable_20 rfl ?_
      obtain ⟨q7, hres⟩ := am_ck_some hres
      refine am_getR cx dX11_usable_21 flX11_66 (am_ke q7) ?_
      obtain ⟨q8, hres⟩ := am_ck_some hres
      refine am_getI cx dX11_usable_24 flX11_112 (am_ke q8) ?_
      refine am_bipush cx (v := (12 : Int32)) dX11_usable_27 (by decide) ?_
      refine am_icmp_lt cx (tgt := 36) dX11_usable_29 (by decide) (fun h => ?_) (fun h => ?_)
      · have hres := am_ifp h hres
        refine am_aload_n cx 2 dX11_usable_36 rfl ?_
        refine am_sub cx [] rfl ?_
        exact sn11_usable_b37 cx  hres
      · have hres := am_ifn h hres
        refine am_sub cx [] rfl ?_
        exact sn11_usable_b32 cx  hres
set_option maxRecDepth 20000 in
theorem mt11_usable {l : Launch} {v : Nat} {M M' : am_Mem} {r0 : Nat} {x1 : Int32} (h : fn11_usable M r0 x1 = some (v, M')) : am_Met l yX11_usable cX11_usable 3 (some (.object "SquareCuts$Tiling")) rm11_usable 0 0 [.inr (.inr (.inl r0)), .inl x1] M (some (.inr (.inr (.inl v)))) M' := am_mk (by decide) (Nat.le_of_ble_eq_true rfl) (fun G cx => (sn11_usable_b0 cx h))
-- SquareCuts.isTooLarge
def fn11_isTooLarge_b21  (a0 : Int32) (M : am_Mem) : Option (Int32 × am_Mem) :=
  am_ck (a0 == 0 || a0 == 1) (some (a0, M))
def fn11_isTooLarge_b16   (M : am_Mem) : Option (Int32 × am_Mem) :=
  fn11_isTooLarge_b21  (1 : Int32) M
def fn11_isTooLarge_b0  (j0 : Int64) (j2 : Int64) (M : am_Mem) : Option (Int32 × am_Mem) :=
  if 0 < (lg_cmp j0 (1000000000 : Int64)) then fn11_isTooLarge_b16   M else if (lg_cmp j2 (1000000000 : Int64)) ≤ 0 then fn11_isTooLarge_b21  (0 : Int32) M else fn11_isTooLarge_b16   M
def fn11_isTooLarge (M : am_Mem) (j0 : Int64) (j2 : Int64) : Option (Int32 × am_Mem) := fn11_isTooLarge_b0  j0 j2 M
def rm11_isTooLarge : Room := { frames := 0, cells := 0, slots := 0, locals := 0 }
set_option maxRecDepth 20000 in
theorem sn11_isTooLarge_b21 {l : Launch} {G : am_G} {v : Int32} {M' : am_Mem}  (cx : am_Ctx l rm11_isTooLarge yX11_isTooLarge cX11_isTooLarge 4 (some .boolean) (some (.inl v)) M' 0 0 G)  {a0 : Int32} {M : am_Mem} (hres : fn11_isTooLarge_b21  a0 M = some (v, M')) : G 21 [] [.inl a0] M 0 0 := by
  unfold fn11_isTooLarge_b21 at hres
  obtain ⟨q1, hres⟩ := am_ck_some hres
  obtain ⟨rfl, rfl⟩ := am_fin hres
  exact am_zret cx q1 dX11_isTooLarge_21
set_option maxRecDepth 20000 in
theorem sn11_isTooLarge_b16 {l : Launch} {G : am_G} {v : Int32} {M' : am_Mem}  (cx : am_Ctx l rm11_isTooLarge yX11_isTooLarge cX11_isTooLarge 4 (some .boolean) (some (.inl v)) M' 0 0 G)   {M : am_Mem} (hres : fn11_isTooLarge_b16   M = some (v, M')) : G 16 [] [] M 0 0 := by
  unfold fn11_isTooLarge_b16 at hres
  refine am_iconst cx (v := (1 : Int32)) dX11_isTooLarge_16 (by decide) ?_
  refine am_goto cx (tgt := 21) dX11_isTooLarge_17 (by decide) ?_
  exact sn11_isTooLarge_b21 cx  hres
set_option maxRecDepth 20000 in
theorem sn11_isTooLarge_b0 {l : Launch} {G : am_G} {v : Int32} {M' : am_Mem}  (cx : am_Ctx l rm11_isTooLarge yX11_isTooLarge cX11_isTooLarge 4 (some .boolean) (some (.inl v)) M' 0 0 G)  {j0 : Int64} {j2 : Int64} {M : am_Mem} (hres : fn11_isTooLarge_b0  j0 j2 M = some (v, M')) : G 0 [(0, .inr (.inl j0)), (2, .inr (.inl j2))] [] M 0 0 := by
  unfold fn11_isTooLarge_b0 at hres
  refine am_lload_n cx 0 dX11_isTooLarge_0 rfl ?_
  refine am_ldc2 cx dX11_isTooLarge_1 aw_4_88 ?_
  refine am_lcmp cx dX11_isTooLarge_4 ?_
  refine am_if_gt cx (tgt := 16) dX11_isTooLarge_5 (by decide) (fun h => ?_) (fun h => ?_)
  · have hres := am_ifp h hres
    refine am_sub cx [] rfl ?_
    exact sn11_isTooLarge_b16 cx  hres
  · have hres := am_ifn h hres
    refine am_lload_n cx 1 dX11_isTooLarge_8 rfl ?_
    refine am_ldc2 cx dX11_isTooLarge_9 aw_4_88 ?_
    refine am_lcmp cx dX11_isTooLarge_12 ?_
    refine am_if_le cx (tgt := 20) dX11_isTooLarge_13 (by decide) (fun h => ?_) (fun h => ?_)
    · have hres := am_ifp h hres
      refine am_iconst cx (v := (0 : Int32)) dX11_isTooLarge_20 (by decide) ?_
      refine am_sub cx [] rfl ?_
      exact sn11_isTooLarge_b21 cx  hres
    · have hres := am_ifn h hres
      refine am_sub cx [] rfl ?_
      exact sn11_isTooLarge_b16 cx  hres
set_option maxRecDepth 20000 in
theorem mt11_isTooLarge {l : Launch} {v : Int32} {M M' : am_Mem} {j0 : Int64} {j2 : Int64} (h : fn11_isTooLarge M j0 j2 = some (v, M')) : am_Met l yX11_isTooLarge cX11_isTooLarge 4 (some .boolean) rm11_isTooLarge 0 0 [.inr (.inl j0), .inr (.inl j2)] M (some (.inl v)) M' := am_mk (by decide) (Nat.le_of_ble_eq_true rfl) (fun G cx => (sn11_isTooLarge_b0 cx h))
-- SquareCuts.greatestDivisor
def fn11_greatestDivisor_b42 (N : Nat)  (x2 : Int32) (M : am_Mem) : Option (Int32 × am_Mem) :=
  some (x2, M)
def fn11_greatestDivisor_b31 (N : Nat) (k15 : Int32 → Int32 → Int32 → am_Mem → Option (Int32 × am_Mem)) (x3 : Int32) (x4 : Int32) (x5 : Int32) (M : am_Mem) : Option (Int32 × am_Mem) :=
  k15 x3 x5 (x4 + (1 : Int32)) M
def fn11_greatestDivisor_b15B (N : Nat) (k15 : Int32 → Int32 → Int32 → am_Mem → Option (Int32 × am_Mem)) (x2 : Int32) (x3 : Int32) (x4 : Int32) (M : am_Mem) : Option (Int32 × am_Mem) :=
  if (100 : Int32) ≤ x4 then fn11_greatestDivisor_b42 N  x2 M else if x3 = 0 then fn11_greatestDivisor_b42 N  x2 M else am_ck (decide (¬ x3 = 0)) (fn11_greatestDivisor_b31 N k15 x3 x4 (x2 - x2 / x3 * x3) M)
def fn11_greatestDivisor_b15 (N : Nat)  : Nat → Int32 → Int32 → Int32 → am_Mem → Option (Int32 × am_Mem)
  | 0 => fun _ _ _ _ => none
  | i + 1 => fn11_greatestDivisor_b15B N (fn11_greatestDivisor_b15 N  i)
def fn11_greatestDivisor_b0 (N : Nat)  (x0 : Int32) (x1 : Int32) (M : am_Mem) : Option (Int32 × am_Mem) :=
  fn11_greatestDivisor_b15 N  N (if x0 < x1 then x1 else x0) (if x1 < x0 then x1 else x0) (0 : Int32) M
def fn11_greatestDivisor (N : Nat) (M : am_Mem) (x0 : Int32) (x1 : Int32) : Option (Int32 × am_Mem) := fn11_greatestDivisor_b0 N x0 x1 M
def rm11_greatestDivisor : Room := { frames := 1, cells := 0, slots := 0, locals := 21 }
set_option maxRecDepth 20000 in
theorem sn11_greatestDivisor_b42 {l : Launch} {G : am_G} {v : Int32} {M' : am_Mem} {N : Nat}  (cx : am_Ctx l rm11_greatestDivisor yX11_greatestDivisor cX11_greatestDivisor 6 (some .int) (some (.inl v)) M' 0 0 G)  {x2 : Int32} {M : am_Mem} (hres : fn11_greatestDivisor_b42 N  x2 M = some (v, M')) : G 42 [(2, .inl x2)] [] M 0 0 := by
  unfold fn11_greatestDivisor_b42 at hres
  refine am_iload_n cx 0 dX11_greatestDivisor_42 rfl ?_
  obtain ⟨rfl, rfl⟩ := am_fin hres
  exact am_iret cx dX11_greatestDivisor_43
set_option maxRecDepth 20000 in
theorem sn11_greatestDivisor_b31 {l : Launch} {G : am_G} {v : Int32} {M' : am_Mem} {N : Nat} {k15 : Int32 → Int32 → Int32 → am_Mem → Option (Int32 × am_Mem)} (cx : am_Ctx l rm11_greatestDivisor yX11_greatestDivisor cX11_greatestDivisor 6 (some .int) (some (.inl v)) M' 0 0 G) (hk15 : ∀ (x2 : Int32) (x3 : Int32) (x4 : Int32) (M : am_Mem), k15 x2 x3 x4 M = some (v, M') → G 15 [(2, .inl x2), (3, .inl x3), (4, .inl x4)] [] M 0 0) {x3 : Int32} {x4 : Int32} {x5 : Int32} {M : am_Mem} (hres : fn11_greatestDivisor_b31 N k15 x3 x4 x5 M = some (v, M')) : G 31 [(3, .inl x3), (4, .inl x4), (5, .inl x5)] [] M 0 0 := by
  unfold fn11_greatestDivisor_b31 at hres
  refine am_iload_n cx 0 dX11_greatestDivisor_31 rfl ?_
  refine am_istore_n cx (lv' := [(2, .inl x3), (3, .inl x3), (4, .inl x4), (5, .inl x5)]) dX11_greatestDivisor_32 (Nat.le_of_ble_eq_true rfl) rfl ?_
  refine am_iload cx 3 dX11_greatestDivisor_33 rfl ?_
  refine am_istore_n cx (lv' := [(2, .inl x3), (3, .inl x5), (4, .inl x4), (5, .inl x5)]) dX11_greatestDivisor_35 (Nat.le_of_ble_eq_true rfl) rfl ?_
  refine am_iincw cx (lv' := [(2, .inl x3), (3, .inl x5), (4, .inl (x4 + (1 : Int32))), (5, .inl x5)]) (w := (1 : Int32)) 2 dX11_greatestDivisor_36 (by decide) rfl (Nat.le_of_ble_eq_true rfl) rfl ?_
  refine am_goto cx (tgt := 15) dX11_greatestDivisor_39 (by decide) ?_
  refine am_sub cx [0, 1, 2] rfl ?_
  exact hk15 _ _ _ _ hres
set_option maxRecDepth 20000 in
theorem sn11_greatestDivisor_b15B {l : Launch} {G : am_G} {v : Int32} {M' : am_Mem} {N : Nat} {k15 : Int32 → Int32 → Int32 → am_Mem → Option (Int32 × am_Mem)} (cx : am_Ctx l rm11_greatestDivisor yX11_greatestDivisor cX11_greatestDivisor 6 (some .int) (some (.inl v)) M' 0 0 G) (hk15 : ∀ (x2 : Int32) (x3 : Int32) (x4 : Int32) (M : am_Mem), k15 x2 x3 x4 M = some (v, M') → G 15 [(2, .inl x2), (3, .inl x3), (4, .inl x4)] [] M 0 0) {x2 : Int32} {x3 : Int32} {x4 : Int32} {M : am_Mem} (hres : fn11_greatestDivisor_b15B N k15 x2 x3 x4 M = some (v, M')) : G 15 [(2, .inl x2), (3, .inl x3), (4, .inl x4)] [] M 0 0 := by
  unfold fn11_greatestDivisor_b15B at hres
  refine am_iload cx 2 dX11_greatestDivisor_15 rfl ?_
  refine am_bipush cx (v := (100 : Int32)) dX11_greatestDivisor_17 (by decide) ?_
  refine am_icmp_ge cx (tgt := 42) dX11_greatestDivisor_19 (by decide) (fun h => ?_) (fun h => ?_)
  · have hres := am_ifp h hres
    refine am_sub cx [0] rfl ?_
    exact sn11_greatestDivisor_b42 cx  hres
  · have hres := am_ifn h hres
    refine am_iload_n cx 1 dX11_greatestDivisor_22 rfl ?_
    refine am_if_eq cx (tgt := 42) dX11_greatestDivisor_23 (by decide) (fun h => ?_) (fun h => ?_)
    · have hres := am_ifp h hres
      refine am_sub cx [0] rfl ?_
      exact sn11_greatestDivisor_b42 cx  hres
    · have hres := am_ifn h hres
      refine am_iload_n cx 0 dX11_greatestDivisor_26 rfl ?_
      refine am_iload_n cx 1 dX11_greatestDivisor_27 rfl ?_
      obtain ⟨q1, hres⟩ := am_ck_some hres
      refine am_irem cx dX11_greatestDivisor_28 (of_decide_eq_true q1) ?_
      refine am_istore cx (lv' := [(2, .inl x2), (3, .inl x3), (4, .inl x4), (5, .inl (x2 - x2 / x3 * x3))]) dX11_greatestDivisor_29 (Nat.le_of_ble_eq_true rfl) rfl ?_
      refine am_sub cx [1, 2, 3] rfl ?_
      exact sn11_greatestDivisor_b31 cx hk15 hres
set_option maxRecDepth 20000 in
theorem sn11_greatestDivisor_b15 {l : Launch} {G : am_G} {v : Int32} {M' : am_Mem} {N : Nat}  (cx : am_Ctx l rm11_greatestDivisor yX11_greatestDivisor cX11_greatestDivisor 6 (some .int) (some (.inl v)) M' 0 0 G)  (i : Nat) : ∀ (x2 : Int32) (x3 : Int32) (x4 : Int32) (M : am_Mem), fn11_greatestDivisor_b15 N  i x2 x3 x4 M = some (v, M') → G 15 [(2, .inl x2), (3, .inl x3), (4, .inl x4)] [] M 0 0 := by
  induction i with
  | zero => intro x2 x3 x4 M hres; exact am_no hres
  | succ i ih => intro x2 x3 x4 M hres; exact sn11_greatestDivisor_b15B cx ih hres
set_option maxRecDepth 20000 in
theorem sn11_greatestDivisor_b0 {l : Launch} {G : am_G} {v : Int32} {M' : am_Mem} {N : Nat}  (cx : am_Ctx l rm11_greatestDivisor yX11_greatestDivisor cX11_greatestDivisor 6 (some .int) (some (.inl v)) M' 0 0 G)  {x0 : Int32} {x1 : Int32} {M : am_Mem} (hres : fn11_greatestDivisor_b0 N  x0 x1 M = some (v, M')) : G 0 [(0, .inl x0), (1, .inl x1)] [] M 0 0 := by
  unfold fn11_greatestDivisor_b0 at hres
  refine am_iload_n cx 0 dX11_greatestDivisor_0 rfl ?_
  refine am_iload_n cx 1 dX11_greatestDivisor_1 rfl ?_
  refine am_mmax cx dX11_greatestDivisor_2 aw_3_100 aw_3_28 aw_1_12 aw_3_29 (Nat.le_of_ble_eq_true rfl) (Nat.le_of_ble_eq_true rfl) (Nat.le_of_ble_eq_true rfl) (Nat.le_of_ble_eq_true rfl) ?_
  refine am_istore_n cx (lv' := [(0, .inl x0), (1, .inl x1), (2, .inl (if x0 < x1 then x1 else x0))]) dX11_greatestDivisor_5 (Nat.le_of_ble_eq_true rfl) rfl ?_
  refine am_iload_n cx 0 dX11_greatestDivisor_6 rfl ?_
  refine am_iload_n cx 1 dX11_greatestDivisor_7 rfl ?_
  refine am_mmin cx dX11_greatestDivisor_8 aw_3_101 aw_2_83 aw_1_12 aw_2_84 (Nat.le_of_ble_eq_true rfl) (Nat.le_of_ble_eq_true rfl) (Nat.le_of_ble_eq_true rfl) (Nat.le_of_ble_eq_true rfl) ?_
  refine am_istore_n cx (lv' := [(0, .inl x0), (1, .inl x1), (2, .inl (if x0 < x1 then x1 else x0)), (3, .inl (if x1 < x0 then x1 else x0))]) dX11_greatestDivisor_11 (Nat.le_of_ble_eq_true rfl) rfl ?_
  refine am_iconst cx (v := (0 : Int32)) dX11_greatestDivisor_12 (by decide) ?_
  refine am_istore cx (lv' := [(0, .inl x0), (1, .inl x1), (2, .inl (if x0 < x1 then x1 else x0)), (3, .inl (if x1 < x0 then x1 else x0)), (4, .inl (0 : Int32))]) dX11_greatestDivisor_13 (Nat.le_of_ble_eq_true rfl) rfl ?_
  refine am_sub cx [2, 3, 4] rfl ?_
  exact sn11_greatestDivisor_b15 cx  N _ _ _ _ hres
set_option maxRecDepth 20000 in
theorem mt11_greatestDivisor {l : Launch} {v : Int32} {M M' : am_Mem} {N : Nat} {x0 : Int32} {x1 : Int32} (h : fn11_greatestDivisor N M x0 x1 = some (v, M')) : am_Met l yX11_greatestDivisor cX11_greatestDivisor 6 (some .int) rm11_greatestDivisor 0 0 [.inl x0, .inl x1] M (some (.inl v)) M' := am_mk (by decide) (Nat.le_of_ble_eq_true rfl) (fun G cx => (sn11_greatestDivisor_b0 cx h))
-- SquareCutsModel.<init>
def fn12_init_b250   (M : am_Mem) : Option (Unit × am_Mem) :=
  some ((), M)
def fn12_init_b242  (r0 : Nat) (M : am_Mem) : Option (Unit × am_Mem) :=
  am_ck (am_k (am_new M 14 (124 : Int32).toNatClampNeg) r0 12) (fn12_init_b250   (am_wR (am_new M 14 (124 : Int32).toNatClampNeg) r0 48 (am_n M + 1)))
def fn12_init_b234  (r0 : Nat) (M : am_Mem) : Option (Unit × am_Mem) :=
  am_ck (am_k (am_new M 14 (80 : Int32).toNatClampNeg) r0 12) (fn12_init_b242  r0 (am_wR (am_new M 14 (80 : Int32).toNatClampNeg) r0 46 (am_n M + 1)))
def fn12_init_b226  (r0 : Nat) (M : am_Mem) : Option (Unit × am_Mem) :=
  am_ck (am_k (am_new M 14 (80 : Int32).toNatClampNeg) r0 12) (fn12_init_b234  r0 (am_wR (am_new M 14 (80 : Int32).toNatClampNeg) r0 45 (am_n M + 1)))
def fn12_init_b218  (r0 : Nat) (M : am_Mem) : Option (Unit × am_Mem) :=
  am_ck (am_k (am_new M 14 (80 : Int32).toNatClampNeg) r0 12) (fn12_init_b226  r0 (am_wR (am_new M 14 (80 : Int32).toNatClampNeg) r0 44 (am_n M + 1)))
def fn12_init_b210  (r0 : Nat) (M : am_Mem) : Option (Unit × am_Mem) :=
  am_ck (am_k (am_new M 14 (80 : Int32).toNatClampNeg) r0 12) (fn12_init_b218  r0 (am_wR (am_new M 14 (80 : Int32).toNatClampNeg) r0 43 (am_n M + 1)))
def fn12_init_b201  (r0 : Nat) (M : am_Mem) : Option (Unit × am_Mem) :=
  am_ck (am_k (am_new M 13 (700 : Int32).toNatClampNeg) r0 12) (fn12_init_b210  r0 (am_wR (am_new M 13 (700 : Int32).toNatClampNeg) r0 41 (am_n M + 1)))
def fn12_init_b193  (r0 : Nat) (M : am_Mem) : Option (Unit × am_Mem) :=
  am_ck (am_k (am_new M 16 (14 : Int32).toNatClampNeg) r0 12) (fn12_init_b201  r0 (am_wR (am_new M 16 (14 : Int32).toNatClampNeg) r0 37 (am_n M + 1)))
def fn12_init_b185  (r0 : Nat) (M : am_Mem) : Option (Unit × am_Mem) :=
  am_ck (am_k (am_new M 15 (64 : Int32).toNatClampNeg) r0 12) (fn12_init_b193  r0 (am_wR (am_new M 15 (64 : Int32).toNatClampNeg) r0 36 (am_n M + 1)))
def fn12_init_b176  (r0 : Nat) (M : am_Mem) : Option (Unit × am_Mem) :=
  am_ck (am_k (am_new M 14 (1764 : Int32).toNatClampNeg) r0 12) (fn12_init_b185  r0 (am_wR (am_new M 14 (1764 : Int32).toNatClampNeg) r0 34 (am_n M + 1)))
def fn12_init_b167  (r0 : Nat) (M : am_Mem) : Option (Unit × am_Mem) :=
  am_ck (am_k (am_new M 14 (1764 : Int32).toNatClampNeg) r0 12) (fn12_init_b176  r0 (am_wR (am_new M 14 (1764 : Int32).toNatClampNeg) r0 33 (am_n M + 1)))
def fn12_init_b159  (r0 : Nat) (M : am_Mem) : Option (Unit × am_Mem) :=
  am_ck (am_k (am_new M 14 (42 : Int32).toNatClampNeg) r0 12) (fn12_init_b167  r0 (am_wR (am_new M 14 (42 : Int32).toNatClampNeg) r0 32 (am_n M + 1)))
def fn12_init_b151  (r0 : Nat) (M : am_Mem) : Option (Unit × am_Mem) :=
  am_ck (am_k (am_new M 15 (84 : Int32).toNatClampNeg) r0 12) (fn12_init_b159  r0 (am_wR (am_new M 15 (84 : Int32).toNatClampNeg) r0 31 (am_n M + 1)))
def fn12_init_b143  (r0 : Nat) (M : am_Mem) : Option (Unit × am_Mem) :=
  am_ck (am_k (am_new M 15 (54 : Int32).toNatClampNeg) r0 12) (fn12_init_b151  r0 (am_wR (am_new M 15 (54 : Int32).toNatClampNeg) r0 30 (am_n M + 1)))
def fn12_init_b135  (r0 : Nat) (M : am_Mem) : Option (Unit × am_Mem) :=
  am_ck (am_k (am_new M 15 (6 : Int32).toNatClampNeg) r0 12) (fn12_init_b143  r0 (am_wR (am_new M 15 (6 : Int32).toNatClampNeg) r0 29 (am_n M + 1)))
def fn12_init_b127  (r0 : Nat) (M : am_Mem) : Option (Unit × am_Mem) :=
  am_ck (am_k (am_new M 14 (6 : Int32).toNatClampNeg) r0 12) (fn12_init_b135  r0 (am_wR (am_new M 14 (6 : Int32).toNatClampNeg) r0 28 (am_n M + 1)))
def fn12_init_b119  (r0 : Nat) (M : am_Mem) : Option (Unit × am_Mem) :=
  am_ck (am_k (am_new M 14 (6 : Int32).toNatClampNeg) r0 12) (fn12_init_b127  r0 (am_wR (am_new M 14 (6 : Int32).toNatClampNeg) r0 27 (am_n M + 1)))
def fn12_init_b110  (r0 : Nat) (M : am_Mem) : Option (Unit × am_Mem) :=
  am_ck (am_k (am_new M 14 (168 : Int32).toNatClampNeg) r0 12) (fn12_init_b119  r0 (am_wR (am_new M 14 (168 : Int32).toNatClampNeg) r0 26 (am_n M + 1)))
def fn12_init_b102  (r0 : Nat) (M : am_Mem) : Option (Unit × am_Mem) :=
  am_ck (am_k (am_new M 14 (6 : Int32).toNatClampNeg) r0 12) (fn12_init_b110  r0 (am_wR (am_new M 14 (6 : Int32).toNatClampNeg) r0 25 (am_n M + 1)))
def fn12_init_b94  (r0 : Nat) (M : am_Mem) : Option (Unit × am_Mem) :=
  am_ck (am_k (am_new M 14 (6 : Int32).toNatClampNeg) r0 12) (fn12_init_b102  r0 (am_wR (am_new M 14 (6 : Int32).toNatClampNeg) r0 24 (am_n M + 1)))
def fn12_init_b86  (r0 : Nat) (M : am_Mem) : Option (Unit × am_Mem) :=
  am_ck (am_k (am_new M 14 (6 : Int32).toNatClampNeg) r0 12) (fn12_init_b94  r0 (am_wR (am_new M 14 (6 : Int32).toNatClampNeg) r0 23 (am_n M + 1)))
def fn12_init_b79  (r0 : Nat) (M : am_Mem) : Option (Unit × am_Mem) :=
  am_ck (am_k (am_new M 16 (2 : Int32).toNatClampNeg) r0 12) (fn12_init_b86  r0 (am_wR (am_new M 16 (2 : Int32).toNatClampNeg) r0 22 (am_n M + 1)))
def fn12_init_b72  (r0 : Nat) (M : am_Mem) : Option (Unit × am_Mem) :=
  am_ck (am_k (am_new M 14 (2 : Int32).toNatClampNeg) r0 12) (fn12_init_b79  r0 (am_wR (am_new M 14 (2 : Int32).toNatClampNeg) r0 21 (am_n M + 1)))
def fn12_init_b63  (r0 : Nat) (M : am_Mem) : Option (Unit × am_Mem) :=
  am_ck (am_k (am_new M 14 (2976 : Int32).toNatClampNeg) r0 12) (fn12_init_b72  r0 (am_wR (am_new M 14 (2976 : Int32).toNatClampNeg) r0 20 (am_n M + 1)))
def fn12_init_b54  (r0 : Nat) (M : am_Mem) : Option (Unit × am_Mem) :=
  am_ck (am_k (am_new M 14 (1488 : Int32).toNatClampNeg) r0 12) (fn12_init_b63  r0 (am_wR (am_new M 14 (1488 : Int32).toNatClampNeg) r0 17 (am_n M + 1)))
def fn12_init_b45  (r0 : Nat) (M : am_Mem) : Option (Unit × am_Mem) :=
  am_ck (am_k (am_new M 14 (174 : Int32).toNatClampNeg) r0 12) (fn12_init_b54  r0 (am_wR (am_new M 14 (174 : Int32).toNatClampNeg) r0 16 (am_n M + 1)))
def fn12_init_b37  (r0 : Nat) (M : am_Mem) : Option (Unit × am_Mem) :=
  am_ck (am_k (am_new M 14 (6 : Int32).toNatClampNeg) r0 12) (fn12_init_b45  r0 (am_wR (am_new M 14 (6 : Int32).toNatClampNeg) r0 15 (am_n M + 1)))
def fn12_init_b29  (r0 : Nat) (M : am_Mem) : Option (Unit × am_Mem) :=
  am_ck (am_k (am_new M 14 (6 : Int32).toNatClampNeg) r0 12) (fn12_init_b37  r0 (am_wR (am_new M 14 (6 : Int32).toNatClampNeg) r0 14 (am_n M + 1)))
def fn12_init_b21  (r0 : Nat) (M : am_Mem) : Option (Unit × am_Mem) :=
  am_ck (am_k (am_new M 14 (6 : Int32).toNatClampNeg) r0 12) (fn12_init_b29  r0 (am_wR (am_new M 14 (6 : Int32).toNatClampNeg) r0 13 (am_n M + 1)))
def fn12_init_b13  (r0 : Nat) (M : am_Mem) : Option (Unit × am_Mem) :=
  am_ck (am_k (am_new M 15 (6 : Int32).toNatClampNeg) r0 12) (fn12_init_b21  r0 (am_wR (am_new M 15 (6 : Int32).toNatClampNeg) r0 12 (am_n M + 1)))
def fn12_init_b0  (r0 : Nat) (M : am_Mem) : Option (Unit × am_Mem) :=
  am_ck (am_k M r0 12) (am_ck (am_k (am_new M 13 (600 : Int32).toNatClampNeg) r0 12) (fn12_init_b13  r0 (am_wR (am_new M 13 (600 : Int32).toNatClampNeg) r0 1 (am_n M + 1))))
def fn12_init (M : am_Mem) (r0 : Nat) : Option (Unit × am_Mem) := fn12_init_b0  r0 M
def rm12_init : Room := { frames := 1, cells := 30, slots := 10400, locals := 20 }
set_option maxRecDepth 20000 in
theorem sn12_init_b250 {l : Launch} {G : am_G} {M' : am_Mem}  (cx : am_Ctx l rm12_init yX12_init cX12_init 1 none none M' 30 10400 G)   {M : am_Mem} (hres : fn12_init_b250   M = some ((), M')) : G 250 [] [] M 30 10400 := by
  unfold fn12_init_b250 at hres
  obtain ⟨-, rfl⟩ := am_fin hres
  exact am_vret cx dX12_init_250
set_option maxRecDepth 20000 in
theorem sn12_init_b242 {l : Launch} {G : am_G} {M' : am_Mem}  (cx : am_Ctx l rm12_init yX12_init cX12_init 1 none none M' 30 10400 G)  {r0 : Nat} {M : am_Mem} (hres : fn12_init_b242  r0 M = some ((), M')) : G 242 [(0, .inr (.inr (.inl r0)))] [] M 29 10276 := by
  unfold fn12_init_b242 at hres
  refine am_aload_n cx 0 dX12_init_242 rfl ?_
  refine am_bipush cx (v := (124 : Int32)) dX12_init_243 (by decide) ?_
  refine am_newI cx 124 dX12_init_245 aw_1_90 (by decide) (Nat.le_of_ble_eq_true rfl) (Nat.le_of_ble_eq_true rfl) (Nat.le_of_ble_eq_true rfl) ?_
  obtain ⟨q1, hres⟩ := am_ck_some hres
  refine am_putR cx dX12_init_247 fpX12_100 (fun _ => rfl) (Or.inr ⟨_, rfl⟩) (am_ke q1) ?_
  refine am_sub cx [] rfl ?_
  exact sn12_init_b250 cx  hres
set_option maxRecDepth 20000 in
theorem sn12_init_b234 {l : Launch} {G : am_G} {M' : am_Mem}  (cx : am_Ctx l rm12_init yX12_init cX12_init 1 none none M' 30 10400 G)  {r0 : Nat} {M : am_Mem} (hres : fn12_init_b234  r0 M = some ((), M')) : G 234 [(0, .inr (.inr (.inl r0)))] [] M 28 10196 := by
  unfold fn12_init_b234 at hres
  refine am_aload_n cx 0 dX12_init_234 rfl ?_
  refine am_bipush cx (v := (80 : Int32)) dX12_init_235 (by decide) ?_
  refine am_newI cx 80 dX12_init_237 aw_1_90 (by decide) (Nat.le_of_ble_eq_true rfl) (Nat.le_of_ble_eq_true rfl) (Nat.le_of_ble_eq_true rfl) ?_
  obtain ⟨q1, hres⟩ := am_ck_some hres
  refine am_putR cx dX12_init_239 fpX12_97 (fun _ => rfl) (Or.inr ⟨_, rfl⟩) (am_ke q1) ?_
  exact sn12_init_b242 cx  hres
set_option maxRecDepth 20000 in
theorem sn12_init_b226 {l : Launch} {G : am_G} {M' : am_Mem}  (cx : am_Ctx l rm12_init yX12_init cX12_init 1 none none M' 30 10400 G)  {r0 : Nat} {M : am_Mem} (hres : fn12_init_b226  r0 M = some ((), M')) : G 226 [(0, .inr (.inr (.inl r0)))] [] M 27 10116 := by
  unfold fn12_init_b226 at hres
  refine am_aload_n cx 0 dX12_init_226 rfl ?_
  refine am_bipush cx (v := (80 : Int32)) dX12_init_227 (by decide) ?_
  refine am_newI cx 80 dX12_init_229 aw_1_90 (by decide) (Nat.le_of_ble_eq_true rfl) (Nat.le_of_ble_eq_true rfl) (Nat.le_of_ble_eq_true rfl) ?_
  obtain ⟨q1, hres⟩ := am_ck_some hres
  refine am_putR cx dX12_init_231 fpX12_94 (fun _ => rfl) (Or.inr ⟨_, rfl⟩) (am_ke q1) ?_
  exact sn12_init_b234 cx  hres
set_option maxRecDepth 20000 in
theorem sn12_init_b218 {l : Launch} {G : am_G} {M' : am_Mem}  (cx : am_Ctx l rm12_init yX12_init cX12_init 1 none none M' 30 10400 G)  {r0 : Nat} {M : am_Mem} (hres : fn12_init_b218  r0 M = some ((), M')) : G 218 [(0, .inr (.inr (.inl r0)))] [] M 26 10036 := by
  unfold fn12_init_b218 at hres
  refine am_aload_n cx 0 dX12_init_218 rfl ?_
  refine am_bipush cx (v := (80 : Int32)) dX12_init_219 (by decide) ?_
  refine am_newI cx 80 dX12_init_221 aw_1_90 (by decide) (Nat.le_of_ble_eq_true rfl) (Nat.le_of_ble_eq_true rfl) (Nat.le_of_ble_eq_true rfl) ?_
  obtain ⟨q1, hres⟩ := am_ck_some hres
  refine am_putR cx dX12_init_223 fpX12_91 (fun _ => rfl) (Or.inr ⟨_, rfl⟩) (am_ke q1) ?_
  exact sn12_init_b226 cx  hres
set_option maxRecDepth 20000 in
theorem sn12_init_b210 {l : Launch} {G : am_G} {M' : am_Mem}  (cx : am_Ctx l rm12_init yX12_init cX12_init 1 none none M' 30 10400 G)  {r0 : Nat} {M : am_Mem} (hres : fn12_init_b210  r0 M = some ((), M')) : G 210 [(0, .inr (.inr (.inl r0)))] [] M 25 9956 := by
  unfold fn12_init_b210 at hres
  refine am_aload_n cx 0 dX12_init_210 rfl ?_
  refine am_bipush cx (v := (80 : Int32)) dX12_init_211 (by decide) ?_
  refine am_newI cx 80 dX12_init_213 aw_1_90 (by decide) (Nat.le_of_ble_eq_true rfl) (Nat.le_of_ble_eq_true rfl) (Nat.le_of_ble_eq_true rfl) ?_
  obtain ⟨q1, hres⟩ := am_ck_some hres
  refine am_putR cx dX12_init_215 fpX12_88 (fun _ => rfl) (Or.inr ⟨_, rfl⟩) (am_ke q1) ?_
  exact sn12_init_b218 cx  hres
set_option maxRecDepth 20000 in
theorem sn12_init_b201 {l : Launch} {G : am_G} {M' : am_Mem}  (cx : am_Ctx l rm12_init yX12_init cX12_init 1 none none M' 30 10400 G)  {r0 : Nat} {M : am_Mem} (hres : fn12_init_b201  r0 M = some ((), M')) : G 201 [(0, .inr (.inr (.inl r0)))] [] M 24 9256 := by
  unfold fn12_init_b201 at hres
  refine am_aload_n cx 0 dX12_init_201 rfl ?_
  refine am_sipush cx (v := (700 : Int32)) dX12_init_202 (by decide) ?_
  refine am_newB cx 700 dX12_init_205 aw_1_87 (by decide) (Nat.le_of_ble_eq_true rfl) (Nat.le_of_ble_eq_true rfl) (Nat.le_of_ble_eq_true rfl) ?_
  obtain ⟨q1, hres⟩ := am_ck_some hres
  refine am_putR cx dX12_init_207 fpX12_85 (fun _ => rfl) (Or.inr ⟨_, rfl⟩) (am_ke q1) ?_
  exact sn12_init_b210 cx  hres
set_option maxRecDepth 20000 in
theorem sn12_init_b193 {l : Launch} {G : am_G} {M' : am_Mem}  (cx : am_Ctx l rm12_init yX12_init cX12_init 1 none none M' 30 10400 G)  {r0 : Nat} {M : am_Mem} (hres : fn12_init_b193  r0 M = some ((), M')) : G 193 [(0, .inr (.inr (.inl r0)))] [] M 23 9242 := by
  unfold fn12_init_b193 at hres
  refine am_aload_n cx 0 dX12_init_193 rfl ?_
  refine am_bipush cx (v := (14 : Int32)) dX12_init_194 (by decide) ?_
  refine am_newZ cx 14 dX12_init_196 aw_1_89 (by decide) (Nat.le_of_ble_eq_true rfl) (Nat.le_of_ble_eq_true rfl) (Nat.le_of_ble_eq_true rfl) ?_
  obtain ⟨q1, hres⟩ := am_ck_some hres
  refine am_putR cx dX12_init_198 fpX12_82 (fun _ => rfl) (Or.inr ⟨_, rfl⟩) (am_ke q1) ?_
  exact sn12_init_b201 cx  hres
set_option maxRecDepth 20000 in
theorem sn12_init_b185 {l : Launch} {G : am_G} {M' : am_Mem}  (cx : am_Ctx l rm12_init yX12_init cX12_init 1 none none M' 30 10400 G)  {r0 : Nat} {M : am_Mem} (hres : fn12_init_b185  r0 M = some ((), M')) : G 185 [(0, .inr (.inr (.inl r0)))] [] M 22 9178 := by
  unfold fn12_init_b185 at hres
  refine am_aload_n cx 0 dX12_init_185 rfl ?_
  refine am_bipush cx (v := (64 : Int32)) dX12_init_186 (by decide) ?_
  refine am_newJ cx 64 dX12_init_188 aw_1_88 (by decide) (Nat.le_of_ble_eq_true rfl) (Nat.le_of_ble_eq_true rfl) (Nat.le_of_ble_eq_true rfl) ?_
  obtain ⟨q1, hres⟩ := am_ck_some hres
  refine am_putR cx dX12_init_190 fpX12_79 (fun _ => rfl) (Or.inr ⟨_, rfl⟩) (am_ke q1) ?_
  exact sn12_init_b193 cx  hres
set_option maxRecDepth 20000 in
theorem sn12_init_b176 {l : Launch} {G : am_G} {M' : am_Mem}  (cx : am_Ctx l rm12_init yX12_init cX12_init 1 none none M' 30 10400 G)  {r0 : Nat} {M : am_Mem} (hres : fn12_init_b176  r0 M = some ((), M')) : G 176 [(0, .inr (.inr (.inl r0)))] [] M 21 7414 := by
  unfold fn12_init_b176 at hres
  refine am_aload_n cx 0 dX12_init_176 rfl ?_
  refine am_sipush cx (v := (1764 : Int32)) dX12_init_177 (by decide) ?_
  refine am_newI cx 1764 dX12_init_180 aw_1_90 (by decide) (Nat.le_of_ble_eq_true rfl) (Nat.le_of_ble_eq_true rfl) (Nat.le_of_ble_eq_true rfl) ?_
  obtain ⟨q1, hres⟩ := am_ck_some hres
  refine am_putR cx dX12_init_182 fpX12_76 (fun _ => rfl) (Or.inr ⟨_, rfl⟩) (am_ke q1) ?_
  exact sn12_init_b185 cx  hres
set_option maxRecDepth 20000 in
theorem sn12_init_b167 {l : Launch} {G : am_G} {M' : am_Mem}  (cx : am_Ctx l rm12_init yX12_init cX12_init 1 none none M' 30 10400 G)  {r0 : Nat} {M : am_Mem} (hres : fn12_init_b167  r0 M = some ((), M')) : G 167 [(0, .inr (.inr (.inl r0)))] [] M 20 5650 := by
  unfold fn12_init_b167 at hres
  refine am_aload_n cx 0 dX12_init_167 rfl ?_
  refine am_sipush cx (v := (1764 : Int32)) dX12_init_168 (by decide) ?_
  refine am_newI cx 1764 dX12_init_171 aw_1_90 (by decide) (Nat.le_of_ble_eq_true rfl) (Nat.le_of_ble_eq_true rfl) (Nat.le_of_ble_eq_true rfl) ?_
  obtain ⟨q1, hres⟩ := am_ck_some hres
  refine am_putR cx dX12_init_173 fpX12_73 (fun _ => rfl) (Or.inr ⟨_, rfl⟩) (am_ke q1) ?_
  exact sn12_init_b176 cx  hres
set_option maxRecDepth 20000 in
theorem sn12_init_b159 {l : Launch} {G : am_G} {M' : am_Mem}  (cx : am_Ctx l rm12_init yX12_init cX12_init 1 none none M' 30 10400 G)  {r0 : Nat} {M : am_Mem} (hres : fn12_init_b159  r0 M = some ((), M')) : G 159 [(0, .inr (.inr (.inl r0)))] [] M 19 5608 := by
  unfold fn12_init_b159 at hres
  refine am_aload_n cx 0 dX12_init_159 rfl ?_
  refine am_bipush cx (v := (42 : Int32)) dX12_init_160 (by decide) ?_
  refine am_newI cx 42 dX12_init_162 aw_1_90 (by decide) (Nat.le_of_ble_eq_true rfl) (Nat.le_of_ble_eq_true rfl) (Nat.le_of_ble_eq_true rfl) ?_
  obtain ⟨q1, hres⟩ := am_ck_some hres
  refine am_putR cx dX12_init_164 fpX12_70 (fun _ => rfl) (Or.inr ⟨_, rfl⟩) (am_ke q1) ?_
  exact sn12_init_b167 cx  hres
set_option maxRecDepth 20000 in
theorem sn12_init_b151 {l : Launch} {G : am_G} {M' : am_Mem}  (cx : am_Ctx l rm12_init yX12_init cX12_init 1 none none M' 30 10400 G)  {r0 : Nat} {M : am_Mem} (hres : fn12_init_b151  r0 M = some ((), M')) : G 151 [(0, .inr (.inr (.inl r0)))] [] M 18 5524 := by
  unfold fn12_init_b151 at hres
  refine am_aload_n cx 0 dX12_init_151 rfl ?_
  refine am_bipush cx (v := (84 : Int32)) dX12_init_152 (by decide) ?_
  refine am_newJ cx 84 dX12_init_154 aw_1_88 (by decide) (Nat.le_of_ble_eq_true rfl) (Nat.le_of_ble_eq_true rfl) (Nat.le_of_ble_eq_true rfl) ?_
  obtain ⟨q1, hres⟩ := am_ck_some hres
  refine am_putR cx dX12_init_156 fpX12_67 (fun _ => rfl) (Or.inr ⟨_, rfl⟩) (am_ke q1) ?_
  exact sn12_init_b159 cx  hres
set_option maxRecDepth 20000 in
theorem sn12_init_b143 {l : Launch} {G : am_G} {M' : am_Mem}  (cx : am_Ctx l rm12_init yX12_init cX12_init 1 none none M' 30 10400 G)  {r0 : Nat} {M : am_Mem} (hres : fn12_init_b143  r0 M = some ((), M')) : G 143 [(0, .inr (.inr (.inl r0)))] [] M 17 5470 := by
  unfold fn12_init_b143 at hres
  refine am_aload_n cx 0 dX12_init_143 rfl ?_
  refine am_bipush cx (v := (54 : Int32)) dX12_init_144 (by decide) ?_
  refine am_newJ cx 54 dX12_init_146 aw_1_88 (by decide) (Nat.le_of_ble_eq_true rfl) (Nat.le_of_ble_eq_true rfl) (Nat.le_of_ble_eq_true rfl) ?_
  obtain ⟨q1, hres⟩ := am_ck_some hres
  refine am_putR cx dX12_init_148 fpX12_64 (fun _ => rfl) (Or.inr ⟨_, rfl⟩) (am_ke q1) ?_
  exact sn12_init_b151 cx  hres
set_option maxRecDepth 20000 in
theorem sn12_init_b135 {l : Launch} {G : am_G} {M' : am_Mem}  (cx : am_Ctx l rm12_init yX12_init cX12_init 1 none none M' 30 10400 G)  {r0 : Nat} {M : am_Mem} (hres : fn12_init_b135  r0 M = some ((), M')) : G 135 [(0, .inr (.inr (.inl r0)))] [] M 16 5464 := by
  unfold fn12_init_b135 at hres
  refine am_aload_n cx 0 dX12_init_135 rfl ?_
  refine am_bipush cx (v := (6 : Int32)) dX12_init_136 (by decide) ?_
  refine am_newJ cx 6 dX12_init_138 aw_1_88 (by decide) (Nat.le_of_ble_eq_true rfl) (Nat.le_of_ble_eq_true rfl) (Nat.le_of_ble_eq_true rfl) ?_
  obtain ⟨q1, hres⟩ := am_ck_some hres
  refine am_putR cx dX12_init_140 fpX12_61 (fun _ => rfl) (Or.inr ⟨_, rfl⟩) (am_ke q1) ?_
  exact sn12_init_b143 cx  hres
set_option maxRecDepth 20000 in
theorem sn12_init_b127 {l : Launch} {G : am_G} {M' : am_Mem}  (cx : am_Ctx l rm12_init yX12_init cX12_init 1 none none M' 30 10400 G)  {r0 : Nat} {M : am_Mem} (hres : fn12_init_b127  r0 M = some ((), M')) : G 127 [(0, .inr (.inr (.inl r0)))] [] M 15 5458 := by
  unfold fn12_init_b127 at hres
  refine am_aload_n cx 0 dX12_init_127 rfl ?_
  refine am_bipush cx (v := (6 : Int32)) dX12_init_128 (by decide) ?_
  refine am_newI cx 6 dX12_init_130 aw_1_90 (by decide) (Nat.le_of_ble_eq_true rfl) (Nat.le_of_ble_eq_true rfl) (Nat.le_of_ble_eq_true rfl) ?_
  obtain ⟨q1, hres⟩ := am_ck_some hres
  refine am_putR cx dX12_init_132 fpX12_58 (fun _ => rfl) (Or.inr ⟨_, rfl⟩) (am_ke q1) ?_
  exact sn12_init_b135 cx  hres
set_option maxRecDepth 20000 in
theorem sn12_init_b119 {l : Launch} {G : am_G} {M' : am_Mem}  (cx : am_Ctx l rm12_init yX12_init cX12_init 1 none none M' 30 10400 G)  {r0 : Nat} {M : am_Mem} (hres : fn12_init_b119  r0 M = some ((), M')) : G 119 [(0, .inr (.inr (.inl r0)))] [] M 14 5452 := by
  unfold fn12_init_b119 at hres
  refine am_aload_n cx 0 dX12_init_119 rfl ?_
  refine am_bipush cx (v := (6 : Int32)) dX12_init_120 (by decide) ?_
  refine am_newI cx 6 dX12_init_122 aw_1_90 (by decide) (Nat.le_of_ble_eq_true rfl) (Nat.le_of_ble_eq_true rfl) (Nat.le_of_ble_eq_true rfl) ?_
  obtain ⟨q1, hres⟩ := am_ck_some hres
  refine am_putR cx dX12_init_124 fpX12_55 (fun _ => rfl) (Or.inr ⟨_, rfl⟩) (am_ke q1) ?_
  exact sn12_init_b127 cx  hres
set_option maxRecDepth 20000 in
theorem sn12_init_b110 {l : Launch} {G : am_G} {M' : am_Mem}  (cx : am_Ctx l rm12_init yX12_init cX12_init 1 none none M' 30 10400 G)  {r0 : Nat} {M : am_Mem} (hres : fn12_init_b110  r0 M = some ((), M')) : G 110 [(0, .inr (.inr (.inl r0)))] [] M 13 5284 := by
  unfold fn12_init_b110 at hres
  refine am_aload_n cx 0 dX12_init_110 rfl ?_
  refine am_sipush cx (v := (168 : Int32)) dX12_init_111 (by decide) ?_
  refine am_newI cx 168 dX12_init_114 aw_1_90 (by decide) (Nat.le_of_ble_eq_true rfl) (Nat.le_of_ble_eq_true rfl) (Nat.le_of_ble_eq_true rfl) ?_
  obtain ⟨q1, hres⟩ := am_ck_some hres
  refine am_putR cx dX12_init_116 fpX12_52 (fun _ => rfl) (Or.inr ⟨_, rfl⟩) (am_ke q1) ?_
  exact sn12_init_b119 cx  hres
set_option maxRecDepth 20000 in
theorem sn12_init_b102 {l : Launch} {G : am_G} {M' : am_Mem}  (cx : am_Ctx l rm12_init yX12_init cX12_init 1 none none M' 30 10400 G)  {r0 : Nat} {M : am_Mem} (hres : fn12_init_b102  r0 M = some ((), M')) : G 102 [(0, .inr (.inr (.inl r0)))] [] M 12 5278 := by
  unfold fn12_init_b102 at hres
  refine am_aload_n cx 0 dX12_init_102 rfl ?_
  refine am_bipush cx (v := (6 : Int32)) dX12_init_103 (by decide) ?_
  refine am_newI cx 6 dX12_init_105 aw_1_90 (by decide) (Nat.le_of_ble_eq_true rfl) (Nat.le_of_ble_eq_true rfl) (Nat.le_of_ble_eq_true rfl) ?_
  obtain ⟨q1, hres⟩ := am_ck_some hres
  refine am_putR cx dX12_init_107 fpX12_49 (fun _ => rfl) (Or.inr ⟨_, rfl⟩) (am_ke q1) ?_
  exact sn12_init_b110 cx  hres
set_option maxRecDepth 20000 in
theorem sn12_init_b94 {l : Launch} {G : am_G} {M' : am_Mem}  (cx : am_Ctx l rm12_init yX12_init cX12_init 1 none none M' 30 10400 G)  {r0 : Nat} {M : am_Mem} (hres : fn12_init_b94  r0 M = some ((), M')) : G 94 [(0, .inr (.inr (.inl r0)))] [] M 11 5272 := by
  unfold fn12_init_b94 at hres
  refine am_aload_n cx 0 dX12_init_94 rfl ?_
  refine am_bipush cx (v := (6 : Int32)) dX12_init_95 (by decide) ?_
  refine am_newI cx 6 dX12_init_97 aw_1_90 (by decide) (Nat.le_of_ble_eq_true rfl) (Nat.le_of_ble_eq_true rfl) (Nat.le_of_ble_eq_true rfl) ?_
  obtain ⟨q1, hres⟩ := am_ck_some hres
  refine am_putR cx dX12_init_99 fpX12_46 (fun _ => rfl) (Or.inr ⟨_, rfl⟩) (am_ke q1) ?_
  exact sn12_init_b102 cx  hres
set_option maxRecDepth 20000 in
theorem sn12_init_b86 {l : Launch} {G : am_G} {M' : am_Mem}  (cx : am_Ctx l rm12_init yX12_init cX12_init 1 none none M' 30 10400 G)  {r0 : Nat} {M : am_Mem} (hres : fn12_init_b86  r0 M = some ((), M')) : G 86 [(0, .inr (.inr (.inl r0)))] [] M 10 5266 := by
  unfold fn12_init_b86 at hres
  refine am_aload_n cx 0 dX12_init_86 rfl ?_
  refine am_bipush cx (v := (6 : Int32)) dX12_init_87 (by decide) ?_
  refine am_newI cx 6 dX12_init_89 aw_1_90 (by decide) (Nat.le_of_ble_eq_true rfl) (Nat.le_of_ble_eq_true rfl) (Nat.le_of_ble_eq_true rfl) ?_
  obtain ⟨q1, hres⟩ := am_ck_some hres
  refine am_putR cx dX12_init_91 fpX12_43 (fun _ => rfl) (Or.inr ⟨_, rfl⟩) (am_ke q1) ?_
  exact sn12_init_b94 cx  hres
set_option maxRecDepth 20000 in
theorem sn12_init_b79 {l : Launch} {G : am_G} {M' : am_Mem}  (cx : am_Ctx l rm12_init yX12_init cX12_init 1 none none M' 30 10400 G)  {r0 : Nat} {M : am_Mem} (hres : fn12_init_b79  r0 M = some ((), M')) : G 79 [(0, .inr (.inr (.inl r0)))] [] M 9 5264 := by
  unfold fn12_init_b79 at hres
  refine am_aload_n cx 0 dX12_init_79 rfl ?_
  refine am_iconst cx (v := (2 : Int32)) dX12_init_80 (by decide) ?_
  refine am_newZ cx 2 dX12_init_81 aw_1_89 (by decide) (Nat.le_of_ble_eq_true rfl) (Nat.le_of_ble_eq_true rfl) (Nat.le_of_ble_eq_true rfl) ?_
  obtain ⟨q1, hres⟩ := am_ck_some hres
  refine am_putR cx dX12_init_83 fpX12_39 (fun _ => rfl) (Or.inr ⟨_, rfl⟩) (am_ke q1) ?_
  exact sn12_init_b86 cx  hres
set_option maxRecDepth 20000 in
theorem sn12_init_b72 {l : Launch} {G : am_G} {M' : am_Mem}  (cx : am_Ctx l rm12_init yX12_init cX12_init 1 none none M' 30 10400 G)  {r0 : Nat} {M : am_Mem} (hres : fn12_init_b72  r0 M = some ((), M')) : G 72 [(0, .inr (.inr (.inl r0)))] [] M 8 5262 := by
  unfold fn12_init_b72 at hres
  refine am_aload_n cx 0 dX12_init_72 rfl ?_
  refine am_iconst cx (v := (2 : Int32)) dX12_init_73 (by decide) ?_
  refine am_newI cx 2 dX12_init_74 aw_1_90 (by decide) (Nat.le_of_ble_eq_true rfl) (Nat.le_of_ble_eq_true rfl) (Nat.le_of_ble_eq_true rfl) ?_
  obtain ⟨q1, hres⟩ := am_ck_some hres
  refine am_putR cx dX12_init_76 fpX12_36 (fun _ => rfl) (Or.inr ⟨_, rfl⟩) (am_ke q1) ?_
  exact sn12_init_b79 cx  hres
set_option maxRecDepth 20000 in
theorem sn12_init_b63 {l : Launch} {G : am_G} {M' : am_Mem}  (cx : am_Ctx l rm12_init yX12_init cX12_init 1 none none M' 30 10400 G)  {r0 : Nat} {M : am_Mem} (hres : fn12_init_b63  r0 M = some ((), M')) : G 63 [(0, .inr (.inr (.inl r0)))] [] M 7 2286 := by
  unfold fn12_init_b63 at hres
  refine am_aload_n cx 0 dX12_init_63 rfl ?_
  refine am_sipush cx (v := (2976 : Int32)) dX12_init_64 (by decide) ?_
  refine am_newI cx 2976 dX12_init_67 aw_1_90 (by decide) (Nat.le_of_ble_eq_true rfl) (Nat.le_of_ble_eq_true rfl) (Nat.le_of_ble_eq_true rfl) ?_
  obtain ⟨q1, hres⟩ := am_ck_some hres
  refine am_putR cx dX12_init_69 fpX12_33 (fun _ => rfl) (Or.inr ⟨_, rfl⟩) (am_ke q1) ?_
  exact sn12_init_b72 cx  hres
set_option maxRecDepth 20000 in
theorem sn12_init_b54 {l : Launch} {G : am_G} {M' : am_Mem}  (cx : am_Ctx l rm12_init yX12_init cX12_init 1 none none M' 30 10400 G)  {r0 : Nat} {M : am_Mem} (hres : fn12_init_b54  r0 M = some ((), M')) : G 54 [(0, .inr (.inr (.inl r0)))] [] M 6 798 := by
  unfold fn12_init_b54 at hres
  refine am_aload_n cx 0 dX12_init_54 rfl ?_
  refine am_sipush cx (v := (1488 : Int32)) dX12_init_55 (by decide) ?_
  refine am_newI cx 1488 dX12_init_58 aw_1_90 (by decide) (Nat.le_of_ble_eq_true rfl) (Nat.le_of_ble_eq_true rfl) (Nat.le_of_ble_eq_true rfl) ?_
  obtain ⟨q1, hres⟩ := am_ck_some hres
  refine am_putR cx dX12_init_60 fpX12_30 (fun _ => rfl) (Or.inr ⟨_, rfl⟩) (am_ke q1) ?_
  exact sn12_init_b63 cx  hres
set_option maxRecDepth 20000 in
theorem sn12_init_b45 {l : Launch} {G : am_G} {M' : am_Mem}  (cx : am_Ctx l rm12_init yX12_init cX12_init 1 none none M' 30 10400 G)  {r0 : Nat} {M : am_Mem} (hres : fn12_init_b45  r0 M = some ((), M')) : G 45 [(0, .inr (.inr (.inl r0)))] [] M 5 624 := by
  unfold fn12_init_b45 at hres
  refine am_aload_n cx 0 dX12_init_45 rfl ?_
  refine am_sipush cx (v := (174 : Int32)) dX12_init_46 (by decide) ?_
  refine am_newI cx 174 dX12_init_49 aw_1_90 (by decide) (Nat.le_of_ble_eq_true rfl) (Nat.le_of_ble_eq_true rfl) (Nat.le_of_ble_eq_true rfl) ?_
  obtain ⟨q1, hres⟩ := am_ck_some hres
  refine am_putR cx dX12_init_51 fpX12_27 (fun _ => rfl) (Or.inr ⟨_, rfl⟩) (am_ke q1) ?_
  exact sn12_init_b54 cx  hres
set_option maxRecDepth 20000 in
theorem sn12_init_b37 {l : Launch} {G : am_G} {M' : am_Mem}  (cx : am_Ctx l rm12_init yX12_init cX12_init 1 none none M' 30 10400 G)  {r0 : Nat} {M : am_Mem} (hres : fn12_init_b37  r0 M = some ((), M')) : G 37 [(0, .inr (.inr (.inl r0)))] [] M 4 618 := by
  unfold fn12_init_b37 at hres
  refine am_aload_n cx 0 dX12_init_37 rfl ?_
  refine am_bipush cx (v := (6 : Int32)) dX12_init_38 (by decide) ?_
  refine am_newI cx 6 dX12_init_40 aw_1_90 (by decide) (Nat.le_of_ble_eq_true rfl) (Nat.le_of_ble_eq_true rfl) (Nat.le_of_ble_eq_true rfl) ?_
  obtain ⟨q1, hres⟩ := am_ck_some hres
  refine am_putR cx dX12_init_42 fpX12_24 (fun _ => rfl) (Or.inr ⟨_, rfl⟩) (am_ke q1) ?_
  exact sn12_init_b45 cx  hres
set_option maxRecDepth 20000 in
theorem sn12_init_b29 {l : Launch} {G : am_G} {M' : am_Mem}  (cx : am_Ctx l rm12_init yX12_init cX12_init 1 none none M' 30 10400 G)  {r0 : Nat} {M : am_Mem} (hres : fn12_init_b29  r0 M = some ((), M')) : G 29 [(0, .inr (.inr (.inl r0)))] [] M 3 612 := by
  unfold fn12_init_b29 at hres
  refine am_aload_n cx 0 dX12_init_29 rfl ?_
  refine am_bipush cx (v := (6 : Int32)) dX12_init_30 (by decide) ?_
  refine am_newI cx 6 dX12_init_32 aw_1_90 (by decide) (Nat.le_of_ble_eq_true rfl) (Nat.le_of_ble_eq_true rfl) (Nat.le_of_ble_eq_true rfl) ?_
  obtain ⟨q1, hres⟩ := am_ck_some hres
  refine am_putR cx dX12_init_34 fpX12_21 (fun _ => rfl) (Or.inr ⟨_, rfl⟩) (am_ke q1) ?_
  exact sn12_init_b37 cx  hres
set_option maxRecDepth 20000 in
theorem sn12_init_b21 {l : Launch} {G : am_G} {M' : am_Mem}  (cx : am_Ctx l rm12_init yX12_init cX12_init 1 none none M' 30 10400 G)  {r0 : Nat} {M : am_Mem} (hres : fn12_init_b21  r0 M = some ((), M')) : G 21 [(0, .inr (.inr (.inl r0)))] [] M 2 606 := by
  unfold fn12_init_b21 at hres
  refine am_aload_n cx 0 dX12_init_21 rfl ?_
  refine am_bipush cx (v := (6 : Int32)) dX12_init_22 (by decide) ?_
  refine am_newI cx 6 dX12_init_24 aw_1_90 (by decide) (Nat.le_of_ble_eq_true rfl) (Nat.le_of_ble_eq_true rfl) (Nat.le_of_ble_eq_true rfl) ?_
  obtain ⟨q1, hres⟩ := am_ck_some hres
  refine am_putR cx dX12_init_26 fpX12_17 (fun _ => rfl) (Or.inr ⟨_, rfl⟩) (am_ke q1) ?_
  exact sn12_init_b29 cx  hres
set_option maxRecDepth 20000 in
theorem sn12_init_b13 {l : Launch} {G : am_G} {M' : am_Mem}  (cx : am_Ctx l rm12_init yX12_init cX12_init 1 none none M' 30 10400 G)  {r0 : Nat} {M : am_Mem} (hres : fn12_init_b13  r0 M = some ((), M')) : G 13 [(0, .inr (.inr (.inl r0)))] [] M 1 600 := by
  unfold fn12_init_b13 at hres
  refine am_aload_n cx 0 dX12_init_13 rfl ?_
  refine am_bipush cx (v := (6 : Int32)) dX12_init_14 (by decide) ?_
  refine am_newJ cx 6 dX12_init_16 aw_1_88 (by decide) (Nat.le_of_ble_eq_true rfl) (Nat.le_of_ble_eq_true rfl) (Nat.le_of_ble_eq_true rfl) ?_
  obtain ⟨q1, hres⟩ := am_ck_some hres
  refine am_putR cx dX12_init_18 fpX12_13 (fun _ => rfl) (Or.inr ⟨_, rfl⟩) (am_ke q1) ?_
  exact sn12_init_b21 cx  hres
set_option maxRecDepth 20000 in
theorem sn12_init_b0 {l : Launch} {G : am_G} {M' : am_Mem}  (cx : am_Ctx l rm12_init yX12_init cX12_init 1 none none M' 30 10400 G)  {r0 : Nat} {M : am_Mem} (hres : fn12_init_b0  r0 M = some ((), M')) : G 0 [(0, .inr (.inr (.inl r0)))] [] M 0 0 := by
  unfold fn12_init_b0 at hres
  refine am_aload_n cx 0 dX12_init_0 rfl ?_
  obtain ⟨q1, hres⟩ := am_ck_some hres
  refine am_objInit cx dX12_init_1 aw_4_234 aw_1_31 aw_1_32 (by rw [show am_K _ _ = 12 from (am_ke q1)]; decide) (Nat.le_of_ble_eq_true rfl) (Nat.le_of_ble_eq_true rfl) ?_
  refine am_aload_n cx 0 dX12_init_4 rfl ?_
  refine am_sipush cx (v := (600 : Int32)) dX12_init_5 (by decide) ?_
  refine am_newB cx 600 dX12_init_8 aw_1_87 (by decide) (Nat.le_of_ble_eq_true rfl) (Nat.le_of_ble_eq_true rfl) (Nat.le_of_ble_eq_true rfl) ?_
  obtain ⟨q2, hres⟩ := am_ck_some hres
  refine am_putR cx dX12_init_10 fpX12_7 (fun _ => rfl) (Or.inr ⟨_, rfl⟩) (am_ke q2) ?_
  exact sn12_init_b13 cx  hres
set_option maxRecDepth 20000 in
theorem mt12_init {l : Launch} {M M' : am_Mem} {r0 : Nat} (h : fn12_init M r0 = some ((), M')) : am_Met l yX12_init cX12_init 1 none rm12_init 30 10400 [.inr (.inr (.inl r0))] M none M' := am_mk (by decide) (Nat.le_of_ble_eq_true rfl) (fun G cx => (sn12_init_b0 cx h))
-- SquareCutsModel.thrown
def fn12_thrown_b0  (r0 : Nat) (M : am_Mem) : Option (Int32 × am_Mem) :=
  am_ck (am_k M r0 12) (some ((am_I M r0 0), M))
def fn12_thrown (M : am_Mem) (r0 : Nat) : Option (Int32 × am_Mem) := fn12_thrown_b0  r0 M
def rm12_thrown : Room := { frames := 0, cells := 0, slots := 0, locals := 0 }
set_option maxRecDepth 20000 in
theorem sn12_thrown_b0 {l : Launch} {G : am_G} {v : Int32} {M' : am_Mem}  (cx : am_Ctx l rm12_thrown yX12_thrown cX12_thrown 1 (some .int) (some (.inl v)) M' 0 0 G)  {r0 : Nat} {M : am_Mem} (hres : fn12_thrown_b0  r0 M = some (v, M')) : G 0 [(0, .inr (.inr (.inl r0)))] [] M 0 0 := by
  unfold fn12_thrown_b0 at hres
  refine am_aload_n cx 0 dX12_thrown_0 rfl ?_
  obtain ⟨q1, hres⟩ := am_ck_some hres
  refine am_getI cx dX12_thrown_1 flX12_103 (am_ke q1) ?_
  obtain ⟨rfl, rfl⟩ := am_fin hres
  exact am_iret cx dX12_thrown_4
set_option maxRecDepth 20000 in
theorem mt12_thrown {l : Launch} {v : Int32} {M M' : am_Mem} {r0 : Nat} (h : fn12_thrown M r0 = some (v, M')) : am_Met l yX12_thrown cX12_thrown 1 (some .int) rm12_thrown 0 0 [.inr (.inr (.inl r0))] M (some (.inl v)) M' := am_mk (by decide) (Nat.le_of_ble_eq_true rfl) (fun G cx => (sn12_thrown_b0 cx h))
-- SquareCutsModel.within
def fn12_within_b18  (a0 : Int32) (M : am_Mem) : Option (Int32 × am_Mem) :=
  am_ck (a0 == 0 || a0 == 1) (some (a0, M))
def fn12_within_b17   (M : am_Mem) : Option (Int32 × am_Mem) :=
  fn12_within_b18  (0 : Int32) M
def fn12_within_b0  (j0 : Int64) (j2 : Int64) (j4 : Int64) (M : am_Mem) : Option (Int32 × am_Mem) :=
  if (lg_cmp j0 j2) < 0 then fn12_within_b17   M else if 0 < (lg_cmp j0 j4) then fn12_within_b17   M else fn12_within_b18  (1 : Int32) M
def fn12_within (M : am_Mem) (j0 : Int64) (j2 : Int64) (j4 : Int64) : Option (Int32 × am_Mem) := fn12_within_b0  j0 j2 j4 M
def rm12_within : Room := { frames := 0, cells := 0, slots := 0, locals := 0 }
set_option maxRecDepth 20000 in
theorem sn12_within_b18 {l : Launch} {G : am_G} {v : Int32} {M' : am_Mem}  (cx : am_Ctx l rm12_within yX12_within cX12_within 6 (some .boolean) (some (.inl v)) M' 0 0 G)  {a0 : Int32} {M : am_Mem} (hres : fn12_within_b18  a0 M = some (v, M')) : G 18 [] [.inl a0] M 0 0 := by
  unfold fn12_within_b18 at hres
  obtain ⟨q1, hres⟩ := am_ck_some hres
  obtain ⟨rfl, rfl⟩ := am_fin hres
  exact am_zret cx q1 dX12_within_18
set_option maxRecDepth 20000 in
theorem sn12_within_b17 {l : Launch} {G : am_G} {v : Int32} {M' : am_Mem}  (cx : am_Ctx l rm12_within yX12_within cX12_within 6 (some .boolean) (some (.inl v)) M' 0 0 G)   {M : am_Mem} (hres : fn12_within_b17   M = some (v, M')) : G 17 [] [] M 0 0 := by
  unfold fn12_within_b17 at hres
  refine am_iconst cx (v := (0 : Int32)) dX12_within_17 (by decide) ?_
  exact sn12_within_b18 cx  hres
set_option maxRecDepth 20000 in
theorem sn12_within_b0 {l : Launch} {G : am_G} {v : Int32} {M' : am_Mem}  (cx : am_Ctx l rm12_within yX12_within cX12_within 6 (some .boolean) (some (.inl v)) M' 0 0 G)  {j0 : Int64} {j2 : Int64} {j4 : Int64} {M : am_Mem} (hres : fn12_within_b0  j0 j2 j4 M = some (v, M')) : G 0 [(0, .inr (.inl j0)), (2, .inr (.inl j2)), (4, .inr (.inl j4))] [] M 0 0 := by
  unfold fn12_within_b0 at hres
  refine am_lload_n cx 0 dX12_within_0 rfl ?_
  refine am_lload_n cx 1 dX12_within_1 rfl ?_
  refine am_lcmp cx dX12_within_2 ?_
  refine am_if_lt cx (tgt := 17) dX12_within_3 (by decide) (fun h => ?_) (fun h => ?_)
  · have hres := am_ifp h hres
    refine am_sub cx [] rfl ?_
    exact sn12_within_b17 cx  hres
  · have hres := am_ifn h hres
    refine am_lload_n cx 0 dX12_within_6 rfl ?_
    refine am_lload cx 2 dX12_within_7 rfl ?_
    refine am_lcmp cx dX12_within_9 ?_
    refine am_if_gt cx (tgt := 17) dX12_within_10 (by decide) (fun h => ?_) (fun h => ?_)
    · have hres := am_ifp h hres
      refine am_sub cx [] rfl ?_
      exact sn12_within_b17 cx  hres
    · have hres := am_ifn h hres
      refine am_iconst cx (v := (1 : Int32)) dX12_within_13 (by decide) ?_
      refine am_goto cx (tgt := 18) dX12_within_14 (by decide) ?_
      refine am_sub cx [] rfl ?_
      exact sn12_within_b18 cx  hres
set_option maxRecDepth 20000 in
theorem mt12_within {l : Launch} {v : Int32} {M M' : am_Mem} {j0 : Int64} {j2 : Int64} {j4 : Int64} (h : fn12_within M j0 j2 j4 = some (v, M')) : am_Met l yX12_within cX12_within 6 (some .boolean) rm12_within 0 0 [.inr (.inl j0), .inr (.inl j2), .inr (.inl j4)] M (some (.inl v)) M' := am_mk (by decide) (Nat.le_of_ble_eq_true rfl) (fun G cx => (sn12_within_b0 cx h))
-- SquareCutsModel.puts
def fn12_puts_b3B (N : Nat) (k3 : Nat → Int32 → Int32 → am_Mem → Option (Unit × am_Mem)) (r0 : Nat) (x1 : Int32) (x2 : Int32) (M : am_Mem) : Option (Unit × am_Mem) :=
  if x2 < 0 then some ((), M) else am_ck (am_k M r0 12) (am_ck (am_k M (am_R M r0 1) 13) (am_ck (am_in (am_I M r0 2) (am_L M (am_R M r0 1))) (k3 r0 x1 (x2 + (-8 : Int32)) (am_wI (am_wI M (am_R M r0 1) (am_I M r0 2).toNatClampNeg (((x1 >>> (x2 &&& 31)).toInt8.toInt32).toInt8.toInt32)) r0 2 ((am_I (am_wI M (am_R M r0 1) (am_I M r0 2).toNatClampNeg (((x1 >>> (x2 &&& 31)).toInt8.toInt32).toInt8.toInt32)) r0 2) + (1 : Int32))))))
def fn12_puts_b3 (N : Nat)  : Nat → Nat → Int32 → Int32 → am_Mem → Option (Unit × am_Mem)
  | 0 => fun _ _ _ _ => none
  | i + 1 => fn12_puts_b3B N (fn12_puts_b3 N  i)
def fn12_puts_b0 (N : Nat)  (r0 : Nat) (x1 : Int32) (M : am_Mem) : Option (Unit × am_Mem) :=
  fn12_puts_b3 N  N r0 x1 (24 : Int32) M
def fn12_puts (N : Nat) (M : am_Mem) (r0 : Nat) (x1 : Int32) : Option (Unit × am_Mem) := fn12_puts_b0 N r0 x1 M
def rm12_puts : Room := { frames := 0, cells := 0, slots := 0, locals := 0 }
set_option maxRecDepth 20000 in
theorem sn12_puts_b3B {l : Launch} {G : am_G} {M' : am_Mem} {N : Nat} {k3 : Nat → Int32 → Int32 → am_Mem → Option (Unit × am_Mem)} (cx : am_Ctx l rm12_puts yX12_puts cX12_puts 3 none none M' 0 0 G) (hk3 : ∀ (r0 : Nat) (x1 : Int32) (x2 : Int32) (M : am_Mem), k3 r0 x1 x2 M = some ((), M') → G 3 [(0, .inr (.inr (.inl r0))), (1, .inl x1), (2, .inl x2)] [] M 0 0) {r0 : Nat} {x1 : Int32} {x2 : Int32} {M : am_Mem} (hres : fn12_puts_b3B N k3 r0 x1 x2 M = some ((), M')) : G 3 [(0, .inr (.inr (.inl r0))), (1, .inl x1), (2, .inl x2)] [] M 0 0 := by
  unfold fn12_puts_b3B at hres
  refine am_iload_n cx 2 dX12_puts_3 rfl ?_
  refine am_if_lt cx (tgt := 36) dX12_puts_4 (by decide) (fun h => ?_) (fun h => ?_)
  · have hres := am_ifp h hres
    obtain ⟨-, rfl⟩ := am_fin hres
    exact am_vret cx dX12_puts_36
  · have hres := am_ifn h hres
    refine am_aload_n cx 0 dX12_puts_7 rfl ?_
    obtain ⟨q1, hres⟩ := am_ck_some hres
    refine am_getR cx dX12_puts_8 flX12_7 (am_ke q1) ?_
    refine am_aload_n cx 0 dX12_puts_11 rfl ?_
    refine am_getI cx dX12_puts_12 flX12_107 (am_ke q1) ?_
    refine am_iload_n cx 1 dX12_puts_15 rfl ?_
    refine am_iload_n cx 2 dX12_puts_16 rfl ?_
    refine am_ishr cx dX12_puts_17 ?_
    refine am_i2b cx dX12_puts_18 ?_
    obtain ⟨q2, hres⟩ := am_ck_some hres
    obtain ⟨q3, hres⟩ := am_ck_some hres
    refine am_bast cx dX12_puts_19 (am_ke q2) q3  ?_
    refine am_aload_n cx 0 dX12_puts_20 rfl ?_
    refine am_dup cx dX12_puts_21 rfl ?_
    refine am_getI cx dX12_puts_22 flX12_107 (am_ke q1) ?_
    refine am_iconst cx (v := (1 : Int32)) dX12_puts_25 (by decide) ?_
    refine am_iadd cx dX12_puts_26 ?_
    refine am_putI cx dX12_puts_27 fpX12_107 (fun h => by cases h) (am_ke q1) ?_
    refine am_iincw cx (lv' := [(0, .inr (.inr (.inl r0))), (1, .inl x1), (2, .inl (x2 + (-8 : Int32)))]) (w := (-8 : Int32)) 2 dX12_puts_30 (by decide) rfl (Nat.le_of_ble_eq_true rfl) rfl ?_
    refine am_goto cx (tgt := 3) dX12_puts_33 (by decide) ?_
    exact hk3 _ _ _ _ hres
set_option maxRecDepth 20000 in
theorem sn12_puts_b3 {l : Launch} {G : am_G} {M' : am_Mem} {N : Nat}  (cx : am_Ctx l rm12_puts yX12_puts cX12_puts 3 none none M' 0 0 G)  (i : Nat) : ∀ (r0 : Nat) (x1 : Int32) (x2 : Int32) (M : am_Mem), fn12_puts_b3 N  i r0 x1 x2 M = some ((), M') → G 3 [(0, .inr (.inr (.inl r0))), (1, .inl x1), (2, .inl x2)] [] M 0 0 := by
  induction i with
  | zero => intro r0 x1 x2 M hres; exact am_no hres
  | succ i ih => intro r0 x1 x2 M hres; exact sn12_puts_b3B cx ih hres
set_option maxRecDepth 20000 in
theorem sn12_puts_b0 {l : Launch} {G : am_G} {M' : am_Mem} {N : Nat}  (cx : am_Ctx l rm12_puts yX12_puts cX12_puts 3 none none M' 0 0 G)  {r0 : Nat} {x1 : Int32} {M : am_Mem} (hres : fn12_puts_b0 N  r0 x1 M = some ((), M')) : G 0 [(0, .inr (.inr (.inl r0))), (1, .inl x1)] [] M 0 0 := by
  unfold fn12_puts_b0 at hres
  refine am_bipush cx (v := (24 : Int32)) dX12_puts_0 (by decide) ?_
  refine am_istore_n cx (lv' := [(0, .inr (.inr (.inl r0))), (1, .inl x1), (2, .inl (24 : Int32))]) dX12_puts_2 (Nat.le_of_ble_eq_true rfl) rfl ?_
  exact sn12_puts_b3 cx  N _ _ _ _ hres
set_option maxRecDepth 20000 in
theorem mt12_puts {l : Launch} {M M' : am_Mem} {N : Nat} {r0 : Nat} {x1 : Int32} (h : fn12_puts N M r0 x1 = some ((), M')) : am_Met l yX12_puts cX12_puts 3 none rm12_puts 0 0 [.inr (.inr (.inl r0)), .inl x1] M none M' := am_mk (by decide) (Nat.le_of_ble_eq_true rfl) (fun G cx => (sn12_puts_b0 cx h))
-- SquareCutsModel.feed
def fn12_feed_b0 (N : Nat)  (r0 : Nat) (x1 : Int32) (x2 : Int32) (x3 : Int32) (x4 : Int32) (x5 : Int32) (M : am_Mem) : Option (Int32 × am_Mem) :=
  am_ck (am_k M r0 12) (if ((am_I (am_wI M r0 0 (0 : Int32)) r0 2) + (20 : Int32)) ≤ (600 : Int32) then am_bd (fn12_puts N (am_wI M r0 0 (0 : Int32)) r0 x1) (fun v2 M3 => am_ck (am_k M3 r0 12) (am_bd (fn12_puts N M3 r0 x2) (fun v6 M7 => am_ck (am_k M7 r0 12) (am_bd (fn12_puts N M7 r0 x3) (fun v10 M11 => am_ck (am_k M11 r0 12) (am_bd (fn12_puts N M11 r0 x4) (fun v14 M15 => am_ck (am_k M15 r0 12) (am_bd (fn12_puts N M15 r0 x5) (fun v18 M19 => am_ck (am_k M19 r0 12) (some ((am_I M19 r0 2), M19))))))))))) else some ((-1 : Int32), (am_wI M r0 0 (0 : Int32))))
def fn12_feed (N : Nat) (M : am_Mem) (r0 : Nat) (x1 : Int32) (x2 : Int32) (x3 : Int32) (x4 : Int32) (x5 : Int32) : Option (Int32 × am_Mem) := fn12_feed_b0 N r0 x1 x2 x3 x4 x5 M
def rm12_feed : Room := { frames := 1, cells := 0, slots := 0, locals := 22 }
set_option maxRecDepth 20000 in
theorem sn12_feed_b0 {l : Launch} {G : am_G} {v : Int32} {M' : am_Mem} {N : Nat}  (cx : am_Ctx l rm12_feed yX12_feed cX12_feed 6 (some .int) (some (.inl v)) M' 0 0 G)  {r0 : Nat} {x1 : Int32} {x2 : Int32} {x3 : Int32} {x4 : Int32} {x5 : Int32} {M : am_Mem} (hres : fn12_feed_b0 N  r0 x1 x2 x3 x4 x5 M = some (v, M')) : G 0 [(0, .inr (.inr (.inl r0))), (1, .inl x1), (2, .inl x2), (3, .inl x3), (4, .inl x4), (5, .inl x5)] [] M 0 0 := by
  unfold fn12_feed_b0 at hres
  refine am_aload_n cx 0 dX12_feed_0 rfl ?_
  refine am_iconst cx (v := (0 : Int32)) dX12_feed_1 (by decide) ?_
  obtain ⟨q1, hres⟩ := am_ck_some hres
  refine am_putI cx dX12_feed_2 fpX12_103 (fun h => by cases h) (am_ke q1) ?_
  refine am_aload_n cx 0 dX12_feed_5 rfl ?_
  refine am_getI cx dX12_feed_6 flX12_107 (am_ke q1) ?_
  refine am_bipush cx (v := (20 : Int32)) dX12_feed_9 (by decide) ?_
  refine am_iadd cx dX12_feed_11 ?_
  refine am_sipush cx (v := (600 : Int32)) dX12_feed_12 (by decide) ?_
  refine am_icmp_le cx (tgt := 20) dX12_feed_15 (by decide) (fun h => ?_) (fun h => ?_)
  · have hres := am_ifp h hres
    refine am_aload_n cx 0 dX12_feed_20 rfl ?_
    refine am_iload_n cx 1 dX12_feed_21 rfl ?_
    obtain ⟨v2, M3, q4, hres⟩ := am_bd_some hres
    refine am_callV0 cx [.inl x1] dX12_feed_22 cvX12_110 (mt12_puts q4) (am_ke q1) ⟨rfl, rfl, Nat.le_of_ble_eq_true rfl, Nat.le_of_ble_eq_true rfl⟩ rfl (Nat.le_of_ble_eq_true rfl) ⟨Nat.le_of_ble_eq_true rfl, Nat.le_of_ble_eq_true rfl⟩ ?_
    refine am_aload_n cx 0 dX12_feed_25 rfl ?_
    refine am_iload_n cx 2 dX12_feed_26 rfl ?_
    obtain ⟨q5, hres⟩ := am_ck_some hres
    obtain ⟨v6, M7, q8, hres⟩ := am_bd_some hres
    refine am_callV0 cx [.inl x2] dX12_feed_27 cvX12_110 (mt12_puts q8) (am_ke q5) ⟨rfl, rfl, Nat.le_of_ble_eq_true rfl, Nat.le_of_ble_eq_true rfl⟩ rfl (Nat.le_of_ble_eq_true rfl) ⟨Nat.le_of_ble_eq_true rfl, Nat.le_of_ble_eq_true rfl⟩ ?_
    refine am_aload_n cx 0 dX12_feed_30 rfl ?_
    refine am_iload_n cx 3 dX12_feed_31 rfl ?_
    obtain ⟨q9, hres⟩ := am_ck_some hres
    obtain ⟨v10, M11, q12, hres⟩ := am_bd_some hres
    refine am_callV0 cx [.inl x3] dX12_feed_32 cvX12_110 (mt12_puts q12) (am_ke q9) ⟨rfl, rfl, Nat.le_of_ble_eq_true rfl, Nat.le_of_ble_eq_true rfl⟩ rfl (Nat.le_of_ble_eq_true rfl) ⟨Nat.le_of_ble_eq_true rfl, Nat.le_of_ble_eq_true rfl⟩ ?_
    refine am_aload_n cx 0 dX12_feed_35 rfl ?_
    refine am_iload cx 4 dX12_feed_36 rfl ?_
    obtain ⟨q13, hres⟩ := am_ck_some hres
    obtain ⟨v14, M15, q16, hres⟩ := am_bd_some hres
    refine am_callV0 cx [.inl x4] dX12_feed_38 cvX12_110 (mt12_puts q16) (am_ke q13) ⟨rfl, rfl, Nat.le_of_ble_eq_true rfl, Nat.le_of_ble_eq_true rfl⟩ rfl (Nat.le_of_ble_eq_true rfl) ⟨Nat.le_of_ble_eq_true rfl, Nat.le_of_ble_eq_true rfl⟩ ?_
    refine am_aload_n cx 0 dX12_feed_41 rfl ?_
    refine am_iload cx 5 dX12_feed_42 rfl ?_
    obtain ⟨q17, hres⟩ := am_ck_some hres
    obtain ⟨v18, M19, q20, hres⟩ := am_bd_some hres
    refine am_callV0 cx [.inl x5] dX12_feed_44 cvX12_110 (mt12_puts q20) (am_ke q17) ⟨rfl, rfl, Nat.le_of_ble_eq_true rfl, Nat.le_of_ble_eq_true rfl⟩ rfl (Nat.le_of_ble_eq_true rfl) ⟨Nat.le_of_ble_eq_true rfl, Nat.le_of_ble_eq_true rfl⟩ ?_
    refine am_aload_n cx 0 dX12_feed_47 rfl ?_
    obtain ⟨q21, hres⟩ := am_ck_some hres
    refine am_getI cx dX12_feed_48 flX12_107 (am_ke q21) ?_
    obtain ⟨rfl, rfl⟩ := am_fin hres
    exact am_iret cx dX12_feed_51
  · have hres := am_ifn h hres
    refine am_iconst cx (v := (-1 : Int32)) dX12_feed_18 (by decide) ?_
    obtain ⟨rfl, rfl⟩ := am_fin hres
    exact am_iret cx dX12_feed_19
set_option maxRecDepth 20000 in
theorem mt12_feed {l : Launch} {v : Int32} {M M' : am_Mem} {N : Nat} {r0 : Nat} {x1 : Int32} {x2 : Int32} {x3 : Int32} {x4 : Int32} {x5 : Int32} (h : fn12_feed N M r0 x1 x2 x3 x4 x5 = some (v, M')) : am_Met l yX12_feed cX12_feed 6 (some .int) rm12_feed 0 0 [.inr (.inr (.inl r0)), .inl x1, .inl x2, .inl x3, .inl x4, .inl x5] M (some (.inl v)) M' := am_mk (by decide) (Nat.le_of_ble_eq_true rfl) (fun G cx => (sn12_feed_b0 cx h))
-- SquareCutsModel.see
def fn12_see_b22  (a0 : Int32) (M : am_Mem) : Option (Int32 × am_Mem) :=
  some (a0, M)
def fn12_see_b0  (r0 : Nat) (x1 : Int32) (M : am_Mem) : Option (Int32 × am_Mem) :=
  am_ck (am_k M r0 12) (if (am_I M r0 3) ≤ x1 then fn12_see_b22  (-1 : Int32) M else am_ck (am_k M (am_R M r0 1) 13) (am_ck (am_in x1 (am_L M (am_R M r0 1))) (fn12_see_b22  ((am_I M (am_R M r0 1) x1.toNatClampNeg) &&& (255 : Int32)) M)))
def fn12_see (M : am_Mem) (r0 : Nat) (x1 : Int32) : Option (Int32 × am_Mem) := fn12_see_b0  r0 x1 M
def rm12_see : Room := { frames := 0, cells := 0, slots := 0, locals := 0 }
set_option maxRecDepth 20000 in
theorem sn12_see_b22 {l : Launch} {G : am_G} {v : Int32} {M' : am_Mem}  (cx : am_Ctx l rm12_see yX12_see cX12_see 2 (some .int) (some (.inl v)) M' 0 0 G)  {a0 : Int32} {M : am_Mem} (hres : fn12_see_b22  a0 M = some (v, M')) : G 22 [] [.inl a0] M 0 0 := by
  unfold fn12_see_b22 at hres
  obtain ⟨rfl, rfl⟩ := am_fin hres
  exact am_iret cx dX12_see_22
set_option maxRecDepth 20000 in
theorem sn12_see_b0 {l : Launch} {G : am_G} {v : Int32} {M' : am_Mem}  (cx : am_Ctx l rm12_see yX12_see cX12_see 2 (some .int) (some (.inl v)) M' 0 0 G)  {r0 : Nat} {x1 : Int32} {M : am_Mem} (hres : fn12_see_b0  r0 x1 M = some (v, M')) : G 0 [(0, .inr (.inr (.inl r0))), (1, .inl x1)] [] M 0 0 := by
  unfold fn12_see_b0 at hres
  refine am_iload_n cx 1 dX12_see_0 rfl ?_
  refine am_aload_n cx 0 dX12_see_1 rfl ?_
  obtain ⟨q1, hres⟩ := am_ck_some hres
  refine am_getI cx dX12_see_2 flX12_114 (am_ke q1) ?_
  refine am_icmp_ge cx (tgt := 21) dX12_see_5 (by decide) (fun h => ?_) (fun h => ?_)
  · have hres := am_ifp h hres
    refine am_iconst cx (v := (-1 : Int32)) dX12_see_21 (by decide) ?_
    refine am_sub cx [] rfl ?_
    exact sn12_see_b22 cx  hres
  · have hres := am_ifn h hres
    refine am_aload_n cx 0 dX12_see_8 rfl ?_
    refine am_getR cx dX12_see_9 flX12_7 (am_ke q1) ?_
    refine am_iload_n cx 1 dX12_see_12 rfl ?_
    obtain ⟨q2, hres⟩ := am_ck_some hres
    obtain ⟨q3, hres⟩ := am_ck_some hres
    refine am_bald cx dX12_see_13 (am_ke q2) q3 ?_
    refine am_sipush cx (v := (255 : Int32)) dX12_see_14 (by decide) ?_
    refine am_iand cx dX12_see_17 ?_
    refine am_goto cx (tgt := 22) dX12_see_18 (by decide) ?_
    refine am_sub cx [] rfl ?_
    exact sn12_see_b22 cx  hres
set_option maxRecDepth 20000 in
theorem mt12_see {l : Launch} {v : Int32} {M M' : am_Mem} {r0 : Nat} {x1 : Int32} (h : fn12_see M r0 x1 = some (v, M')) : am_Met l yX12_see cX12_see 2 (some .int) rm12_see 0 0 [.inr (.inr (.inl r0)), .inl x1] M (some (.inl v)) M' := am_mk (by decide) (Nat.le_of_ble_eq_true rfl) (fun G cx => (sn12_see_b0 cx h))
-- SquareCutsModel.steps
def fn12_steps_b34 (N : Nat) (k8 : Nat → am_Mem → Option (Unit × am_Mem)) (r0 : Nat) (M : am_Mem) : Option (Unit × am_Mem) :=
  am_ck (am_k M r0 12) (k8 r0 (am_wI M r0 4 ((am_I M r0 4) + (1 : Int32))))
def fn12_steps_b393 (N : Nat)   (M : am_Mem) : Option (Unit × am_Mem) :=
  some ((), M)
def fn12_steps_b390 (N : Nat)  (c0 : Nat) (a1 : Int32) (M : am_Mem) : Option (Unit × am_Mem) :=
  am_ck (am_k M c0 12) (fn12_steps_b393 N   (am_wI M c0 6 a1))
def fn12_steps_b355 (N : Nat) (k294 : Nat → am_Mem → Option (Unit × am_Mem)) (c0 : Nat) (a1 : Int32) (r0 : Nat) (M : am_Mem) : Option (Unit × am_Mem) :=
  am_ck (am_k M c0 12) (am_ck (am_k M r0 12) (k294 r0 (am_wI (am_wI M c0 7 a1) r0 5 ((am_I (am_wI M c0 7 a1) r0 5) + (1 : Int32)))))
def fn12_steps_b294B (N : Nat) (k294 : Nat → am_Mem → Option (Unit × am_Mem)) (r0 : Nat) (M : am_Mem) : Option (Unit × am_Mem) :=
  am_ck (am_k M r0 12) (am_bd (fn12_see M r0 (am_I M r0 5)) (fun v2 M3 => am_bd (fn12_within M3 v2.toInt64 (48 : Int64) (57 : Int64)) (fun v5 M6 => if v5 = 0 then am_ck (am_k M6 r0 12) (if (5 : Int32) ≤ ((am_I M6 r0 5) - (am_I M6 r0 4)) then fn12_steps_b390 N  r0 (4 : Int32) M6 else fn12_steps_b390 N  r0 (2 : Int32) M6) else am_ck (am_k M6 r0 12) (if (4 : Int32) ≤ ((am_I M6 r0 5) - (am_I M6 r0 4)) then fn12_steps_b355 N k294 r0 (am_I M6 r0 7) r0 M6 else am_bd (fn12_see M6 r0 (am_I M6 r0 5)) (fun v10 M11 => fn12_steps_b355 N k294 r0 ((((10 : Int32) * (am_I M6 r0 7)) + v10) - (48 : Int32)) r0 M11)))))
def fn12_steps_b294 (N : Nat)  : Nat → Nat → am_Mem → Option (Unit × am_Mem)
  | 0 => fun _ _ => none
  | i + 1 => fn12_steps_b294B N (fn12_steps_b294 N  i)
def fn12_steps_b266 (N : Nat)  (c0 : Nat) (a1 : Int32) (M : am_Mem) : Option (Unit × am_Mem) :=
  am_ck (am_k M c0 12) (fn12_steps_b393 N   (am_wI M c0 6 a1))
def fn12_steps_b230 (N : Nat) (k167 : Nat → am_Mem → Option (Unit × am_Mem)) (c0 : Nat) (b1 : Int64) (r0 : Nat) (M : am_Mem) : Option (Unit × am_Mem) :=
  am_ck (am_k M c0 12) (am_ck (am_k M r0 12) (k167 r0 (am_wI (am_wJ M c0 8 b1) r0 5 ((am_I M r0 5) + (1 : Int32)))))
def fn12_steps_b167B (N : Nat) (k167 : Nat → am_Mem → Option (Unit × am_Mem)) (r0 : Nat) (M : am_Mem) : Option (Unit × am_Mem) :=
  am_ck (am_k M r0 12) (am_bd (fn12_see M r0 (am_I M r0 5)) (fun v2 M3 => am_bd (fn12_within M3 v2.toInt64 (97 : Int64) (122 : Int64)) (fun v5 M6 => if v5 = 0 then am_ck (am_k M6 r0 12) (if (7 : Int32) ≤ ((am_I M6 r0 5) - (am_I M6 r0 4)) then fn12_steps_b266 N  r0 (4 : Int32) M6 else fn12_steps_b266 N  r0 (1 : Int32) M6) else am_ck (am_k M6 r0 12) (if (6 : Int32) ≤ ((am_I M6 r0 5) - (am_I M6 r0 4)) then fn12_steps_b230 N k167 r0 (am_J M6 r0 8) r0 M6 else am_bd (fn12_see M6 r0 (am_I M6 r0 5)) (fun v10 M11 => fn12_steps_b230 N k167 r0 (((am_J M6 r0 8) <<< ((5 : Int32).toInt64 &&& 63)) ||| (v10.toInt64 - (96 : Int64))) r0 M11)))))
def fn12_steps_b167 (N : Nat)  : Nat → Nat → am_Mem → Option (Unit × am_Mem)
  | 0 => fun _ _ => none
  | i + 1 => fn12_steps_b167B N (fn12_steps_b167 N  i)
def fn12_steps_b8B (N : Nat) (k8 : Nat → am_Mem → Option (Unit × am_Mem)) (r0 : Nat) (M : am_Mem) : Option (Unit × am_Mem) :=
  am_ck (am_k M r0 12) (am_bd (fn12_see M r0 (am_I M r0 4)) (fun v2 M3 => if v2 = (32 : Int32) then fn12_steps_b34 N k8 r0 M3 else am_ck (am_k M3 r0 12) (am_bd (fn12_see M3 r0 (am_I M3 r0 4)) (fun v6 M7 => if v6 = (10 : Int32) then fn12_steps_b34 N k8 r0 M7 else am_ck (am_k M7 r0 12) (am_bd (fn12_see M7 r0 (am_I M7 r0 4)) (fun v10 M11 => am_ck (am_k M11 r0 12) (if v10 = (-1 : Int32) then fn12_steps_b393 N   (am_wI (am_wI (am_wJ (am_wI (am_wI (am_wI M11 r0 5 ((am_I M11 r0 4) + (1 : Int32))) r0 6 (4 : Int32)) r0 7 (0 : Int32)) r0 8 (0 : Int64)) r0 5 (am_I (am_wI (am_wI (am_wI M11 r0 5 ((am_I M11 r0 4) + (1 : Int32))) r0 6 (4 : Int32)) r0 7 (0 : Int32)) r0 4)) r0 6 (0 : Int32)) else if v10 = (59 : Int32) then fn12_steps_b393 N   (am_wI (am_wJ (am_wI (am_wI (am_wI M11 r0 5 ((am_I M11 r0 4) + (1 : Int32))) r0 6 (4 : Int32)) r0 7 (0 : Int32)) r0 8 (0 : Int64)) r0 6 (3 : Int32)) else if v10 = (40 : Int32) then fn12_steps_b393 N   (am_wI (am_wJ (am_wI (am_wI (am_wI M11 r0 5 ((am_I M11 r0 4) + (1 : Int32))) r0 6 (4 : Int32)) r0 7 (0 : Int32)) r0 8 (0 : Int64)) r0 6 (5 : Int32)) else if v10 = (41 : Int32) then fn12_steps_b393 N   (am_wI (am_wJ (am_wI (am_wI (am_wI M11 r0 5 ((am_I M11 r0 4) + (1 : Int32))) r0 6 (4 : Int32)) r0 7 (0 : Int32)) r0 8 (0 : Int64)) r0 6 (6 : Int32)) else am_bd (fn12_within (am_wJ (am_wI (am_wI (am_wI M11 r0 5 ((am_I M11 r0 4) + (1 : Int32))) r0 6 (4 : Int32)) r0 7 (0 : Int32)) r0 8 (0 : Int64)) v10.toInt64 (97 : Int64) (122 : Int64)) (fun v14 M15 => if v14 = 0 then am_bd (fn12_within M15 v10.toInt64 (48 : Int64) (57 : Int64)) (fun v17 M18 => if v17 = 0 then fn12_steps_b393 N   M18 else am_ck (am_k M18 r0 12) (fn12_steps_b294 N  N r0 (am_wI M18 r0 5 (am_I M18 r0 4)))) else am_ck (am_k M15 r0 12) (fn12_steps_b167 N  N r0 (am_wI M15 r0 5 (am_I M15 r0 4)))))))))))
def fn12_steps_b8 (N : Nat)  : Nat → Nat → am_Mem → Option (Unit × am_Mem)
  | 0 => fun _ _ => none
  | i + 1 => fn12_steps_b8B N (fn12_steps_b8 N  i)
def fn12_steps_b0 (N : Nat)  (r0 : Nat) (M : am_Mem) : Option (Unit × am_Mem) :=
  am_ck (am_k M r0 12) (fn12_steps_b8 N  N r0 (am_wI M r0 4 (am_I M r0 5)))
def fn12_steps (N : Nat) (M : am_Mem) (r0 : Nat) : Option (Unit × am_Mem) := fn12_steps_b0 N r0 M
def rm12_steps : Room := { frames := 1, cells := 0, slots := 0, locals := 25 }
set_option maxRecDepth 20000 in
theorem sn12_steps_b34 {l : Launch} {G : am_G} {M' : am_Mem} {N : Nat} {k8 : Nat → am_Mem → Option (Unit × am_Mem)} (cx : am_Ctx l rm12_steps yX12_steps cX12_steps 2 none none M' 0 0 G) (hk8 : ∀ (r0 : Nat) (M : am_Mem), k8 r0 M = some ((), M') → G 8 [(0, .inr (.inr (.inl r0)))] [] M 0 0) {r0 : Nat} {M : am_Mem} (hres : fn12_steps_b34 N k8 r0 M = some ((), M')) : G 34 [(0, .inr (.inr (.inl r0)))] [] M 0 0 := by
  unfold fn12_steps_b34 at hres
  refine am_aload_n cx 0 dX12_steps_34 rfl ?_
  refine am_dup cx dX12_steps_35 rfl ?_
  obtain ⟨q1, hres⟩ := am_ck_some hres
  refine am_getI cx dX12_steps_36 flX12_120 (am_ke q1) ?_
  refine am_iconst cx (v := (1 : Int32)) dX12_steps_39 (by decide) ?_
  refine am_iadd cx dX12_steps_40 ?_
  refine am_putI cx dX12_steps_41 fpX12_120 (fun h => by cases h) (am_ke q1) ?_
  refine am_goto cx (tgt := 8) dX12_steps_44 (by decide) ?_
  exact hk8 _ _ hres
set_option maxRecDepth 20000 in
theorem sn12_steps_b393 {l : Launch} {G : am_G} {M' : am_Mem} {N : Nat}  (cx : am_Ctx l rm12_steps yX12_steps cX12_steps 2 none none M' 0 0 G)   {M : am_Mem} (hres : fn12_steps_b393 N   M = some ((), M')) : G 393 [] [] M 0 0 := by
  unfold fn12_steps_b393 at hres
  obtain ⟨-, rfl⟩ := am_fin hres
  exact am_vret cx dX12_steps_393
set_option maxRecDepth 20000 in
theorem sn12_steps_b390 {l : Launch} {G : am_G} {M' : am_Mem} {N : Nat}  (cx : am_Ctx l rm12_steps yX12_steps cX12_steps 2 none none M' 0 0 G)  {c0 : Nat} {a1 : Int32} {M : am_Mem} (hres : fn12_steps_b390 N  c0 a1 M = some ((), M')) : G 390 [] [.inl a1, .inr (.inr (.inl c0))] M 0 0 := by
  unfold fn12_steps_b390 at hres
  obtain ⟨q1, hres⟩ := am_ck_some hres
  refine am_putI cx dX12_steps_390 fpX12_127 (fun h => by cases h) (am_ke q1) ?_
  exact sn12_steps_b393 cx  hres
set_option maxRecDepth 20000 in
theorem sn12_steps_b355 {l : Launch} {G : am_G} {M' : am_Mem} {N : Nat} {k294 : Nat → am_Mem → Option (Unit × am_Mem)} (cx : am_Ctx l rm12_steps yX12_steps cX12_steps 2 none none M' 0 0 G) (hk294 : ∀ (r0 : Nat) (M : am_Mem), k294 r0 M = some ((), M') → G 294 [(0, .inr (.inr (.inl r0)))] [] M 0 0) {c0 : Nat} {a1 : Int32} {r0 : Nat} {M : am_Mem} (hres : fn12_steps_b355 N k294 c0 a1 r0 M = some ((), M')) : G 355 [(0, .inr (.inr (.inl r0)))] [.inl a1, .inr (.inr (.inl c0))] M 0 0 := by
  unfold fn12_steps_b355 at hres
  obtain ⟨q1, hres⟩ := am_ck_some hres
  refine am_putI cx dX12_steps_355 fpX12_130 (fun h => by cases h) (am_ke q1) ?_
  refine am_aload_n cx 0 dX12_steps_358 rfl ?_
  refine am_dup cx dX12_steps_359 rfl ?_
  obtain ⟨q2, hres⟩ := am_ck_some hres
  refine am_getI cx dX12_steps_360 flX12_117 (am_ke q2) ?_
  refine am_iconst cx (v := (1 : Int32)) dX12_steps_363 (by decide) ?_
  refine am_iadd cx dX12_steps_364 ?_
  refine am_putI cx dX12_steps_365 fpX12_117 (fun h => by cases h) (am_ke q2) ?_
  refine am_goto cx (tgt := 294) dX12_steps_368 (by decide) ?_
  exact hk294 _ _ hres
set_option maxRecDepth 20000 in
theorem sn12_steps_b294B {l : Launch} {G : am_G} {M' : am_Mem} {N : Nat} {k294 : Nat → am_Mem → Option (Unit × am_Mem)} (cx : am_Ctx l rm12_steps yX12_steps cX12_steps 2 none none M' 0 0 G) (hk294 : ∀ (r0 : Nat) (M : am_Mem), k294 r0 M = some ((), M') → G 294 [(0, .inr (.inr (.inl r0)))] [] M 0 0) {r0 : Nat} {M : am_Mem} (hres : fn12_steps_b294B N k294 r0 M = some ((), M')) : G 294 [(0, .inr (.inr (.inl r0)))] [] M 0 0 := by
  unfold fn12_steps_b294B at hres
  refine am_aload_n cx 0 dX12_steps_294 rfl ?_
  refine am_aload_n cx 0 dX12_steps_295 rfl ?_
  obtain ⟨q1, hres⟩ := am_ck_some hres
  refine am_getI cx dX12_steps_296 flX12_117 (am_ke q1) ?_
  obtain ⟨v2, M3, q4, hres⟩ := am_bd_some hres
  refine am_callV1 cx [.inl (am_I M r0 5)] dX12_steps_299 cvX12_123 (mt12_see q4) (am_ke q1) ⟨rfl, rfl, Nat.le_of_ble_eq_true rfl, Nat.le_of_ble_eq_true rfl⟩ rfl (Nat.le_of_ble_eq_true rfl) ⟨Nat.le_of_ble_eq_true rfl, Nat.le_of_ble_eq_true rfl⟩ ?_
  refine am_i2l cx dX12_steps_302 ?_
  refine am_ldc2 cx dX12_steps_303 aw_5_173 ?_
  refine am_ldc2 cx dX12_steps_306 aw_5_174 ?_
  obtain ⟨v5, M6, q7, hres⟩ := am_bd_some hres
  refine am_callS1 cx [.inr (.inl v2.toInt64), .inr (.inl (48 : Int64)), .inr (.inl (57 : Int64))] dX12_steps_309 csX12_141 (mt12_within q7)  ⟨rfl, rfl, Nat.le_of_ble_eq_true rfl, Nat.le_of_ble_eq_true rfl⟩ rfl (Nat.le_of_ble_eq_true rfl) ⟨Nat.le_of_ble_eq_true rfl, Nat.le_of_ble_eq_true rfl⟩ ?_
  refine am_if_eq cx (tgt := 371) dX12_steps_312 (by decide) (fun h => ?_) (fun h => ?_)
  · have hres := am_ifp h hres
    refine am_aload_n cx 0 dX12_steps_371 rfl ?_
    refine am_aload_n cx 0 dX12_steps_372 rfl ?_
    obtain ⟨q8, hres⟩ := am_ck_some hres
    refine am_getI cx dX12_steps_373 flX12_117 (am_ke q8) ?_
    refine am_aload_n cx 0 dX12_steps_376 rfl ?_
    refine am_getI cx dX12_steps_377 flX12_120 (am_ke q8) ?_
    refine am_isub cx dX12_steps_380 ?_
    refine am_iconst cx (v := (5 : Int32)) dX12_steps_381 (by decide) ?_
    refine am_icmp_ge cx (tgt := 389) dX12_steps_382 (by decide) (fun h => ?_) (fun h => ?_)
    · have hres := am_ifp h hres
      refine am_iconst cx (v := (4 : Int32)) dX12_steps_389 (by decide) ?_
      refine am_sub cx [] rfl ?_
      exact sn12_steps_b390 cx  hres
    · have hres := am_ifn h hres
      refine am_iconst cx (v := (2 : Int32)) dX12_steps_385 (by decide) ?_
      refine am_goto cx (tgt := 390) dX12_steps_386 (by decide) ?_
      refine am_sub cx [] rfl ?_
      exact sn12_steps_b390 cx  hres
  · have hres := am_ifn h hres
    refine am_aload_n cx 0 dX12_steps_315 rfl ?_
    refine am_aload_n cx 0 dX12_steps_316 rfl ?_
    obtain ⟨q9, hres⟩ := am_ck_some hres
    refine am_getI cx dX12_steps_317 flX12_117 (am_ke q9) ?_
    refine am_aload_n cx 0 dX12_steps_320 rfl ?_
    refine am_getI cx dX12_steps_321 flX12_120 (am_ke q9) ?_
    refine am_isub cx dX12_steps_324 ?_
    refine am_iconst cx (v := (4 : Int32)) dX12_steps_325 (by decide) ?_
    refine am_icmp_ge cx (tgt := 351) dX12_steps_326 (by decide) (fun h => ?_) (fun h => ?_)
    · have hres := am_ifp h hres
      refine am_aload_n cx 0 dX12_steps_351 rfl ?_
      refine am_getI cx dX12_steps_352 flX12_130 (am_ke q9) ?_
      exact sn12_steps_b355 cx hk294 hres
    · have hres := am_ifn h hres
      refine am_bipush cx (v := (10 : Int32)) dX12_steps_329 (by decide) ?_
      refine am_aload_n cx 0 dX12_steps_331 rfl ?_
      refine am_getI cx dX12_steps_332 flX12_130 (am_ke q9) ?_
      refine am_imul cx dX12_steps_335 ?_
      refine am_aload_n cx 0 dX12_steps_336 rfl ?_
      refine am_aload_n cx 0 dX12_steps_337 rfl ?_
      refine am_getI cx dX12_steps_338 flX12_117 (am_ke q9) ?_
      obtain ⟨v10, M11, q12, hres⟩ := am_bd_some hres
      refine am_callV1 cx [.inl (am_I M6 r0 5)] dX12_steps_341 cvX12_123 (mt12_see q12) (am_ke q9) ⟨rfl, rfl, Nat.le_of_ble_eq_true rfl, Nat.le_of_ble_eq_true rfl⟩ rfl (Nat.le_of_ble_eq_true rfl) ⟨Nat.le_of_ble_eq_true rfl, Nat.le_of_ble_eq_true rfl⟩ ?_
      refine am_iadd cx dX12_steps_344 ?_
      refine am_bipush cx (v := (48 : Int32)) dX12_steps_345 (by decide) ?_
      refine am_isub cx dX12_steps_347 ?_
      refine am_goto cx (tgt := 355) dX12_steps_348 (by decide) ?_
      exact sn12_steps_b355 cx hk294 hres
set_option maxRecDepth 20000 in
theorem sn12_steps_b294 {l : Launch} {G : am_G} {M' : am_Mem} {N : Nat}  (cx : am_Ctx l rm12_steps yX12_steps cX12_steps 2 none none M' 0 0 G)  (i : Nat) : ∀ (r0 : Nat) (M : am_Mem), fn12_steps_b294 N  i r0 M = some ((), M') → G 294 [(0, .inr (.inr (.inl r0)))] [] M 0 0 := by
  induction i with
  | zero => intro r0 M hres; exact am_no hres
  | succ i ih => intro r0 M hres; exact sn12_steps_b294B cx ih hres
set_option maxRecDepth 20000 in
theorem sn12_steps_b266 {l : Launch} {G : am_G} {M' : am_Mem} {N : Nat}  (cx : am_Ctx l rm12_steps yX12_steps cX12_steps 2 none none M' 0 0 G)  {c0 : Nat} {a1 : Int32} {M : am_Mem} (hres : fn12_steps_b266 N  c0 a1 M = some ((), M')) : G 266 [] [.inl a1, .inr (.inr (.inl c0))] M 0 0 := by
  unfold fn12_steps_b266 at hres
  obtain ⟨q1, hres⟩ := am_ck_some hres
  refine am_putI cx dX12_steps_266 fpX12_127 (fun h => by cases h) (am_ke q1) ?_
  refine am_goto cx (tgt := 393) dX12_steps_269 (by decide) ?_
  exact sn12_steps_b393 cx  hres
set_option maxRecDepth 20000 in
theorem sn12_steps_b230 {l : Launch} {G : am_G} {M' : am_Mem} {N : Nat} {k167 : Nat → am_Mem → Option (Unit × am_Mem)} (cx : am_Ctx l rm12_steps yX12_steps cX12_steps 2 none none M' 0 0 G) (hk167 : ∀ (r0 : Nat) (M : am_Mem), k167 r0 M = some ((), M') → G 167 [(0, .inr (.inr (.inl r0)))] [] M 0 0) {c0 : Nat} {b1 : Int64} {r0 : Nat} {M : am_Mem} (hres : fn12_steps_b230 N k167 c0 b1 r0 M = some ((), M')) : G 230 [(0, .inr (.inr (.inl r0)))] [.inr (.inl b1), .inr (.inr (.inl c0))] M 0 0 := by
  unfold fn12_steps_b230 at hres
  obtain ⟨q1, hres⟩ := am_ck_some hres
  refine am_putJ cx dX12_steps_230 fpX12_133 (fun h => by cases h) (am_ke q1) ?_
  refine am_aload_n cx 0 dX12_steps_233 rfl ?_
  refine am_dup cx dX12_steps_234 rfl ?_
  obtain ⟨q2, hres⟩ := am_ck_some hres
  refine am_getI cx dX12_steps_235 flX12_117 (am_ke q2) ?_
  refine am_iconst cx (v := (1 : Int32)) dX12_steps_238 (by decide) ?_
  refine am_iadd cx dX12_steps_239 ?_
  refine am_putI cx dX12_steps_240 fpX12_117 (fun h => by cases h) (am_ke q2) ?_
  refine am_goto cx (tgt := 167) dX12_steps_243 (by decide) ?_
  exact hk167 _ _ hres
set_option maxRecDepth 20000 in
theorem sn12_steps_b167B {l : Launch} {G : am_G} {M' : am_Mem} {N : Nat} {k167 : Nat → am_Mem → Option (Unit × am_Mem)} (cx : am_Ctx l rm12_steps yX12_steps cX12_steps 2 none none M' 0 0 G) (hk167 : ∀ (r0 : Nat) (M : am_Mem), k167 r0 M = some ((), M') → G 167 [(0, .inr (.inr (.inl r0)))] [] M 0 0) {r0 : Nat} {M : am_Mem} (hres : fn12_steps_b167B N k167 r0 M = some ((), M')) : G 167 [(0, .inr (.inr (.inl r0)))] [] M 0 0 := by
  unfold fn12_steps_b167B at hres
  refine am_aload_n cx 0 dX12_steps_167 rfl ?_
  refine am_aload_n cx 0 dX12_steps_168 rfl ?_
  obtain ⟨q1, hres⟩ := am_ck_some hres
  refine am_getI cx dX12_steps_169 flX12_117 (am_ke q1) ?_
  obtain ⟨v2, M3, q4, hres⟩ := am_bd_some hres
  refine am_callV1 cx [.inl (am_I M r0 5)] dX12_steps_172 cvX12_123 (mt12_see q4) (am_ke q1) ⟨rfl, rfl, Nat.le_of_ble_eq_true rfl, Nat.le_of_ble_eq_true rfl⟩ rfl (Nat.le_of_ble_eq_true rfl) ⟨Nat.le_of_ble_eq_true rfl, Nat.le_of_ble_eq_true rfl⟩ ?_
  refine am_i2l cx dX12_steps_175 ?_
  refine am_ldc2 cx dX12_steps_176 aw_5_170 ?_
  refine am_ldc2 cx dX12_steps_179 aw_5_171 ?_
  obtain ⟨v5, M6, q7, hres⟩ := am_bd_some hres
  refine am_callS1 cx [.inr (.inl v2.toInt64), .inr (.inl (97 : Int64)), .inr (.inl (122 : Int64))] dX12_steps_182 csX12_141 (mt12_within q7)  ⟨rfl, rfl, Nat.le_of_ble_eq_true rfl, Nat.le_of_ble_eq_true rfl⟩ rfl (Nat.le_of_ble_eq_true rfl) ⟨Nat.le_of_ble_eq_true rfl, Nat.le_of_ble_eq_true rfl⟩ ?_
  refine am_if_eq cx (tgt := 246) dX12_steps_185 (by decide) (fun h => ?_) (fun h => ?_)
  · have hres := am_ifp h hres
    refine am_aload_n cx 0 dX12_steps_246 rfl ?_
    refine am_aload_n cx 0 dX12_steps_247 rfl ?_
    obtain ⟨q8, hres⟩ := am_ck_some hres
    refine am_getI cx dX12_steps_248 flX12_117 (am_ke q8) ?_
    refine am_aload_n cx 0 dX12_steps_251 rfl ?_
    refine am_getI cx dX12_steps_252 flX12_120 (am_ke q8) ?_
    refine am_isub cx dX12_steps_255 ?_
    refine am_bipush cx (v := (7 : Int32)) dX12_steps_256 (by decide) ?_
    refine am_icmp_ge cx (tgt := 265) dX12_steps_258 (by decide) (fun h => ?_) (fun h => ?_)
    · have hres := am_ifp h hres
      refine am_iconst cx (v := (4 : Int32)) dX12_steps_265 (by decide) ?_
      refine am_sub cx [] rfl ?_
      exact sn12_steps_b266 cx  hres
    · have hres := am_ifn h hres
      refine am_iconst cx (v := (1 : Int32)) dX12_steps_261 (by decide) ?_
      refine am_goto cx (tgt := 266) dX12_steps_262 (by decide) ?_
      refine am_sub cx [] rfl ?_
      exact sn12_steps_b266 cx  hres
  · have hres := am_ifn h hres
    refine am_aload_n cx 0 dX12_steps_188 rfl ?_
    refine am_aload_n cx 0 dX12_steps_189 rfl ?_
    obtain ⟨q9, hres⟩ := am_ck_some hres
    refine am_getI cx dX12_steps_190 flX12_117 (am_ke q9) ?_
    refine am_aload_n cx 0 dX12_steps_193 rfl ?_
    refine am_getI cx dX12_steps_194 flX12_120 (am_ke q9) ?_
    refine am_isub cx dX12_steps_197 ?_
    refine am_bipush cx (v := (6 : Int32)) dX12_steps_198 (by decide) ?_
    refine am_icmp_ge cx (tgt := 226) dX12_steps_200 (by decide) (fun h => ?_) (fun h => ?_)
    · have hres := am_ifp h hres
      refine am_aload_n cx 0 dX12_steps_226 rfl ?_
      refine am_getJ cx dX12_steps_227 flX12_133 (am_ke q9) ?_
      exact sn12_steps_b230 cx hk167 hres
    · have hres := am_ifn h hres
      refine am_aload_n cx 0 dX12_steps_203 rfl ?_
      refine am_getJ cx dX12_steps_204 flX12_133 (am_ke q9) ?_
      refine am_iconst cx (v := (5 : Int32)) dX12_steps_207 (by decide) ?_
      refine am_lshl cx dX12_steps_208 ?_
      refine am_aload_n cx 0 dX12_steps_209 rfl ?_
      refine am_aload_n cx 0 dX12_steps_210 rfl ?_
      refine am_getI cx dX12_steps_211 flX12_117 (am_ke q9) ?_
      obtain ⟨v10, M11, q12, hres⟩ := am_bd_some hres
      refine am_callV1 cx [.inl (am_I M6 r0 5)] dX12_steps_214 cvX12_123 (mt12_see q12) (am_ke q9) ⟨rfl, rfl, Nat.le_of_ble_eq_true rfl, Nat.le_of_ble_eq_true rfl⟩ rfl (Nat.le_of_ble_eq_true rfl) ⟨Nat.le_of_ble_eq_true rfl, Nat.le_of_ble_eq_true rfl⟩ ?_
      refine am_i2l cx dX12_steps_217 ?_
      refine am_ldc2 cx dX12_steps_218 aw_5_172 ?_
      refine am_lsub cx dX12_steps_221 ?_
      refine am_lor cx dX12_steps_222 ?_
      refine am_goto cx (tgt := 230) dX12_steps_223 (by decide) ?_
      exact sn12_steps_b230 cx hk167 hres
set_option maxRecDepth 20000 in
theorem sn12_steps_b167 {l : Launch} {G : am_G} {M' : am_Mem} {N : Nat}  (cx : am_Ctx l rm12_steps yX12_steps cX12_steps 2 none none M' 0 0 G)  (i : Nat) : ∀ (r0 : Nat) (M : am_Mem), fn12_steps_b167 N  i r0 M = some ((), M') → G 167 [(0, .inr (.inr (.inl r0)))] [] M 0 0 := by
  induction i with
  | zero => intro r0 M hres; exact am_no hres
  | succ i ih => intro r0 M hres; exact sn12_steps_b167B cx ih hres
set_option maxRecDepth 20000 in
theorem sn12_steps_b8B {l : Launch} {G : am_G} {M' : am_Mem} {N : Nat} {k8 : Nat → am_Mem → Option (Unit × am_Mem)} (cx : am_Ctx l rm12_steps yX12_steps cX12_steps 2 none none M' 0 0 G) (hk8 : ∀ (r0 : Nat) (M : am_Mem), k8 r0 M = some ((), M') → G 8 [(0, .inr (.inr (.inl r0)))] [] M 0 0) {r0 : Nat} {M : am_Mem} (hres : fn12_steps_b8B N k8 r0 M = some ((), M')) : G 8 [(0, .inr (.inr (.inl r0)))] [] M 0 0 := by
  unfold fn12_steps_b8B at hres
  refine am_aload_n cx 0 dX12_steps_8 rfl ?_
  refine am_aload_n cx 0 dX12_steps_9 rfl ?_
  obtain ⟨q1, hres⟩ := am_ck_some hres
  refine am_getI cx dX12_steps_10 flX12_120 (am_ke q1) ?_
  obtain ⟨v2, M3, q4, hres⟩ := am_bd_some hres
  refine am_callV1 cx [.inl (am_I M r0 4)] dX12_steps_13 cvX12_123 (mt12_see q4) (am_ke q1) ⟨rfl, rfl, Nat.le_of_ble_eq_true rfl, Nat.le_of_ble_eq_true rfl⟩ rfl (Nat.le_of_ble_eq_true rfl) ⟨Nat.le_of_ble_eq_true rfl, Nat.le_of_ble_eq_true rfl⟩ ?_
  refine am_bipush cx (v := (32 : Int32)) dX12_steps_16 (by decide) ?_
  refine am_icmp_eq cx (tgt := 34) dX12_steps_18 (by decide) (fun h => ?_) (fun h => ?_)
  · have hres := am_ifp h hres
    exact sn12_steps_b34 cx hk8 hres
  · have hres := am_ifn h hres
    refine am_aload_n cx 0 dX12_steps_21 rfl ?_
    refine am_aload_n cx 0 dX12_steps_22 rfl ?_
    obtain ⟨q5, hres⟩ := am_ck_some hres
    refine am_getI cx dX12_steps_23 flX12_120 (am_ke q5) ?_
    obtain ⟨v6, M7, q8, hres⟩ := am_bd_some hres
    refine am_callV1 cx [.inl (am_I M3 r0 4)] dX12_steps_26 cvX12_123 (mt12_see q8) (am_ke q5) ⟨rfl, rfl, Nat.le_of_ble_eq_true rfl, Nat.le_of_ble_eq_true rfl⟩ rfl (Nat.le_of_ble_eq_true rfl) ⟨Nat.le_of_ble_eq_true rfl, Nat.le_of_ble_eq_true rfl⟩ ?_
    refine am_bipush cx (v := (10 : Int32)) dX12_steps_29 (by decide) ?_
    refine am_icmp_ne cx (tgt := 47) dX12_steps_31 (by decide) (fun h => ?_) (fun h => ?_)
    · have hres := am_ifn h hres
      refine am_aload_n cx 0 dX12_steps_47 rfl ?_
      refine am_aload_n cx 0 dX12_steps_48 rfl ?_
      obtain ⟨q9, hres⟩ := am_ck_some hres
      refine am_getI cx dX12_steps_49 flX12_120 (am_ke q9) ?_
      obtain ⟨v10, M11, q12, hres⟩ := am_bd_some hres
      refine am_callV1 cx [.inl (am_I M7 r0 4)] dX12_steps_52 cvX12_123 (mt12_see q12) (am_ke q9) ⟨rfl, rfl, Nat.le_of_ble_eq_true rfl, Nat.le_of_ble_eq_true rfl⟩ rfl (Nat.le_of_ble_eq_true rfl) ⟨Nat.le_of_ble_eq_true rfl, Nat.le_of_ble_eq_true rfl⟩ ?_
      refine am_istore_n cx (lv' := [(0, .inr (.inr (.inl r0))), (1, .inl v10)]) dX12_steps_55 (Nat.le_of_ble_eq_true rfl) rfl ?_
      refine am_aload_n cx 0 dX12_steps_56 rfl ?_
      refine am_aload_n cx 0 dX12_steps_57 rfl ?_
      obtain ⟨q13, hres⟩ := am_ck_some hres
      refine am_getI cx dX12_steps_58 flX12_120 (am_ke q13) ?_
      refine am_iconst cx (v := (1 : Int32)) dX12_steps_61 (by decide) ?_
      refine am_iadd cx dX12_steps_62 ?_
      refine am_putI cx dX12_steps_63 fpX12_117 (fun h => by cases h) (am_ke q13) ?_
      refine am_aload_n cx 0 dX12_steps_66 rfl ?_
      refine am_iconst cx (v := (4 : Int32)) dX12_steps_67 (by decide) ?_
      refine am_putI cx dX12_steps_68 fpX12_127 (fun h => by cases h) (am_ke q13) ?_
      refine am_aload_n cx 0 dX12_steps_71 rfl ?_
      refine am_iconst cx (v := (0 : Int32)) dX12_steps_72 (by decide) ?_
      refine am_putI cx dX12_steps_73 fpX12_130 (fun h => by cases h) (am_ke q13) ?_
      refine am_aload_n cx 0 dX12_steps_76 rfl ?_
      refine am_lconst cx (v := (0 : Int64)) dX12_steps_77 (by decide) ?_
      refine am_putJ cx dX12_steps_78 fpX12_133 (fun h => by cases h) (am_ke q13) ?_
      refine am_iload_n cx 1 dX12_steps_81 rfl ?_
      refine am_iconst cx (v := (-1 : Int32)) dX12_steps_82 (by decide) ?_
      refine am_icmp_ne cx (tgt := 102) dX12_steps_83 (by decide) (fun h => ?_) (fun h => ?_)
      · have hres := am_ifn h hres
        refine am_iload_n cx 1 dX12_steps_102 rfl ?_
        refine am_bipush cx (v := (59 : Int32)) dX12_steps_103 (by decide) ?_
        refine am_icmp_ne cx (tgt := 116) dX12_steps_105 (by decide) (fun h => ?_) (fun h => ?_)
        · have hres := am_ifn h hres
          refine am_iload_n cx 1 dX12_steps_116 rfl ?_
          refine am_bipush cx (v := (40 : Int32)) dX12_steps_117 (by decide) ?_
          refine am_icmp_ne cx (tgt := 130) dX12_steps_119 (by decide) (fun h => ?_) (fun h => ?_)
          · have hres := am_ifn h hres
            refine am_iload_n cx 1 dX12_steps_130 rfl ?_
            refine am_bipush cx (v := (41 : Int32)) dX12_steps_131 (by decide) ?_
            refine am_icmp_ne cx (tgt := 145) dX12_steps_133 (by decide) (fun h => ?_) (fun h => ?_)
            · have hres := am_ifn h hres
              refine am_iload_n cx 1 dX12_steps_145 rfl ?_
              refine am_i2l cx dX12_steps_146 ?_
              refine am_ldc2 cx dX12_steps_147 aw_5_170 ?_
              refine am_ldc2 cx dX12_steps_150 aw_5_171 ?_
              obtain ⟨v14, M15, q16, hres⟩ := am_bd_some hres
              refine am_callS1 cx [.inr (.inl v10.toInt64), .inr (.inl (97 : Int64)), .inr (.inl (122 : Int64))] dX12_steps_153 csX12_141 (mt12_within q16)  ⟨rfl, rfl, Nat.le_of_ble_eq_true rfl, Nat.le_of_ble_eq_true rfl⟩ rfl (Nat.le_of_ble_eq_true rfl) ⟨Nat.le_of_ble_eq_true rfl, Nat.le_of_ble_eq_true rfl⟩ ?_
              refine am_if_eq cx (tgt := 272) dX12_steps_156 (by decide) (fun h => ?_) (fun h => ?_)
              · have hres := am_ifp h hres
                refine am_iload_n cx 1 dX12_steps_272 rfl ?_
                refine am_i2l cx dX12_steps_273 ?_
                refine am_ldc2 cx dX12_steps_274 aw_5_173 ?_
                refine am_ldc2 cx dX12_steps_277 aw_5_174 ?_
                obtain ⟨v17, M18, q19, hres⟩ := am_bd_some hres
                refine am_callS1 cx [.inr (.inl v10.toInt64), .inr (.inl (48 : Int64)), .inr (.inl (57 : Int64))] dX12_steps_280 csX12_141 (mt12_within q19)  ⟨rfl, rfl, Nat.le_of_ble_eq_true rfl, Nat.le_of_ble_eq_true rfl⟩ rfl (Nat.le_of_ble_eq_true rfl) ⟨Nat.le_of_ble_eq_true rfl, Nat.le_of_ble_eq_true rfl⟩ ?_
                refine am_if_eq cx (tgt := 393) dX12_steps_283 (by decide) (fun h => ?_) (fun h => ?_)
                · have hres := am_ifp h hres
                  refine am_sub cx [] rfl ?_
                  exact sn12_steps_b393 cx  hres
                · have hres := am_ifn h hres
                  refine am_aload_n cx 0 dX12_steps_286 rfl ?_
                  refine am_aload_n cx 0 dX12_steps_287 rfl ?_
                  obtain ⟨q20, hres⟩ := am_ck_some hres
                  refine am_getI cx dX12_steps_288 flX12_120 (am_ke q20) ?_
                  refine am_putI cx dX12_steps_291 fpX12_117 (fun h => by cases h) (am_ke q20) ?_
                  refine am_sub cx [0] rfl ?_
                  exact sn12_steps_b294 cx  N _ _ hres
              · have hres := am_ifn h hres
                refine am_aload_n cx 0 dX12_steps_159 rfl ?_
                refine am_aload_n cx 0 dX12_steps_160 rfl ?_
                obtain ⟨q21, hres⟩ := am_ck_some hres
                refine am_getI cx dX12_steps_161 flX12_120 (am_ke q21) ?_
                refine am_putI cx dX12_steps_164 fpX12_117 (fun h => by cases h) (am_ke q21) ?_
                refine am_sub cx [0] rfl ?_
                exact sn12_steps_b167 cx  N _ _ hres
            · have hres := am_ifp h hres
              refine am_aload_n cx 0 dX12_steps_136 rfl ?_
              refine am_bipush cx (v := (6 : Int32)) dX12_steps_137 (by decide) ?_
              refine am_putI cx dX12_steps_139 fpX12_127 (fun h => by cases h) (am_ke q13) ?_
              refine am_goto cx (tgt := 393) dX12_steps_142 (by decide) ?_
              refine am_sub cx [] rfl ?_
              exact sn12_steps_b393 cx  hres
          · have hres := am_ifp h hres
            refine am_aload_n cx 0 dX12_steps_122 rfl ?_
            refine am_iconst cx (v := (5 : Int32)) dX12_steps_123 (by decide) ?_
            refine am_putI cx dX12_steps_124 fpX12_127 (fun h => by cases h) (am_ke q13) ?_
            refine am_goto cx (tgt := 393) dX12_steps_127 (by decide) ?_
            refine am_sub cx [] rfl ?_
            exact sn12_steps_b393 cx  hres
        · have hres := am_ifp h hres
          refine am_aload_n cx 0 dX12_steps_108 rfl ?_
          refine am_iconst cx (v := (3 : Int32)) dX12_steps_109 (by decide) ?_
          refine am_putI cx dX12_steps_110 fpX12_127 (fun h => by cases h) (am_ke q13) ?_
          refine am_goto cx (tgt := 393) dX12_steps_113 (by decide) ?_
          refine am_sub cx [] rfl ?_
          exact sn12_steps_b393 cx  hres
      · have hres := am_ifp h hres
        refine am_aload_n cx 0 dX12_steps_86 rfl ?_
        refine am_aload_n cx 0 dX12_steps_87 rfl ?_
        refine am_getI cx dX12_steps_88 flX12_120 (am_ke q13) ?_
        refine am_putI cx dX12_steps_91 fpX12_117 (fun h => by cases h) (am_ke q13) ?_
        refine am_aload_n cx 0 dX12_steps_94 rfl ?_
        refine am_iconst cx (v := (0 : Int32)) dX12_steps_95 (by decide) ?_
        refine am_putI cx dX12_steps_96 fpX12_127 (fun h => by cases h) (am_ke q13) ?_
        refine am_goto cx (tgt := 393) dX12_steps_99 (by decide) ?_
        refine am_sub cx [] rfl ?_
        exact sn12_steps_b393 cx  hres
    · have hres := am_ifp h hres
      exact sn12_steps_b34 cx hk8 hres
set_option maxRecDepth 20000 in
theorem sn12_steps_b8 {l : Launch} {G : am_G} {M' : am_Mem} {N : Nat}  (cx : am_Ctx l rm12_steps yX12_steps cX12_steps 2 none none M' 0 0 G)  (i : Nat) : ∀ (r0 : Nat) (M : am_Mem), fn12_steps_b8 N  i r0 M = some ((), M') → G 8 [(0, .inr (.inr (.inl r0)))] [] M 0 0 := by
  induction i with
  | zero => intro r0 M hres; exact am_no hres
  | succ i ih => intro r0 M hres; exact sn12_steps_b8B cx ih hres
set_option maxRecDepth 20000 in
theorem sn12_steps_b0 {l : Launch} {G : am_G} {M' : am_Mem} {N : Nat}  (cx : am_Ctx l rm12_steps yX12_steps cX12_steps 2 none none M' 0 0 G)  {r0 : Nat} {M : am_Mem} (hres : fn12_steps_b0 N  r0 M = some ((), M')) : G 0 [(0, .inr (.inr (.inl r0)))] [] M 0 0 := by
  unfold fn12_steps_b0 at hres
  refine am_aload_n cx 0 dX12_steps_0 rfl ?_
  refine am_aload_n cx 0 dX12_steps_1 rfl ?_
  obtain ⟨q1, hres⟩ := am_ck_some hres
  refine am_getI cx dX12_steps_2 flX12_117 (am_ke q1) ?_
  refine am_putI cx dX12_steps_5 fpX12_120 (fun h => by cases h) (am_ke q1) ?_
  exact sn12_steps_b8 cx  N _ _ hres
set_option maxRecDepth 20000 in
theorem mt12_steps {l : Launch} {M M' : am_Mem} {N : Nat} {r0 : Nat} (h : fn12_steps N M r0 = some ((), M')) : am_Met l yX12_steps cX12_steps 2 none rm12_steps 0 0 [.inr (.inr (.inl r0))] M none M' := am_mk (by decide) (Nat.le_of_ble_eq_true rfl) (fun G cx => (sn12_steps_b0 cx h))
-- SquareCutsModel.must
def fn12_must_b36  (a0 : Int32) (M : am_Mem) : Option (Int32 × am_Mem) :=
  am_ck (a0 == 0 || a0 == 1) (some (a0, M))
def fn12_must_b24  (r0 : Nat) (M : am_Mem) : Option (Int32 × am_Mem) :=
  am_ck (am_k M r0 12) (if (am_I M r0 9) = 0 then fn12_must_b36  (1 : Int32) M else fn12_must_b36  (0 : Int32) M)
def fn12_must_b0  (r0 : Nat) (x1 : Int32) (x2 : Int32) (M : am_Mem) : Option (Int32 × am_Mem) :=
  am_ck (am_k M r0 12) (if (am_I M r0 9) = 0 then if x1 = 0 then fn12_must_b24  r0 (am_wI (am_wI M r0 9 x2) r0 10 (am_I (am_wI M r0 9 x2) r0 4)) else fn12_must_b24  r0 M else fn12_must_b24  r0 M)
def fn12_must (M : am_Mem) (r0 : Nat) (x1 : Int32) (x2 : Int32) : Option (Int32 × am_Mem) := fn12_must_b0  r0 x1 x2 M
def rm12_must : Room := { frames := 0, cells := 0, slots := 0, locals := 0 }
set_option maxRecDepth 20000 in
theorem sn12_must_b36 {l : Launch} {G : am_G} {v : Int32} {M' : am_Mem}  (cx : am_Ctx l rm12_must yX12_must cX12_must 3 (some .boolean) (some (.inl v)) M' 0 0 G)  {a0 : Int32} {M : am_Mem} (hres : fn12_must_b36  a0 M = some (v, M')) : G 36 [] [.inl a0] M 0 0 := by
  unfold fn12_must_b36 at hres
  obtain ⟨q1, hres⟩ := am_ck_some hres
  obtain ⟨rfl, rfl⟩ := am_fin hres
  exact am_zret cx q1 dX12_must_36
set_option maxRecDepth 20000 in
theorem sn12_must_b24 {l : Launch} {G : am_G} {v : Int32} {M' : am_Mem}  (cx : am_Ctx l rm12_must yX12_must cX12_must 3 (some .boolean) (some (.inl v)) M' 0 0 G)  {r0 : Nat} {M : am_Mem} (hres : fn12_must_b24  r0 M = some (v, M')) : G 24 [(0, .inr (.inr (.inl r0)))] [] M 0 0 := by
  unfold fn12_must_b24 at hres
  refine am_aload_n cx 0 dX12_must_24 rfl ?_
  obtain ⟨q1, hres⟩ := am_ck_some hres
  refine am_getI cx dX12_must_25 flX12_151 (am_ke q1) ?_
  refine am_if_ne cx (tgt := 35) dX12_must_28 (by decide) (fun h => ?_) (fun h => ?_)
  · have hres := am_ifn h hres
    refine am_iconst cx (v := (0 : Int32)) dX12_must_35 (by decide) ?_
    refine am_sub cx [] rfl ?_
    exact sn12_must_b36 cx  hres
  · have hres := am_ifp h hres
    refine am_iconst cx (v := (1 : Int32)) dX12_must_31 (by decide) ?_
    refine am_goto cx (tgt := 36) dX12_must_32 (by decide) ?_
    refine am_sub cx [] rfl ?_
    exact sn12_must_b36 cx  hres
set_option maxRecDepth 20000 in
theorem sn12_must_b0 {l : Launch} {G : am_G} {v : Int32} {M' : am_Mem}  (cx : am_Ctx l rm12_must yX12_must cX12_must 3 (some .boolean) (some (.inl v)) M' 0 0 G)  {r0 : Nat} {x1 : Int32} {x2 : Int32} {M : am_Mem} (hres : fn12_must_b0  r0 x1 x2 M = some (v, M')) : G 0 [(0, .inr (.inr (.inl r0))), (1, .inl x1), (2, .inl x2)] [] M 0 0 := by
  unfold fn12_must_b0 at hres
  refine am_aload_n cx 0 dX12_must_0 rfl ?_
  obtain ⟨q1, hres⟩ := am_ck_some hres
  refine am_getI cx dX12_must_1 flX12_151 (am_ke q1) ?_
  refine am_if_ne cx (tgt := 24) dX12_must_4 (by decide) (fun h => ?_) (fun h => ?_)
  · have hres := am_ifn h hres
    refine am_sub cx [0] rfl ?_
    exact sn12_must_b24 cx  hres
  · have hres := am_ifp h hres
    refine am_iload_n cx 1 dX12_must_7 rfl ?_
    refine am_if_ne cx (tgt := 24) dX12_must_8 (by decide) (fun h => ?_) (fun h => ?_)
    · have hres := am_ifn h hres
      refine am_sub cx [0] rfl ?_
      exact sn12_must_b24 cx  hres
    · have hres := am_ifp h hres
      refine am_aload_n cx 0 dX12_must_11 rfl ?_
      refine am_iload_n cx 2 dX12_must_12 rfl ?_
      refine am_putI cx dX12_must_13 fpX12_151 (fun h => by cases h) (am_ke q1) ?_
      refine am_aload_n cx 0 dX12_must_16 rfl ?_
      refine am_aload_n cx 0 dX12_must_17 rfl ?_
      refine am_getI cx dX12_must_18 flX12_120 (am_ke q1) ?_
      refine am_putI cx dX12_must_21 fpX12_154 (fun h => by cases h) (am_ke q1) ?_
      refine am_sub cx [0] rfl ?_
      exact sn12_must_b24 cx  hres
set_option maxRecDepth 20000 in
theorem mt12_must {l : Launch} {v : Int32} {M M' : am_Mem} {r0 : Nat} {x1 : Int32} {x2 : Int32} (h : fn12_must M r0 x1 x2 = some (v, M')) : am_Met l yX12_must cX12_must 3 (some .boolean) rm12_must 0 0 [.inr (.inr (.inl r0)), .inl x1, .inl x2] M (some (.inl v)) M' := am_mk (by decide) (Nat.le_of_ble_eq_true rfl) (fun G cx => (sn12_must_b0 cx h))
-- SquareCutsModel.groupHere
def fn12_groupHere_b97 (N : Nat)   (M : am_Mem) : Option (Int32 × am_Mem) :=
  some ((0 : Int32), M)
def fn12_groupHere_b136 (N : Nat) (k29 : Nat → Int32 → am_Mem → Option (Int32 × am_Mem)) (c0 : Nat) (a1 : Int32) (a2 : Int32) (r0 : Nat) (M : am_Mem) : Option (Int32 × am_Mem) :=
  am_ck (am_k M c0 14) (am_ck (am_in a1 (am_L M c0)) (am_ck (am_k M r0 12) (am_ck (am_k M (am_R M r0 14) 14) (am_ck (am_in (am_I (am_wI M c0 a1.toNatClampNeg a2) r0 11) (am_L M (am_R M r0 14))) (am_ck (am_in (am_I (am_wI M c0 a1.toNatClampNeg a2) r0 11) (am_L M (am_R M r0 14))) (am_bd (fn12_steps N (am_wI (am_wI M c0 a1.toNatClampNeg a2) (am_R M r0 14) (am_I (am_wI M c0 a1.toNatClampNeg a2) r0 11).toNatClampNeg ((am_I (am_wI M c0 a1.toNatClampNeg a2) (am_R M r0 14) (am_I (am_wI M c0 a1.toNatClampNeg a2) r0 11).toNatClampNeg) + (1 : Int32))) r0) (fun v7 M8 => am_ck (am_k M8 r0 12) (if (am_I M8 r0 6) = (6 : Int32) then am_bd (fn12_steps N M8 r0) (fun v11 M12 => some ((1 : Int32), M12)) else k29 r0 (0 : Int32) M8))))))))
def fn12_groupHere_b90 (N : Nat) (k29 : Nat → Int32 → am_Mem → Option (Int32 × am_Mem)) (c0 : Nat) (a1 : Int32) (r0 : Nat) (x1 : Int32) (M : am_Mem) : Option (Int32 × am_Mem) :=
  am_ck (am_k M c0 12) (am_bd (fn12_must M c0 a1 (4 : Int32)) (fun v2 M3 => if v2 = 0 then fn12_groupHere_b97 N   M3 else am_ck (am_k M3 r0 12) (am_ck (am_k M3 (am_R M3 r0 14) 14) (am_ck (am_in (am_I M3 r0 11) (am_L M3 (am_R M3 r0 14))) (if x1 = 0 then fn12_groupHere_b136 N k29 (am_R M3 r0 16) (((29 : Int32) * (am_I M3 r0 11)) + (am_I M3 (am_R M3 r0 14) (am_I M3 r0 11).toNatClampNeg)) (am_I M3 r0 7) r0 M3 else fn12_groupHere_b136 N k29 (am_R M3 r0 16) (((29 : Int32) * (am_I M3 r0 11)) + (am_I M3 (am_R M3 r0 14) (am_I M3 r0 11).toNatClampNeg)) (-(am_I M3 r0 7)) r0 M3)))))
def fn12_groupHere_b63 (N : Nat) (k29 : Nat → Int32 → am_Mem → Option (Int32 × am_Mem)) (c0 : Nat) (a1 : Int32) (r0 : Nat) (x1 : Int32) (M : am_Mem) : Option (Int32 × am_Mem) :=
  am_ck (am_k M c0 12) (am_bd (fn12_must M c0 a1 (3 : Int32)) (fun v2 M3 => if v2 = 0 then fn12_groupHere_b97 N   M3 else am_ck (am_k M3 r0 12) (am_ck (am_k M3 (am_R M3 r0 14) 14) (am_ck (am_in (am_I M3 r0 11) (am_L M3 (am_R M3 r0 14))) (if (24 : Int32) ≤ (am_I M3 (am_R M3 r0 14) (am_I M3 r0 11).toNatClampNeg) then fn12_groupHere_b90 N k29 r0 (0 : Int32) r0 x1 M3 else fn12_groupHere_b90 N k29 r0 (1 : Int32) r0 x1 M3)))))
def fn12_groupHere_b43 (N : Nat) (k29 : Nat → Int32 → am_Mem → Option (Int32 × am_Mem)) (c0 : Nat) (a1 : Int32) (r0 : Nat) (x1 : Int32) (M : am_Mem) : Option (Int32 × am_Mem) :=
  am_ck (am_k M c0 12) (am_bd (fn12_must M c0 a1 (1 : Int32)) (fun v2 M3 => if v2 = 0 then fn12_groupHere_b97 N   M3 else am_ck (am_k M3 r0 12) (if (am_I M3 r0 7) ≤ 0 then fn12_groupHere_b63 N k29 r0 (0 : Int32) r0 x1 M3 else fn12_groupHere_b63 N k29 r0 (1 : Int32) r0 x1 M3)))
def fn12_groupHere_b29B (N : Nat) (k29 : Nat → Int32 → am_Mem → Option (Int32 × am_Mem)) (r0 : Nat) (x1 : Int32) (M : am_Mem) : Option (Int32 × am_Mem) :=
  am_ck (am_k M r0 12) (if (am_I M r0 6) = (2 : Int32) then fn12_groupHere_b43 N k29 r0 (1 : Int32) r0 x1 M else fn12_groupHere_b43 N k29 r0 (0 : Int32) r0 x1 M)
def fn12_groupHere_b29 (N : Nat)  : Nat → Nat → Int32 → am_Mem → Option (Int32 × am_Mem)
  | 0 => fun _ _ _ => none
  | i + 1 => fn12_groupHere_b29B N (fn12_groupHere_b29 N  i)
def fn12_groupHere_b14 (N : Nat)  (c0 : Nat) (a1 : Int32) (r0 : Nat) (M : am_Mem) : Option (Int32 × am_Mem) :=
  am_ck (am_k M c0 12) (am_bd (fn12_must M c0 a1 (1 : Int32)) (fun v2 M3 => if v2 = 0 then some ((0 : Int32), M3) else am_ck (am_k M3 r0 12) (am_bd (fn12_steps N M3 r0) (fun v6 M7 => fn12_groupHere_b29 N  N r0 (1 : Int32) M7))))
def fn12_groupHere_b0 (N : Nat)  (r0 : Nat) (M : am_Mem) : Option (Int32 × am_Mem) :=
  am_ck (am_k M r0 12) (if (am_I M r0 6) = (5 : Int32) then fn12_groupHere_b14 N  r0 (1 : Int32) r0 M else fn12_groupHere_b14 N  r0 (0 : Int32) r0 M)
def fn12_groupHere (N : Nat) (M : am_Mem) (r0 : Nat) : Option (Int32 × am_Mem) := fn12_groupHere_b0 N r0 M
def rm12_groupHere : Room := { frames := 2, cells := 0, slots := 0, locals := 46 }
set_option maxRecDepth 20000 in
theorem sn12_groupHere_b97 {l : Launch} {G : am_G} {v : Int32} {M' : am_Mem} {N : Nat}  (cx : am_Ctx l rm12_groupHere yX12_groupHere cX12_groupHere 2 (some .boolean) (some (.inl v)) M' 0 0 G)   {M : am_Mem} (hres : fn12_groupHere_b97 N   M = some (v, M')) : G 97 [] [] M 0 0 := by
  unfold fn12_groupHere_b97 at hres
  refine am_iconst cx (v := (0 : Int32)) dX12_groupHere_97 (by decide) ?_
  obtain ⟨rfl, rfl⟩ := am_fin hres
  exact am_zret cx rfl dX12_groupHere_98
set_option maxRecDepth 20000 in
theorem sn12_groupHere_b136 {l : Launch} {G : am_G} {v : Int32} {M' : am_Mem} {N : Nat} {k29 : Nat → Int32 → am_Mem → Option (Int32 × am_Mem)} (cx : am_Ctx l rm12_groupHere yX12_groupHere cX12_groupHere 2 (some .boolean) (some (.inl v)) M' 0 0 G) (hk29 : ∀ (r0 : Nat) (x1 : Int32) (M : am_Mem), k29 r0 x1 M = some (v, M') → G 29 [(0, .inr (.inr (.inl r0))), (1, .inl x1)] [] M 0 0) {c0 : Nat} {a1 : Int32} {a2 : Int32} {r0 : Nat} {M : am_Mem} (hres : fn12_groupHere_b136 N k29 c0 a1 a2 r0 M = some (v, M')) : G 136 [(0, .inr (.inr (.inl r0)))] [.inl a2, .inl a1, .inr (.inr (.inl c0))] M 0 0 := by
  unfold fn12_groupHere_b136 at hres
  obtain ⟨q1, hres⟩ := am_ck_some hres
  obtain ⟨q2, hres⟩ := am_ck_some hres
  refine am_iast cx dX12_groupHere_136 (am_ke q1) q2  ?_
  refine am_aload_n cx 0 dX12_groupHere_137 rfl ?_
  obtain ⟨q3, hres⟩ := am_ck_some hres
  refine am_getR cx dX12_groupHere_138 flX12_21 (am_ke q3) ?_
  refine am_aload_n cx 0 dX12_groupHere_141 rfl ?_
  refine am_getI cx dX12_groupHere_142 flX12_179 (am_ke q3) ?_
  refine am_dup2 cx dX12_groupHere_145 rfl rfl ?_
  obtain ⟨q4, hres⟩ := am_ck_some hres
  obtain ⟨q5, hres⟩ := am_ck_some hres
  refine am_iald cx dX12_groupHere_146 (am_ke q4) q5 ?_
  refine am_iconst cx (v := (1 : Int32)) dX12_groupHere_147 (by decide) ?_
  refine am_iadd cx dX12_groupHere_148 ?_
  obtain ⟨q6, hres⟩ := am_ck_some hres
  refine am_iast cx dX12_groupHere_149 (am_ke q4) q6  ?_
  refine am_iconst cx (v := (0 : Int32)) dX12_groupHere_150 (by decide) ?_
  refine am_istore_n cx (lv' := [(0, .inr (.inr (.inl r0))), (1, .inl (0 : Int32))]) dX12_groupHere_151 (Nat.le_of_ble_eq_true rfl) rfl ?_
  refine am_aload_n cx 0 dX12_groupHere_152 rfl ?_
  obtain ⟨v7, M8, q9, hres⟩ := am_bd_some hres
  refine am_callV0 cx [] dX12_groupHere_153 cvX12_190 (mt12_steps q9) (am_ke q3) ⟨rfl, rfl, Nat.le_of_ble_eq_true rfl, Nat.le_of_ble_eq_true rfl⟩ rfl (Nat.le_of_ble_eq_true rfl) ⟨Nat.le_of_ble_eq_true rfl, Nat.le_of_ble_eq_true rfl⟩ ?_
  refine am_aload_n cx 0 dX12_groupHere_156 rfl ?_
  obtain ⟨q10, hres⟩ := am_ck_some hres
  refine am_getI cx dX12_groupHere_157 flX12_127 (am_ke q10) ?_
  refine am_bipush cx (v := (6 : Int32)) dX12_groupHere_160 (by decide) ?_
  refine am_icmp_ne cx (tgt := 29) dX12_groupHere_162 (by decide) (fun h => ?_) (fun h => ?_)
  · have hres := am_ifn h hres
    exact hk29 _ _ _ hres
  · have hres := am_ifp h hres
    refine am_aload_n cx 0 dX12_groupHere_165 rfl ?_
    obtain ⟨v11, M12, q13, hres⟩ := am_bd_some hres
    refine am_callV0 cx [] dX12_groupHere_166 cvX12_190 (mt12_steps q13) (am_ke q10) ⟨rfl, rfl, Nat.le_of_ble_eq_true rfl, Nat.le_of_ble_eq_true rfl⟩ rfl (Nat.le_of_ble_eq_true rfl) ⟨Nat.le_of_ble_eq_true rfl, Nat.le_of_ble_eq_true rfl⟩ ?_
    refine am_iconst cx (v := (1 : Int32)) dX12_groupHere_169 (by decide) ?_
    obtain ⟨rfl, rfl⟩ := am_fin hres
    exact am_zret cx rfl dX12_groupHere_170
set_option maxRecDepth 20000 in
theorem sn12_groupHere_b90 {l : Launch} {G : am_G} {v : Int32} {M' : am_Mem} {N : Nat} {k29 : Nat → Int32 → am_Mem → Option (Int32 × am_Mem)} (cx : am_Ctx l rm12_groupHere yX12_groupHere cX12_groupHere 2 (some .boolean) (some (.inl v)) M' 0 0 G) (hk29 : ∀ (r0 : Nat) (x1 : Int32) (M : am_Mem), k29 r0 x1 M = some (v, M') → G 29 [(0, .inr (.inr (.inl r0))), (1, .inl x1)] [] M 0 0) {c0 : Nat} {a1 : Int32} {r0 : Nat} {x1 : Int32} {M : am_Mem} (hres : fn12_groupHere_b90 N k29 c0 a1 r0 x1 M = some (v, M')) : G 90 [(0, .inr (.inr (.inl r0))), (1, .inl x1)] [.inl a1, .inr (.inr (.inl c0))] M 0 0 := by
  unfold fn12_groupHere_b90 at hres
  refine am_iconst cx (v := (4 : Int32)) dX12_groupHere_90 (by decide) ?_
  obtain ⟨q1, hres⟩ := am_ck_some hres
  obtain ⟨v2, M3, q4, hres⟩ := am_bd_some hres
  refine am_callV1 cx [.inl a1, .inl (4 : Int32)] dX12_groupHere_91 cvX12_186 (mt12_must q4) (am_ke q1) ⟨rfl, rfl, Nat.le_of_ble_eq_true rfl, Nat.le_of_ble_eq_true rfl⟩ rfl (Nat.le_of_ble_eq_true rfl) ⟨Nat.le_of_ble_eq_true rfl, Nat.le_of_ble_eq_true rfl⟩ ?_
  refine am_if_ne cx (tgt := 99) dX12_groupHere_94 (by decide) (fun h => ?_) (fun h => ?_)
  · have hres := am_ifn h hres
    refine am_aload_n cx 0 dX12_groupHere_99 rfl ?_
    obtain ⟨q5, hres⟩ := am_ck_some hres
    refine am_getR cx dX12_groupHere_100 flX12_27 (am_ke q5) ?_
    refine am_bipush cx (v := (29 : Int32)) dX12_groupHere_103 (by decide) ?_
    refine am_aload_n cx 0 dX12_groupHere_105 rfl ?_
    refine am_getI cx dX12_groupHere_106 flX12_179 (am_ke q5) ?_
    refine am_imul cx dX12_groupHere_109 ?_
    refine am_aload_n cx 0 dX12_groupHere_110 rfl ?_
    refine am_getR cx dX12_groupHere_111 flX12_21 (am_ke q5) ?_
    refine am_aload_n cx 0 dX12_groupHere_114 rfl ?_
    refine am_getI cx dX12_groupHere_115 flX12_179 (am_ke q5) ?_
    obtain ⟨q6, hres⟩ := am_ck_some hres
    obtain ⟨q7, hres⟩ := am_ck_some hres
    refine am_iald cx dX12_groupHere_118 (am_ke q6) q7 ?_
    refine am_iadd cx dX12_groupHere_119 ?_
    refine am_iload_n cx 1 dX12_groupHere_120 rfl ?_
    refine am_if_eq cx (tgt := 132) dX12_groupHere_121 (by decide) (fun h => ?_) (fun h => ?_)
    · have hres := am_ifp h hres
      refine am_aload_n cx 0 dX12_groupHere_132 rfl ?_
      refine am_getI cx dX12_groupHere_133 flX12_130 (am_ke q5) ?_
      refine am_sub cx [0] rfl ?_
      exact sn12_groupHere_b136 cx hk29 hres
    · have hres := am_ifn h hres
      refine am_aload_n cx 0 dX12_groupHere_124 rfl ?_
      refine am_getI cx dX12_groupHere_125 flX12_130 (am_ke q5) ?_
      refine am_ineg cx dX12_groupHere_128 ?_
      refine am_goto cx (tgt := 136) dX12_groupHere_129 (by decide) ?_
      refine am_sub cx [0] rfl ?_
      exact sn12_groupHere_b136 cx hk29 hres
  · have hres := am_ifp h hres
    refine am_sub cx [] rfl ?_
    exact sn12_groupHere_b97 cx  hres
set_option maxRecDepth 20000 in
theorem sn12_groupHere_b63 {l : Launch} {G : am_G} {v : Int32} {M' : am_Mem} {N : Nat} {k29 : Nat → Int32 → am_Mem → Option (Int32 × am_Mem)} (cx : am_Ctx l rm12_groupHere yX12_groupHere cX12_groupHere 2 (some .boolean) (some (.inl v)) M' 0 0 G) (hk29 : ∀ (r0 : Nat) (x1 : Int32) (M : am_Mem), k29 r0 x1 M = some (v, M') → G 29 [(0, .inr (.inr (.inl r0))), (1, .inl x1)] [] M 0 0) {c0 : Nat} {a1 : Int32} {r0 : Nat} {x1 : Int32} {M : am_Mem} (hres : fn12_groupHere_b63 N k29 c0 a1 r0 x1 M = some (v, M')) : G 63 [(0, .inr (.inr (.inl r0))), (1, .inl x1)] [.inl a1, .inr (.inr (.inl c0))] M 0 0 := by
  unfold fn12_groupHere_b63 at hres
  refine am_iconst cx (v := (3 : Int32)) dX12_groupHere_63 (by decide) ?_
  obtain ⟨q1, hres⟩ := am_ck_some hres
  obtain ⟨v2, M3, q4, hres⟩ := am_bd_some hres
  refine am_callV1 cx [.inl a1, .inl (3 : Int32)] dX12_groupHere_64 cvX12_186 (mt12_must q4) (am_ke q1) ⟨rfl, rfl, Nat.le_of_ble_eq_true rfl, Nat.le_of_ble_eq_true rfl⟩ rfl (Nat.le_of_ble_eq_true rfl) ⟨Nat.le_of_ble_eq_true rfl, Nat.le_of_ble_eq_true rfl⟩ ?_
  refine am_if_eq cx (tgt := 97) dX12_groupHere_67 (by decide) (fun h => ?_) (fun h => ?_)
  · have hres := am_ifp h hres
    refine am_sub cx [] rfl ?_
    exact sn12_groupHere_b97 cx  hres
  · have hres := am_ifn h hres
    refine am_aload_n cx 0 dX12_groupHere_70 rfl ?_
    refine am_aload_n cx 0 dX12_groupHere_71 rfl ?_
    obtain ⟨q5, hres⟩ := am_ck_some hres
    refine am_getR cx dX12_groupHere_72 flX12_21 (am_ke q5) ?_
    refine am_aload_n cx 0 dX12_groupHere_75 rfl ?_
    refine am_getI cx dX12_groupHere_76 flX12_179 (am_ke q5) ?_
    obtain ⟨q6, hres⟩ := am_ck_some hres
    obtain ⟨q7, hres⟩ := am_ck_some hres
    refine am_iald cx dX12_groupHere_79 (am_ke q6) q7 ?_
    refine am_bipush cx (v := (24 : Int32)) dX12_groupHere_80 (by decide) ?_
    refine am_icmp_ge cx (tgt := 89) dX12_groupHere_82 (by decide) (fun h => ?_) (fun h => ?_)
    · have hres := am_ifp h hres
      refine am_iconst cx (v := (0 : Int32)) dX12_groupHere_89 (by decide) ?_
      exact sn12_groupHere_b90 cx hk29 hres
    · have hres := am_ifn h hres
      refine am_iconst cx (v := (1 : Int32)) dX12_groupHere_85 (by decide) ?_
      refine am_goto cx (tgt := 90) dX12_groupHere_86 (by decide) ?_
      exact sn12_groupHere_b90 cx hk29 hres
set_option maxRecDepth 20000 in
theorem sn12_groupHere_b43 {l : Launch} {G : am_G} {v : Int32} {M' : am_Mem} {N : Nat} {k29 : Nat → Int32 → am_Mem → Option (Int32 × am_Mem)} (cx : am_Ctx l rm12_groupHere yX12_groupHere cX12_groupHere 2 (some .boolean) (some (.inl v)) M' 0 0 G) (hk29 : ∀ (r0 : Nat) (x1 : Int32) (M : am_Mem), k29 r0 x1 M = some (v, M') → G 29 [(0, .inr (.inr (.inl r0))), (1, .inl x1)] [] M 0 0) {c0 : Nat} {a1 : Int32} {r0 : Nat} {x1 : Int32} {M : am_Mem} (hres : fn12_groupHere_b43 N k29 c0 a1 r0 x1 M = some (v, M')) : G 43 [(0, .inr (.inr (.inl r0))), (1, .inl x1)] [.inl a1, .inr (.inr (.inl c0))] M 0 0 := by
  unfold fn12_groupHere_b43 at hres
  refine am_iconst cx (v := (1 : Int32)) dX12_groupHere_43 (by decide) ?_
  obtain ⟨q1, hres⟩ := am_ck_some hres
  obtain ⟨v2, M3, q4, hres⟩ := am_bd_some hres
  refine am_callV1 cx [.inl a1, .inl (1 : Int32)] dX12_groupHere_44 cvX12_186 (mt12_must q4) (am_ke q1) ⟨rfl, rfl, Nat.le_of_ble_eq_true rfl, Nat.le_of_ble_eq_true rfl⟩ rfl (Nat.le_of_ble_eq_true rfl) ⟨Nat.le_of_ble_eq_true rfl, Nat.le_of_ble_eq_true rfl⟩ ?_
  refine am_if_eq cx (tgt := 97) dX12_groupHere_47 (by decide) (fun h => ?_) (fun h => ?_)
  · have hres := am_ifp h hres
    refine am_sub cx [] rfl ?_
    exact sn12_groupHere_b97 cx  hres
  · have hres := am_ifn h hres
    refine am_aload_n cx 0 dX12_groupHere_50 rfl ?_
    refine am_aload_n cx 0 dX12_groupHere_51 rfl ?_
    obtain ⟨q5, hres⟩ := am_ck_some hres
    refine am_getI cx dX12_groupHere_52 flX12_130 (am_ke q5) ?_
    refine am_if_le cx (tgt := 62) dX12_groupHere_55 (by decide) (fun h => ?_) (fun h => ?_)
    · have hres := am_ifp h hres
      refine am_iconst cx (v := (0 : Int32)) dX12_groupHere_62 (by decide) ?_
      exact sn12_groupHere_b63 cx hk29 hres
    · have hres := am_ifn h hres
      refine am_iconst cx (v := (1 : Int32)) dX12_groupHere_58 (by decide) ?_
      refine am_goto cx (tgt := 63) dX12_groupHere_59 (by decide) ?_
      exact sn12_groupHere_b63 cx hk29 hres
set_option maxRecDepth 20000 in
theorem sn12_groupHere_b29B {l : Launch} {G : am_G} {v : Int32} {M' : am_Mem} {N : Nat} {k29 : Nat → Int32 → am_Mem → Option (Int32 × am_Mem)} (cx : am_Ctx l rm12_groupHere yX12_groupHere cX12_groupHere 2 (some .boolean) (some (.inl v)) M' 0 0 G) (hk29 : ∀ (r0 : Nat) (x1 : Int32) (M : am_Mem), k29 r0 x1 M = some (v, M') → G 29 [(0, .inr (.inr (.inl r0))), (1, .inl x1)] [] M 0 0) {r0 : Nat} {x1 : Int32} {M : am_Mem} (hres : fn12_groupHere_b29B N k29 r0 x1 M = some (v, M')) : G 29 [(0, .inr (.inr (.inl r0))), (1, .inl x1)] [] M 0 0 := by
  unfold fn12_groupHere_b29B at hres
  refine am_aload_n cx 0 dX12_groupHere_29 rfl ?_
  refine am_aload_n cx 0 dX12_groupHere_30 rfl ?_
  obtain ⟨q1, hres⟩ := am_ck_some hres
  refine am_getI cx dX12_groupHere_31 flX12_127 (am_ke q1) ?_
  refine am_iconst cx (v := (2 : Int32)) dX12_groupHere_34 (by decide) ?_
  refine am_icmp_ne cx (tgt := 42) dX12_groupHere_35 (by decide) (fun h => ?_) (fun h => ?_)
  · have hres := am_ifn h hres
    refine am_iconst cx (v := (0 : Int32)) dX12_groupHere_42 (by decide) ?_
    exact sn12_groupHere_b43 cx hk29 hres
  · have hres := am_ifp h hres
    refine am_iconst cx (v := (1 : Int32)) dX12_groupHere_38 (by decide) ?_
    refine am_goto cx (tgt := 43) dX12_groupHere_39 (by decide) ?_
    exact sn12_groupHere_b43 cx hk29 hres
set_option maxRecDepth 20000 in
theorem sn12_groupHere_b29 {l : Launch} {G : am_G} {v : Int32} {M' : am_Mem} {N : Nat}  (cx : am_Ctx l rm12_groupHere yX12_groupHere cX12_groupHere 2 (some .boolean) (some (.inl v)) M' 0 0 G)  (i : Nat) : ∀ (r0 : Nat) (x1 : Int32) (M : am_Mem), fn12_groupHere_b29 N  i r0 x1 M = some (v, M') → G 29 [(0, .inr (.inr (.inl r0))), (1, .inl x1)] [] M 0 0 := by
  induction i with
  | zero => intro r0 x1 M hres; exact am_no hres
  | succ i ih => intro r0 x1 M hres; exact sn12_groupHere_b29B cx ih hres
set_option maxRecDepth 20000 in
theorem sn12_groupHere_b14 {l : Launch} {G : am_G} {v : Int32} {M' : am_Mem} {N : Nat}  (cx : am_Ctx l rm12_groupHere yX12_groupHere cX12_groupHere 2 (some .boolean) (some (.inl v)) M' 0 0 G)  {c0 : Nat} {a1 : Int32} {r0 : Nat} {M : am_Mem} (hres : fn12_groupHere_b14 N  c0 a1 r0 M = some (v, M')) : G 14 [(0, .inr (.inr (.inl r0)))] [.inl a1, .inr (.inr (.inl c0))] M 0 0 := by
  unfold fn12_groupHere_b14 at hres
  refine am_iconst cx (v := (1 : Int32)) dX12_groupHere_14 (by decide) ?_
  obtain ⟨q1, hres⟩ := am_ck_some hres
  obtain ⟨v2, M3, q4, hres⟩ := am_bd_some hres
  refine am_callV1 cx [.inl a1, .inl (1 : Int32)] dX12_groupHere_15 cvX12_186 (mt12_must q4) (am_ke q1) ⟨rfl, rfl, Nat.le_of_ble_eq_true rfl, Nat.le_of_ble_eq_true rfl⟩ rfl (Nat.le_of_ble_eq_true rfl) ⟨Nat.le_of_ble_eq_true rfl, Nat.le_of_ble_eq_true rfl⟩ ?_
  refine am_if_ne cx (tgt := 23) dX12_groupHere_18 (by decide) (fun h => ?_) (fun h => ?_)
  · have hres := am_ifn h hres
    refine am_aload_n cx 0 dX12_groupHere_23 rfl ?_
    obtain ⟨q5, hres⟩ := am_ck_some hres
    obtain ⟨v6, M7, q8, hres⟩ := am_bd_some hres
    refine am_callV0 cx [] dX12_groupHere_24 cvX12_190 (mt12_steps q8) (am_ke q5) ⟨rfl, rfl, Nat.le_of_ble_eq_true rfl, Nat.le_of_ble_eq_true rfl⟩ rfl (Nat.le_of_ble_eq_true rfl) ⟨Nat.le_of_ble_eq_true rfl, Nat.le_of_ble_eq_true rfl⟩ ?_
    refine am_iconst cx (v := (1 : Int32)) dX12_groupHere_27 (by decide) ?_
    refine am_istore_n cx (lv' := [(0, .inr (.inr (.inl r0))), (1, .inl (1 : Int32))]) dX12_groupHere_28 (Nat.le_of_ble_eq_true rfl) rfl ?_
    exact sn12_groupHere_b29 cx  N _ _ _ hres
  · have hres := am_ifp h hres
    refine am_iconst cx (v := (0 : Int32)) dX12_groupHere_21 (by decide) ?_
    obtain ⟨rfl, rfl⟩ := am_fin hres
    exact am_zret cx rfl dX12_groupHere_22
set_option maxRecDepth 20000 in
theorem sn12_groupHere_b0 {l : Launch} {G : am_G} {v : Int32} {M' : am_Mem} {N : Nat}  (cx : am_Ctx l rm12_groupHere yX12_groupHere cX12_groupHere 2 (some .boolean) (some (.inl v)) M' 0 0 G)  {r0 : Nat} {M : am_Mem} (hres : fn12_groupHere_b0 N  r0 M = some (v, M')) : G 0 [(0, .inr (.inr (.inl r0)))] [] M 0 0 := by
  unfold fn12_groupHere_b0 at hres
  refine am_aload_n cx 0 dX12_groupHere_0 rfl ?_
  refine am_aload_n cx 0 dX12_groupHere_1 rfl ?_
  obtain ⟨q1, hres⟩ := am_ck_some hres
  refine am_getI cx dX12_groupHere_2 flX12_127 (am_ke q1) ?_
  refine am_iconst cx (v := (5 : Int32)) dX12_groupHere_5 (by decide) ?_
  refine am_icmp_ne cx (tgt := 13) dX12_groupHere_6 (by decide) (fun h => ?_) (fun h => ?_)
  · have hres := am_ifn h hres
    refine am_iconst cx (v := (0 : Int32)) dX12_groupHere_13 (by decide) ?_
    exact sn12_groupHere_b14 cx  hres
  · have hres := am_ifp h hres
    refine am_iconst cx (v := (1 : Int32)) dX12_groupHere_9 (by decide) ?_
    refine am_goto cx (tgt := 14) dX12_groupHere_10 (by decide) ?_
    exact sn12_groupHere_b14 cx  hres
set_option maxRecDepth 20000 in
theorem mt12_groupHere {l : Launch} {v : Int32} {M M' : am_Mem} {N : Nat} {r0 : Nat} (h : fn12_groupHere N M r0 = some (v, M')) : am_Met l yX12_groupHere cX12_groupHere 2 (some .boolean) rm12_groupHere 0 0 [.inr (.inr (.inl r0))] M (some (.inl v)) M' := am_mk (by decide) (Nat.le_of_ble_eq_true rfl) (fun G cx => (sn12_groupHere_b0 cx h))
