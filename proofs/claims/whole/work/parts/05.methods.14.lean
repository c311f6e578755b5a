-- SquareCuts$Reader.readGroups
def fn8_readGroups_b48 (N : Nat)   (M : am_Mem) : Option (Int32 × am_Mem) :=
  some ((0 : Int32), M)
def fn8_readGroups_b16B (N : Nat) (k16 : Nat → Int32 → am_Mem → Option (Int32 × am_Mem)) (r0 : Nat) (x1 : Int32) (M : am_Mem) : Option (Int32 × am_Mem) :=
  if (24 : Int32) < x1 then fn8_readGroups_b48 N   M else am_ck (am_k M r0 8) (if (am_I M r0 3) = (3 : Int32) then am_bd (fn8_readGroup N M r0 x1) (fun v2 M3 => if v2 = 0 then k16 r0 (x1 + (1 : Int32)) M3 else some (v2, M3)) else fn8_readGroups_b48 N   M)
def fn8_readGroups_b16 (N : Nat)  : Nat → Nat → Int32 → am_Mem → Option (Int32 × am_Mem)
  | 0 => fun _ _ _ => none
  | i + 1 => fn8_readGroups_b16B N (fn8_readGroups_b16 N  i)
def fn8_readGroups_b0 (N : Nat)  (r0 : Nat) (M : am_Mem) : Option (Int32 × am_Mem) :=
  am_ck (am_k M r0 8) (if (am_I M r0 3) = (3 : Int32) then fn8_readGroups_b16 N  N r0 (0 : Int32) M else am_bd (fn8_faultOf M r0 (1 : Int32)) (fun v2 M3 => some (v2, M3)))
def fn8_readGroups (N : Nat) (M : am_Mem) (r0 : Nat) : Option (Int32 × am_Mem) := fn8_readGroups_b0 N r0 M
def rm8_readGroups : Room := { frames := 3, cells := 0, slots := 0, locals := 62 }
set_option maxRecDepth 20000 in
theorem sn8_readGroups_b48 {l : Launch} {G : am_G} {v : Int32} {M' : am_Mem} {N : Nat}  (cx : am_Ctx l rm8_readGroups yX8_readGroups cX8_readGroups 3 (some .int) (some (.inl v)) M' 0 0 G)   {M : am_Mem} (hres : fn8_readGroups_b48 N   M = some (v, M')) : G 48 [] [] M 0 0 := by
  unfold fn8_readGroups_b48 at hres
  refine am_iconst cx (v := (0 : Int32)) dX8_readGroups_48 (by decide) ?_
  obtain ⟨rfl, rfl⟩ := am_fin hres
  exact am_iret cx dX8_readGroups_49
set_option maxRecDepth 20000 in
theorem sn8_readGroups_b16B {l : Launch} {G : am_G} {v : Int32} {M' : am_Mem} {N : Nat} {k16 : Nat → Int32 → am_Mem → Option (Int32 × am_Mem)} (cx : am_Ctx l rm8_readGroups yX8_readGroups cX8_readGroups 3 (some .int) (some (.inl v)) M' 0 0 G) (hk16 : ∀ (r0 : Nat) (x1 : Int32) (M : am_Mem), k16 r0 x1 M = some (v, M') → G 16 [(0, .inr (.inr r0)), (1, .inl x1)] [] M 0 0) {r0 : Nat} {x1 : Int32} {M : am_Mem} (hres : fn8_readGroups_b16B N k16 r0 x1 M = some (v, M')) : G 16 [(0, .inr (.inr r0)), (1, .inl x1)] [] M 0 0 := by
  unfold fn8_readGroups_b16B at hres
  refine am_iload_n cx 1 dX8_readGroups_16 rfl ?_
  refine am_bipush cx (v := (24 : Int32)) dX8_readGroups_17 (by decide) ?_
  refine am_icmp_gt cx (tgt := 48) dX8_readGroups_19 (by decide) (fun h => ?_) (fun h => ?_)
  · have hres := am_ifp h hres
    refine am_sub cx [] rfl ?_
    exact sn8_readGroups_b48 cx  hres
  · have hres := am_ifn h hres
    refine am_aload_n cx 0 dX8_readGroups_22 rfl ?_
    obtain ⟨q1, hres⟩ := am_ck_some hres
    refine am_getI cx dX8_readGroups_23 flX8_57 (am_ke q1) ?_
    refine am_iconst cx (v := (3 : Int32)) dX8_readGroups_26 (by decide) ?_
    refine am_icmp_ne cx (tgt := 48) dX8_readGroups_27 (by decide) (fun h => ?_) (fun h => ?_)
    · have hres := am_ifn h hres
      refine am_sub cx [] rfl ?_
      exact sn8_readGroups_b48 cx  hres
    · have hres := am_ifp h hres
      refine am_aload_n cx 0 dX8_readGroups_30 rfl ?_
      refine am_iload_n cx 1 dX8_readGroups_31 rfl ?_
      obtain ⟨v2, M3, q4, hres⟩ := am_bd_some hres
      refine am_callV1 cx [.inl x1] dX8_readGroups_32 cvX8_90 (mt8_readGroup q4) (am_ke q1) ⟨rfl, rfl, Nat.le_of_ble_eq_true rfl, Nat.le_of_ble_eq_true rfl⟩ rfl (Nat.le_of_ble_eq_true rfl) ⟨Nat.le_of_ble_eq_true rfl, Nat.le_of_ble_eq_true rfl⟩ ?_
      refine am_istore_n cx (lv' := [(0, .inr (.inr r0)), (1, .inl x1), (2, .inl v2)]) dX8_readGroups_35 (Nat.le_of_ble_eq_true rfl) rfl ?_
      refine am_iload_n cx 2 dX8_readGroups_36 rfl ?_
      refine am_if_eq cx (tgt := 42) dX8_readGroups_37 (by decide) (fun h => ?_) (fun h => ?_)
      · have hres := am_ifp h hres
        refine am_iincw cx (lv' := [(0, .inr (.inr r0)), (1, .inl (x1 + (1 : Int32))), (2, .inl v2)]) (w := (1 : Int32)) 1 dX8_readGroups_42 (by decide) rfl (Nat.le_of_ble_eq_true rfl) rfl ?_
        refine am_goto cx (tgt := 16) dX8_readGroups_45 (by decide) ?_
        refine am_sub cx [0, 1] rfl ?_
        exact hk16 _ _ _ hres
      · have hres := am_ifn h hres
        refine am_iload_n cx 2 dX8_readGroups_40 rfl ?_
        obtain ⟨rfl, rfl⟩ := am_fin hres
        exact am_iret cx dX8_readGroups_41
set_option maxRecDepth 20000 in
theorem sn8_readGroups_b16 {l : Launch} {G : am_G} {v : Int32} {M' : am_Mem} {N : Nat}  (cx : am_Ctx l rm8_readGroups yX8_readGroups cX8_readGroups 3 (some .int) (some (.inl v)) M' 0 0 G)  (i : Nat) : ∀ (r0 : Nat) (x1 : Int32) (M : am_Mem), fn8_readGroups_b16 N  i r0 x1 M = some (v, M') → G 16 [(0, .inr (.inr r0)), (1, .inl x1)] [] M 0 0 := by
  induction i with
  | zero => intro r0 x1 M hres; exact am_no hres
  | succ i ih => intro r0 x1 M hres; exact sn8_readGroups_b16B cx ih hres
set_option maxRecDepth 20000 in
theorem sn8_readGroups_b0 {l : Launch} {G : am_G} {v : Int32} {M' : am_Mem} {N : Nat}  (cx : am_Ctx l rm8_readGroups yX8_readGroups cX8_readGroups 3 (some .int) (some (.inl v)) M' 0 0 G)  {r0 : Nat} {M : am_Mem} (hres : fn8_readGroups_b0 N  r0 M = some (v, M')) : G 0 [(0, .inr (.inr r0))] [] M 0 0 := by
  unfold fn8_readGroups_b0 at hres
  refine am_aload_n cx 0 dX8_readGroups_0 rfl ?_
  obtain ⟨q1, hres⟩ := am_ck_some hres
  refine am_getI cx dX8_readGroups_1 flX8_57 (am_ke q1) ?_
  refine am_iconst cx (v := (3 : Int32)) dX8_readGroups_4 (by decide) ?_
  refine am_icmp_eq cx (tgt := 14) dX8_readGroups_5 (by decide) (fun h => ?_) (fun h => ?_)
  · have hres := am_ifp h hres
    refine am_iconst cx (v := (0 : Int32)) dX8_readGroups_14 (by decide) ?_
    refine am_istore_n cx (lv' := [(0, .inr (.inr r0)), (1, .inl (0 : Int32))]) dX8_readGroups_15 (Nat.le_of_ble_eq_true rfl) rfl ?_
    exact sn8_readGroups_b16 cx  N _ _ _ hres
  · have hres := am_ifn h hres
    refine am_aload_n cx 0 dX8_readGroups_8 rfl ?_
    refine am_iconst cx (v := (1 : Int32)) dX8_readGroups_9 (by decide) ?_
    obtain ⟨v2, M3, q4, hres⟩ := am_bd_some hres
    refine am_callV1 cx [.inl (1 : Int32)] dX8_readGroups_10 cvX8_72 (mt8_faultOf q4) (am_ke q1) ⟨rfl, rfl, Nat.le_of_ble_eq_true rfl, Nat.le_of_ble_eq_true rfl⟩ rfl (Nat.le_of_ble_eq_true rfl) ⟨Nat.le_of_ble_eq_true rfl, Nat.le_of_ble_eq_true rfl⟩ ?_
    obtain ⟨rfl, rfl⟩ := am_fin hres
    exact am_iret cx dX8_readGroups_13
set_option maxRecDepth 20000 in
theorem mt8_readGroups {l : Launch} {v : Int32} {M M' : am_Mem} {N : Nat} {r0 : Nat} (h : fn8_readGroups N M r0 = some (v, M')) : am_Met l yX8_readGroups cX8_readGroups 3 (some .int) rm8_readGroups 0 0 [.inr (.inr r0)] M (some (.inl v)) M' := am_mk (by decide) (Nat.le_of_ble_eq_true rfl) (fun G cx => (sn8_readGroups_b0 cx h))
-- SquareCuts$Reader.readNet
def fn8_readNet_b36 (N : Nat)  (r0 : Nat) (M : am_Mem) : Option (Int32 × am_Mem) :=
  am_ck (am_k M r0 8) (am_bd (fn8_faultOf M r0 (3 : Int32)) (fun v2 M3 => some (v2, M3)))
def fn8_readNet_b93 (N : Nat)   (M : am_Mem) : Option (Int32 × am_Mem) :=
  some ((0 : Int32), M)
def fn8_readNet_b57B (N : Nat) (k57 : Nat → Int64 → Int32 → am_Mem → Option (Int32 × am_Mem)) (r0 : Nat) (j1 : Int64) (x3 : Int32) (M : am_Mem) : Option (Int32 × am_Mem) :=
  if (14 : Int32) < x3 then fn8_readNet_b93 N   M else am_ck (am_k M r0 8) (if (am_I M r0 3) = (2 : Int32) then am_bd (fn8_readWire N M r0 x3 j1) (fun v2 M3 => if v2 = 0 then k57 r0 j1 (x3 + (1 : Int32)) M3 else some (v2, M3)) else fn8_readNet_b93 N   M)
def fn8_readNet_b57 (N : Nat)  : Nat → Nat → Int64 → Int32 → am_Mem → Option (Int32 × am_Mem)
  | 0 => fun _ _ _ _ => none
  | i + 1 => fn8_readNet_b57B N (fn8_readNet_b57 N  i)
def fn8_readNet_b47 (N : Nat)  (r0 : Nat) (j1 : Int64) (M : am_Mem) : Option (Int32 × am_Mem) :=
  am_ck (am_k M r0 8) (am_bd (fn8_holdValue M r0) (fun v2 M3 => am_ck (am_k M3 r0 8) (am_bd (fn8_nextToken N M3 r0) (fun v6 M7 => fn8_readNet_b57 N  N r0 j1 (0 : Int32) M7))))
def fn8_readNet_b0 (N : Nat)  (r0 : Nat) (M : am_Mem) : Option (Int32 × am_Mem) :=
  am_ck (am_k M r0 8) (if (am_I M r0 3) = (2 : Int32) then if (lg_cmp (am_J M r0 5) (2 : Int64)) < 0 then fn8_readNet_b36 N  r0 M else if (lg_cmp (am_J M r0 5) (9 : Int64)) ≤ 0 then fn8_readNet_b47 N  r0 (am_J M r0 5) M else fn8_readNet_b36 N  r0 M else am_bd (fn8_faultOf M r0 (1 : Int32)) (fun v2 M3 => some (v2, M3)))
def fn8_readNet (N : Nat) (M : am_Mem) (r0 : Nat) : Option (Int32 × am_Mem) := fn8_readNet_b0 N r0 M
def rm8_readNet : Room := { frames := 3, cells := 0, slots := 0, locals := 65 }
set_option maxRecDepth 20000 in
theorem sn8_readNet_b36 {l : Launch} {G : am_G} {v : Int32} {M' : am_Mem} {N : Nat}  (cx : am_Ctx l rm8_readNet yX8_readNet cX8_readNet 5 (some .int) (some (.inl v)) M' 0 0 G)  {r0 : Nat} {M : am_Mem} (hres : fn8_readNet_b36 N  r0 M = some (v, M')) : G 36 [(0, .inr (.inr r0))] [] M 0 0 := by
  unfold fn8_readNet_b36 at hres
  refine am_aload_n cx 0 dX8_readNet_36 rfl ?_
  refine am_iconst cx (v := (3 : Int32)) dX8_readNet_37 (by decide) ?_
  obtain ⟨q1, hres⟩ := am_ck_some hres
  obtain ⟨v2, M3, q4, hres⟩ := am_bd_some hres
  refine am_callV1 cx [.inl (3 : Int32)] dX8_readNet_38 cvX8_72 (mt8_faultOf q4) (am_ke q1) ⟨rfl, rfl, Nat.le_of_ble_eq_true rfl, Nat.le_of_ble_eq_true rfl⟩ rfl (Nat.le_of_ble_eq_true rfl) ⟨Nat.le_of_ble_eq_true rfl, Nat.le_of_ble_eq_true rfl⟩ ?_
  obtain ⟨rfl, rfl⟩ := am_fin hres
  exact am_iret cx dX8_readNet_41
set_option maxRecDepth 20000 in
theorem sn8_readNet_b93 {l : Launch} {G : am_G} {v : Int32} {M' : am_Mem} {N : Nat}  (cx : am_Ctx l rm8_readNet yX8_readNet cX8_readNet 5 (some .int) (some (.inl v)) M' 0 0 G)   {M : am_Mem} (hres : fn8_readNet_b93 N   M = some (v, M')) : G 93 [] [] M 0 0 := by
  unfold fn8_readNet_b93 at hres
  refine am_iconst cx (v := (0 : Int32)) dX8_readNet_93 (by decide) ?_
  obtain ⟨rfl, rfl⟩ := am_fin hres
  exact am_iret cx dX8_readNet_94
set_option maxRecDepth 20000 in
theorem sn8_readNet_b57B {l : Launch} {G : am_G} {v : Int32} {M' : am_Mem} {N : Nat} {k57 : Nat → Int64 → Int32 → am_Mem → Option (Int32 × am_Mem)} (cx : am_Ctx l rm8_readNet yX8_readNet cX8_readNet 5 (some .int) (some (.inl v)) M' 0 0 G) (hk57 : ∀ (r0 : Nat) (j1 : Int64) (x3 : Int32) (M : am_Mem), k57 r0 j1 x3 M = some (v, M') → G 57 [(0, .inr (.inr r0)), (1, .inr (.inl j1)), (3, .inl x3)] [] M 0 0) {r0 : Nat} {j1 : Int64} {x3 : Int32} {M : am_Mem} (hres : fn8_readNet_b57B N k57 r0 j1 x3 M = some (v, M')) : G 57 [(0, .inr (.inr r0)), (1, .inr (.inl j1)), (3, .inl x3)] [] M 0 0 := by
  unfold fn8_readNet_b57B at hres
  refine am_iload_n cx 2 dX8_readNet_57 rfl ?_
  refine am_bipush cx (v := (14 : Int32)) dX8_readNet_58 (by decide) ?_
  refine am_icmp_gt cx (tgt := 93) dX8_readNet_60 (by decide) (fun h => ?_) (fun h => ?_)
  · have hres := am_ifp h hres
    refine am_sub cx [] rfl ?_
    exact sn8_readNet_b93 cx  hres
  · have hres := am_ifn h hres
    refine am_aload_n cx 0 dX8_readNet_63 rfl ?_
    obtain ⟨q1, hres⟩ := am_ck_some hres
    refine am_getI cx dX8_readNet_64 flX8_57 (am_ke q1) ?_
    refine am_iconst cx (v := (2 : Int32)) dX8_readNet_67 (by decide) ?_
    refine am_icmp_ne cx (tgt := 93) dX8_readNet_68 (by decide) (fun h => ?_) (fun h => ?_)
    · have hres := am_ifn h hres
      refine am_sub cx [] rfl ?_
      exact sn8_readNet_b93 cx  hres
    · have hres := am_ifp h hres
      refine am_aload_n cx 0 dX8_readNet_71 rfl ?_
      refine am_iload_n cx 2 dX8_readNet_72 rfl ?_
      refine am_lload_n cx 1 dX8_readNet_73 rfl ?_
      obtain ⟨v2, M3, q4, hres⟩ := am_bd_some hres
      refine am_callV1 cx [.inl x3, .inr (.inl j1)] dX8_readNet_74 cvX8_100 (mt8_readWire q4) (am_ke q1) ⟨rfl, rfl, Nat.le_of_ble_eq_true rfl, Nat.le_of_ble_eq_true rfl⟩ rfl (Nat.le_of_ble_eq_true rfl) ⟨Nat.le_of_ble_eq_true rfl, Nat.le_of_ble_eq_true rfl⟩ ?_
      refine am_istore cx (lv' := [(0, .inr (.inr r0)), (1, .inr (.inl j1)), (3, .inl x3), (4, .inl v2)]) dX8_readNet_77 (Nat.le_of_ble_eq_true rfl) rfl ?_
      refine am_iload cx 3 dX8_readNet_79 rfl ?_
      refine am_if_eq cx (tgt := 87) dX8_readNet_81 (by decide) (fun h => ?_) (fun h => ?_)
      · have hres := am_ifp h hres
        refine am_iincw cx (lv' := [(0, .inr (.inr r0)), (1, .inr (.inl j1)), (3, .inl (x3 + (1 : Int32))), (4, .inl v2)]) (w := (1 : Int32)) 2 dX8_readNet_87 (by decide) rfl (Nat.le_of_ble_eq_true rfl) rfl ?_
        refine am_goto cx (tgt := 57) dX8_readNet_90 (by decide) ?_
        refine am_sub cx [0, 1, 2] rfl ?_
        exact hk57 _ _ _ _ hres
      · have hres := am_ifn h hres
        refine am_iload cx 3 dX8_readNet_84 rfl ?_
        obtain ⟨rfl, rfl⟩ := am_fin hres
        exact am_iret cx dX8_readNet_86
set_option maxRecDepth 20000 in
theorem sn8_readNet_b57 {l : Launch} {G : am_G} {v : Int32} {M' : am_Mem} {N : Nat}  (cx : am_Ctx l rm8_readNet yX8_readNet cX8_readNet 5 (some .int) (some (.inl v)) M' 0 0 G)  (i : Nat) : ∀ (r0 : Nat) (j1 : Int64) (x3 : Int32) (M : am_Mem), fn8_readNet_b57 N  i r0 j1 x3 M = some (v, M') → G 57 [(0, .inr (.inr r0)), (1, .inr (.inl j1)), (3, .inl x3)] [] M 0 0 := by
  induction i with
  | zero => intro r0 j1 x3 M hres; exact am_no hres
  | succ i ih => intro r0 j1 x3 M hres; exact sn8_readNet_b57B cx ih hres
set_option maxRecDepth 20000 in
theorem sn8_readNet_b47 {l : Launch} {G : am_G} {v : Int32} {M' : am_Mem} {N : Nat}  (cx : am_Ctx l rm8_readNet yX8_readNet cX8_readNet 5 (some .int) (some (.inl v)) M' 0 0 G)  {r0 : Nat} {j1 : Int64} {M : am_Mem} (hres : fn8_readNet_b47 N  r0 j1 M = some (v, M')) : G 47 [(0, .inr (.inr r0)), (1, .inr (.inl j1))] [] M 0 0 := by
  unfold fn8_readNet_b47 at hres
  refine am_aload_n cx 0 dX8_readNet_47 rfl ?_
  obtain ⟨q1, hres⟩ := am_ck_some hres
  obtain ⟨v2, M3, q4, hres⟩ := am_bd_some hres
  refine am_callV0 cx [] dX8_readNet_48 cvX8_93 (mt8_holdValue q4) (am_ke q1) ⟨rfl, rfl, Nat.le_of_ble_eq_true rfl, Nat.le_of_ble_eq_true rfl⟩ rfl (Nat.le_of_ble_eq_true rfl) ⟨Nat.le_of_ble_eq_true rfl, Nat.le_of_ble_eq_true rfl⟩ ?_
  refine am_aload_n cx 0 dX8_readNet_51 rfl ?_
  obtain ⟨q5, hres⟩ := am_ck_some hres
  obtain ⟨v6, M7, q8, hres⟩ := am_bd_some hres
  refine am_callV0 cx [] dX8_readNet_52 cvX8_54 (mt8_nextToken q8) (am_ke q5) ⟨rfl, rfl, Nat.le_of_ble_eq_true rfl, Nat.le_of_ble_eq_true rfl⟩ rfl (Nat.le_of_ble_eq_true rfl) ⟨Nat.le_of_ble_eq_true rfl, Nat.le_of_ble_eq_true rfl⟩ ?_
  refine am_iconst cx (v := (0 : Int32)) dX8_readNet_55 (by decide) ?_
  refine am_istore_n cx (lv' := [(0, .inr (.inr r0)), (1, .inr (.inl j1)), (3, .inl (0 : Int32))]) dX8_readNet_56 (Nat.le_of_ble_eq_true rfl) rfl ?_
  exact sn8_readNet_b57 cx  N _ _ _ _ hres
set_option maxRecDepth 20000 in
theorem sn8_readNet_b0 {l : Launch} {G : am_G} {v : Int32} {M' : am_Mem} {N : Nat}  (cx : am_Ctx l rm8_readNet yX8_readNet cX8_readNet 5 (some .int) (some (.inl v)) M' 0 0 G)  {r0 : Nat} {M : am_Mem} (hres : fn8_readNet_b0 N  r0 M = some (v, M')) : G 0 [(0, .inr (.inr r0))] [] M 0 0 := by
  unfold fn8_readNet_b0 at hres
  refine am_aload_n cx 0 dX8_readNet_0 rfl ?_
  obtain ⟨q1, hres⟩ := am_ck_some hres
  refine am_getI cx dX8_readNet_1 flX8_57 (am_ke q1) ?_
  refine am_iconst cx (v := (2 : Int32)) dX8_readNet_4 (by decide) ?_
  refine am_icmp_eq cx (tgt := 14) dX8_readNet_5 (by decide) (fun h => ?_) (fun h => ?_)
  · have hres := am_ifp h hres
    refine am_aload_n cx 0 dX8_readNet_14 rfl ?_
    refine am_getJ cx dX8_readNet_15 flX8_80 (am_ke q1) ?_
    refine am_ldc2 cx dX8_readNet_18 aw_2_128 ?_
    refine am_lcmp cx dX8_readNet_21 ?_
    refine am_if_lt cx (tgt := 36) dX8_readNet_22 (by decide) (fun h => ?_) (fun h => ?_)
    · have hres := am_ifp h hres
      exact sn8_readNet_b36 cx  hres
    · have hres := am_ifn h hres
      refine am_aload_n cx 0 dX8_readNet_25 rfl ?_
      refine am_getJ cx dX8_readNet_26 flX8_80 (am_ke q1) ?_
      refine am_ldc2 cx dX8_readNet_29 aw_2_129 ?_
      refine am_lcmp cx dX8_readNet_32 ?_
      refine am_if_le cx (tgt := 42) dX8_readNet_33 (by decide) (fun h => ?_) (fun h => ?_)
      · have hres := am_ifp h hres
        refine am_aload_n cx 0 dX8_readNet_42 rfl ?_
        refine am_getJ cx dX8_readNet_43 flX8_80 (am_ke q1) ?_
        refine am_lstore_n cx (lv' := [(0, .inr (.inr r0)), (1, .inr (.inl (am_J M r0 5)))]) dX8_readNet_46 (Nat.le_of_ble_eq_true rfl) rfl ?_
        exact sn8_readNet_b47 cx  hres
      · have hres := am_ifn h hres
        exact sn8_readNet_b36 cx  hres
  · have hres := am_ifn h hres
    refine am_aload_n cx 0 dX8_readNet_8 rfl ?_
    refine am_iconst cx (v := (1 : Int32)) dX8_readNet_9 (by decide) ?_
    obtain ⟨v2, M3, q4, hres⟩ := am_bd_some hres
    refine am_callV1 cx [.inl (1 : Int32)] dX8_readNet_10 cvX8_72 (mt8_faultOf q4) (am_ke q1) ⟨rfl, rfl, Nat.le_of_ble_eq_true rfl, Nat.le_of_ble_eq_true rfl⟩ rfl (Nat.le_of_ble_eq_true rfl) ⟨Nat.le_of_ble_eq_true rfl, Nat.le_of_ble_eq_true rfl⟩ ?_
    obtain ⟨rfl, rfl⟩ := am_fin hres
    exact am_iret cx dX8_readNet_13
set_option maxRecDepth 20000 in
theorem mt8_readNet {l : Launch} {v : Int32} {M M' : am_Mem} {N : Nat} {r0 : Nat} (h : fn8_readNet N M r0 = some (v, M')) : am_Met l yX8_readNet cX8_readNet 5 (some .int) rm8_readNet 0 0 [.inr (.inr r0)] M (some (.inl v)) M' := am_mk (by decide) (Nat.le_of_ble_eq_true rfl) (fun G cx => (sn8_readNet_b0 cx h))
-- SquareCuts.drawnTiling
def fn11_drawnTiling_b56 (N : Nat)  (c0 : Nat) (c1 : Nat) (a2 : Int32) (c3 : Nat) (r0 : Nat) (M : am_Mem) : Option (Nat × am_Mem) :=
  am_ck (am_k M r0 11) (am_ck (am_k M (am_R M r0 1) 1) (am_ck (am_k M c1 10) (am_bd (fn10_init N M c1 a2 c3 (am_I M (am_R M r0 1) 1) 0) (fun v4 M5 => some (c0, M5)))))
def fn11_drawnTiling_b0 (N : Nat)  (r0 : Nat) (x1 : Int32) (M : am_Mem) : Option (Nat × am_Mem) :=
  am_ck (am_k M r0 11) (am_ck (am_k M (am_R M r0 0) 8) (am_ck (am_k M (am_R M (am_R M r0 0) 11) 19) (am_ck (am_in x1 (am_L M (am_R M (am_R M r0 0) 11))) (am_ck (am_k M (am_R M (am_R M r0 0) 12) 19) (am_ck (am_in x1 (am_L M (am_R M (am_R M r0 0) 12))) (am_ck (am_k M (am_R M (am_R M r0 0) 10) 14) (am_ck (am_in x1 (am_L M (am_R M (am_R M r0 0) 10))) (am_ck (am_k M (am_R M r0 1) 1) (am_bd (fn1_layGroups N M (am_R M r0 1) (am_R M (am_R M (am_R M r0 0) 11) x1.toNatClampNeg) (am_R M (am_R M (am_R M r0 0) 12) x1.toNatClampNeg) (am_I M (am_R M (am_R M r0 0) 10) x1.toNatClampNeg) (am_R M r0 4)) (fun v10 M11 => if v10 = 0 then fn11_drawnTiling_b56 N  (am_n M11 + 1) (am_n M11 + 1) (0 : Int32) 0 r0 (am_new M11 10 0) else am_ck (am_k (am_new M11 10 0) r0 11) (fn11_drawnTiling_b56 N  (am_n M11 + 1) (am_n M11 + 1) (0 : Int32) (am_R (am_new M11 10 0) r0 4) r0 (am_new M11 10 0))))))))))))
def fn11_drawnTiling (N : Nat) (M : am_Mem) (r0 : Nat) (x1 : Int32) : Option (Nat × am_Mem) := fn11_drawnTiling_b0 N r0 x1 M
def rm11_drawnTiling : Room := { frames := 4, cells := 4, slots := 131, locals := 97 }
set_option maxRecDepth 20000 in
theorem sn11_drawnTiling_b56 {l : Launch} {G : am_G} {v : Nat} {M' : am_Mem} {N : Nat}  (cx : am_Ctx l rm11_drawnTiling yX11_drawnTiling cX11_drawnTiling 3 (some (.object "SquareCuts$Tiling")) (some (.inr (.inr v))) M' 4 131 G)  {c0 : Nat} {c1 : Nat} {a2 : Int32} {c3 : Nat} {r0 : Nat} {M : am_Mem} (hres : fn11_drawnTiling_b56 N  c0 c1 a2 c3 r0 M = some (v, M')) : G 56 [(0, .inr (.inr r0))] [.inr (.inr c3), .inl a2, .inr (.inr c1), .inr (.inr c0)] M 1 11 := by
  unfold fn11_drawnTiling_b56 at hres
  refine am_aload_n cx 0 dX11_drawnTiling_56 rfl ?_
  obtain ⟨q1, hres⟩ := am_ck_some hres
  refine am_getR cx dX11_drawnTiling_57 flX11_21 (am_ke q1) ?_
  obtain ⟨q2, hres⟩ := am_ck_some hres
  refine am_getI cx dX11_drawnTiling_60 flX11_318 (am_ke q2) ?_
  refine am_null cx dX11_drawnTiling_63 ?_
  obtain ⟨q3, hres⟩ := am_ck_some hres
  obtain ⟨v4, M5, q6, hres⟩ := am_bd_some hres
  refine am_callI0 cx [.inl a2, .inr (.inr c3), .inl (am_I M (am_R M r0 1) 1), .inr (.inr 0)] dX11_drawnTiling_64 ciX11_321 (mt10_init q6) (by rw [show am_K _ _ = 10 from (am_ke q3)]; decide) ⟨rfl, rfl, Nat.le_of_ble_eq_true rfl, Nat.le_of_ble_eq_true rfl⟩ rfl (Nat.le_of_ble_eq_true rfl) ⟨Nat.le_of_ble_eq_true rfl, Nat.le_of_ble_eq_true rfl⟩ ?_
  obtain ⟨rfl, rfl⟩ := am_fin hres
  exact am_aret cx dX11_drawnTiling_67
set_option maxRecDepth 20000 in
theorem sn11_drawnTiling_b0 {l : Launch} {G : am_G} {v : Nat} {M' : am_Mem} {N : Nat}  (cx : am_Ctx l rm11_drawnTiling yX11_drawnTiling cX11_drawnTiling 3 (some (.object "SquareCuts$Tiling")) (some (.inr (.inr v))) M' 4 131 G)  {r0 : Nat} {x1 : Int32} {M : am_Mem} (hres : fn11_drawnTiling_b0 N  r0 x1 M = some (v, M')) : G 0 [(0, .inr (.inr r0)), (1, .inl x1)] [] M 0 0 := by
  unfold fn11_drawnTiling_b0 at hres
  refine am_aload_n cx 0 dX11_drawnTiling_0 rfl ?_
  obtain ⟨q1, hres⟩ := am_ck_some hres
  refine am_getR cx dX11_drawnTiling_1 flX11_21 (am_ke q1) ?_
  refine am_aload_n cx 0 dX11_drawnTiling_4 rfl ?_
  refine am_getR cx dX11_drawnTiling_5 flX11_12 (am_ke q1) ?_
  obtain ⟨q2, hres⟩ := am_ck_some hres
  refine am_getR cx dX11_drawnTiling_8 flX11_304 (am_ke q2) ?_
  refine am_iload_n cx 1 dX11_drawnTiling_11 rfl ?_
  obtain ⟨q3, hres⟩ := am_ck_some hres
  obtain ⟨q4, hres⟩ := am_ck_some hres
  refine am_aald19 cx dX11_drawnTiling_12 (am_ke q3) q4 ?_
  refine am_aload_n cx 0 dX11_drawnTiling_13 rfl ?_
  refine am_getR cx dX11_drawnTiling_14 flX11_12 (am_ke q1) ?_
  refine am_getR cx dX11_drawnTiling_17 flX11_308 (am_ke q2) ?_
  refine am_iload_n cx 1 dX11_drawnTiling_20 rfl ?_
  obtain ⟨q5, hres⟩ := am_ck_some hres
  obtain ⟨q6, hres⟩ := am_ck_some hres
  refine am_aald19 cx dX11_drawnTiling_21 (am_ke q5) q6 ?_
  refine am_aload_n cx 0 dX11_drawnTiling_22 rfl ?_
  refine am_getR cx dX11_drawnTiling_23 flX11_12 (am_ke q1) ?_
  refine am_getR cx dX11_drawnTiling_26 flX11_311 (am_ke q2) ?_
  refine am_iload_n cx 1 dX11_drawnTiling_29 rfl ?_
  obtain ⟨q7, hres⟩ := am_ck_some hres
  obtain ⟨q8, hres⟩ := am_ck_some hres
  refine am_iald cx dX11_drawnTiling_30 (am_ke q7) q8 ?_
  refine am_aload_n cx 0 dX11_drawnTiling_31 rfl ?_
  refine am_getR cx dX11_drawnTiling_32 flX11_42 (am_ke q1) ?_
  obtain ⟨q9, hres⟩ := am_ck_some hres
  obtain ⟨v10, M11, q12, hres⟩ := am_bd_some hres
  refine am_callV1 cx [.inr (.inr (am_R M (am_R M (am_R M r0 0) 11) x1.toNatClampNeg)), .inr (.inr (am_R M (am_R M (am_R M r0 0) 12) x1.toNatClampNeg)), .inl (am_I M (am_R M (am_R M r0 0) 10) x1.toNatClampNeg), .inr (.inr (am_R M r0 4))] dX11_drawnTiling_35 cvX11_314 (mt1_layGroups q12) (am_ke q9) ⟨rfl, rfl, Nat.le_of_ble_eq_true rfl, Nat.le_of_ble_eq_true rfl⟩ rfl (Nat.le_of_ble_eq_true rfl) ⟨Nat.le_of_ble_eq_true rfl, Nat.le_of_ble_eq_true rfl⟩ ?_
  refine am_istore_n cx (lv' := [(0, .inr (.inr r0)), (1, .inl x1), (2, .inl v10)]) dX11_drawnTiling_38 (Nat.le_of_ble_eq_true rfl) rfl ?_
  refine am_newO cx dX11_drawnTiling_39 nwX11_119 (Nat.le_of_ble_eq_true rfl) (Nat.le_of_ble_eq_true rfl) ?_
  refine am_dup cx dX11_drawnTiling_42 rfl ?_
  refine am_iconst cx (v := (0 : Int32)) dX11_drawnTiling_43 (by decide) ?_
  refine am_iload_n cx 2 dX11_drawnTiling_44 rfl ?_
  refine am_if_eq cx (tgt := 55) dX11_drawnTiling_45 (by decide) (fun h => ?_) (fun h => ?_)
  · have hres := am_ifp h hres
    refine am_null cx dX11_drawnTiling_55 ?_
    refine am_sub cx [0] rfl ?_
    exact sn11_drawnTiling_b56 cx  hres
  · have hres := am_ifn h hres
    refine am_aload_n cx 0 dX11_drawnTiling_48 rfl ?_
    obtain ⟨q13, hres⟩ := am_ck_some hres
    refine am_getR cx dX11_drawnTiling_49 flX11_42 (am_ke q13) ?_
    refine am_goto cx (tgt := 56) dX11_drawnTiling_52 (by decide) ?_
    refine am_sub cx [0] rfl ?_
    exact sn11_drawnTiling_b56 cx  hres
set_option maxRecDepth 20000 in
theorem mt11_drawnTiling {l : Launch} {v : Nat} {M M' : am_Mem} {N : Nat} {r0 : Nat} {x1 : Int32} (h : fn11_drawnTiling N M r0 x1 = some (v, M')) : am_Met l yX11_drawnTiling cX11_drawnTiling 3 (some (.object "SquareCuts$Tiling")) rm11_drawnTiling 4 131 [.inr (.inr r0), .inl x1] M (some (.inr (.inr v))) M' := am_mk (by decide) (Nat.le_of_ble_eq_true rfl) (fun G cx => (sn11_drawnTiling_b0 cx h))
-- SquareCuts.netTiling
def fn11_netTiling_b80 (N : Nat)  (c0 : Nat) (c1 : Nat) (a2 : Int32) (c3 : Nat) (r2 : Nat) (M : am_Mem) : Option (Nat × am_Mem) :=
  am_ck (am_k M c1 10) (am_bd (fn10_init N M c1 a2 c3 (0 : Int32) r2) (fun v2 M3 => some (c0, M3)))
def fn11_netTiling_b62 (N : Nat)  (a0 : Int32) (r0 : Nat) (r2 : Nat) (M : am_Mem) : Option (Nat × am_Mem) :=
  if a0 = 0 then fn11_netTiling_b80 N  (am_n M + 1) (am_n M + 1) (1 : Int32) 0 r2 (am_new M 10 0) else am_ck (am_k (am_new M 10 0) r0 11) (fn11_netTiling_b80 N  (am_n M + 1) (am_n M + 1) (1 : Int32) (am_R (am_new M 10 0) r0 4) r2 (am_new M 10 0))
def fn11_netTiling_b61 (N : Nat)  (r0 : Nat) (r2 : Nat) (M : am_Mem) : Option (Nat × am_Mem) :=
  fn11_netTiling_b62 N  (0 : Int32) r0 r2 M
def fn11_netTiling_b0 (N : Nat)  (r0 : Nat) (x1 : Int32) (M : am_Mem) : Option (Nat × am_Mem) :=
  am_ck (am_k M r0 11) (am_ck (am_k M (am_R M r0 0) 8) (am_ck (am_k M (am_R M (am_R M r0 0) 11) 19) (am_ck (am_in x1 (am_L M (am_R M (am_R M r0 0) 11))) (am_ck (am_k M (am_R M (am_R M r0 0) 10) 14) (am_ck (am_in x1 (am_L M (am_R M (am_R M r0 0) 10))) (am_ck (am_k M (am_R M r0 2) 5) (am_bd (fn5_solve N M (am_R M r0 2) (am_R M (am_R M (am_R M r0 0) 11) x1.toNatClampNeg) (am_I M (am_R M (am_R M r0 0) 10) x1.toNatClampNeg)) (fun v8 M9 => am_ck (am_k M9 v8 3) (if (lg_cmp (am_J M9 v8 4) (0 : Int64)) ≤ 0 then fn11_netTiling_b61 N  r0 v8 M9 else am_ck (am_k M9 r0 11) (am_ck (am_k M9 (am_R M9 r0 2) 5) (am_ck (am_k M9 (am_R M9 r0 3) 4) (am_bd (fn4_search N M9 (am_R M9 r0 3) v8 (am_R M9 (am_R M9 r0 2) 3) (am_R M9 r0 4)) (fun v15 M16 => if v15 = 0 then fn11_netTiling_b61 N  r0 v8 M16 else fn11_netTiling_b62 N  (1 : Int32) r0 v8 M16)))))))))))))
def fn11_netTiling (N : Nat) (M : am_Mem) (r0 : Nat) (x1 : Int32) : Option (Nat × am_Mem) := fn11_netTiling_b0 N r0 x1 M
def rm11_netTiling : Room := { frames := 4, cells := 7, slots := 167, locals := 130 }
set_option maxRecDepth 20000 in
theorem sn11_netTiling_b80 {l : Launch} {G : am_G} {v : Nat} {M' : am_Mem} {N : Nat}  (cx : am_Ctx l rm11_netTiling yX11_netTiling cX11_netTiling 4 (some (.object "SquareCuts$Tiling")) (some (.inr (.inr v))) M' 7 167 G)  {c0 : Nat} {c1 : Nat} {a2 : Int32} {c3 : Nat} {r2 : Nat} {M : am_Mem} (hres : fn11_netTiling_b80 N  c0 c1 a2 c3 r2 M = some (v, M')) : G 80 [(2, .inr (.inr r2))] [.inr (.inr c3), .inl a2, .inr (.inr c1), .inr (.inr c0)] M 4 47 := by
  unfold fn11_netTiling_b80 at hres
  refine am_iconst cx (v := (0 : Int32)) dX11_netTiling_80 (by decide) ?_
  refine am_aload_n cx 0 dX11_netTiling_81 rfl ?_
  obtain ⟨q1, hres⟩ := am_ck_some hres
  obtain ⟨v2, M3, q4, hres⟩ := am_bd_some hres
  refine am_callI0 cx [.inl a2, .inr (.inr c3), .inl (0 : Int32), .inr (.inr r2)] dX11_netTiling_82 ciX11_321 (mt10_init q4) (by rw [show am_K _ _ = 10 from (am_ke q1)]; decide) ⟨rfl, rfl, Nat.le_of_ble_eq_true rfl, Nat.le_of_ble_eq_true rfl⟩ rfl (Nat.le_of_ble_eq_true rfl) ⟨Nat.le_of_ble_eq_true rfl, Nat.le_of_ble_eq_true rfl⟩ ?_
  obtain ⟨rfl, rfl⟩ := am_fin hres
  exact am_aret cx dX11_netTiling_85
set_option maxRecDepth 20000 in
theorem sn11_netTiling_b62 {l : Launch} {G : am_G} {v : Nat} {M' : am_Mem} {N : Nat}  (cx : am_Ctx l rm11_netTiling yX11_netTiling cX11_netTiling 4 (some (.object "SquareCuts$Tiling")) (some (.inr (.inr v))) M' 7 167 G)  {a0 : Int32} {r0 : Nat} {r2 : Nat} {M : am_Mem} (hres : fn11_netTiling_b62 N  a0 r0 r2 M = some (v, M')) : G 62 [(0, .inr (.inr r0)), (2, .inr (.inr r2))] [.inl a0] M 3 36 := by
  unfold fn11_netTiling_b62 at hres
  refine am_istore_n cx (lv' := [(0, .inr (.inr r0)), (2, .inr (.inr r2)), (3, .inl a0)]) dX11_netTiling_62 (Nat.le_of_ble_eq_true rfl) rfl ?_
  refine am_newO cx dX11_netTiling_63 nwX11_119 (Nat.le_of_ble_eq_true rfl) (Nat.le_of_ble_eq_true rfl) ?_
  refine am_dup cx dX11_netTiling_66 rfl ?_
  refine am_iconst cx (v := (1 : Int32)) dX11_netTiling_67 (by decide) ?_
  refine am_iload_n cx 2 dX11_netTiling_68 rfl ?_
  refine am_if_eq cx (tgt := 79) dX11_netTiling_69 (by decide) (fun h => ?_) (fun h => ?_)
  · have hres := am_ifp h hres
    refine am_null cx dX11_netTiling_79 ?_
    refine am_sub cx [1] rfl ?_
    exact sn11_netTiling_b80 cx  hres
  · have hres := am_ifn h hres
    refine am_aload_n cx 0 dX11_netTiling_72 rfl ?_
    obtain ⟨q1, hres⟩ := am_ck_some hres
    refine am_getR cx dX11_netTiling_73 flX11_42 (am_ke q1) ?_
    refine am_goto cx (tgt := 80) dX11_netTiling_76 (by decide) ?_
    refine am_sub cx [1] rfl ?_
    exact sn11_netTiling_b80 cx  hres
set_option maxRecDepth 20000 in
theorem sn11_netTiling_b61 {l : Launch} {G : am_G} {v : Nat} {M' : am_Mem} {N : Nat}  (cx : am_Ctx l rm11_netTiling yX11_netTiling cX11_netTiling 4 (some (.object "SquareCuts$Tiling")) (some (.inr (.inr v))) M' 7 167 G)  {r0 : Nat} {r2 : Nat} {M : am_Mem} (hres : fn11_netTiling_b61 N  r0 r2 M = some (v, M')) : G 61 [(0, .inr (.inr r0)), (2, .inr (.inr r2))] [] M 3 36 := by
  unfold fn11_netTiling_b61 at hres
  refine am_iconst cx (v := (0 : Int32)) dX11_netTiling_61 (by decide) ?_
  exact sn11_netTiling_b62 cx  hres
set_option maxRecDepth 20000 in
theorem sn11_netTiling_b0 {l : Launch} {G : am_G} {v : Nat} {M' : am_Mem} {N : Nat}  (cx : am_Ctx l rm11_netTiling yX11_netTiling cX11_netTiling 4 (some (.object "SquareCuts$Tiling")) (some (.inr (.inr v))) M' 7 167 G)  {r0 : Nat} {x1 : Int32} {M : am_Mem} (hres : fn11_netTiling_b0 N  r0 x1 M = some (v, M')) : G 0 [(0, .inr (.inr r0)), (1, .inl x1)] [] M 0 0 := by
  unfold fn11_netTiling_b0 at hres
  refine am_aload_n cx 0 dX11_netTiling_0 rfl ?_
  obtain ⟨q1, hres⟩ := am_ck_some hres
  refine am_getR cx dX11_netTiling_1 flX11_28 (am_ke q1) ?_
  refine am_aload_n cx 0 dX11_netTiling_4 rfl ?_
  refine am_getR cx dX11_netTiling_5 flX11_12 (am_ke q1) ?_
  obtain ⟨q2, hres⟩ := am_ck_some hres
  refine am_getR cx dX11_netTiling_8 flX11_304 (am_ke q2) ?_
  refine am_iload_n cx 1 dX11_netTiling_11 rfl ?_
  obtain ⟨q3, hres⟩ := am_ck_some hres
  obtain ⟨q4, hres⟩ := am_ck_some hres
  refine am_aald19 cx dX11_netTiling_12 (am_ke q3) q4 ?_
  refine am_aload_n cx 0 dX11_netTiling_13 rfl ?_
  refine am_getR cx dX11_netTiling_14 flX11_12 (am_ke q1) ?_
  refine am_getR cx dX11_netTiling_17 flX11_311 (am_ke q2) ?_
  refine am_iload_n cx 1 dX11_netTiling_20 rfl ?_
  obtain ⟨q5, hres⟩ := am_ck_some hres
  obtain ⟨q6, hres⟩ := am_ck_some hres
  refine am_iald cx dX11_netTiling_21 (am_ke q5) q6 ?_
  obtain ⟨q7, hres⟩ := am_ck_some hres
  obtain ⟨v8, M9, q10, hres⟩ := am_bd_some hres
  refine am_callV1 cx [.inr (.inr (am_R M (am_R M (am_R M r0 0) 11) x1.toNatClampNeg)), .inl (am_I M (am_R M (am_R M r0 0) 10) x1.toNatClampNeg)] dX11_netTiling_22 cvX11_324 (mt5_solve q10) (am_ke q7) ⟨rfl, rfl, Nat.le_of_ble_eq_true rfl, Nat.le_of_ble_eq_true rfl⟩ rfl (Nat.le_of_ble_eq_true rfl) ⟨Nat.le_of_ble_eq_true rfl, Nat.le_of_ble_eq_true rfl⟩ ?_
  refine am_astore_n cx (lv' := [(0, .inr (.inr r0)), (1, .inl x1), (2, .inr (.inr v8))]) dX11_netTiling_25 (Nat.le_of_ble_eq_true rfl) rfl ?_
  refine am_aload_n cx 2 dX11_netTiling_26 rfl ?_
  obtain ⟨q11, hres⟩ := am_ck_some hres
  refine am_getJ cx dX11_netTiling_27 flX11_197 (am_ke q11) ?_
  refine am_lconst cx (v := (0 : Int64)) dX11_netTiling_30 (by decide) ?_
  refine am_lcmp cx dX11_netTiling_31 ?_
  refine am_if_le cx (tgt := 61) dX11_netTiling_32 (by decide) (fun h => ?_) (fun h => ?_)
  · have hres := am_ifp h hres
    refine am_sub cx [0, 2] rfl ?_
    exact sn11_netTiling_b61 cx  hres
  · have hres := am_ifn h hres
    refine am_aload_n cx 0 dX11_netTiling_35 rfl ?_
    obtain ⟨q12, hres⟩ := am_ck_some hres
    refine am_getR cx dX11_netTiling_36 flX11_35 (am_ke q12) ?_
    refine am_aload_n cx 2 dX11_netTiling_39 rfl ?_
    refine am_aload_n cx 0 dX11_netTiling_40 rfl ?_
    refine am_getR cx dX11_netTiling_41 flX11_28 (am_ke q12) ?_
    obtain ⟨q13, hres⟩ := am_ck_some hres
    refine am_getR cx dX11_netTiling_44 flX11_328 (am_ke q13) ?_
    refine am_aload_n cx 0 dX11_netTiling_47 rfl ?_
    refine am_getR cx dX11_netTiling_48 flX11_42 (am_ke q12) ?_
    obtain ⟨q14, hres⟩ := am_ck_some hres
    obtain ⟨v15, M16, q17, hres⟩ := am_bd_some hres
    refine am_callV1 cx [.inr (.inr v8), .inr (.inr (am_R M9 (am_R M9 r0 2) 3)), .inr (.inr (am_R M9 r0 4))] dX11_netTiling_51 cvX11_331 (mt4_search q17) (am_ke q14) ⟨rfl, rfl, Nat.le_of_ble_eq_true rfl, Nat.le_of_ble_eq_true rfl⟩ rfl (Nat.le_of_ble_eq_true rfl) ⟨Nat.le_of_ble_eq_true rfl, Nat.le_of_ble_eq_true rfl⟩ ?_
    refine am_if_eq cx (tgt := 61) dX11_netTiling_54 (by decide) (fun h => ?_) (fun h => ?_)
    · have hres := am_ifp h hres
      refine am_sub cx [0, 2] rfl ?_
      exact sn11_netTiling_b61 cx  hres
    · have hres := am_ifn h hres
      refine am_iconst cx (v := (1 : Int32)) dX11_netTiling_57 (by decide) ?_
      refine am_goto cx (tgt := 62) dX11_netTiling_58 (by decide) ?_
      refine am_sub cx [0, 2] rfl ?_
      exact sn11_netTiling_b62 cx  hres
set_option maxRecDepth 20000 in
theorem mt11_netTiling {l : Launch} {v : Nat} {M M' : am_Mem} {N : Nat} {r0 : Nat} {x1 : Int32} (h : fn11_netTiling N M r0 x1 = some (v, M')) : am_Met l yX11_netTiling cX11_netTiling 4 (some (.object "SquareCuts$Tiling")) rm11_netTiling 7 167 [.inr (.inr r0), .inl x1] M (some (.inr (.inr v))) M' := am_mk (by decide) (Nat.le_of_ble_eq_true rfl) (fun G cx => (sn11_netTiling_b0 cx h))
-- SquareCuts$Reader.readLine
def fn8_readLine_b146 (N : Nat)  (a0 : Int32) (r0 : Nat) (M : am_Mem) : Option (Int32 × am_Mem) :=
  if a0 = 0 then am_ck (am_k M r0 8) (if (am_I M r0 3) = (5 : Int32) then am_bd (fn8_nextToken N (am_wI M r0 8 ((am_I M r0 8) + (1 : Int32))) r0) (fun v2 M3 => some ((0 : Int32), M3)) else am_bd (fn8_faultOf M r0 (1 : Int32)) (fun v5 M6 => some (v5, M6))) else some (a0, M)
def fn8_readLine_b75 (N : Nat)  (r0 : Nat) (M : am_Mem) : Option (Int32 × am_Mem) :=
  am_ck (am_k M r0 8) (am_bd (fn8_faultOf M r0 (1 : Int32)) (fun v2 M3 => some (v2, M3)))
def fn8_readLine_b28 (N : Nat)  (r0 : Nat) (x1 : Int32) (M : am_Mem) : Option (Int32 × am_Mem) :=
  am_ck (am_k M r0 8) (if (am_I M r0 8) < (6 : Int32) then am_bd (fn8_nextToken N M r0) (fun v2 M3 => am_ck (am_k M3 r0 8) (if (am_I M3 r0 3) = (1 : Int32) then am_bd (fn8_isWord M3 r0 (431415719790 : Int64)) (fun v6 M7 => if v6 = 0 then am_ck (am_k M7 r0 8) (am_bd (fn8_isWord M7 r0 (7234932 : Int64)) (fun v10 M11 => if v10 = 0 then am_ck (am_k M11 r0 8) (am_bd (fn8_isNameThere N M11 r0) (fun v14 M15 => if v14 = 0 then am_ck (am_k M15 r0 8) (am_ck (am_k M15 (am_R M15 r0 6) 15) (am_ck (am_in (am_I M15 r0 8) (am_L M15 (am_R M15 r0 6))) (am_ck (am_k M15 (am_R M15 r0 9) 16) (am_ck (am_in (am_I M15 r0 8) (am_L M15 (am_R M15 r0 9))) (am_ck (am_k M15 (am_R M15 r0 10) 14) (am_ck (am_in (am_I (am_wI (am_wJ M15 (am_R M15 r0 6) (am_I M15 r0 8).toNatClampNeg (am_J M15 r0 5)) (am_R M15 r0 9) (am_I M15 r0 8).toNatClampNeg (x1 &&& 1)) r0 8) (am_L M15 (am_R M15 r0 10))) (am_bd (fn8_nextToken N (am_wI (am_wI (am_wJ M15 (am_R M15 r0 6) (am_I M15 r0 8).toNatClampNeg (am_J M15 r0 5)) (am_R M15 r0 9) (am_I M15 r0 8).toNatClampNeg (x1 &&& 1)) (am_R M15 r0 10) (am_I (am_wI (am_wJ M15 (am_R M15 r0 6) (am_I M15 r0 8).toNatClampNeg (am_J M15 r0 5)) (am_R M15 r0 9) (am_I M15 r0 8).toNatClampNeg (x1 &&& 1)) r0 8).toNatClampNeg (0 : Int32)) r0) (fun v24 M25 => if x1 = 0 then am_ck (am_k M25 r0 8) (am_bd (fn8_readNet N M25 r0) (fun v28 M29 => fn8_readLine_b146 N  v28 r0 M29)) else am_ck (am_k M25 r0 8) (am_bd (fn8_readGroups N M25 r0) (fun v32 M33 => fn8_readLine_b146 N  v32 r0 M33)))))))))) else am_ck (am_k M15 r0 8) (am_bd (fn8_faultOf M15 r0 (2 : Int32)) (fun v36 M37 => some (v36, M37))))) else fn8_readLine_b75 N  r0 M11)) else fn8_readLine_b75 N  r0 M7) else fn8_readLine_b75 N  r0 M3)) else am_bd (fn8_faultOf M r0 (4 : Int32)) (fun v39 M40 => some (v39, M40)))
def fn8_readLine_b0 (N : Nat)  (r0 : Nat) (M : am_Mem) : Option (Int32 × am_Mem) :=
  am_ck (am_k M r0 8) (am_bd (fn8_isWord M r0 (431415719790 : Int64)) (fun v2 M3 => if v2 = 0 then am_ck (am_k M3 r0 8) (am_bd (fn8_isWord M3 r0 (7234932 : Int64)) (fun v6 M7 => if v6 = 0 then am_ck (am_k M7 r0 8) (am_bd (fn8_faultOf M7 r0 (1 : Int32)) (fun v10 M11 => some (v10, M11))) else fn8_readLine_b28 N  r0 v2 M7)) else fn8_readLine_b28 N  r0 v2 M3))
def fn8_readLine (N : Nat) (M : am_Mem) (r0 : Nat) : Option (Int32 × am_Mem) := fn8_readLine_b0 N r0 M
def rm8_readLine : Room := { frames := 4, cells := 0, slots := 0, locals := 89 }
set_option maxRecDepth 20000 in
theorem sn8_readLine_b146 {l : Launch} {G : am_G} {v : Int32} {M' : am_Mem} {N : Nat}  (cx : am_Ctx l rm8_readLine yX8_readLine cX8_readLine 3 (some .int) (some (.inl v)) M' 0 0 G)  {a0 : Int32} {r0 : Nat} {M : am_Mem} (hres : fn8_readLine_b146 N  a0 r0 M = some (v, M')) : G 146 [(0, .inr (.inr r0))] [.inl a0] M 0 0 := by
  unfold fn8_readLine_b146 at hres
  refine am_istore_n cx (lv' := [(0, .inr (.inr r0)), (2, .inl a0)]) dX8_readLine_146 (Nat.le_of_ble_eq_true rfl) rfl ?_
  refine am_iload_n cx 1 dX8_readLine_147 rfl ?_
  refine am_if_eq cx (tgt := 153) dX8_readLine_148 (by decide) (fun h => ?_) (fun h => ?_)
  · have hres := am_ifp h hres
    refine am_aload_n cx 0 dX8_readLine_153 rfl ?_
    obtain ⟨q1, hres⟩ := am_ck_some hres
    refine am_getI cx dX8_readLine_154 flX8_57 (am_ke q1) ?_
    refine am_iconst cx (v := (5 : Int32)) dX8_readLine_157 (by decide) ?_
    refine am_icmp_eq cx (tgt := 167) dX8_readLine_158 (by decide) (fun h => ?_) (fun h => ?_)
    · have hres := am_ifp h hres
      refine am_aload_n cx 0 dX8_readLine_167 rfl ?_
      refine am_dup cx dX8_readLine_168 rfl ?_
      refine am_getI cx dX8_readLine_169 flX8_51 (am_ke q1) ?_
      refine am_iconst cx (v := (1 : Int32)) dX8_readLine_172 (by decide) ?_
      refine am_iadd cx dX8_readLine_173 ?_
      refine am_putI cx dX8_readLine_174 fpX8_51 (fun h => by cases h) (am_ke q1) ?_
      refine am_aload_n cx 0 dX8_readLine_177 rfl ?_
      obtain ⟨v2, M3, q4, hres⟩ := am_bd_some hres
      refine am_callV0 cx [] dX8_readLine_178 cvX8_54 (mt8_nextToken q4) (am_ke q1) ⟨rfl, rfl, Nat.le_of_ble_eq_true rfl, Nat.le_of_ble_eq_true rfl⟩ rfl (Nat.le_of_ble_eq_true rfl) ⟨Nat.le_of_ble_eq_true rfl, Nat.le_of_ble_eq_true rfl⟩ ?_
      refine am_iconst cx (v := (0 : Int32)) dX8_readLine_181 (by decide) ?_
      obtain ⟨rfl, rfl⟩ := am_fin hres
      exact am_iret cx dX8_readLine_182
    · have hres := am_ifn h hres
      refine am_aload_n cx 0 dX8_readLine_161 rfl ?_
      refine am_iconst cx (v := (1 : Int32)) dX8_readLine_162 (by decide) ?_
      obtain ⟨v5, M6, q7, hres⟩ := am_bd_some hres
      refine am_callV1 cx [.inl (1 : Int32)] dX8_readLine_163 cvX8_72 (mt8_faultOf q7) (am_ke q1) ⟨rfl, rfl, Nat.le_of_ble_eq_true rfl, Nat.le_of_ble_eq_true rfl⟩ rfl (Nat.le_of_ble_eq_true rfl) ⟨Nat.le_of_ble_eq_true rfl, Nat.le_of_ble_eq_true rfl⟩ ?_
      obtain ⟨rfl, rfl⟩ := am_fin hres
      exact am_iret cx dX8_readLine_166
  · have hres := am_ifn h hres
    refine am_iload_n cx 1 dX8_readLine_151 rfl ?_
    obtain ⟨rfl, rfl⟩ := am_fin hres
    exact am_iret cx dX8_readLine_152
set_option maxRecDepth 20000 in
theorem sn8_readLine_b75 {l : Launch} {G : am_G} {v : Int32} {M' : am_Mem} {N : Nat}  (cx : am_Ctx l rm8_readLine yX8_readLine cX8_readLine 3 (some .int) (some (.inl v)) M' 0 0 G)  {r0 : Nat} {M : am_Mem} (hres : fn8_readLine_b75 N  r0 M = some (v, M')) : G 75 [(0, .inr (.inr r0))] [] M 0 0 := by
  unfold fn8_readLine_b75 at hres
  refine am_aload_n cx 0 dX8_readLine_75 rfl ?_
  refine am_iconst cx (v := (1 : Int32)) dX8_readLine_76 (by decide) ?_
  obtain ⟨q1, hres⟩ := am_ck_some hres
  obtain ⟨v2, M3, q4, hres⟩ := am_bd_some hres
  refine am_callV1 cx [.inl (1 : Int32)] dX8_readLine_77 cvX8_72 (mt8_faultOf q4) (am_ke q1) ⟨rfl, rfl, Nat.le_of_ble_eq_true rfl, Nat.le_of_ble_eq_true rfl⟩ rfl (Nat.le_of_ble_eq_true rfl) ⟨Nat.le_of_ble_eq_true rfl, Nat.le_of_ble_eq_true rfl⟩ ?_
  obtain ⟨rfl, rfl⟩ := am_fin hres
  exact am_iret cx dX8_readLine_80
set_option maxRecDepth 20000 in
theorem sn8_readLine_b28 {l : Launch} {G : am_G} {v : Int32} {M' : am_Mem} {N : Nat}  (cx : am_Ctx l rm8_readLine yX8_readLine cX8_readLine 3 (some .int) (some (.inl v)) M' 0 0 G)  {r0 : Nat} {x1 : Int32} {M : am_Mem} (hres : fn8_readLine_b28 N  r0 x1 M = some (v, M')) : G 28 [(0, .inr (.inr r0)), (1, .inl x1)] [] M 0 0 := by
  unfold fn8_readLine_b28 at hres
  refine am_aload_n cx 0 dX8_readLine_28 rfl ?_
  obtain ⟨q1, hres⟩ := am_ck_some hres
  refine am_getI cx dX8_readLine_29 flX8_51 (am_ke q1) ?_
  refine am_bipush cx (v := (6 : Int32)) dX8_readLine_32 (by decide) ?_
  refine am_icmp_lt cx (tgt := 43) dX8_readLine_34 (by decide) (fun h => ?_) (fun h => ?_)
  · have hres := am_ifp h hres
    refine am_aload_n cx 0 dX8_readLine_43 rfl ?_
    obtain ⟨v2, M3, q4, hres⟩ := am_bd_some hres
    refine am_callV0 cx [] dX8_readLine_44 cvX8_54 (mt8_nextToken q4) (am_ke q1) ⟨rfl, rfl, Nat.le_of_ble_eq_true rfl, Nat.le_of_ble_eq_true rfl⟩ rfl (Nat.le_of_ble_eq_true rfl) ⟨Nat.le_of_ble_eq_true rfl, Nat.le_of_ble_eq_true rfl⟩ ?_
    refine am_aload_n cx 0 dX8_readLine_47 rfl ?_
    obtain ⟨q5, hres⟩ := am_ck_some hres
    refine am_getI cx dX8_readLine_48 flX8_57 (am_ke q5) ?_
    refine am_iconst cx (v := (1 : Int32)) dX8_readLine_51 (by decide) ?_
    refine am_icmp_ne cx (tgt := 75) dX8_readLine_52 (by decide) (fun h => ?_) (fun h => ?_)
    · have hres := am_ifn h hres
      refine am_sub cx [0] rfl ?_
      exact sn8_readLine_b75 cx  hres
    · have hres := am_ifp h hres
      refine am_aload_n cx 0 dX8_readLine_55 rfl ?_
      refine am_ldc2 cx dX8_readLine_56 aw_2_98 ?_
      obtain ⟨v6, M7, q8, hres⟩ := am_bd_some hres
      refine am_callV1 cx [.inr (.inl (431415719790 : Int64))] dX8_readLine_59 cvX8_66 (mt8_isWord q8) (am_ke q5) ⟨rfl, rfl, Nat.le_of_ble_eq_true rfl, Nat.le_of_ble_eq_true rfl⟩ rfl (Nat.le_of_ble_eq_true rfl) ⟨Nat.le_of_ble_eq_true rfl, Nat.le_of_ble_eq_true rfl⟩ ?_
      refine am_if_ne cx (tgt := 75) dX8_readLine_62 (by decide) (fun h => ?_) (fun h => ?_)
      · have hres := am_ifn h hres
        refine am_sub cx [0] rfl ?_
        exact sn8_readLine_b75 cx  hres
      · have hres := am_ifp h hres
        refine am_aload_n cx 0 dX8_readLine_65 rfl ?_
        refine am_ldc2 cx dX8_readLine_66 aw_2_103 ?_
        obtain ⟨q9, hres⟩ := am_ck_some hres
        obtain ⟨v10, M11, q12, hres⟩ := am_bd_some hres
        refine am_callV1 cx [.inr (.inl (7234932 : Int64))] dX8_readLine_69 cvX8_66 (mt8_isWord q12) (am_ke q9) ⟨rfl, rfl, Nat.le_of_ble_eq_true rfl, Nat.le_of_ble_eq_true rfl⟩ rfl (Nat.le_of_ble_eq_true rfl) ⟨Nat.le_of_ble_eq_true rfl, Nat.le_of_ble_eq_true rfl⟩ ?_
        refine am_if_eq cx (tgt := 81) dX8_readLine_72 (by decide) (fun h => ?_) (fun h => ?_)
        · have hres := am_ifp h hres
          refine am_aload_n cx 0 dX8_readLine_81 rfl ?_
          obtain ⟨q13, hres⟩ := am_ck_some hres
          obtain ⟨v14, M15, q16, hres⟩ := am_bd_some hres
          refine am_callV1 cx [] dX8_readLine_82 cvX8_76 (mt8_isNameThere q16) (am_ke q13) ⟨rfl, rfl, Nat.le_of_ble_eq_true rfl, Nat.le_of_ble_eq_true rfl⟩ rfl (Nat.le_of_ble_eq_true rfl) ⟨Nat.le_of_ble_eq_true rfl, Nat.le_of_ble_eq_true rfl⟩ ?_
          refine am_if_eq cx (tgt := 94) dX8_readLine_85 (by decide) (fun h => ?_) (fun h => ?_)
          · have hres := am_ifp h hres
            refine am_aload_n cx 0 dX8_readLine_94 rfl ?_
            obtain ⟨q17, hres⟩ := am_ck_some hres
            refine am_getR cx dX8_readLine_95 flX8_15 (am_ke q17) ?_
            refine am_aload_n cx 0 dX8_readLine_98 rfl ?_
            refine am_getI cx dX8_readLine_99 flX8_51 (am_ke q17) ?_
            refine am_aload_n cx 0 dX8_readLine_102 rfl ?_
            refine am_getJ cx dX8_readLine_103 flX8_80 (am_ke q17) ?_
            obtain ⟨q18, hres⟩ := am_ck_some hres
            obtain ⟨q19, hres⟩ := am_ck_some hres
            refine am_last cx dX8_readLine_106 (am_ke q18) q19  ?_
            refine am_aload_n cx 0 dX8_readLine_107 rfl ?_
            refine am_getR cx dX8_readLine_108 flX8_19 (am_ke q17) ?_
            refine am_aload_n cx 0 dX8_readLine_111 rfl ?_
            refine am_getI cx dX8_readLine_112 flX8_51 (am_ke q17) ?_
            refine am_iload_n cx 1 dX8_readLine_115 rfl ?_
            obtain ⟨q20, hres⟩ := am_ck_some hres
            obtain ⟨q21, hres⟩ := am_ck_some hres
            refine am_zast cx dX8_readLine_116 (am_ke q20) q21  ?_
            refine am_aload_n cx 0 dX8_readLine_117 rfl ?_
            refine am_getR cx dX8_readLine_118 flX8_23 (am_ke q17) ?_
            refine am_aload_n cx 0 dX8_readLine_121 rfl ?_
            refine am_getI cx dX8_readLine_122 flX8_51 (am_ke q17) ?_
            refine am_iconst cx (v := (0 : Int32)) dX8_readLine_125 (by decide) ?_
            obtain ⟨q22, hres⟩ := am_ck_some hres
            obtain ⟨q23, hres⟩ := am_ck_some hres
            refine am_iast cx dX8_readLine_126 (am_ke q22) q23  ?_
            refine am_aload_n cx 0 dX8_readLine_127 rfl ?_
            obtain ⟨v24, M25, q26, hres⟩ := am_bd_some hres
            refine am_callV0 cx [] dX8_readLine_128 cvX8_54 (mt8_nextToken q26) (am_ke q17) ⟨rfl, rfl, Nat.le_of_ble_eq_true rfl, Nat.le_of_ble_eq_true rfl⟩ rfl (Nat.le_of_ble_eq_true rfl) ⟨Nat.le_of_ble_eq_true rfl, Nat.le_of_ble_eq_true rfl⟩ ?_
            refine am_iload_n cx 1 dX8_readLine_131 rfl ?_
            refine am_if_eq cx (tgt := 142) dX8_readLine_132 (by decide) (fun h => ?_) (fun h => ?_)
            · have hres := am_ifp h hres
              refine am_aload_n cx 0 dX8_readLine_142 rfl ?_
              obtain ⟨q27, hres⟩ := am_ck_some hres
              obtain ⟨v28, M29, q30, hres⟩ := am_bd_some hres
              refine am_callV1 cx [] dX8_readLine_143 cvX8_87 (mt8_readNet q30) (am_ke q27) ⟨rfl, rfl, Nat.le_of_ble_eq_true rfl, Nat.le_of_ble_eq_true rfl⟩ rfl (Nat.le_of_ble_eq_true rfl) ⟨Nat.le_of_ble_eq_true rfl, Nat.le_of_ble_eq_true rfl⟩ ?_
              refine am_sub cx [0] rfl ?_
              exact sn8_readLine_b146 cx  hres
            · have hres := am_ifn h hres
              refine am_aload_n cx 0 dX8_readLine_135 rfl ?_
              obtain ⟨q31, hres⟩ := am_ck_some hres
              obtain ⟨v32, M33, q34, hres⟩ := am_bd_some hres
              refine am_callV1 cx [] dX8_readLine_136 cvX8_84 (mt8_readGroups q34) (am_ke q31) ⟨rfl, rfl, Nat.le_of_ble_eq_true rfl, Nat.le_of_ble_eq_true rfl⟩ rfl (Nat.le_of_ble_eq_true rfl) ⟨Nat.le_of_ble_eq_true rfl, Nat.le_of_ble_eq_true rfl⟩ ?_
              refine am_goto cx (tgt := 146) dX8_readLine_139 (by decide) ?_
              refine am_sub cx [0] rfl ?_
              exact sn8_readLine_b146 cx  hres
          · have hres := am_ifn h hres
            refine am_aload_n cx 0 dX8_readLine_88 rfl ?_
            refine am_iconst cx (v := (2 : Int32)) dX8_readLine_89 (by decide) ?_
            obtain ⟨q35, hres⟩ := am_ck_some hres
            obtain ⟨v36, M37, q38, hres⟩ := am_bd_some hres
            refine am_callV1 cx [.inl (2 : Int32)] dX8_readLine_90 cvX8_72 (mt8_faultOf q38) (am_ke q35) ⟨rfl, rfl, Nat.le_of_ble_eq_true rfl, Nat.le_of_ble_eq_true rfl⟩ rfl (Nat.le_of_ble_eq_true rfl) ⟨Nat.le_of_ble_eq_true rfl, Nat.le_of_ble_eq_true rfl⟩ ?_
            obtain ⟨rfl, rfl⟩ := am_fin hres
            exact am_iret cx dX8_readLine_93
        · have hres := am_ifn h hres
          refine am_sub cx [0] rfl ?_
          exact sn8_readLine_b75 cx  hres
  · have hres := am_ifn h hres
    refine am_aload_n cx 0 dX8_readLine_37 rfl ?_
    refine am_iconst cx (v := (4 : Int32)) dX8_readLine_38 (by decide) ?_
    obtain ⟨v39, M40, q41, hres⟩ := am_bd_some hres
    refine am_callV1 cx [.inl (4 : Int32)] dX8_readLine_39 cvX8_72 (mt8_faultOf q41) (am_ke q1) ⟨rfl, rfl, Nat.le_of_ble_eq_true rfl, Nat.le_of_ble_eq_true rfl⟩ rfl (Nat.le_of_ble_eq_true rfl) ⟨Nat.le_of_ble_eq_true rfl, Nat.le_of_ble_eq_true rfl⟩ ?_
    obtain ⟨rfl, rfl⟩ := am_fin hres
    exact am_iret cx dX8_readLine_42
set_option maxRecDepth 20000 in
theorem sn8_readLine_b0 {l : Launch} {G : am_G} {v : Int32} {M' : am_Mem} {N : Nat}  (cx : am_Ctx l rm8_readLine yX8_readLine cX8_readLine 3 (some .int) (some (.inl v)) M' 0 0 G)  {r0 : Nat} {M : am_Mem} (hres : fn8_readLine_b0 N  r0 M = some (v, M')) : G 0 [(0, .inr (.inr r0))] [] M 0 0 := by
  unfold fn8_readLine_b0 at hres
  refine am_aload_n cx 0 dX8_readLine_0 rfl ?_
  refine am_ldc2 cx dX8_readLine_1 aw_2_98 ?_
  obtain ⟨q1, hres⟩ := am_ck_some hres
  obtain ⟨v2, M3, q4, hres⟩ := am_bd_some hres
  refine am_callV1 cx [.inr (.inl (431415719790 : Int64))] dX8_readLine_4 cvX8_66 (mt8_isWord q4) (am_ke q1) ⟨rfl, rfl, Nat.le_of_ble_eq_true rfl, Nat.le_of_ble_eq_true rfl⟩ rfl (Nat.le_of_ble_eq_true rfl) ⟨Nat.le_of_ble_eq_true rfl, Nat.le_of_ble_eq_true rfl⟩ ?_
  refine am_istore_n cx (lv' := [(0, .inr (.inr r0)), (1, .inl v2)]) dX8_readLine_7 (Nat.le_of_ble_eq_true rfl) rfl ?_
  refine am_iload_n cx 1 dX8_readLine_8 rfl ?_
  refine am_if_ne cx (tgt := 28) dX8_readLine_9 (by decide) (fun h => ?_) (fun h => ?_)
  · have hres := am_ifn h hres
    exact sn8_readLine_b28 cx  hres
  · have hres := am_ifp h hres
    refine am_aload_n cx 0 dX8_readLine_12 rfl ?_
    refine am_ldc2 cx dX8_readLine_13 aw_2_103 ?_
    obtain ⟨q5, hres⟩ := am_ck_some hres
    obtain ⟨v6, M7, q8, hres⟩ := am_bd_some hres
    refine am_callV1 cx [.inr (.inl (7234932 : Int64))] dX8_readLine_16 cvX8_66 (mt8_isWord q8) (am_ke q5) ⟨rfl, rfl, Nat.le_of_ble_eq_true rfl, Nat.le_of_ble_eq_true rfl⟩ rfl (Nat.le_of_ble_eq_true rfl) ⟨Nat.le_of_ble_eq_true rfl, Nat.le_of_ble_eq_true rfl⟩ ?_
    refine am_if_ne cx (tgt := 28) dX8_readLine_19 (by decide) (fun h => ?_) (fun h => ?_)
    · have hres := am_ifn h hres
      exact sn8_readLine_b28 cx  hres
    · have hres := am_ifp h hres
      refine am_aload_n cx 0 dX8_readLine_22 rfl ?_
      refine am_iconst cx (v := (1 : Int32)) dX8_readLine_23 (by decide) ?_
      obtain ⟨q9, hres⟩ := am_ck_some hres
      obtain ⟨v10, M11, q12, hres⟩ := am_bd_some hres
      refine am_callV1 cx [.inl (1 : Int32)] dX8_readLine_24 cvX8_72 (mt8_faultOf q12) (am_ke q9) ⟨rfl, rfl, Nat.le_of_ble_eq_true rfl, Nat.le_of_ble_eq_true rfl⟩ rfl (Nat.le_of_ble_eq_true rfl) ⟨Nat.le_of_ble_eq_true rfl, Nat.le_of_ble_eq_true rfl⟩ ?_
      obtain ⟨rfl, rfl⟩ := am_fin hres
      exact am_iret cx dX8_readLine_27
set_option maxRecDepth 20000 in
theorem mt8_readLine {l : Launch} {v : Int32} {M M' : am_Mem} {N : Nat} {r0 : Nat} (h : fn8_readLine N M r0 = some (v, M')) : am_Met l yX8_readLine cX8_readLine 3 (some .int) rm8_readLine 0 0 [.inr (.inr r0)] M (some (.inl v)) M' := am_mk (by decide) (Nat.le_of_ble_eq_true rfl) (fun G cx => (sn8_readLine_b0 cx h))
-- SquareCuts$Reader.read
def fn8_read_b63 (N : Nat)   (M : am_Mem) : Option (Int32 × am_Mem) :=
  some ((0 : Int32), M)
def fn8_read_b33B (N : Nat) (k33 : Nat → Int32 → am_Mem → Option (Int32 × am_Mem)) (r0 : Nat) (x2 : Int32) (M : am_Mem) : Option (Int32 × am_Mem) :=
  if (6 : Int32) < x2 then fn8_read_b63 N   M else am_ck (am_k M r0 8) (if (am_I M r0 3) = 0 then fn8_read_b63 N   M else am_bd (fn8_readLine N M r0) (fun v2 M3 => if v2 = 0 then k33 r0 (x2 + (1 : Int32)) M3 else some (v2, M3)))
def fn8_read_b33 (N : Nat)  : Nat → Nat → Int32 → am_Mem → Option (Int32 × am_Mem)
  | 0 => fun _ _ _ => none
  | i + 1 => fn8_read_b33B N (fn8_read_b33 N  i)
def fn8_read_b0 (N : Nat)  (r0 : Nat) (x1 : Int32) (M : am_Mem) : Option (Int32 × am_Mem) :=
  am_ck (am_k M r0 8) (am_bd (fn8_nextToken N (am_wI (am_wI (am_wI (am_wI M r0 1 (if (am_I M r0 7) < x1 then (am_I M r0 7) else x1)) r0 7 (0 : Int32)) r0 2 (0 : Int32)) r0 8 (0 : Int32)) r0) (fun v2 M3 => fn8_read_b33 N  N r0 (0 : Int32) M3))
def fn8_read (N : Nat) (M : am_Mem) (r0 : Nat) (x1 : Int32) : Option (Int32 × am_Mem) := fn8_read_b0 N r0 x1 M
def rm8_read : Room := { frames := 5, cells := 0, slots := 0, locals := 111 }
set_option maxRecDepth 20000 in
theorem sn8_read_b63 {l : Launch} {G : am_G} {v : Int32} {M' : am_Mem} {N : Nat}  (cx : am_Ctx l rm8_read yX8_read cX8_read 4 (some .int) (some (.inl v)) M' 0 0 G)   {M : am_Mem} (hres : fn8_read_b63 N   M = some (v, M')) : G 63 [] [] M 0 0 := by
  unfold fn8_read_b63 at hres
  refine am_iconst cx (v := (0 : Int32)) dX8_read_63 (by decide) ?_
  obtain ⟨rfl, rfl⟩ := am_fin hres
  exact am_iret cx dX8_read_64
set_option maxRecDepth 20000 in
theorem sn8_read_b33B {l : Launch} {G : am_G} {v : Int32} {M' : am_Mem} {N : Nat} {k33 : Nat → Int32 → am_Mem → Option (Int32 × am_Mem)} (cx : am_Ctx l rm8_read yX8_read cX8_read 4 (some .int) (some (.inl v)) M' 0 0 G) (hk33 : ∀ (r0 : Nat) (x2 : Int32) (M : am_Mem), k33 r0 x2 M = some (v, M') → G 33 [(0, .inr (.inr r0)), (2, .inl x2)] [] M 0 0) {r0 : Nat} {x2 : Int32} {M : am_Mem} (hres : fn8_read_b33B N k33 r0 x2 M = some (v, M')) : G 33 [(0, .inr (.inr r0)), (2, .inl x2)] [] M 0 0 := by
  unfold fn8_read_b33B at hres
  refine am_iload_n cx 1 dX8_read_33 rfl ?_
  refine am_bipush cx (v := (6 : Int32)) dX8_read_34 (by decide) ?_
  refine am_icmp_gt cx (tgt := 63) dX8_read_36 (by decide) (fun h => ?_) (fun h => ?_)
  · have hres := am_ifp h hres
    refine am_sub cx [] rfl ?_
    exact sn8_read_b63 cx  hres
  · have hres := am_ifn h hres
    refine am_aload_n cx 0 dX8_read_39 rfl ?_
    obtain ⟨q1, hres⟩ := am_ck_some hres
    refine am_getI cx dX8_read_40 flX8_57 (am_ke q1) ?_
    refine am_if_eq cx (tgt := 63) dX8_read_43 (by decide) (fun h => ?_) (fun h => ?_)
    · have hres := am_ifp h hres
      refine am_sub cx [] rfl ?_
      exact sn8_read_b63 cx  hres
    · have hres := am_ifn h hres
      refine am_aload_n cx 0 dX8_read_46 rfl ?_
      obtain ⟨v2, M3, q4, hres⟩ := am_bd_some hres
      refine am_callV1 cx [] dX8_read_47 cvX8_60 (mt8_readLine q4) (am_ke q1) ⟨rfl, rfl, Nat.le_of_ble_eq_true rfl, Nat.le_of_ble_eq_true rfl⟩ rfl (Nat.le_of_ble_eq_true rfl) ⟨Nat.le_of_ble_eq_true rfl, Nat.le_of_ble_eq_true rfl⟩ ?_
      refine am_istore_n cx (lv' := [(0, .inr (.inr r0)), (2, .inl x2), (3, .inl v2)]) dX8_read_50 (Nat.le_of_ble_eq_true rfl) rfl ?_
      refine am_iload_n cx 2 dX8_read_51 rfl ?_
      refine am_if_eq cx (tgt := 57) dX8_read_52 (by decide) (fun h => ?_) (fun h => ?_)
      · have hres := am_ifp h hres
        refine am_iincw cx (lv' := [(0, .inr (.inr r0)), (2, .inl (x2 + (1 : Int32))), (3, .inl v2)]) (w := (1 : Int32)) 1 dX8_read_57 (by decide) rfl (Nat.le_of_ble_eq_true rfl) rfl ?_
        refine am_goto cx (tgt := 33) dX8_read_60 (by decide) ?_
        refine am_sub cx [0, 1] rfl ?_
        exact hk33 _ _ _ hres
      · have hres := am_ifn h hres
        refine am_iload_n cx 2 dX8_read_55 rfl ?_
        obtain ⟨rfl, rfl⟩ := am_fin hres
        exact am_iret cx dX8_read_56
set_option maxRecDepth 20000 in
theorem sn8_read_b33 {l : Launch} {G : am_G} {v : Int32} {M' : am_Mem} {N : Nat}  (cx : am_Ctx l rm8_read yX8_read cX8_read 4 (some .int) (some (.inl v)) M' 0 0 G)  (i : Nat) : ∀ (r0 : Nat) (x2 : Int32) (M : am_Mem), fn8_read_b33 N  i r0 x2 M = some (v, M') → G 33 [(0, .inr (.inr r0)), (2, .inl x2)] [] M 0 0 := by
  induction i with
  | zero => intro r0 x2 M hres; exact am_no hres
  | succ i ih => intro r0 x2 M hres; exact sn8_read_b33B cx ih hres
set_option maxRecDepth 20000 in
theorem sn8_read_b0 {l : Launch} {G : am_G} {v : Int32} {M' : am_Mem} {N : Nat}  (cx : am_Ctx l rm8_read yX8_read cX8_read 4 (some .int) (some (.inl v)) M' 0 0 G)  {r0 : Nat} {x1 : Int32} {M : am_Mem} (hres : fn8_read_b0 N  r0 x1 M = some (v, M')) : G 0 [(0, .inr (.inr r0)), (1, .inl x1)] [] M 0 0 := by
  unfold fn8_read_b0 at hres
  refine am_aload_n cx 0 dX8_read_0 rfl ?_
  refine am_iload_n cx 1 dX8_read_1 rfl ?_
  refine am_aload_n cx 0 dX8_read_2 rfl ?_
  obtain ⟨q1, hres⟩ := am_ck_some hres
  refine am_getI cx dX8_read_3 flX8_35 (am_ke q1) ?_
  refine am_mmin cx dX8_read_6 aw_2_82 aw_2_83 aw_1_12 aw_2_84 (Nat.le_of_ble_eq_true rfl) (Nat.le_of_ble_eq_true rfl) (Nat.le_of_ble_eq_true rfl) (Nat.le_of_ble_eq_true rfl) ?_
  refine am_putI cx dX8_read_9 fpX8_45 (fun h => by cases h) (am_ke q1) ?_
  refine am_aload_n cx 0 dX8_read_12 rfl ?_
  refine am_iconst cx (v := (0 : Int32)) dX8_read_13 (by decide) ?_
  refine am_putI cx dX8_read_14 fpX8_35 (fun h => by cases h) (am_ke q1) ?_
  refine am_aload_n cx 0 dX8_read_17 rfl ?_
  refine am_iconst cx (v := (0 : Int32)) dX8_read_18 (by decide) ?_
  refine am_putI cx dX8_read_19 fpX8_48 (fun h => by cases h) (am_ke q1) ?_
  refine am_aload_n cx 0 dX8_read_22 rfl ?_
  refine am_iconst cx (v := (0 : Int32)) dX8_read_23 (by decide) ?_
  refine am_putI cx dX8_read_24 fpX8_51 (fun h => by cases h) (am_ke q1) ?_
  refine am_aload_n cx 0 dX8_read_27 rfl ?_
  obtain ⟨v2, M3, q4, hres⟩ := am_bd_some hres
  refine am_callV0 cx [] dX8_read_28 cvX8_54 (mt8_nextToken q4) (am_ke q1) ⟨rfl, rfl, Nat.le_of_ble_eq_true rfl, Nat.le_of_ble_eq_true rfl⟩ rfl (Nat.le_of_ble_eq_true rfl) ⟨Nat.le_of_ble_eq_true rfl, Nat.le_of_ble_eq_true rfl⟩ ?_
  refine am_iconst cx (v := (0 : Int32)) dX8_read_31 (by decide) ?_
  refine am_istore_n cx (lv' := [(0, .inr (.inr r0)), (1, .inl x1), (2, .inl (0 : Int32))]) dX8_read_32 (Nat.le_of_ble_eq_true rfl) rfl ?_
  refine am_sub cx [0, 2] rfl ?_
  exact sn8_read_b33 cx  N _ _ _ hres
set_option maxRecDepth 20000 in
theorem mt8_read {l : Launch} {v : Int32} {M M' : am_Mem} {N : Nat} {r0 : Nat} {x1 : Int32} (h : fn8_read N M r0 x1 = some (v, M')) : am_Met l yX8_read cX8_read 4 (some .int) rm8_read 0 0 [.inr (.inr r0), .inl x1] M (some (.inl v)) M' := am_mk (by decide) (Nat.le_of_ble_eq_true rfl) (fun G cx => (sn8_read_b0 cx h))
-- SquareCuts.text
def fn11_text_b15 (N : Nat)   (M : am_Mem) : Option (Int32 × am_Mem) :=
  some ((-1 : Int32), M)
def fn11_text_b103 (N : Nat) (k63 : Nat → Int32 → am_Mem → Option (Int32 × am_Mem)) (c0 : Nat) (c1 : Nat) (r0 : Nat) (x3 : Int32) (M : am_Mem) : Option (Int32 × am_Mem) :=
  am_ck (am_k M c0 9) (am_bd (fn9_put M c0 c1) (fun v2 M3 => k63 r0 (x3 + (1 : Int32)) M3))
def fn11_text_b63B (N : Nat) (k63 : Nat → Int32 → am_Mem → Option (Int32 × am_Mem)) (r0 : Nat) (x3 : Int32) (M : am_Mem) : Option (Int32 × am_Mem) :=
  am_ck (am_k M r0 11) (am_ck (am_k M (am_R M r0 0) 8) (if (am_I M (am_R M r0 0) 8) ≤ x3 then am_ck (am_k M (am_R M r0 8) 9) (some ((am_I M (am_R M r0 8) 1), M)) else am_ck (am_k M (am_R M (am_R M r0 0) 9) 16) (am_ck (am_in x3 (am_L M (am_R M (am_R M r0 0) 9))) (if (am_I M (am_R M (am_R M r0 0) 9) x3.toNatClampNeg) = 0 then am_bd (fn11_netTiling N M r0 x3) (fun v6 M7 => fn11_text_b103 N k63 (am_R M r0 8) v6 r0 x3 M7) else am_bd (fn11_drawnTiling N M r0 x3) (fun v9 M10 => fn11_text_b103 N k63 (am_R M r0 8) v9 r0 x3 M10)))))
def fn11_text_b63 (N : Nat)  : Nat → Nat → Int32 → am_Mem → Option (Int32 × am_Mem)
  | 0 => fun _ _ _ => none
  | i + 1 => fn11_text_b63B N (fn11_text_b63 N  i)
def fn11_text_b0 (N : Nat)  (r0 : Nat) (x1 : Int32) (M : am_Mem) : Option (Int32 × am_Mem) :=
  if x1 < 0 then fn11_text_b15 N   M else am_ck (am_k M r0 11) (am_ck (am_k M (am_R M r0 0) 8) (if x1 ≤ (am_I M (am_R M r0 0) 7) then am_bd (fn8_read N M (am_R M r0 0) x1) (fun v3 M4 => if v3 = 0 then am_ck (am_k M4 r0 11) (am_ck (am_k M4 (am_R M4 r0 8) 9) (am_bd (fn9_clear M4 (am_R M4 r0 8)) (fun v8 M9 => am_ck (am_k M9 r0 11) (am_ck (am_k M9 (am_R M9 r0 9) 9) (am_bd (fn9_clear M9 (am_R M9 r0 9)) (fun v13 M14 => am_ck (am_k M14 r0 11) (am_ck (am_k M14 (am_R M14 r0 10) 9) (am_bd (fn9_clear M14 (am_R M14 r0 10)) (fun v18 M19 => am_ck (am_k M19 r0 11) (fn11_text_b63 N  7 r0 (0 : Int32) (am_wI M19 r0 11 (0 : Int32)))))))))))) else some (((-2 : Int32) - v3), M4)) else fn11_text_b15 N   M))
def fn11_text (N : Nat) (M : am_Mem) (r0 : Nat) (x1 : Int32) : Option (Int32 × am_Mem) := fn11_text_b0 N r0 x1 M
def rm11_text : Room := { frames := 6, cells := 49, slots := 1169, locals := 153 }
set_option maxRecDepth 20000 in
theorem sn11_text_b15 {l : Launch} {G : am_G} {v : Int32} {M' : am_Mem} {N : Nat}  (cx : am_Ctx l rm11_text yX11_text cX11_text 4 (some .int) (some (.inl v)) M' 49 1169 G)   {M : am_Mem} (hres : fn11_text_b15 N   M = some (v, M')) : G 15 [] [] M 0 0 := by
  unfold fn11_text_b15 at hres
  refine am_iconst cx (v := (-1 : Int32)) dX11_text_15 (by decide) ?_
  obtain ⟨rfl, rfl⟩ := am_fin hres
  refine am_widen cx (k' := 49) (n' := 1169) (Nat.le_of_ble_eq_true rfl) (Nat.le_of_ble_eq_true rfl) ?_
  exact am_iret cx dX11_text_16
set_option maxRecDepth 20000 in
theorem sn11_text_b103 {l : Launch} {G : am_G} {v : Int32} {M' : am_Mem} {N : Nat} {i : Nat} {k63 : Nat → Int32 → am_Mem → Option (Int32 × am_Mem)} (cx : am_Ctx l rm11_text yX11_text cX11_text 4 (some .int) (some (.inl v)) M' 49 1169 G) (hk63 : ∀ (r0 : Nat) (x3 : Int32) (M : am_Mem), k63 r0 x3 M = some (v, M') → G 63 [(0, .inr (.inr r0)), (3, .inl x3)] [] M (0 + (7 - i) * 7) (0 + (7 - i) * 167)) (hib : i + 1 ≤ 7) {c0 : Nat} {c1 : Nat} {r0 : Nat} {x3 : Int32} {M : am_Mem} (hres : fn11_text_b103 N k63 c0 c1 r0 x3 M = some (v, M')) : G 103 [(0, .inr (.inr r0)), (3, .inl x3)] [.inr (.inr c1), .inr (.inr c0)] M (0 + (7 - (i + 1)) * 7 + 7) (0 + (7 - (i + 1)) * 167 + 167) := by
  unfold fn11_text_b103 at hres
  obtain ⟨q1, hres⟩ := am_ck_some hres
  obtain ⟨v2, M3, q4, hres⟩ := am_bd_some hres
  refine am_callV0 cx [.inr (.inr c1)] dX11_text_103 cvX11_108 (mt9_put q4) (am_ke q1) ⟨rfl, rfl, Nat.le_of_ble_eq_true rfl, Nat.le_of_ble_eq_true rfl⟩ rfl (Nat.le_of_ble_eq_true rfl) ⟨by show _ ≤ (49 : Nat); omega, by show _ ≤ (1169 : Nat); omega⟩ ?_
  refine am_iincw cx (lv' := [(0, .inr (.inr r0)), (3, .inl (x3 + (1 : Int32)))]) (w := (1 : Int32)) 1 dX11_text_106 (by decide) rfl (Nat.le_of_ble_eq_true rfl) rfl ?_
  refine am_goto cx (tgt := 63) dX11_text_109 (by decide) ?_
  refine am_widen cx (k' := (0 + (7 - i) * 7)) (n' := (0 + (7 - i) * 167)) (by omega) (by omega) ?_
  exact hk63 _ _ _ hres
set_option maxRecDepth 20000 in
theorem sn11_text_b63B {l : Launch} {G : am_G} {v : Int32} {M' : am_Mem} {N : Nat} {i : Nat} {k63 : Nat → Int32 → am_Mem → Option (Int32 × am_Mem)} (cx : am_Ctx l rm11_text yX11_text cX11_text 4 (some .int) (some (.inl v)) M' 49 1169 G) (hk63 : ∀ (r0 : Nat) (x3 : Int32) (M : am_Mem), k63 r0 x3 M = some (v, M') → G 63 [(0, .inr (.inr r0)), (3, .inl x3)] [] M (0 + (7 - i) * 7) (0 + (7 - i) * 167)) (hib : i + 1 ≤ 7) {r0 : Nat} {x3 : Int32} {M : am_Mem} (hres : fn11_text_b63B N k63 r0 x3 M = some (v, M')) : G 63 [(0, .inr (.inr r0)), (3, .inl x3)] [] M (0 + (7 - (i + 1)) * 7) (0 + (7 - (i + 1)) * 167) := by
  unfold fn11_text_b63B at hres
  refine am_iload_n cx 1 dX11_text_63 rfl ?_
  refine am_aload_n cx 0 dX11_text_64 rfl ?_
  obtain ⟨q1, hres⟩ := am_ck_some hres
  refine am_getR cx dX11_text_65 flX11_12 (am_ke q1) ?_
  obtain ⟨q2, hres⟩ := am_ck_some hres
  refine am_getI cx dX11_text_68 flX11_94 (am_ke q2) ?_
  refine am_icmp_ge cx (tgt := 112) dX11_text_71 (by decide) (fun h => ?_) (fun h => ?_)
  · have hres := am_ifp h hres
    refine am_aload_n cx 0 dX11_text_112 rfl ?_
    refine am_getR cx dX11_text_113 flX11_66 (am_ke q1) ?_
    obtain ⟨q3, hres⟩ := am_ck_some hres
    refine am_getI cx dX11_text_116 flX11_112 (am_ke q3) ?_
    obtain ⟨rfl, rfl⟩ := am_fin hres
    refine am_widen cx (k' := 49) (n' := 1169) (by omega) (by omega) ?_
    exact am_iret cx dX11_text_119
  · have hres := am_ifn h hres
    refine am_aload_n cx 0 dX11_text_74 rfl ?_
    refine am_getR cx dX11_text_75 flX11_66 (am_ke q1) ?_
    refine am_aload_n cx 0 dX11_text_78 rfl ?_
    refine am_getR cx dX11_text_79 flX11_12 (am_ke q1) ?_
    refine am_getR cx dX11_text_82 flX11_97 (am_ke q2) ?_
    refine am_iload_n cx 1 dX11_text_85 rfl ?_
    obtain ⟨q4, hres⟩ := am_ck_some hres
    obtain ⟨q5, hres⟩ := am_ck_some hres
    refine am_zald cx dX11_text_86 (am_ke q4) q5 ?_
    refine am_if_eq cx (tgt := 98) dX11_text_87 (by decide) (fun h => ?_) (fun h => ?_)
    · have hres := am_ifp h hres
      refine am_aload_n cx 0 dX11_text_98 rfl ?_
      refine am_iload_n cx 1 dX11_text_99 rfl ?_
      obtain ⟨v6, M7, q8, hres⟩ := am_bd_some hres
      refine am_callV1 cx [.inl x3] dX11_text_100 cvX11_105 (mt11_netTiling q8) (am_ke q1) ⟨rfl, rfl, Nat.le_of_ble_eq_true rfl, Nat.le_of_ble_eq_true rfl⟩ rfl (Nat.le_of_ble_eq_true rfl) ⟨by show _ ≤ (49 : Nat); omega, by show _ ≤ (1169 : Nat); omega⟩ ?_
      exact sn11_text_b103 cx hk63 hib hres
    · have hres := am_ifn h hres
      refine am_aload_n cx 0 dX11_text_90 rfl ?_
      refine am_iload_n cx 1 dX11_text_91 rfl ?_
      obtain ⟨v9, M10, q11, hres⟩ := am_bd_some hres
      refine am_callV1 cx [.inl x3] dX11_text_92 cvX11_101 (mt11_drawnTiling q11) (am_ke q1) ⟨rfl, rfl, Nat.le_of_ble_eq_true rfl, Nat.le_of_ble_eq_true rfl⟩ rfl (Nat.le_of_ble_eq_true rfl) ⟨by show _ ≤ (49 : Nat); omega, by show _ ≤ (1169 : Nat); omega⟩ ?_
      refine am_goto cx (tgt := 103) dX11_text_95 (by decide) ?_
      refine am_widen cx (k' := (0 + (7 - (i + 1)) * 7 + 7)) (n' := (0 + (7 - (i + 1)) * 167 + 167)) (by omega) (by omega) ?_
      exact sn11_text_b103 cx hk63 hib hres
set_option maxRecDepth 20000 in
theorem sn11_text_b63 {l : Launch} {G : am_G} {v : Int32} {M' : am_Mem} {N : Nat}  (cx : am_Ctx l rm11_text yX11_text cX11_text 4 (some .int) (some (.inl v)) M' 49 1169 G)  (i : Nat) : i ≤ 7 → ∀ (r0 : Nat) (x3 : Int32) (M : am_Mem), fn11_text_b63 N  i r0 x3 M = some (v, M') → G 63 [(0, .inr (.inr r0)), (3, .inl x3)] [] M (0 + (7 - i) * 7) (0 + (7 - i) * 167) := by
  induction i with
  | zero => intro hi r0 x3 M hres; exact am_no hres
  | succ i ih => intro hi r0 x3 M hres; exact sn11_text_b63B cx (ih (by omega)) hi hres
set_option maxRecDepth 20000 in
theorem sn11_text_b0 {l : Launch} {G : am_G} {v : Int32} {M' : am_Mem} {N : Nat}  (cx : am_Ctx l rm11_text yX11_text cX11_text 4 (some .int) (some (.inl v)) M' 49 1169 G)  {r0 : Nat} {x1 : Int32} {M : am_Mem} (hres : fn11_text_b0 N  r0 x1 M = some (v, M')) : G 0 [(0, .inr (.inr r0)), (1, .inl x1)] [] M 0 0 := by
  unfold fn11_text_b0 at hres
  refine am_iload_n cx 1 dX11_text_0 rfl ?_
  refine am_if_lt cx (tgt := 15) dX11_text_1 (by decide) (fun h => ?_) (fun h => ?_)
  · have hres := am_ifp h hres
    refine am_sub cx [] rfl ?_
    exact sn11_text_b15 cx  hres
  · have hres := am_ifn h hres
    refine am_iload_n cx 1 dX11_text_4 rfl ?_
    refine am_aload_n cx 0 dX11_text_5 rfl ?_
    obtain ⟨q1, hres⟩ := am_ck_some hres
    refine am_getR cx dX11_text_6 flX11_12 (am_ke q1) ?_
    obtain ⟨q2, hres⟩ := am_ck_some hres
    refine am_getI cx dX11_text_9 flX11_76 (am_ke q2) ?_
    refine am_icmp_le cx (tgt := 17) dX11_text_12 (by decide) (fun h => ?_) (fun h => ?_)
    · have hres := am_ifp h hres
      refine am_aload_n cx 0 dX11_text_17 rfl ?_
      refine am_getR cx dX11_text_18 flX11_12 (am_ke q1) ?_
      refine am_iload_n cx 1 dX11_text_21 rfl ?_
      obtain ⟨v3, M4, q5, hres⟩ := am_bd_some hres
      refine am_callV1 cx [.inl x1] dX11_text_22 cvX11_84 (mt8_read q5) (am_ke q2) ⟨rfl, rfl, Nat.le_of_ble_eq_true rfl, Nat.le_of_ble_eq_true rfl⟩ rfl (Nat.le_of_ble_eq_true rfl) ⟨Nat.le_of_ble_eq_true rfl, Nat.le_of_ble_eq_true rfl⟩ ?_
      refine am_istore_n cx (lv' := [(0, .inr (.inr r0)), (1, .inl x1), (2, .inl v3)]) dX11_text_25 (Nat.le_of_ble_eq_true rfl) rfl ?_
      refine am_iload_n cx 2 dX11_text_26 rfl ?_
      refine am_if_eq cx (tgt := 35) dX11_text_27 (by decide) (fun h => ?_) (fun h => ?_)
      · have hres := am_ifp h hres
        refine am_aload_n cx 0 dX11_text_35 rfl ?_
        obtain ⟨q6, hres⟩ := am_ck_some hres
        refine am_getR cx dX11_text_36 flX11_66 (am_ke q6) ?_
        obtain ⟨q7, hres⟩ := am_ck_some hres
        obtain ⟨v8, M9, q10, hres⟩ := am_bd_some hres
        refine am_callV0 cx [] dX11_text_39 cvX11_88 (mt9_clear q10) (am_ke q7) ⟨rfl, rfl, Nat.le_of_ble_eq_true rfl, Nat.le_of_ble_eq_true rfl⟩ rfl (Nat.le_of_ble_eq_true rfl) ⟨Nat.le_of_ble_eq_true rfl, Nat.le_of_ble_eq_true rfl⟩ ?_
        refine am_aload_n cx 0 dX11_text_42 rfl ?_
        obtain ⟨q11, hres⟩ := am_ck_some hres
        refine am_getR cx dX11_text_43 flX11_70 (am_ke q11) ?_
        obtain ⟨q12, hres⟩ := am_ck_some hres
        obtain ⟨v13, M14, q15, hres⟩ := am_bd_some hres
        refine am_callV0 cx [] dX11_text_46 cvX11_88 (mt9_clear q15) (am_ke q12) ⟨rfl, rfl, Nat.le_of_ble_eq_true rfl, Nat.le_of_ble_eq_true rfl⟩ rfl (Nat.le_of_ble_eq_true rfl) ⟨Nat.le_of_ble_eq_true rfl, Nat.le_of_ble_eq_true rfl⟩ ?_
        refine am_aload_n cx 0 dX11_text_49 rfl ?_
        obtain ⟨q16, hres⟩ := am_ck_some hres
        refine am_getR cx dX11_text_50 flX11_73 (am_ke q16) ?_
        obtain ⟨q17, hres⟩ := am_ck_some hres
        obtain ⟨v18, M19, q20, hres⟩ := am_bd_some hres
        refine am_callV0 cx [] dX11_text_53 cvX11_88 (mt9_clear q20) (am_ke q17) ⟨rfl, rfl, Nat.le_of_ble_eq_true rfl, Nat.le_of_ble_eq_true rfl⟩ rfl (Nat.le_of_ble_eq_true rfl) ⟨Nat.le_of_ble_eq_true rfl, Nat.le_of_ble_eq_true rfl⟩ ?_
        refine am_aload_n cx 0 dX11_text_56 rfl ?_
        refine am_iconst cx (v := (0 : Int32)) dX11_text_57 (by decide) ?_
        obtain ⟨q21, hres⟩ := am_ck_some hres
        refine am_putI cx dX11_text_58 fpX11_91 (fun h => by cases h) (am_ke q21) ?_
        refine am_iconst cx (v := (0 : Int32)) dX11_text_61 (by decide) ?_
        refine am_istore_n cx (lv' := [(0, .inr (.inr r0)), (1, .inl x1), (2, .inl v3), (3, .inl (0 : Int32))]) dX11_text_62 (Nat.le_of_ble_eq_true rfl) rfl ?_
        refine am_sub cx [0, 3] rfl ?_
        refine am_widen cx (k' := (0 + (7 - 7) * 7)) (n' := (0 + (7 - 7) * 167)) (by omega) (by omega) ?_
        exact sn11_text_b63 cx  7 (Nat.le_refl _) _ _ _ hres
      · have hres := am_ifn h hres
        refine am_bipush cx (v := (-2 : Int32)) dX11_text_30 (by decide) ?_
        refine am_iload_n cx 2 dX11_text_32 rfl ?_
        refine am_isub cx dX11_text_33 ?_
        obtain ⟨rfl, rfl⟩ := am_fin hres
        refine am_widen cx (k' := 49) (n' := 1169) (Nat.le_of_ble_eq_true rfl) (Nat.le_of_ble_eq_true rfl) ?_
        exact am_iret cx dX11_text_34
    · have hres := am_ifn h hres
      refine am_sub cx [] rfl ?_
      exact sn11_text_b15 cx  hres
set_option maxRecDepth 20000 in
theorem mt11_text {l : Launch} {v : Int32} {M M' : am_Mem} {N : Nat} {r0 : Nat} {x1 : Int32} (h : fn11_text N M r0 x1 = some (v, M')) : am_Met l yX11_text cX11_text 4 (some .int) rm11_text 49 1169 [.inr (.inr r0), .inl x1] M (some (.inl v)) M' := am_mk (by decide) (Nat.le_of_ble_eq_true rfl) (fun G cx => (sn11_text_b0 cx h))
