-- SquareCuts$Reader.read
def fn8_read_b63 (N : Nat)   (M : am_Mem) : Option (Int32 × am_Mem) :=
  some ((0 : Int32), M)
def fn8_read_b33B (N : Nat) (k33 : Nat → Int32 → am_Mem → Option (Int32 × am_Mem)) (r0 : Nat) (x2 : Int32) (M : am_Mem) : Option (Int32 × am_Mem) :=
  if (6 : Int32) < x2 then fn8_read_b63 N   M else am_ck (am_k M r0 8) (if (am_I M r0 3) = 0 then fn8_read_b63 N   M else am_bd (fn8_readLine N M r0) (fun v2 M3 => if v2 = 0 then k33 r0 (x2 + (1 : Int32)) M3 else some (v2, M3)))
def fn8_read_b33 (N : Nat)  : Nat → Nat → Int32 → am_Mem → Option (Int32 × am_Mem)
  | 0 => fun _ _ _ => none
  | i + 1 => fn8_read_b33B N (fn8_read_b33 N  i)
def fn8_read_b0 (N : Nat)  (r0 : Nat) (x1 : Int32) (M : am_Mem) : Option (Int32 × am_Mem) :=
  am_ck (am_k M r0 8) (am_bd (fn8_nextToken N (am_wI (am_wI (am_wI (am_wI M r0 1 (if (am_I M r0 7) < x1 then (am_I M r0 7) else x1)) r0 7 (0 : Int32)) r0 2 (0 : Int32)) r0 8 (0 : Int32)) r0) (fun v2 M3 => fn8_read_b33 N  N r0 (0 : Int32) M3))
def fn8_read (N : Nat) (M : am_Mem) (r0 : Nat) (x1 : Int32) : Option (Int32 × am_Mem) := fn8_read_b0 N r0 x1 M
def rm8_read : Room := { frames := 5, cells := 0, slots := 0, locals := 111 }
set_option maxRecDepth 20000 in
theorem sn8_read_b63 {l : Launch} {G : am_G} {v : Int32} {M' : am_Mem} {N : Nat}  (cx : am_Ctx l rm8_read yX8_read cX8_read 4 (some .int) (some (.inl v)) M' 0 0 G)   {M : am_Mem} (hres : fn8_read_b63 N   M = some (v, M')) : G 63 [] [] M 0 0 := by
  unfold fn8_read_b63 at hres
  refine am_iconst cx (v := (0 : Int32)) dX8_read_63 (by decide) ?_
  obtain ⟨rfl, rfl⟩ := am_fin hres
  exact am_iret cx dX8_read_64
set_option maxRecDepth 20000 in
theorem sn8_read_b33B {l : Launch} {G : am_G} {v : Int32} {M' : am_Mem} {N : Nat} {k33 : Nat → Int32 → am_Mem → Option (Int32 × am_Mem)} (cx : am_Ctx l rm8_read yX8_read cX8_read 4 (some .int) (some (.inl v)) M' 0 0 G) (hk33 : ∀ (r0 : Nat) (x2 : Int32) (M : am_Mem), k33 r0 x2 M = some (v, M') → G 33 [(0, .inr (.inr r0)), (2, .inl x2)] [] M 0 0) {r0 : Nat} {x2 : Int32} {M : am_Mem} (hres : fn8_read_b33B N k33 r0 x2 M = some (v, M')) : G 33 [(0, .inr (.inr r0)), (2, .inl x2)] [] M 0 0 := by
  unfold fn8_read_b33B at hres
  refine am_iload_n cx 1 dX8_read_33 rfl ?_
  refine am_bipush cx (v := (6 : Int32)) dX8_read_34 (by decide) ?_
  refine am_icmp_gt cx (tgt := 63) dX8_read_36 (by decide) (fun h => ?_) (fun h => ?_)
  · have hres := am_ifp h hres
    refine am_sub cx [] rfl ?_
    exact sn8_read_b63 cx  hres
  · have hres := am_ifn h hres
    refine am_aload_n cx 0 dX8_read_39 rfl ?_
    obtain ⟨q1, hres⟩ := am_ck_some hres
    refine am_getI cx dX8_read_40 flX8_57 (am_ke q1) ?_
    refine am_if_eq cx (tgt := 63) dX8_read_43 (by decide) (fun h => ?_) (fun h => ?_)
    · have hres := am_ifp h hres
      refine am_sub cx [] rfl ?_
      exact sn8_read_b63 cx  hres
    · have hres := am_ifn h hres
      refine am_aload_n cx 0 dX8_read_46 rfl ?_
      obtain ⟨v2, M3, q4, hres⟩ := am_bd_some hres
      refine am_callV1 cx [] dX8_read_47 cvX8_60 (mt8_readLine q4) (am_ke q1) ⟨rfl, rfl, Nat.le_of_ble_eq_true rfl, Nat.le_of_ble_eq_true rfl⟩ rfl (Nat.le_of_ble_eq_true rfl) ⟨Nat.le_of_ble_eq_true rfl, Nat.le_of_ble_eq_true rfl⟩ ?_
      refine am_istore_n cx (lv' := [(0, .inr (.inr r0)), (2, .inl x2), (3, .inl v2)]) dX8_read_50 (Nat.le_of_ble_eq_true rfl) rfl ?_
      refine am_iload_n cx 2 dX8_read_51 rfl ?_
      refine am_if_eq cx (tgt := 57) dX8_read_52 (by decide) (fun h => ?_) (fun h => ?_)
      · have hres := am_ifp h hres
        refine am_iincw cx (lv' := [(0, .inr (.inr r0)), (2, .inl (x2 + (1 : Int32))), (3, .inl v2)]) (w := (1 : Int32)) 1 dX8_read_57 (by decide) rfl (Nat.le_of_ble_eq_true rfl) rfl ?_
        refine am_goto cx (tgt := 33) dX8_read_60 (by decide) ?_
        refine am_sub cx [0, 1] rfl ?_
        exact hk33 _ _ _ hres
      · have hres := am_ifn h hres
        refine am_iload_n cx 2 dX8_read_55 rfl ?_
        obtain ⟨rfl, rfl⟩ := am_fin hres
        exact am_iret cx dX8_read_56
set_option maxRecDepth 20000 in
theorem sn8_read_b33 {l : Launch} {G : am_G} {v : Int32} {M' : am_Mem} {N : Nat}  (cx : am_Ctx l rm8_read yX8_read cX8_read 4 (some .int) (some (.inl v)) M' 0 0 G)  (i : Nat) : ∀ (r0 : Nat) (x2 : Int32) (M : am_Mem), fn8_read_b33 N  i r0 x2 M = some (v, M') → G 33 [(0, .inr (.inr r0)), (2, .inl x2)] [] M 0 0 := by
  induction i with
  | zero => intro r0 x2 M hres; exact am_no hres
  | succ i ih => intro r0 x2 M hres; exact sn8_read_b33B cx ih hres
set_option maxRecDepth 20000 in
theorem sn8_read_b0 {l : Launch} {G : am_G} {v : Int32} {M' : am_Mem} {N : Nat}  (cx : am_Ctx l rm8_read yX8_read cX8_read 4 (some .int) (some (.inl v)) M' 0 0 G)  {r0 : Nat} {x1 : Int32} {M : am_Mem} (hres : fn8_read_b0 N  r0 x1 M = some (v, M')) : G 0 [(0, .inr (.inr r0)), (1, .inl x1)] [] M 0 0 := by
  unfold fn8_read_b0 at hres
  refine am_aload_n cx 0 dX8_read_0 rfl ?_
  refine am_iload_n cx 1 dX8_read_1 rfl ?_
  refine am_aload_n cx 0 dX8_read_2 rfl ?_
  obtain ⟨q1, hres⟩ := am_ck_some hres
  refine am_getI cx dX8_read_3 flX8_35 (am_ke q1) ?_
  refine am_mmin cx dX8_read_6 aw_2_82 aw_2_83 aw_1_12 aw_2_84 (Nat.le_of_ble_eq_true rfl) (Nat.le_of_ble_eq_true rfl) (Nat.le_of_ble_eq_true rfl) (Nat.le_of_ble_eq_true rfl) ?_
  refine am_putI cx dX8_read_9 fpX8_45 (fun h => by cases h) (am_ke q1) ?_
  refine am_aload_n cx 0 dX8_read_12 rfl ?_
  refine am_iconst cx (v := (0 : Int32)) dX8_read_13 (by decide) ?_
  refine am_putI cx dX8_read_14 fpX8_35 (fun h => by cases h) (am_ke q1) ?_
  refine am_aload_n cx 0 dX8_read_17 rfl ?_
  refine am_iconst cx (v := (0 : Int32)) dX8_read_18 (by decide) ?_
  refine am_putI cx dX8_read_19 fpX8_48 (fun h => by cases h) (am_ke q1) ?_
  refine am_aload_n cx 0 dX8_read_22 rfl ?_
  refine am_iconst cx (v := (0 : Int32)) dX8_read_23 (by decide) ?_
  refine am_putI cx dX8_read_24 fpX8_51 (fun h => by cases h) (am_ke q1) ?_
  refine am_aload_n cx 0 dX8_read_27 rfl ?_
  obtain ⟨v2, M3, q4, hres⟩ := am_bd_some hres
  refine am_callV0 cx [] dX8_read_28 cvX8_54 (mt8_nextToken q4) (am_ke q1) ⟨rfl, rfl, Nat.le_of_ble_eq_true rfl, Nat.le_of_ble_eq_true rfl⟩ rfl (Nat.le_of_ble_eq_true rfl) ⟨Nat.le_of_ble_eq_true rfl, Nat.le_of_ble_eq_true rfl⟩ ?_
  refine am_iconst cx (v := (0 : Int32)) dX8_read_31 (by decide) ?_
  refine am_istore_n cx (lv' := [(0, .inr (.inr r0)), (1, .inl x1), (2, .inl (0 : Int32))]) dX8_read_32 (Nat.le_of_ble_eq_true rfl) rfl ?_
  refine am_sub cx [0, 2] rfl ?_
  exact sn8_read_b33 cx  N _ _ _ hres
set_option maxRecDepth 20000 in
theorem mt8_read {l : Launch} {v : Int32} {M M' : am_Mem} {N : Nat} {r0 : Nat} {x1 : Int32} (h : fn8_read N M r0 x1 = some (v, M')) : am_Met l yX8_read cX8_read 4 (some .int) rm8_read 0 0 [.inr (.inr r0), .inl x1] M (some (.inl v)) M' := am_mk (by decide) (Nat.le_of_ble_eq_true rfl) (fun G cx => (sn8_read_b0 cx h))
-- SquareCuts.text
def fn11_text_b15 (N : Nat)   (M : am_Mem) : Option (Int32 × am_Mem) :=
  some ((-1 : Int32), M)
def fn11_text_b103 (N : Nat) (k63 : Nat → Int32 → am_Mem → Option (Int32 × am_Mem)) (c0 : Nat) (c1 : Nat) (r0 : Nat) (x3 : Int32) (M : am_Mem) : Option (Int32 × am_Mem) :=
  am_ck (am_k M c0 9) (am_bd (fn9_put M c0 c1) (fun v2 M3 => k63 r0 (x3 + (1 : Int32)) M3))
def fn11_text_b63B (N : Nat) (k63 : Nat → Int32 → am_Mem → Option (Int32 × am_Mem)) (r0 : Nat) (x3 : Int32) (M : am_Mem) : Option (Int32 × am_Mem) :=
  am_ck (am_k M r0 11) (am_ck (am_k M (am_R M r0 0) 8) (if (am_I M (am_R M r0 0) 8) ≤ x3 then am_ck (am_k M (am_R M r0 8) 9) (some ((am_I M (am_R M r0 8) 1), M)) else am_ck (am_k M (am_R M (am_R M r0 0) 9) 16) (am_ck (am_in x3 (am_L M (am_R M (am_R M r0 0) 9))) (if (am_I M (am_R M (am_R M r0 0) 9) x3.toNatClampNeg) = 0 then am_bd (fn11_netTiling N M r0 x3) (fun v6 M7 => fn11_text_b103 N k63 (am_R M r0 8) v6 r0 x3 M7) else am_bd (fn11_drawnTiling N M r0 x3) (fun v9 M10 => fn11_text_b103 N k63 (am_R M r0 8) v9 r0 x3 M10)))))
def fn11_text_b63 (N : Nat)  : Nat → Nat → Int32 → am_Mem → Option (Int32 × am_Mem)
  | 0 => fun _ _ _ => none
  | i + 1 => fn11_text_b63B N (fn11_text_b63 N  i)
def fn11_text_b0 (N : Nat)  (r0 : Nat) (x1 : Int32) (M : am_Mem) : Option (Int32 × am_Mem) :=
  if x1 < 0 then fn11_text_b15 N   M else am_ck (am_k M r0 11) (am_ck (am_k M (am_R M r0 0) 8) (if x1 ≤ (am_I M (am_R M r0 0) 7) then am_bd (fn8_read N M (am_R M r0 0) x1) (fun v3 M4 => if v3 = 0 then am_ck (am_k M4 r0 11) (am_ck (am_k M4 (am_R M4 r0 8) 9) (am_bd (fn9_clear M4 (am_R M4 r0 8)) (fun v8 M9 => am_ck (am_k M9 r0 11) (am_ck (am_k M9 (am_R M9 r0 9) 9) (am_bd (fn9_clear M9 (am_R M9 r0 9)) (fun v13 M14 => am_ck (am_k M14 r0 11) (am_ck (am_k M14 (am_R M14 r0 10) 9) (am_bd (fn9_clear M14 (am_R M14 r0 10)) (fun v18 M19 => am_ck (am_k M19 r0 11) (fn11_text_b63 N  7 r0 (0 : Int32) (am_wI M19 r0 11 (0 : Int32)))))))))))) else some (((-2 : Int32) - v3), M4)) else fn11_text_b15 N   M))
def fn11_text (N : Nat) (M : am_Mem) (r0 : Nat) (x1 : Int32) : Option (Int32 × am_Mem) := fn11_text_b0 N r0 x1 M
def rm11_text : Room := { frames := 6, cells := 49, slots := 1169, locals := 153 }
set_option maxRecDepth 20000 in
theorem sn11_text_b15 {l : Launch} {G : am_G} {v : Int32} {M' : am_Mem} {N : Nat}  (cx : am_Ctx l rm11_text yX11_text cX11_text 4 (some .int) (some (.inl v)) M' 49 1169 G)   {M : am_Mem} (hres : fn11_text_b15 N   M = some (v, M')) : G 15 [] [] M 0 0 := by
  unfold fn11_text_b15 at hres
  refine am_iconst cx (v := (-1 : Int32)) dX11_text_15 (by decide) ?_
  obtain ⟨rfl, rfl⟩ := am_fin hres
  refine am_widen cx (k' := 49) (n' := 1169) (Nat.le_of_ble_eq_true rfl) (Nat.le_of_ble_eq_true rfl) ?_
  exact am_iret cx dX11_text_16
set_option maxRecDepth 20000 in
theorem sn11_text_b103 {l : Launch} {G : am_G} {v : Int32} {M' : am_Mem} {N : Nat} {i : Nat} {k63 : Nat → Int32 → am_Mem → Option (Int32 × am_Mem)} (cx : am_Ctx l rm11_text yX11_text cX11_text 4 (some .int) (some (.inl v)) M' 49 1169 G) (hk63 : ∀ (r0 : Nat) (x3 : Int32) (M : am_Mem), k63 r0 x3 M = some (v, M') → G 63 [(0, .inr (.inr r0)), (3, .inl x3)] [] M (0 + (7 - i) * 7) (0 + (7 - i) * 167)) (hib : i + 1 ≤ 7) {c0 : Nat} {c1 : Nat} {r0 : Nat} {x3 : Int32} {M : am_Mem} (hres : fn11_text_b103 N k63 c0 c1 r0 x3 M = some (v, M')) : G 103 [(0, .inr (.inr r0)), (3, .inl x3)] [.inr (.inr c1), .inr (.inr c0)] M (0 + (7 - (i + 1)) * 7 + 7) (0 + (7 - (i + 1)) * 167 + 167) := by
  unfold fn11_text_b103 at hres
  obtain ⟨q1, hres⟩ := am_ck_some hres
  obtain ⟨v2, M3, q4, hres⟩ := am_bd_some hres
  refine am_callV0 cx [.inr (.inr c1)] dX11_text_103 cvX11_108 (mt9_put q4) (am_ke q1) ⟨rfl, rfl, Nat.le_of_ble_eq_true rfl, Nat.le_of_ble_eq_true rfl⟩ rfl (Nat.le_of_ble_eq_true rfl) ⟨by show _ ≤ (49 : Nat); omega, by show _ ≤ (1169 : Nat); omega⟩ ?_
  refine am_iincw cx (lv' := [(0, .inr (.inr r0)), (3, .inl (x3 + (1 : Int32)))]) (w := (1 : Int32)) 1 dX11_text_106 (by decide) rfl (Nat.le_of_ble_eq_true rfl) rfl ?_
  refine am_goto cx (tgt := 63) dX11_text_109 (by decide) ?_
  refine am_widen cx (k' := (0 + (7 - i) * 7)) (n' := (0 + (7 - i) * 167)) (by omega) (by omega) ?_
  exact hk63 _ _ _ hres
set_option maxRecDepth 20000 in
theorem sn11_text_b63B {l : Launch} {G : am_G} {v : Int32} {M' : am_Mem} {N : Nat} {i : Nat} {k63 : Nat → Int32 → am_Mem → Option (Int32 × am_Mem)} (cx : am_Ctx l rm11_text yX11_text cX11_text 4 (some .int) (some (.inl v)) M' 49 1169 G) (hk63 : ∀ (r0 : Nat) (x3 : Int32) (M : am_Mem), k63 r0 x3 M = some (v, M') → G 63 [(0, .inr (.inr r0)), (3, .inl x3)] [] M (0 + (7 - i) * 7) (0 + (7 - i) * 167)) (hib : i + 1 ≤ 7) {r0 : Nat} {x3 : Int32} {M : am_Mem} (hres : fn11_text_b63B N k63 r0 x3 M = some (v, M')) : G 63 [(0, .inr (.inr r0)), (3, .inl x3)] [] M (0 + (7 - (i + 1)) * 7) (0 + (7 - (i + 1)) * 167) := by
  unfold fn11_text_b63B at hres
  refine am_iload_n cx 1 dX11_text_63 rfl ?_
  refine am_aload_n cx 0 dX11_text_64 rfl ?_
  obtain ⟨q1, hres⟩ := am_ck_some hres
  refine am_getR cx dX11_text_65 flX11_12 (am_ke q1) ?_
  obtain ⟨q2, hres⟩ := am_ck_some hres
  refine am_getI cx dX11_text_68 flX11_94 (am_ke q2) ?_
  refine am_icmp_ge cx (tgt := 112) dX11_text_71 (by decide) (fun h => ?_) (fun h => ?_)
  · have hres := am_ifp h hres
    refine am_aload_n cx 0 dX11_text_112 rfl ?_
    refine am_getR cx dX11_text_113 flX11_66 (am_ke q1) ?_
    obtain ⟨q3, hres⟩ := am_ck_some hres
    refine am_getI cx dX11_text_116 flX11_112 (am_ke q3) ?_
    obtain ⟨rfl, rfl⟩ := am_fin hres
    refine am_widen cx (k' := 49) (n' := 1169) (by omega) (by omega) ?_
    exact am_iret cx dX11_text_119
  · have hres := am_ifn h hres
    refine am_aload_n cx 0 dX11_text_74 rfl ?_
    refine am_getR cx dX11_text_75 flX11_66 (am_ke q1) ?_
    refine am_aload_n cx 0 dX11_text_78 rfl ?_
    refine am_getR cx dX11_text_79 flX11_12 (am_ke q1) ?_
    refine am_getR cx dX11_text_82 flX11_97 (am_ke q2) ?_
    refine am_iload_n cx 1 dX11_text_85 rfl ?_
    obtain ⟨q4, hres⟩ := am_ck_some hres
    obtain ⟨q5, hres⟩ := am_ck_some hres
    refine am_zald cx dX11_text_86 (am_ke q4) q5 ?_
    refine am_if_eq cx (tgt := 98) dX11_text_87 (by decide) (fun h => ?_) (fun h => ?_)
    · have hres := am_ifp h hres
      refine am_aload_n cx 0 dX11_text_98 rfl ?_
      refine am_iload_n cx 1 dX11_text_99 rfl ?_
      obtain ⟨v6, M7, q8, hres⟩ := am_bd_some hres
      refine am_callV1 cx [.inl x3] dX11_text_100 cvX11_105 (mt11_netTiling q8) (am_ke q1) ⟨rfl, rfl, Nat.le_of_ble_eq_true rfl, Nat.le_of_ble_eq_true rfl⟩ rfl (Nat.le_of_ble_eq_true rfl) ⟨by show _ ≤ (49 : Nat); omega, by show _ ≤ (1169 : Nat); omega⟩ ?_
      exact sn11_text_b103 cx hk63 hib hres
    · have hres := am_ifn h hres
      refine am_aload_n cx 0 dX11_text_90 rfl ?_
      refine am_iload_n cx 1 dX11_text_91 rfl ?_
      obtain ⟨v9, M10, q11, hres⟩ := am_bd_some hres
      refine am_callV1 cx [.inl x3] dX11_text_92 cvX11_101 (mt11_drawnTiling q11) (am_ke q1) ⟨rfl, rfl, Nat.le_of_ble_eq_true rfl, Nat.le_of_ble_eq_true rfl⟩ rfl (Nat.le_of_ble_eq_true rfl) ⟨by show _ ≤ (49 : Nat); omega, by show _ ≤ (1169 : Nat); omega⟩ ?_
      refine am_goto cx (tgt := 103) dX11_text_95 (by decide) ?_
      refine am_widen cx (k' := (0 + (7 - (i + 1)) * 7 + 7)) (n' := (0 + (7 - (i + 1)) * 167 + 167)) (by omega) (by omega) ?_
      exact sn11_text_b103 cx hk63 hib hres
set_option maxRecDepth 20000 in
theorem sn11_text_b63 {l : Launch} {G : am_G} {v : Int32} {M' : am_Mem} {N : Nat}  (cx : am_Ctx l rm11_text yX11_text cX11_text 4 (some .int) (some (.inl v)) M' 49 1169 G)  (i : Nat) : i ≤ 7 → ∀ (r0 : Nat) (x3 : Int32) (M : am_Mem), fn11_text_b63 N  i r0 x3 M = some (v, M') → G 63 [(0, .inr (.inr r0)), (3, .inl x3)] [] M (0 + (7 - i) * 7) (0 + (7 - i) * 167) := by
  induction i with
  | zero => intro hi r0 x3 M hres; exact am_no hres
  | succ i ih => intro hi r0 x3 M hres; exact sn11_text_b63B cx (ih (by omega)) hi hres
set_option maxRecDepth 20000 in
theorem sn11_text_b0 {l : Launch} {G : am_G} {v : Int32} {M' : am_Mem} {N : Nat}  (cx : am_Ctx l rm11_text yX11_text cX11_text 4 (some .int) (some (.inl v)) M' 49 1169 G)  {r0 : Nat} {x1 : Int32} {M : am_Mem} (hres : fn11_text_b0 N  r0 x1 M = some (v, M')) : G 0 [(0, .inr (.inr r0)), (1, .inl x1)] [] M 0 0 := by
  unfold fn11_text_b0 at hres
  refine am_iload_n cx 1 dX11_text_0 rfl ?_
  refine am_if_lt cx (tgt := 15) dX11_text_1 (by decide) (fun h => ?_) (fun h => ?_)
  · have hres := am_ifp h hres
    refine am_sub cx [] rfl ?_
    exact sn11_text_b15 cx  hres
  · have hres := am_ifn h hres
    refine am_iload_n cx 1 dX11_text_4 rfl ?_
    refine am_aload_n cx 0 dX11_text_5 rfl ?_
    obtain ⟨q1, hres⟩ := am_ck_some hres
    refine am_getR cx dX11_text_6 flX11_12 (am_ke q1) ?_
    obtain ⟨q2, hres⟩ := am_ck_some hres
    refine am_getI cx dX11_text_9 flX11_76 (am_ke q2) ?_
    refine am_icmp_le cx (tgt := 17) dX11_text_12 (by decide) (fun h => ?_) (fun h => ?_)
    · have hres := am_ifp h hres
      refine am_aload_n cx 0 dX11_text_17 rfl ?_
      refine am_getR cx dX11_text_18 flX11_12 (am_ke q1) ?_
      refine am_iload_n cx 1 dX11_text_21 rfl ?_
      obtain ⟨v3, M4, q5, hres⟩ := am_bd_some hres
      refine am_callV1 cx [.inl x1] dX11_text_22 cvX11_84 (mt8_read q5) (am_ke q2) ⟨rfl, rfl, Nat.le_of_ble_eq_true rfl, Nat.le_of_ble_eq_true rfl⟩ rfl (Nat.le_of_ble_eq_true rfl) ⟨Nat.le_of_ble_eq_true rfl, Nat.le_of_ble_eq_true rfl⟩ ?_
      refine am_istore_n cx (lv' := [(0, .inr (.inr r0)), (1, .inl x1), (2, .inl v3)]) dX11_text_25 (Nat.le_of_ble_eq_true rfl) rfl ?_
      refine am_iload_n cx 2 dX11_text_26 rfl ?_
      refine am_if_eq cx (tgt := 35) dX11_text_27 (by decide) (fun h => ?_) (fun h => ?_)
      · have hres := am_ifp h hres
        refine am_aload_n cx 0 dX11_text_35 rfl ?_
        obtain ⟨q6, hres⟩ := am_ck_some hres
        refine am_getR cx dX11_text_36 flX11_66 (am_ke q6) ?_
        obtain ⟨q7, hres⟩ := am_ck_some hres
        obtain ⟨v8, M9, q10, hres⟩ := am_bd_some hres
        refine am_callV0 cx [] dX11_text_39 cvX11_88 (mt9_clear q10) (am_ke q7) ⟨rfl, rfl, Nat.le_of_ble_eq_true rfl, Nat.le_of_ble_eq_true rfl⟩ rfl (Nat.le_of_ble_eq_true rfl) ⟨Nat.le_of_ble_eq_true rfl, Nat.le_of_ble_eq_true rfl⟩ ?_
        refine am_aload_n cx 0 dX11_text_42 rfl ?_
        obtain ⟨q11, hres⟩ := am_ck_some hres
        refine am_getR cx dX11_text_43 flX11_70 (am_ke q11) ?_
        obtain ⟨q12, hres⟩ := am_ck_some hres
        obtain ⟨v13, M14, q15, hres⟩ := am_bd_some hres
        refine am_callV0 cx [] dX11_text_46 cvX11_88 (mt9_clear q15) (am_ke q12) ⟨rfl, rfl, Nat.le_of_ble_eq_true rfl, Nat.le_of_ble_eq_true rfl⟩ rfl (Nat.le_of_ble_eq_true rfl) ⟨Nat.le_of_ble_eq_true rfl, Nat.le_of_ble_eq_true rfl⟩ ?_
        refine am_aload_n cx 0 dX11_text_49 rfl ?_
        obtain ⟨q16, hres⟩ := am_ck_some hres
        refine am_getR cx dX11_text_50 flX11_73 (am_ke q16) ?_
        obtain ⟨q17, hres⟩ := am_ck_some hres
        obtain ⟨v18, M19, q20, hres⟩ := am_bd_some hres
        refine am_callV0 cx [] dX11_text_53 cvX11_88 (mt9_clear q20) (am_ke q17) ⟨rfl, rfl, Nat.le_of_ble_eq_true rfl, Nat.le_of_ble_eq_true rfl⟩ rfl (Nat.le_of_ble_eq_true rfl) ⟨Nat.le_of_ble_eq_true rfl, Nat.le_of_ble_eq_true rfl⟩ ?_
        refine am_aload_n cx 0 dX11_text_56 rfl ?_
        refine am_iconst cx (v := (0 : Int32)) dX11_text_57 (by decide) ?_
        obtain ⟨q21, hres⟩ := am_ck_some hres
        refine am_putI cx dX11_text_58 fpX11_91 (fun h => by cases h) (am_ke q21) ?_
        refine am_iconst cx (v := (0 : Int32)) dX11_text_61 (by decide) ?_
        refine am_istore_n cx (lv' := [(0, .inr (.inr r0)), (1, .inl x1), (2, .inl v3), (3, .inl (0 : Int32))]) dX11_text_62 (Nat.le_of_ble_eq_true rfl) rfl ?_
        refine am_sub cx [0, 3] rfl ?_
        refine am_widen cx (k' := (0 + (7 - 7) * 7)) (n' := (0 + (7 - 7) * 167)) (by omega) (by omega) ?_
        exact sn11_text_b63 cx  7 (Nat.le_refl _) _ _ _ hres
      · have hres := am_ifn h hres
        refine am_bipush cx (v := (-2 : Int32)) dX11_text_30 (by decide) ?_
        refine am_iload_n cx 2 dX11_text_32 rfl ?_
        refine am_isub cx dX11_text_33 ?_
        obtain ⟨rfl, rfl⟩ := am_fin hres
        refine am_widen cx (k' := 49) (n' := 1169) (Nat.le_of_ble_eq_true rfl) (Nat.le_of_ble_eq_true rfl) ?_
        exact am_iret cx dX11_text_34
    · have hres := am_ifn h hres
      refine am_sub cx [] rfl ?_
      exact sn11_text_b15 cx  hres
set_option maxRecDepth 20000 in
theorem mt11_text {l : Launch} {v : Int32} {M M' : am_Mem} {N : Nat} {r0 : Nat} {x1 : Int32} (h : fn11_text N M r0 x1 = some (v, M')) : am_Met l yX11_text cX11_text 4 (some .int) rm11_text 49 1169 [.inr (.inr r0), .inl x1] M (some (.inl v)) M' := am_mk (by decide) (Nat.le_of_ble_eq_true rfl) (fun G cx => (sn11_text_b0 cx h))
