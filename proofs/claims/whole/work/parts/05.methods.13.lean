-- SquareCuts$LineTable.build
def fn2_build_b64B (N : Nat) (k64 : Nat → Nat → Int32 → am_Mem → Option (Unit × am_Mem)) (r0 : Nat) (r1 : Nat) (x2 : Int32) (M : am_Mem) : Option (Unit × am_Mem) :=
  am_ck (am_k M r1 10) (if (am_I M r1 4) ≤ x2 then am_ck (am_k M r0 2) (am_bd (fn2_mergeSides N M r0) (fun v3 M4 => some ((), M4))) else am_bd (fn10_bottom M r1 x2) (fun v6 M7 => am_ck (am_k M7 r1 10) (am_ck (am_k M7 (am_R M7 r1 7) 14) (am_ck (am_in x2 (am_L M7 (am_R M7 r1 7))) (am_bd (fn10_right M7 r1 x2) (fun v12 M13 => am_ck (am_k M13 r1 10) (am_ck (am_k M13 (am_R M13 r1 9) 14) (am_ck (am_in x2 (am_L M13 (am_R M13 r1 9))) (am_ck (am_k M13 r0 2) (am_bd (fn2_insertSide N M13 r0 v6 (am_I M7 (am_R M7 r1 7) x2.toNatClampNeg) v12 (-(am_I M13 (am_R M13 r1 9) x2.toNatClampNeg))) (fun v19 M20 => k64 r0 r1 (x2 + (1 : Int32)) M20)))))))))))
def fn2_build_b64 (N : Nat)  : Nat → Nat → Nat → Int32 → am_Mem → Option (Unit × am_Mem)
  | 0 => fun _ _ _ _ => none
  | i + 1 => fn2_build_b64B N (fn2_build_b64 N  i)
def fn2_build_b21B (N : Nat) (k21 : Nat → Nat → Int32 → am_Mem → Option (Unit × am_Mem)) (r0 : Nat) (r1 : Nat) (x2 : Int32) (M : am_Mem) : Option (Unit × am_Mem) :=
  am_ck (am_k M r1 10) (if (am_I M r1 4) ≤ x2 then fn2_build_b64 N  N r0 r1 (0 : Int32) M else am_ck (am_k M (am_R M r1 8) 14) (am_ck (am_in x2 (am_L M (am_R M r1 8))) (am_ck (am_k M (am_R M r1 7) 14) (am_ck (am_in x2 (am_L M (am_R M r1 7))) (am_bd (fn10_right M r1 x2) (fun v6 M7 => am_ck (am_k M7 r1 10) (am_ck (am_k M7 (am_R M7 r1 9) 14) (am_ck (am_in x2 (am_L M7 (am_R M7 r1 9))) (am_ck (am_k M7 r0 2) (am_bd (fn2_insertSide N M7 r0 (am_I M (am_R M r1 8) x2.toNatClampNeg) (am_I M (am_R M r1 7) x2.toNatClampNeg) v6 (am_I M7 (am_R M7 r1 9) x2.toNatClampNeg)) (fun v13 M14 => k21 r0 r1 (x2 + (1 : Int32)) M14)))))))))))
def fn2_build_b21 (N : Nat)  : Nat → Nat → Nat → Int32 → am_Mem → Option (Unit × am_Mem)
  | 0 => fun _ _ _ _ => none
  | i + 1 => fn2_build_b21B N (fn2_build_b21 N  i)
def fn2_build_b0 (N : Nat)  (r0 : Nat) (r1 : Nat) (M : am_Mem) : Option (Unit × am_Mem) :=
  am_ck (am_k M r0 2) (if r1 = (am_R M r0 5) then some ((), M) else fn2_build_b21 N  N r0 r1 (0 : Int32) (am_wI (am_wR M r0 5 r1) r0 4 (0 : Int32)))
def fn2_build (N : Nat) (M : am_Mem) (r0 : Nat) (r1 : Nat) : Option (Unit × am_Mem) := fn2_build_b0 N r0 r1 M
def rm2_build : Room := { frames := 2, cells := 0, slots := 0, locals := 47 }
set_option maxRecDepth 20000 in
theorem sn2_build_b64B {l : Launch} {G : am_G} {M' : am_Mem} {N : Nat} {k64 : Nat → Nat → Int32 → am_Mem → Option (Unit × am_Mem)} (cx : am_Ctx l rm2_build yX2_build cX2_build 3 none none M' 0 0 G) (hk64 : ∀ (r0 : Nat) (r1 : Nat) (x2 : Int32) (M : am_Mem), k64 r0 r1 x2 M = some ((), M') → G 64 [(0, .inr (.inr r0)), (1, .inr (.inr r1)), (2, .inl x2)] [] M 0 0) {r0 : Nat} {r1 : Nat} {x2 : Int32} {M : am_Mem} (hres : fn2_build_b64B N k64 r0 r1 x2 M = some ((), M')) : G 64 [(0, .inr (.inr r0)), (1, .inr (.inr r1)), (2, .inl x2)] [] M 0 0 := by
  unfold fn2_build_b64B at hres
  refine am_iload_n cx 2 dX2_build_64 rfl ?_
  refine am_aload_n cx 1 dX2_build_65 rfl ?_
  obtain ⟨q1, hres⟩ := am_ck_some hres
  refine am_getI cx dX2_build_66 flX2_32 (am_ke q1) ?_
  refine am_icmp_ge cx (tgt := 105) dX2_build_69 (by decide) (fun h => ?_) (fun h => ?_)
  · have hres := am_ifp h hres
    refine am_aload_n cx 0 dX2_build_105 rfl ?_
    obtain ⟨q2, hres⟩ := am_ck_some hres
    obtain ⟨v3, M4, q5, hres⟩ := am_bd_some hres
    refine am_callV0 cx [] dX2_build_106 cvX2_54 (mt2_mergeSides q5) (am_ke q2) ⟨rfl, rfl, Nat.le_of_ble_eq_true rfl, Nat.le_of_ble_eq_true rfl⟩ rfl (Nat.le_of_ble_eq_true rfl) ⟨Nat.le_of_ble_eq_true rfl, Nat.le_of_ble_eq_true rfl⟩ ?_
    obtain ⟨-, rfl⟩ := am_fin hres
    exact am_vret cx dX2_build_109
  · have hres := am_ifn h hres
    refine am_aload_n cx 0 dX2_build_72 rfl ?_
    refine am_aload_n cx 1 dX2_build_73 rfl ?_
    refine am_iload_n cx 2 dX2_build_74 rfl ?_
    obtain ⟨v6, M7, q8, hres⟩ := am_bd_some hres
    refine am_callV1 cx [.inl x2] dX2_build_75 cvX2_51 (mt10_bottom q8) (am_ke q1) ⟨rfl, rfl, Nat.le_of_ble_eq_true rfl, Nat.le_of_ble_eq_true rfl⟩ rfl (Nat.le_of_ble_eq_true rfl) ⟨Nat.le_of_ble_eq_true rfl, Nat.le_of_ble_eq_true rfl⟩ ?_
    refine am_aload_n cx 1 dX2_build_78 rfl ?_
    obtain ⟨q9, hres⟩ := am_ck_some hres
    refine am_getR cx dX2_build_79 flX2_40 (am_ke q9) ?_
    refine am_iload_n cx 2 dX2_build_82 rfl ?_
    obtain ⟨q10, hres⟩ := am_ck_some hres
    obtain ⟨q11, hres⟩ := am_ck_some hres
    refine am_iald cx dX2_build_83 (am_ke q10) q11 ?_
    refine am_aload_n cx 1 dX2_build_84 rfl ?_
    refine am_iload_n cx 2 dX2_build_85 rfl ?_
    obtain ⟨v12, M13, q14, hres⟩ := am_bd_some hres
    refine am_callV1 cx [.inl x2] dX2_build_86 cvX2_41 (mt10_right q14) (am_ke q9) ⟨rfl, rfl, Nat.le_of_ble_eq_true rfl, Nat.le_of_ble_eq_true rfl⟩ rfl (Nat.le_of_ble_eq_true rfl) ⟨Nat.le_of_ble_eq_true rfl, Nat.le_of_ble_eq_true rfl⟩ ?_
    refine am_aload_n cx 1 dX2_build_89 rfl ?_
    obtain ⟨q15, hres⟩ := am_ck_some hres
    refine am_getR cx dX2_build_90 flX2_44 (am_ke q15) ?_
    refine am_iload_n cx 2 dX2_build_93 rfl ?_
    obtain ⟨q16, hres⟩ := am_ck_some hres
    obtain ⟨q17, hres⟩ := am_ck_some hres
    refine am_iald cx dX2_build_94 (am_ke q16) q17 ?_
    refine am_ineg cx dX2_build_95 ?_
    obtain ⟨q18, hres⟩ := am_ck_some hres
    obtain ⟨v19, M20, q21, hres⟩ := am_bd_some hres
    refine am_callV0 cx [.inl v6, .inl (am_I M7 (am_R M7 r1 7) x2.toNatClampNeg), .inl v12, .inl (-(am_I M13 (am_R M13 r1 9) x2.toNatClampNeg))] dX2_build_96 cvX2_47 (mt2_insertSide q21) (am_ke q18) ⟨rfl, rfl, Nat.le_of_ble_eq_true rfl, Nat.le_of_ble_eq_true rfl⟩ rfl (Nat.le_of_ble_eq_true rfl) ⟨Nat.le_of_ble_eq_true rfl, Nat.le_of_ble_eq_true rfl⟩ ?_
    refine am_iincw cx (lv' := [(0, .inr (.inr r0)), (1, .inr (.inr r1)), (2, .inl (x2 + (1 : Int32)))]) (w := (1 : Int32)) 2 dX2_build_99 (by decide) rfl (Nat.le_of_ble_eq_true rfl) rfl ?_
    refine am_goto cx (tgt := 64) dX2_build_102 (by decide) ?_
    exact hk64 _ _ _ _ hres
set_option maxRecDepth 20000 in
theorem sn2_build_b64 {l : Launch} {G : am_G} {M' : am_Mem} {N : Nat}  (cx : am_Ctx l rm2_build yX2_build cX2_build 3 none none M' 0 0 G)  (i : Nat) : ∀ (r0 : Nat) (r1 : Nat) (x2 : Int32) (M : am_Mem), fn2_build_b64 N  i r0 r1 x2 M = some ((), M') → G 64 [(0, .inr (.inr r0)), (1, .inr (.inr r1)), (2, .inl x2)] [] M 0 0 := by
  induction i with
  | zero => intro r0 r1 x2 M hres; exact am_no hres
  | succ i ih => intro r0 r1 x2 M hres; exact sn2_build_b64B cx ih hres
set_option maxRecDepth 20000 in
theorem sn2_build_b21B {l : Launch} {G : am_G} {M' : am_Mem} {N : Nat} {k21 : Nat → Nat → Int32 → am_Mem → Option (Unit × am_Mem)} (cx : am_Ctx l rm2_build yX2_build cX2_build 3 none none M' 0 0 G) (hk21 : ∀ (r0 : Nat) (r1 : Nat) (x2 : Int32) (M : am_Mem), k21 r0 r1 x2 M = some ((), M') → G 21 [(0, .inr (.inr r0)), (1, .inr (.inr r1)), (2, .inl x2)] [] M 0 0) {r0 : Nat} {r1 : Nat} {x2 : Int32} {M : am_Mem} (hres : fn2_build_b21B N k21 r0 r1 x2 M = some ((), M')) : G 21 [(0, .inr (.inr r0)), (1, .inr (.inr r1)), (2, .inl x2)] [] M 0 0 := by
  unfold fn2_build_b21B at hres
  refine am_iload_n cx 2 dX2_build_21 rfl ?_
  refine am_aload_n cx 1 dX2_build_22 rfl ?_
  obtain ⟨q1, hres⟩ := am_ck_some hres
  refine am_getI cx dX2_build_23 flX2_32 (am_ke q1) ?_
  refine am_icmp_ge cx (tgt := 62) dX2_build_26 (by decide) (fun h => ?_) (fun h => ?_)
  · have hres := am_ifp h hres
    refine am_iconst cx (v := (0 : Int32)) dX2_build_62 (by decide) ?_
    refine am_istore_n cx (lv' := [(0, .inr (.inr r0)), (1, .inr (.inr r1)), (2, .inl (0 : Int32))]) dX2_build_63 (Nat.le_of_ble_eq_true rfl) rfl ?_
    exact sn2_build_b64 cx  N _ _ _ _ hres
  · have hres := am_ifn h hres
    refine am_aload_n cx 0 dX2_build_29 rfl ?_
    refine am_aload_n cx 1 dX2_build_30 rfl ?_
    refine am_getR cx dX2_build_31 flX2_37 (am_ke q1) ?_
    refine am_iload_n cx 2 dX2_build_34 rfl ?_
    obtain ⟨q2, hres⟩ := am_ck_some hres
    obtain ⟨q3, hres⟩ := am_ck_some hres
    refine am_iald cx dX2_build_35 (am_ke q2) q3 ?_
    refine am_aload_n cx 1 dX2_build_36 rfl ?_
    refine am_getR cx dX2_build_37 flX2_40 (am_ke q1) ?_
    refine am_iload_n cx 2 dX2_build_40 rfl ?_
    obtain ⟨q4, hres⟩ := am_ck_some hres
    obtain ⟨q5, hres⟩ := am_ck_some hres
    refine am_iald cx dX2_build_41 (am_ke q4) q5 ?_
    refine am_aload_n cx 1 dX2_build_42 rfl ?_
    refine am_iload_n cx 2 dX2_build_43 rfl ?_
    obtain ⟨v6, M7, q8, hres⟩ := am_bd_some hres
    refine am_callV1 cx [.inl x2] dX2_build_44 cvX2_41 (mt10_right q8) (am_ke q1) ⟨rfl, rfl, Nat.le_of_ble_eq_true rfl, Nat.le_of_ble_eq_true rfl⟩ rfl (Nat.le_of_ble_eq_true rfl) ⟨Nat.le_of_ble_eq_true rfl, Nat.le_of_ble_eq_true rfl⟩ ?_
    refine am_aload_n cx 1 dX2_build_47 rfl ?_
    obtain ⟨q9, hres⟩ := am_ck_some hres
    refine am_getR cx dX2_build_48 flX2_44 (am_ke q9) ?_
    refine am_iload_n cx 2 dX2_build_51 rfl ?_
    obtain ⟨q10, hres⟩ := am_ck_some hres
    obtain ⟨q11, hres⟩ := am_ck_some hres
    refine am_iald cx dX2_build_52 (am_ke q10) q11 ?_
    obtain ⟨q12, hres⟩ := am_ck_some hres
    obtain ⟨v13, M14, q15, hres⟩ := am_bd_some hres
    refine am_callV0 cx [.inl (am_I M (am_R M r1 8) x2.toNatClampNeg), .inl (am_I M (am_R M r1 7) x2.toNatClampNeg), .inl v6, .inl (am_I M7 (am_R M7 r1 9) x2.toNatClampNeg)] dX2_build_53 cvX2_47 (mt2_insertSide q15) (am_ke q12) ⟨rfl, rfl, Nat.le_of_ble_eq_true rfl, Nat.le_of_ble_eq_true rfl⟩ rfl (Nat.le_of_ble_eq_true rfl) ⟨Nat.le_of_ble_eq_true rfl, Nat.le_of_ble_eq_true rfl⟩ ?_
    refine am_iincw cx (lv' := [(0, .inr (.inr r0)), (1, .inr (.inr r1)), (2, .inl (x2 + (1 : Int32)))]) (w := (1 : Int32)) 2 dX2_build_56 (by decide) rfl (Nat.le_of_ble_eq_true rfl) rfl ?_
    refine am_goto cx (tgt := 21) dX2_build_59 (by decide) ?_
    exact hk21 _ _ _ _ hres
set_option maxRecDepth 20000 in
theorem sn2_build_b21 {l : Launch} {G : am_G} {M' : am_Mem} {N : Nat}  (cx : am_Ctx l rm2_build yX2_build cX2_build 3 none none M' 0 0 G)  (i : Nat) : ∀ (r0 : Nat) (r1 : Nat) (x2 : Int32) (M : am_Mem), fn2_build_b21 N  i r0 r1 x2 M = some ((), M') → G 21 [(0, .inr (.inr r0)), (1, .inr (.inr r1)), (2, .inl x2)] [] M 0 0 := by
  induction i with
  | zero => intro r0 r1 x2 M hres; exact am_no hres
  | succ i ih => intro r0 r1 x2 M hres; exact sn2_build_b21B cx ih hres
set_option maxRecDepth 20000 in
theorem sn2_build_b0 {l : Launch} {G : am_G} {M' : am_Mem} {N : Nat}  (cx : am_Ctx l rm2_build yX2_build cX2_build 3 none none M' 0 0 G)  {r0 : Nat} {r1 : Nat} {M : am_Mem} (hres : fn2_build_b0 N  r0 r1 M = some ((), M')) : G 0 [(0, .inr (.inr r0)), (1, .inr (.inr r1))] [] M 0 0 := by
  unfold fn2_build_b0 at hres
  refine am_aload_n cx 1 dX2_build_0 rfl ?_
  refine am_aload_n cx 0 dX2_build_1 rfl ?_
  obtain ⟨q1, hres⟩ := am_ck_some hres
  refine am_getR cx dX2_build_2 flX2_24 (am_ke q1) ?_
  refine am_acmp_ne cx (tgt := 9) dX2_build_5 (by decide) (fun h => ?_) (fun h => ?_)
  · have hres := am_ifn h hres
    refine am_aload_n cx 0 dX2_build_9 rfl ?_
    refine am_aload_n cx 1 dX2_build_10 rfl ?_
    refine am_putR cx dX2_build_11 fpX2_24 (fun h => by cases h) (Or.inl ⟨_, rfl⟩) (am_ke q1) ?_
    refine am_aload_n cx 0 dX2_build_14 rfl ?_
    refine am_iconst cx (v := (0 : Int32)) dX2_build_15 (by decide) ?_
    refine am_putI cx dX2_build_16 fpX2_28 (fun h => by cases h) (am_ke q1) ?_
    refine am_iconst cx (v := (0 : Int32)) dX2_build_19 (by decide) ?_
    refine am_istore_n cx (lv' := [(0, .inr (.inr r0)), (1, .inr (.inr r1)), (2, .inl (0 : Int32))]) dX2_build_20 (Nat.le_of_ble_eq_true rfl) rfl ?_
    exact sn2_build_b21 cx  N _ _ _ _ hres
  · have hres := am_ifp h hres
    obtain ⟨-, rfl⟩ := am_fin hres
    exact am_vret cx dX2_build_8
set_option maxRecDepth 20000 in
theorem mt2_build {l : Launch} {M M' : am_Mem} {N : Nat} {r0 : Nat} {r1 : Nat} (h : fn2_build N M r0 r1 = some ((), M')) : am_Met l yX2_build cX2_build 3 none rm2_build 0 0 [.inr (.inr r0), .inr (.inr r1)] M none M' := am_mk (by decide) (Nat.le_of_ble_eq_true rfl) (fun G cx => (sn2_build_b0 cx h))
-- SquareCuts$NetLayer.layWire
def fn4_layWire_b0 (N : Nat)  (r0 : Nat) (x1 : Int32) (x2 : Int32) (M : am_Mem) : Option (Unit × am_Mem) :=
  am_ck (am_k M r0 4) (am_ck (am_k M (am_R M r0 2) 14) (am_ck (am_in x2 (am_L M (am_R M r0 2))) (am_ck (am_k M (am_R M r0 3) 16) (am_ck (am_in x1 (am_L M (am_R M r0 3))) (am_ck (am_k M (am_R M r0 0) 17) (am_ck (am_in (x2 + (1 : Int32)) (am_L M (am_R M r0 0))) (am_ck (am_in x2 (am_L M (am_R M r0 0))) (am_ck (am_k M (am_R M (am_R M r0 0) (x2 + (1 : Int32)).toNatClampNeg) 6) (am_bd (fn6_copyFrom (am_wI (am_wI M (am_R M r0 2) x2.toNatClampNeg x1) (am_R M r0 3) x1.toNatClampNeg ((1 : Int32) &&& 1)) (am_R M (am_R M r0 0) (x2 + (1 : Int32)).toNatClampNeg) (am_R M (am_R M r0 0) x2.toNatClampNeg)) (fun v10 M11 => am_ck (am_k M11 r0 4) (am_ck (am_k M11 (am_R M11 r0 0) 17) (am_ck (am_in (x2 + (1 : Int32)) (am_L M11 (am_R M11 r0 0))) (am_ck (am_k M11 (am_R M11 r0 1) 14) (am_ck (am_in x1 (am_L M11 (am_R M11 r0 1))) (am_ck (am_k M11 (am_R M11 (am_R M11 r0 0) (x2 + (1 : Int32)).toNatClampNeg) 6) (am_bd (fn6_lay N M11 (am_R M11 (am_R M11 r0 0) (x2 + (1 : Int32)).toNatClampNeg) (am_I M11 (am_R M11 r0 1) x1.toNatClampNeg)) (fun v19 M20 => some ((), M20))))))))))))))))))
def fn4_layWire (N : Nat) (M : am_Mem) (r0 : Nat) (x1 : Int32) (x2 : Int32) : Option (Unit × am_Mem) := fn4_layWire_b0 N r0 x1 x2 M
def rm4_layWire : Room := { frames := 2, cells := 0, slots := 0, locals := 81 }
set_option maxRecDepth 20000 in
theorem sn4_layWire_b0 {l : Launch} {G : am_G} {M' : am_Mem} {N : Nat}  (cx : am_Ctx l rm4_layWire yX4_layWire cX4_layWire 3 none none M' 0 0 G)  {r0 : Nat} {x1 : Int32} {x2 : Int32} {M : am_Mem} (hres : fn4_layWire_b0 N  r0 x1 x2 M = some ((), M')) : G 0 [(0, .inr (.inr r0)), (1, .inl x1), (2, .inl x2)] [] M 0 0 := by
  unfold fn4_layWire_b0 at hres
  refine am_aload_n cx 0 dX4_layWire_0 rfl ?_
  obtain ⟨q1, hres⟩ := am_ck_some hres
  refine am_getR cx dX4_layWire_1 flX4_21 (am_ke q1) ?_
  refine am_iload_n cx 2 dX4_layWire_4 rfl ?_
  refine am_iload_n cx 1 dX4_layWire_5 rfl ?_
  obtain ⟨q2, hres⟩ := am_ck_some hres
  obtain ⟨q3, hres⟩ := am_ck_some hres
  refine am_iast cx dX4_layWire_6 (am_ke q2) q3  ?_
  refine am_aload_n cx 0 dX4_layWire_7 rfl ?_
  refine am_getR cx dX4_layWire_8 flX4_24 (am_ke q1) ?_
  refine am_iload_n cx 1 dX4_layWire_11 rfl ?_
  refine am_iconst cx (v := (1 : Int32)) dX4_layWire_12 (by decide) ?_
  obtain ⟨q4, hres⟩ := am_ck_some hres
  obtain ⟨q5, hres⟩ := am_ck_some hres
  refine am_zast cx dX4_layWire_13 (am_ke q4) q5  ?_
  refine am_aload_n cx 0 dX4_layWire_14 rfl ?_
  refine am_getR cx dX4_layWire_15 flX4_11 (am_ke q1) ?_
  refine am_iload_n cx 2 dX4_layWire_18 rfl ?_
  refine am_iconst cx (v := (1 : Int32)) dX4_layWire_19 (by decide) ?_
  refine am_iadd cx dX4_layWire_20 ?_
  obtain ⟨q6, hres⟩ := am_ck_some hres
  obtain ⟨q7, hres⟩ := am_ck_some hres
  refine am_aald17 cx dX4_layWire_21 (am_ke q6) q7 ?_
  refine am_aload_n cx 0 dX4_layWire_22 rfl ?_
  refine am_getR cx dX4_layWire_23 flX4_11 (am_ke q1) ?_
  refine am_iload_n cx 2 dX4_layWire_26 rfl ?_
  obtain ⟨q8, hres⟩ := am_ck_some hres
  refine am_aald17 cx dX4_layWire_27 (am_ke q6) q8 ?_
  obtain ⟨q9, hres⟩ := am_ck_some hres
  obtain ⟨v10, M11, q12, hres⟩ := am_bd_some hres
  refine am_callV0 cx [.inr (.inr (am_R M (am_R M r0 0) x2.toNatClampNeg))] dX4_layWire_28 cvX4_85 (mt6_copyFrom q12) (am_ke q9) ⟨rfl, rfl, Nat.le_of_ble_eq_true rfl, Nat.le_of_ble_eq_true rfl⟩ rfl (Nat.le_of_ble_eq_true rfl) ⟨Nat.le_of_ble_eq_true rfl, Nat.le_of_ble_eq_true rfl⟩ ?_
  refine am_aload_n cx 0 dX4_layWire_31 rfl ?_
  obtain ⟨q13, hres⟩ := am_ck_some hres
  refine am_getR cx dX4_layWire_32 flX4_11 (am_ke q13) ?_
  refine am_iload_n cx 2 dX4_layWire_35 rfl ?_
  refine am_iconst cx (v := (1 : Int32)) dX4_layWire_36 (by decide) ?_
  refine am_iadd cx dX4_layWire_37 ?_
  obtain ⟨q14, hres⟩ := am_ck_some hres
  obtain ⟨q15, hres⟩ := am_ck_some hres
  refine am_aald17 cx dX4_layWire_38 (am_ke q14) q15 ?_
  refine am_aload_n cx 0 dX4_layWire_39 rfl ?_
  refine am_getR cx dX4_layWire_40 flX4_17 (am_ke q13) ?_
  refine am_iload_n cx 1 dX4_layWire_43 rfl ?_
  obtain ⟨q16, hres⟩ := am_ck_some hres
  obtain ⟨q17, hres⟩ := am_ck_some hres
  refine am_iald cx dX4_layWire_44 (am_ke q16) q17 ?_
  obtain ⟨q18, hres⟩ := am_ck_some hres
  obtain ⟨v19, M20, q21, hres⟩ := am_bd_some hres
  refine am_callV0 cx [.inl (am_I M11 (am_R M11 r0 1) x1.toNatClampNeg)] dX4_layWire_45 cvX4_89 (mt6_lay q21) (am_ke q18) ⟨rfl, rfl, Nat.le_of_ble_eq_true rfl, Nat.le_of_ble_eq_true rfl⟩ rfl (Nat.le_of_ble_eq_true rfl) ⟨Nat.le_of_ble_eq_true rfl, Nat.le_of_ble_eq_true rfl⟩ ?_
  obtain ⟨-, rfl⟩ := am_fin hres
  exact am_vret cx dX4_layWire_48
set_option maxRecDepth 20000 in
theorem mt4_layWire {l : Launch} {M M' : am_Mem} {N : Nat} {r0 : Nat} {x1 : Int32} {x2 : Int32} (h : fn4_layWire N M r0 x1 x2 = some ((), M')) : am_Met l yX4_layWire cX4_layWire 3 none rm4_layWire 0 0 [.inr (.inr r0), .inl x1, .inl x2] M none M' := am_mk (by decide) (Nat.le_of_ble_eq_true rfl) (fun G cx => (sn4_layWire_b0 cx h))
-- SquareCuts$NetSolver.solve
def fn5_solve_b122 (N : Nat)  (r5 : Nat) (M : am_Mem) : Option (Nat × am_Mem) :=
  some (r5, M)
def fn5_solve_b106 (N : Nat)  (r0 : Nat) (r5 : Nat) (M : am_Mem) : Option (Nat × am_Mem) :=
  am_ck (am_k M r5 3) (if (lg_cmp (am_J M r5 4) (0 : Int64)) ≤ 0 then fn5_solve_b122 N  r5 M else am_ck (am_k M r0 5) (am_bd (fn5_setFlow N M r0 r5) (fun v3 M4 => fn5_solve_b122 N  r5 M4)))
def fn5_solve_b32B (N : Nat) (k32 : Nat → Nat → Int32 → Int32 → Int32 → am_Mem → Option (Nat × am_Mem)) (r0 : Nat) (r1 : Nat) (x3 : Int32) (x4 : Int32) (x5 : Int32) (M : am_Mem) : Option (Nat × am_Mem) :=
  if x4 ≤ x5 then am_ck (am_k (am_new M 3 0) (am_n M + 1) 3) (am_bd (fn3_init (am_new M 3 0) (am_n M + 1) x3 x4) (fun v2 M3 => am_ck (am_k M3 r0 5) (am_bd (fn5_fillMatrix N M3 r0 x3 x4) (fun v6 M7 => am_ck (am_k M7 r0 5) (am_bd (fn5_eliminate N M7 r0 (x3 - (1 : Int32))) (fun v10 M11 => am_ck (am_k M11 (am_n M + 1) 3) (fn5_solve_b106 N  r0 (am_n M + 1) (am_wJ M11 (am_n M + 1) 4 v10)))))))) else am_ck (am_k M r0 5) (am_ck (am_k M r1 14) (am_ck (am_in ((1 : Int32) + ((2 : Int32) * x5)) (am_L M r1)) (am_ck (am_k M (am_R M r0 1) 14) (am_ck (am_in x5 (am_L M (am_R M r0 1))) (am_ck (am_in ((2 : Int32) + ((2 : Int32) * x5)) (am_L M r1)) (am_ck (am_k M (am_R M r0 2) 14) (am_ck (am_in x5 (am_L M (am_R M r0 2))) (k32 r0 r1 x3 x4 (x5 + (1 : Int32)) (am_wI (am_wI M (am_R M r0 1) x5.toNatClampNeg (am_I M r1 ((1 : Int32) + ((2 : Int32) * x5)).toNatClampNeg)) (am_R M r0 2) x5.toNatClampNeg (am_I (am_wI M (am_R M r0 1) x5.toNatClampNeg (am_I M r1 ((1 : Int32) + ((2 : Int32) * x5)).toNatClampNeg)) r1 ((2 : Int32) + ((2 : Int32) * x5)).toNatClampNeg))))))))))
def fn5_solve_b32 (N : Nat)  : Nat → Nat → Nat → Int32 → Int32 → Int32 → am_Mem → Option (Nat × am_Mem)
  | 0 => fun _ _ _ _ _ _ => none
  | i + 1 => fn5_solve_b32B N (fn5_solve_b32 N  i)
def fn5_solve_b0 (N : Nat)  (r0 : Nat) (r1 : Nat) (x2 : Int32) (M : am_Mem) : Option (Nat × am_Mem) :=
  am_ck (am_k M r1 14) (am_ck (am_in (0 : Int32) (am_L M r1)) (fn5_solve_b32 N  N r0 r1 (if (2 : Int32) < (if (9 : Int32) < (am_I M r1 (0 : Int32).toNatClampNeg) then (9 : Int32) else (am_I M r1 (0 : Int32).toNatClampNeg)) then (if (9 : Int32) < (am_I M r1 (0 : Int32).toNatClampNeg) then (9 : Int32) else (am_I M r1 (0 : Int32).toNatClampNeg)) else (2 : Int32)) (if (0 : Int32) < (if (14 : Int32) < ((x2 - (1 : Int32)) / (2 : Int32)) then (14 : Int32) else ((x2 - (1 : Int32)) / (2 : Int32))) then (if (14 : Int32) < ((x2 - (1 : Int32)) / (2 : Int32)) then (14 : Int32) else ((x2 - (1 : Int32)) / (2 : Int32))) else (0 : Int32)) (0 : Int32) M))
def fn5_solve (N : Nat) (M : am_Mem) (r0 : Nat) (r1 : Nat) (x2 : Int32) : Option (Nat × am_Mem) := fn5_solve_b0 N r0 r1 x2 M
def rm5_solve : Room := { frames := 3, cells := 3, slots := 36, locals := 70 }
set_option maxRecDepth 20000 in
theorem sn5_solve_b122 {l : Launch} {G : am_G} {v : Nat} {M' : am_Mem} {N : Nat}  (cx : am_Ctx l rm5_solve yX5_solve cX5_solve 6 (some (.object "SquareCuts$Net")) (some (.inr (.inr v))) M' 3 36 G)  {r5 : Nat} {M : am_Mem} (hres : fn5_solve_b122 N  r5 M = some (v, M')) : G 122 [(5, .inr (.inr r5))] [] M 3 36 := by
  unfold fn5_solve_b122 at hres
  refine am_aload cx 0 dX5_solve_122 rfl ?_
  obtain ⟨rfl, rfl⟩ := am_fin hres
  exact am_aret cx dX5_solve_124
set_option maxRecDepth 20000 in
theorem sn5_solve_b106 {l : Launch} {G : am_G} {v : Nat} {M' : am_Mem} {N : Nat}  (cx : am_Ctx l rm5_solve yX5_solve cX5_solve 6 (some (.object "SquareCuts$Net")) (some (.inr (.inr v))) M' 3 36 G)  {r0 : Nat} {r5 : Nat} {M : am_Mem} (hres : fn5_solve_b106 N  r0 r5 M = some (v, M')) : G 106 [(0, .inr (.inr r0)), (5, .inr (.inr r5))] [] M 3 36 := by
  unfold fn5_solve_b106 at hres
  refine am_aload cx 1 dX5_solve_106 rfl ?_
  obtain ⟨q1, hres⟩ := am_ck_some hres
  refine am_getJ cx dX5_solve_108 flX5_47 (am_ke q1) ?_
  refine am_lconst cx (v := (0 : Int64)) dX5_solve_111 (by decide) ?_
  refine am_lcmp cx dX5_solve_112 ?_
  refine am_if_le cx (tgt := 122) dX5_solve_113 (by decide) (fun h => ?_) (fun h => ?_)
  · have hres := am_ifp h hres
    refine am_sub cx [1] rfl ?_
    exact sn5_solve_b122 cx  hres
  · have hres := am_ifn h hres
    refine am_aload_n cx 0 dX5_solve_116 rfl ?_
    refine am_aload cx 1 dX5_solve_117 rfl ?_
    obtain ⟨q2, hres⟩ := am_ck_some hres
    obtain ⟨v3, M4, q5, hres⟩ := am_bd_some hres
    refine am_callV0 cx [.inr (.inr r5)] dX5_solve_119 cvX5_51 (mt5_setFlow q5) (am_ke q2) ⟨rfl, rfl, Nat.le_of_ble_eq_true rfl, Nat.le_of_ble_eq_true rfl⟩ rfl (Nat.le_of_ble_eq_true rfl) ⟨Nat.le_of_ble_eq_true rfl, Nat.le_of_ble_eq_true rfl⟩ ?_
    refine am_sub cx [1] rfl ?_
    exact sn5_solve_b122 cx  hres
set_option maxRecDepth 20000 in
theorem sn5_solve_b32B {l : Launch} {G : am_G} {v : Nat} {M' : am_Mem} {N : Nat} {k32 : Nat → Nat → Int32 → Int32 → Int32 → am_Mem → Option (Nat × am_Mem)} (cx : am_Ctx l rm5_solve yX5_solve cX5_solve 6 (some (.object "SquareCuts$Net")) (some (.inr (.inr v))) M' 3 36 G) (hk32 : ∀ (r0 : Nat) (r1 : Nat) (x3 : Int32) (x4 : Int32) (x5 : Int32) (M : am_Mem), k32 r0 r1 x3 x4 x5 M = some (v, M') → G 32 [(0, .inr (.inr r0)), (1, .inr (.inr r1)), (3, .inl x3), (4, .inl x4), (5, .inl x5)] [] M 0 0) {r0 : Nat} {r1 : Nat} {x3 : Int32} {x4 : Int32} {x5 : Int32} {M : am_Mem} (hres : fn5_solve_b32B N k32 r0 r1 x3 x4 x5 M = some (v, M')) : G 32 [(0, .inr (.inr r0)), (1, .inr (.inr r1)), (3, .inl x3), (4, .inl x4), (5, .inl x5)] [] M 0 0 := by
  unfold fn5_solve_b32B at hres
  refine am_iload cx 4 dX5_solve_32 rfl ?_
  refine am_iload cx 3 dX5_solve_34 rfl ?_
  refine am_icmp_ge cx (tgt := 75) dX5_solve_36 (by decide) (fun h => ?_) (fun h => ?_)
  · have hres := am_ifp h hres
    refine am_newO cx dX5_solve_75 nwX5_35 (Nat.le_of_ble_eq_true rfl) (Nat.le_of_ble_eq_true rfl) ?_
    refine am_dup cx dX5_solve_78 rfl ?_
    refine am_iload_n cx 2 dX5_solve_79 rfl ?_
    refine am_iload cx 3 dX5_solve_80 rfl ?_
    obtain ⟨q1, hres⟩ := am_ck_some hres
    obtain ⟨v2, M3, q4, hres⟩ := am_bd_some hres
    refine am_callI0 cx [.inl x3, .inl x4] dX5_solve_82 ciX5_37 (mt3_init q4) (by rw [show am_K _ _ = 3 from (am_ke q1)]; decide) ⟨rfl, rfl, Nat.le_of_ble_eq_true rfl, Nat.le_of_ble_eq_true rfl⟩ rfl (Nat.le_of_ble_eq_true rfl) ⟨Nat.le_of_ble_eq_true rfl, Nat.le_of_ble_eq_true rfl⟩ ?_
    refine am_astore cx (lv' := [(0, .inr (.inr r0)), (1, .inr (.inr r1)), (3, .inl x3), (4, .inl x4), (5, .inr (.inr (am_n M + 1)))]) dX5_solve_85 (Nat.le_of_ble_eq_true rfl) rfl ?_
    refine am_aload_n cx 0 dX5_solve_87 rfl ?_
    refine am_iload_n cx 2 dX5_solve_88 rfl ?_
    refine am_iload cx 3 dX5_solve_89 rfl ?_
    obtain ⟨q5, hres⟩ := am_ck_some hres
    obtain ⟨v6, M7, q8, hres⟩ := am_bd_some hres
    refine am_callV0 cx [.inl x3, .inl x4] dX5_solve_91 cvX5_40 (mt5_fillMatrix q8) (am_ke q5) ⟨rfl, rfl, Nat.le_of_ble_eq_true rfl, Nat.le_of_ble_eq_true rfl⟩ rfl (Nat.le_of_ble_eq_true rfl) ⟨Nat.le_of_ble_eq_true rfl, Nat.le_of_ble_eq_true rfl⟩ ?_
    refine am_aload cx 4 dX5_solve_94 rfl ?_
    refine am_aload_n cx 0 dX5_solve_96 rfl ?_
    refine am_iload_n cx 2 dX5_solve_97 rfl ?_
    refine am_iconst cx (v := (1 : Int32)) dX5_solve_98 (by decide) ?_
    refine am_isub cx dX5_solve_99 ?_
    obtain ⟨q9, hres⟩ := am_ck_some hres
    obtain ⟨v10, M11, q12, hres⟩ := am_bd_some hres
    refine am_callV1 cx [.inl (x3 - (1 : Int32))] dX5_solve_100 cvX5_43 (mt5_eliminate q12) (am_ke q9) ⟨rfl, rfl, Nat.le_of_ble_eq_true rfl, Nat.le_of_ble_eq_true rfl⟩ rfl (Nat.le_of_ble_eq_true rfl) ⟨Nat.le_of_ble_eq_true rfl, Nat.le_of_ble_eq_true rfl⟩ ?_
    obtain ⟨q13, hres⟩ := am_ck_some hres
    refine am_putJ cx dX5_solve_103 fpX5_47 (fun h => by cases h) (am_ke q13) ?_
    refine am_sub cx [0, 4] rfl ?_
    exact sn5_solve_b106 cx  hres
  · have hres := am_ifn h hres
    refine am_aload_n cx 0 dX5_solve_39 rfl ?_
    obtain ⟨q14, hres⟩ := am_ck_some hres
    refine am_getR cx dX5_solve_40 flX5_16 (am_ke q14) ?_
    refine am_iload cx 4 dX5_solve_43 rfl ?_
    refine am_aload_n cx 1 dX5_solve_45 rfl ?_
    refine am_iconst cx (v := (1 : Int32)) dX5_solve_46 (by decide) ?_
    refine am_iconst cx (v := (2 : Int32)) dX5_solve_47 (by decide) ?_
    refine am_iload cx 4 dX5_solve_48 rfl ?_
    refine am_imul cx dX5_solve_50 ?_
    refine am_iadd cx dX5_solve_51 ?_
    obtain ⟨q15, hres⟩ := am_ck_some hres
    obtain ⟨q16, hres⟩ := am_ck_some hres
    refine am_iald cx dX5_solve_52 (am_ke q15) q16 ?_
    obtain ⟨q17, hres⟩ := am_ck_some hres
    obtain ⟨q18, hres⟩ := am_ck_some hres
    refine am_iast cx dX5_solve_53 (am_ke q17) q18  ?_
    refine am_aload_n cx 0 dX5_solve_54 rfl ?_
    refine am_getR cx dX5_solve_55 flX5_20 (am_ke q14) ?_
    refine am_iload cx 4 dX5_solve_58 rfl ?_
    refine am_aload_n cx 1 dX5_solve_60 rfl ?_
    refine am_iconst cx (v := (2 : Int32)) dX5_solve_61 (by decide) ?_
    refine am_iconst cx (v := (2 : Int32)) dX5_solve_62 (by decide) ?_
    refine am_iload cx 4 dX5_solve_63 rfl ?_
    refine am_imul cx dX5_solve_65 ?_
    refine am_iadd cx dX5_solve_66 ?_
    obtain ⟨q19, hres⟩ := am_ck_some hres
    refine am_iald cx dX5_solve_67 (am_ke q15) q19 ?_
    obtain ⟨q20, hres⟩ := am_ck_some hres
    obtain ⟨q21, hres⟩ := am_ck_some hres
    refine am_iast cx dX5_solve_68 (am_ke q20) q21  ?_
    refine am_iincw cx (lv' := [(0, .inr (.inr r0)), (1, .inr (.inr r1)), (3, .inl x3), (4, .inl x4), (5, .inl (x5 + (1 : Int32)))]) (w := (1 : Int32)) 4 dX5_solve_69 (by decide) rfl (Nat.le_of_ble_eq_true rfl) rfl ?_
    refine am_goto cx (tgt := 32) dX5_solve_72 (by decide) ?_
    exact hk32 _ _ _ _ _ _ hres
set_option maxRecDepth 20000 in
theorem sn5_solve_b32 {l : Launch} {G : am_G} {v : Nat} {M' : am_Mem} {N : Nat}  (cx : am_Ctx l rm5_solve yX5_solve cX5_solve 6 (some (.object "SquareCuts$Net")) (some (.inr (.inr v))) M' 3 36 G)  (i : Nat) : ∀ (r0 : Nat) (r1 : Nat) (x3 : Int32) (x4 : Int32) (x5 : Int32) (M : am_Mem), fn5_solve_b32 N  i r0 r1 x3 x4 x5 M = some (v, M') → G 32 [(0, .inr (.inr r0)), (1, .inr (.inr r1)), (3, .inl x3), (4, .inl x4), (5, .inl x5)] [] M 0 0 := by
  induction i with
  | zero => intro r0 r1 x3 x4 x5 M hres; exact am_no hres
  | succ i ih => intro r0 r1 x3 x4 x5 M hres; exact sn5_solve_b32B cx ih hres
set_option maxRecDepth 20000 in
theorem sn5_solve_b0 {l : Launch} {G : am_G} {v : Nat} {M' : am_Mem} {N : Nat}  (cx : am_Ctx l rm5_solve yX5_solve cX5_solve 6 (some (.object "SquareCuts$Net")) (some (.inr (.inr v))) M' 3 36 G)  {r0 : Nat} {r1 : Nat} {x2 : Int32} {M : am_Mem} (hres : fn5_solve_b0 N  r0 r1 x2 M = some (v, M')) : G 0 [(0, .inr (.inr r0)), (1, .inr (.inr r1)), (2, .inl x2)] [] M 0 0 := by
  unfold fn5_solve_b0 at hres
  refine am_iconst cx (v := (2 : Int32)) dX5_solve_0 (by decide) ?_
  refine am_aload_n cx 1 dX5_solve_1 rfl ?_
  refine am_iconst cx (v := (0 : Int32)) dX5_solve_2 (by decide) ?_
  obtain ⟨q1, hres⟩ := am_ck_some hres
  obtain ⟨q2, hres⟩ := am_ck_some hres
  refine am_iald cx dX5_solve_3 (am_ke q1) q2 ?_
  refine am_bipush cx (v := (9 : Int32)) dX5_solve_4 (by decide) ?_
  refine am_mmin cx dX5_solve_6 aw_3_26 aw_2_83 aw_1_12 aw_2_84 (Nat.le_of_ble_eq_true rfl) (Nat.le_of_ble_eq_true rfl) (Nat.le_of_ble_eq_true rfl) (Nat.le_of_ble_eq_true rfl) ?_
  refine am_mmax cx dX5_solve_9 aw_3_27 aw_3_28 aw_1_12 aw_3_29 (Nat.le_of_ble_eq_true rfl) (Nat.le_of_ble_eq_true rfl) (Nat.le_of_ble_eq_true rfl) (Nat.le_of_ble_eq_true rfl) ?_
  refine am_istore_n cx (lv' := [(0, .inr (.inr r0)), (1, .inr (.inr r1)), (2, .inl x2), (3, .inl (if (2 : Int32) < (if (9 : Int32) < (am_I M r1 (0 : Int32).toNatClampNeg) then (9 : Int32) else (am_I M r1 (0 : Int32).toNatClampNeg)) then (if (9 : Int32) < (am_I M r1 (0 : Int32).toNatClampNeg) then (9 : Int32) else (am_I M r1 (0 : Int32).toNatClampNeg)) else (2 : Int32)))]) dX5_solve_12 (Nat.le_of_ble_eq_true rfl) rfl ?_
  refine am_iconst cx (v := (0 : Int32)) dX5_solve_13 (by decide) ?_
  refine am_iload_n cx 2 dX5_solve_14 rfl ?_
  refine am_iconst cx (v := (1 : Int32)) dX5_solve_15 (by decide) ?_
  refine am_isub cx dX5_solve_16 ?_
  refine am_iconst cx (v := (2 : Int32)) dX5_solve_17 (by decide) ?_
  refine am_idiv cx dX5_solve_18 (by decide) ?_
  refine am_bipush cx (v := (14 : Int32)) dX5_solve_19 (by decide) ?_
  refine am_mmin cx dX5_solve_21 aw_3_26 aw_2_83 aw_1_12 aw_2_84 (Nat.le_of_ble_eq_true rfl) (Nat.le_of_ble_eq_true rfl) (Nat.le_of_ble_eq_true rfl) (Nat.le_of_ble_eq_true rfl) ?_
  refine am_mmax cx dX5_solve_24 aw_3_27 aw_3_28 aw_1_12 aw_3_29 (Nat.le_of_ble_eq_true rfl) (Nat.le_of_ble_eq_true rfl) (Nat.le_of_ble_eq_true rfl) (Nat.le_of_ble_eq_true rfl) ?_
  refine am_istore cx (lv' := [(0, .inr (.inr r0)), (1, .inr (.inr r1)), (2, .inl x2), (3, .inl (if (2 : Int32) < (if (9 : Int32) < (am_I M r1 (0 : Int32).toNatClampNeg) then (9 : Int32) else (am_I M r1 (0 : Int32).toNatClampNeg)) then (if (9 : Int32) < (am_I M r1 (0 : Int32).toNatClampNeg) then (9 : Int32) else (am_I M r1 (0 : Int32).toNatClampNeg)) else (2 : Int32))), (4, .inl (if (0 : Int32) < (if (14 : Int32) < ((x2 - (1 : Int32)) / (2 : Int32)) then (14 : Int32) else ((x2 - (1 : Int32)) / (2 : Int32))) then (if (14 : Int32) < ((x2 - (1 : Int32)) / (2 : Int32)) then (14 : Int32) else ((x2 - (1 : Int32)) / (2 : Int32))) else (0 : Int32)))]) dX5_solve_27 (Nat.le_of_ble_eq_true rfl) rfl ?_
  refine am_iconst cx (v := (0 : Int32)) dX5_solve_29 (by decide) ?_
  refine am_istore cx (lv' := [(0, .inr (.inr r0)), (1, .inr (.inr r1)), (2, .inl x2), (3, .inl (if (2 : Int32) < (if (9 : Int32) < (am_I M r1 (0 : Int32).toNatClampNeg) then (9 : Int32) else (am_I M r1 (0 : Int32).toNatClampNeg)) then (if (9 : Int32) < (am_I M r1 (0 : Int32).toNatClampNeg) then (9 : Int32) else (am_I M r1 (0 : Int32).toNatClampNeg)) else (2 : Int32))), (4, .inl (if (0 : Int32) < (if (14 : Int32) < ((x2 - (1 : Int32)) / (2 : Int32)) then (14 : Int32) else ((x2 - (1 : Int32)) / (2 : Int32))) then (if (14 : Int32) < ((x2 - (1 : Int32)) / (2 : Int32)) then (14 : Int32) else ((x2 - (1 : Int32)) / (2 : Int32))) else (0 : Int32))), (5, .inl (0 : Int32))]) dX5_solve_30 (Nat.le_of_ble_eq_true rfl) rfl ?_
  refine am_sub cx [0, 1, 3, 4, 5] rfl ?_
  exact sn5_solve_b32 cx  N _ _ _ _ _ _ hres
set_option maxRecDepth 20000 in
theorem mt5_solve {l : Launch} {v : Nat} {M M' : am_Mem} {N : Nat} {r0 : Nat} {r1 : Nat} {x2 : Int32} (h : fn5_solve N M r0 r1 x2 = some (v, M')) : am_Met l yX5_solve cX5_solve 6 (some (.object "SquareCuts$Net")) rm5_solve 3 36 [.inr (.inr r0), .inr (.inr r1), .inl x2] M (some (.inr (.inr v))) M' := am_mk (by decide) (Nat.le_of_ble_eq_true rfl) (fun G cx => (sn5_solve_b0 cx h))
-- SquareCuts$Page.write
def fn7_write_b48 (N : Nat) (k7 : Nat → Nat → Int32 → am_Mem → Option (Unit × am_Mem)) (r0 : Nat) (r1 : Nat) (x2 : Int32) (M : am_Mem) : Option (Unit × am_Mem) :=
  am_ck (am_k M r1 10) (am_ck (am_k M (am_R M r1 9) 14) (am_ck (am_in x2 (am_L M (am_R M r1 9))) (am_ck (am_k M r0 7) (am_bd (fn7_putNumber N M r0 (am_I M (am_R M r1 9) x2.toNatClampNeg)) (fun v5 M6 => k7 r0 r1 (x2 + (1 : Int32)) M6)))))
def fn7_write_b42 (N : Nat) (k7 : Nat → Nat → Int32 → am_Mem → Option (Unit × am_Mem)) (r0 : Nat) (r1 : Nat) (x2 : Int32) (M : am_Mem) : Option (Unit × am_Mem) :=
  am_ck (am_k M r0 7) (am_bd (fn7_put M r0 (40 : Int32)) (fun v2 M3 => fn7_write_b48 N k7 r0 r1 x2 M3))
def fn7_write_b7B (N : Nat) (k7 : Nat → Nat → Int32 → am_Mem → Option (Unit × am_Mem)) (r0 : Nat) (r1 : Nat) (x2 : Int32) (M : am_Mem) : Option (Unit × am_Mem) :=
  am_ck (am_k M r1 10) (if (am_I M r1 4) ≤ x2 then am_ck (am_k M r0 7) (am_bd (fn7_put M r0 (41 : Int32)) (fun v3 M4 => some ((), M4))) else am_bd (fn10_startsGroup M r1 x2) (fun v6 M7 => if v6 = 0 then am_ck (am_k M7 r0 7) (am_bd (fn7_put M7 r0 (32 : Int32)) (fun v14 M15 => fn7_write_b48 N k7 r0 r1 x2 M15)) else if x2 ≤ 0 then fn7_write_b42 N k7 r0 r1 x2 M7 else am_ck (am_k M7 r0 7) (am_bd (fn7_put M7 r0 (41 : Int32)) (fun v10 M11 => fn7_write_b42 N k7 r0 r1 x2 M11))))
def fn7_write_b7 (N : Nat)  : Nat → Nat → Nat → Int32 → am_Mem → Option (Unit × am_Mem)
  | 0 => fun _ _ _ _ => none
  | i + 1 => fn7_write_b7B N (fn7_write_b7 N  i)
def fn7_write_b0 (N : Nat)  (r0 : Nat) (r1 : Nat) (M : am_Mem) : Option (Unit × am_Mem) :=
  am_ck (am_k M r0 7) (fn7_write_b7 N  N r0 r1 (0 : Int32) (am_wI M r0 1 (0 : Int32)))
def fn7_write (N : Nat) (M : am_Mem) (r0 : Nat) (r1 : Nat) : Option (Unit × am_Mem) := fn7_write_b0 N r0 r1 M
def rm7_write : Room := { frames := 2, cells := 0, slots := 0, locals := 43 }
set_option maxRecDepth 20000 in
theorem sn7_write_b48 {l : Launch} {G : am_G} {M' : am_Mem} {N : Nat} {k7 : Nat → Nat → Int32 → am_Mem → Option (Unit × am_Mem)} (cx : am_Ctx l rm7_write yX7_write cX7_write 3 none none M' 0 0 G) (hk7 : ∀ (r0 : Nat) (r1 : Nat) (x2 : Int32) (M : am_Mem), k7 r0 r1 x2 M = some ((), M') → G 7 [(0, .inr (.inr r0)), (1, .inr (.inr r1)), (2, .inl x2)] [] M 0 0) {r0 : Nat} {r1 : Nat} {x2 : Int32} {M : am_Mem} (hres : fn7_write_b48 N k7 r0 r1 x2 M = some ((), M')) : G 48 [(0, .inr (.inr r0)), (1, .inr (.inr r1)), (2, .inl x2)] [] M 0 0 := by
  unfold fn7_write_b48 at hres
  refine am_aload_n cx 0 dX7_write_48 rfl ?_
  refine am_aload_n cx 1 dX7_write_49 rfl ?_
  obtain ⟨q1, hres⟩ := am_ck_some hres
  refine am_getR cx dX7_write_50 flX7_32 (am_ke q1) ?_
  refine am_iload_n cx 2 dX7_write_53 rfl ?_
  obtain ⟨q2, hres⟩ := am_ck_some hres
  obtain ⟨q3, hres⟩ := am_ck_some hres
  refine am_iald cx dX7_write_54 (am_ke q2) q3 ?_
  obtain ⟨q4, hres⟩ := am_ck_some hres
  obtain ⟨v5, M6, q7, hres⟩ := am_bd_some hres
  refine am_callV0 cx [.inl (am_I M (am_R M r1 9) x2.toNatClampNeg)] dX7_write_55 cvX7_36 (mt7_putNumber q7) (am_ke q4) ⟨rfl, rfl, Nat.le_of_ble_eq_true rfl, Nat.le_of_ble_eq_true rfl⟩ rfl (Nat.le_of_ble_eq_true rfl) ⟨Nat.le_of_ble_eq_true rfl, Nat.le_of_ble_eq_true rfl⟩ ?_
  refine am_iincw cx (lv' := [(0, .inr (.inr r0)), (1, .inr (.inr r1)), (2, .inl (x2 + (1 : Int32)))]) (w := (1 : Int32)) 2 dX7_write_58 (by decide) rfl (Nat.le_of_ble_eq_true rfl) rfl ?_
  refine am_goto cx (tgt := 7) dX7_write_61 (by decide) ?_
  exact hk7 _ _ _ _ hres
set_option maxRecDepth 20000 in
theorem sn7_write_b42 {l : Launch} {G : am_G} {M' : am_Mem} {N : Nat} {k7 : Nat → Nat → Int32 → am_Mem → Option (Unit × am_Mem)} (cx : am_Ctx l rm7_write yX7_write cX7_write 3 none none M' 0 0 G) (hk7 : ∀ (r0 : Nat) (r1 : Nat) (x2 : Int32) (M : am_Mem), k7 r0 r1 x2 M = some ((), M') → G 7 [(0, .inr (.inr r0)), (1, .inr (.inr r1)), (2, .inl x2)] [] M 0 0) {r0 : Nat} {r1 : Nat} {x2 : Int32} {M : am_Mem} (hres : fn7_write_b42 N k7 r0 r1 x2 M = some ((), M')) : G 42 [(0, .inr (.inr r0)), (1, .inr (.inr r1)), (2, .inl x2)] [] M 0 0 := by
  unfold fn7_write_b42 at hres
  refine am_aload_n cx 0 dX7_write_42 rfl ?_
  refine am_bipush cx (v := (40 : Int32)) dX7_write_43 (by decide) ?_
  obtain ⟨q1, hres⟩ := am_ck_some hres
  obtain ⟨v2, M3, q4, hres⟩ := am_bd_some hres
  refine am_callV0 cx [.inl (40 : Int32)] dX7_write_45 cvX7_28 (mt7_put q4) (am_ke q1) ⟨rfl, rfl, Nat.le_of_ble_eq_true rfl, Nat.le_of_ble_eq_true rfl⟩ rfl (Nat.le_of_ble_eq_true rfl) ⟨Nat.le_of_ble_eq_true rfl, Nat.le_of_ble_eq_true rfl⟩ ?_
  exact sn7_write_b48 cx hk7 hres
set_option maxRecDepth 20000 in
theorem sn7_write_b7B {l : Launch} {G : am_G} {M' : am_Mem} {N : Nat} {k7 : Nat → Nat → Int32 → am_Mem → Option (Unit × am_Mem)} (cx : am_Ctx l rm7_write yX7_write cX7_write 3 none none M' 0 0 G) (hk7 : ∀ (r0 : Nat) (r1 : Nat) (x2 : Int32) (M : am_Mem), k7 r0 r1 x2 M = some ((), M') → G 7 [(0, .inr (.inr r0)), (1, .inr (.inr r1)), (2, .inl x2)] [] M 0 0) {r0 : Nat} {r1 : Nat} {x2 : Int32} {M : am_Mem} (hres : fn7_write_b7B N k7 r0 r1 x2 M = some ((), M')) : G 7 [(0, .inr (.inr r0)), (1, .inr (.inr r1)), (2, .inl x2)] [] M 0 0 := by
  unfold fn7_write_b7B at hres
  refine am_iload_n cx 2 dX7_write_7 rfl ?_
  refine am_aload_n cx 1 dX7_write_8 rfl ?_
  obtain ⟨q1, hres⟩ := am_ck_some hres
  refine am_getI cx dX7_write_9 flX7_19 (am_ke q1) ?_
  refine am_icmp_ge cx (tgt := 64) dX7_write_12 (by decide) (fun h => ?_) (fun h => ?_)
  · have hres := am_ifp h hres
    refine am_aload_n cx 0 dX7_write_64 rfl ?_
    refine am_bipush cx (v := (41 : Int32)) dX7_write_65 (by decide) ?_
    obtain ⟨q2, hres⟩ := am_ck_some hres
    obtain ⟨v3, M4, q5, hres⟩ := am_bd_some hres
    refine am_callV0 cx [.inl (41 : Int32)] dX7_write_67 cvX7_28 (mt7_put q5) (am_ke q2) ⟨rfl, rfl, Nat.le_of_ble_eq_true rfl, Nat.le_of_ble_eq_true rfl⟩ rfl (Nat.le_of_ble_eq_true rfl) ⟨Nat.le_of_ble_eq_true rfl, Nat.le_of_ble_eq_true rfl⟩ ?_
    obtain ⟨-, rfl⟩ := am_fin hres
    exact am_vret cx dX7_write_70
  · have hres := am_ifn h hres
    refine am_aload_n cx 1 dX7_write_15 rfl ?_
    refine am_iload_n cx 2 dX7_write_16 rfl ?_
    obtain ⟨v6, M7, q8, hres⟩ := am_bd_some hres
    refine am_callV1 cx [.inl x2] dX7_write_17 cvX7_24 (mt10_startsGroup q8) (am_ke q1) ⟨rfl, rfl, Nat.le_of_ble_eq_true rfl, Nat.le_of_ble_eq_true rfl⟩ rfl (Nat.le_of_ble_eq_true rfl) ⟨Nat.le_of_ble_eq_true rfl, Nat.le_of_ble_eq_true rfl⟩ ?_
    refine am_if_ne cx (tgt := 32) dX7_write_20 (by decide) (fun h => ?_) (fun h => ?_)
    · have hres := am_ifn h hres
      refine am_iload_n cx 2 dX7_write_32 rfl ?_
      refine am_if_le cx (tgt := 42) dX7_write_33 (by decide) (fun h => ?_) (fun h => ?_)
      · have hres := am_ifp h hres
        exact sn7_write_b42 cx hk7 hres
      · have hres := am_ifn h hres
        refine am_aload_n cx 0 dX7_write_36 rfl ?_
        refine am_bipush cx (v := (41 : Int32)) dX7_write_37 (by decide) ?_
        obtain ⟨q9, hres⟩ := am_ck_some hres
        obtain ⟨v10, M11, q12, hres⟩ := am_bd_some hres
        refine am_callV0 cx [.inl (41 : Int32)] dX7_write_39 cvX7_28 (mt7_put q12) (am_ke q9) ⟨rfl, rfl, Nat.le_of_ble_eq_true rfl, Nat.le_of_ble_eq_true rfl⟩ rfl (Nat.le_of_ble_eq_true rfl) ⟨Nat.le_of_ble_eq_true rfl, Nat.le_of_ble_eq_true rfl⟩ ?_
        exact sn7_write_b42 cx hk7 hres
    · have hres := am_ifp h hres
      refine am_aload_n cx 0 dX7_write_23 rfl ?_
      refine am_bipush cx (v := (32 : Int32)) dX7_write_24 (by decide) ?_
      obtain ⟨q13, hres⟩ := am_ck_some hres
      obtain ⟨v14, M15, q16, hres⟩ := am_bd_some hres
      refine am_callV0 cx [.inl (32 : Int32)] dX7_write_26 cvX7_28 (mt7_put q16) (am_ke q13) ⟨rfl, rfl, Nat.le_of_ble_eq_true rfl, Nat.le_of_ble_eq_true rfl⟩ rfl (Nat.le_of_ble_eq_true rfl) ⟨Nat.le_of_ble_eq_true rfl, Nat.le_of_ble_eq_true rfl⟩ ?_
      refine am_goto cx (tgt := 48) dX7_write_29 (by decide) ?_
      exact sn7_write_b48 cx hk7 hres
set_option maxRecDepth 20000 in
theorem sn7_write_b7 {l : Launch} {G : am_G} {M' : am_Mem} {N : Nat}  (cx : am_Ctx l rm7_write yX7_write cX7_write 3 none none M' 0 0 G)  (i : Nat) : ∀ (r0 : Nat) (r1 : Nat) (x2 : Int32) (M : am_Mem), fn7_write_b7 N  i r0 r1 x2 M = some ((), M') → G 7 [(0, .inr (.inr r0)), (1, .inr (.inr r1)), (2, .inl x2)] [] M 0 0 := by
  induction i with
  | zero => intro r0 r1 x2 M hres; exact am_no hres
  | succ i ih => intro r0 r1 x2 M hres; exact sn7_write_b7B cx ih hres
set_option maxRecDepth 20000 in
theorem sn7_write_b0 {l : Launch} {G : am_G} {M' : am_Mem} {N : Nat}  (cx : am_Ctx l rm7_write yX7_write cX7_write 3 none none M' 0 0 G)  {r0 : Nat} {r1 : Nat} {M : am_Mem} (hres : fn7_write_b0 N  r0 r1 M = some ((), M')) : G 0 [(0, .inr (.inr r0)), (1, .inr (.inr r1))] [] M 0 0 := by
  unfold fn7_write_b0 at hres
  refine am_aload_n cx 0 dX7_write_0 rfl ?_
  refine am_iconst cx (v := (0 : Int32)) dX7_write_1 (by decide) ?_
  obtain ⟨q1, hres⟩ := am_ck_some hres
  refine am_putI cx dX7_write_2 fpX7_15 (fun h => by cases h) (am_ke q1) ?_
  refine am_iconst cx (v := (0 : Int32)) dX7_write_5 (by decide) ?_
  refine am_istore_n cx (lv' := [(0, .inr (.inr r0)), (1, .inr (.inr r1)), (2, .inl (0 : Int32))]) dX7_write_6 (Nat.le_of_ble_eq_true rfl) rfl ?_
  exact sn7_write_b7 cx  N _ _ _ _ hres
set_option maxRecDepth 20000 in
theorem mt7_write {l : Launch} {M M' : am_Mem} {N : Nat} {r0 : Nat} {r1 : Nat} (h : fn7_write N M r0 r1 = some ((), M')) : am_Met l yX7_write cX7_write 3 none rm7_write 0 0 [.inr (.inr r0), .inr (.inr r1)] M none M' := am_mk (by decide) (Nat.le_of_ble_eq_true rfl) (fun G cx => (sn7_write_b0 cx h))
-- SquareCuts$Reader.readGroup
def fn8_readGroup_b103 (N : Nat)  (r0 : Nat) (M : am_Mem) : Option (Int32 × am_Mem) :=
  am_ck (am_k M r0 8) (if (am_I M r0 3) = (4 : Int32) then am_bd (fn8_nextToken N M r0) (fun v2 M3 => some ((0 : Int32), M3)) else am_bd (fn8_faultOf M r0 (1 : Int32)) (fun v5 M6 => some (v5, M6)))
def fn8_readGroup_b20B (N : Nat) (k20 : Nat → Int32 → Int32 → am_Mem → Option (Int32 × am_Mem)) (r0 : Nat) (x1 : Int32) (x2 : Int32) (M : am_Mem) : Option (Int32 × am_Mem) :=
  if (24 : Int32) < x2 then fn8_readGroup_b103 N  r0 M else am_ck (am_k M r0 8) (if (am_I M r0 3) = (2 : Int32) then if 0 ≤ (lg_cmp (am_J M r0 5) (1 : Int64)) then am_ck (am_k M (am_R M r0 10) 14) (am_ck (am_in (am_I M r0 8) (am_L M (am_R M r0 10))) (if (am_I M (am_R M r0 10) (am_I M r0 8).toNatClampNeg) < (24 : Int32) then am_ck (am_k M (am_R M r0 12) 19) (am_ck (am_in (am_I M r0 8) (am_L M (am_R M r0 12))) (am_ck (am_in (am_I M r0 8) (am_L M (am_R M r0 10))) (am_ck (am_k M (am_R M (am_R M r0 12) (am_I M r0 8).toNatClampNeg) 14) (am_ck (am_in (am_I M (am_R M r0 10) (am_I M r0 8).toNatClampNeg) (am_L M (am_R M (am_R M r0 12) (am_I M r0 8).toNatClampNeg))) (am_bd (fn8_holdValue (am_wI M (am_R M (am_R M r0 12) (am_I M r0 8).toNatClampNeg) (am_I M (am_R M r0 10) (am_I M r0 8).toNatClampNeg).toNatClampNeg x1) r0) (fun v9 M10 => am_ck (am_k M10 r0 8) (am_bd (fn8_nextToken N M10 r0) (fun v13 M14 => k20 r0 x1 (x2 + (1 : Int32)) M14)))))))) else am_bd (fn8_faultOf M r0 (4 : Int32)) (fun v16 M17 => some (v16, M17)))) else am_bd (fn8_faultOf M r0 (3 : Int32)) (fun v19 M20 => some (v19, M20)) else fn8_readGroup_b103 N  r0 M)
def fn8_readGroup_b20 (N : Nat)  : Nat → Nat → Int32 → Int32 → am_Mem → Option (Int32 × am_Mem)
  | 0 => fun _ _ _ _ => none
  | i + 1 => fn8_readGroup_b20B N (fn8_readGroup_b20 N  i)
def fn8_readGroup_b0 (N : Nat)  (r0 : Nat) (x1 : Int32) (M : am_Mem) : Option (Int32 × am_Mem) :=
  am_ck (am_k M r0 8) (am_bd (fn8_nextToken N M r0) (fun v2 M3 => am_ck (am_k M3 r0 8) (if (am_I M3 r0 3) = (2 : Int32) then fn8_readGroup_b20 N  N r0 x1 (0 : Int32) M3 else am_bd (fn8_faultOf M3 r0 (1 : Int32)) (fun v6 M7 => some (v6, M7)))))
def fn8_readGroup (N : Nat) (M : am_Mem) (r0 : Nat) (x1 : Int32) : Option (Int32 × am_Mem) := fn8_readGroup_b0 N r0 x1 M
def rm8_readGroup : Room := { frames := 2, cells := 0, slots := 0, locals := 40 }
set_option maxRecDepth 20000 in
theorem sn8_readGroup_b103 {l : Launch} {G : am_G} {v : Int32} {M' : am_Mem} {N : Nat}  (cx : am_Ctx l rm8_readGroup yX8_readGroup cX8_readGroup 3 (some .int) (some (.inl v)) M' 0 0 G)  {r0 : Nat} {M : am_Mem} (hres : fn8_readGroup_b103 N  r0 M = some (v, M')) : G 103 [(0, .inr (.inr r0))] [] M 0 0 := by
  unfold fn8_readGroup_b103 at hres
  refine am_aload_n cx 0 dX8_readGroup_103 rfl ?_
  obtain ⟨q1, hres⟩ := am_ck_some hres
  refine am_getI cx dX8_readGroup_104 flX8_57 (am_ke q1) ?_
  refine am_iconst cx (v := (4 : Int32)) dX8_readGroup_107 (by decide) ?_
  refine am_icmp_eq cx (tgt := 117) dX8_readGroup_108 (by decide) (fun h => ?_) (fun h => ?_)
  · have hres := am_ifp h hres
    refine am_aload_n cx 0 dX8_readGroup_117 rfl ?_
    obtain ⟨v2, M3, q4, hres⟩ := am_bd_some hres
    refine am_callV0 cx [] dX8_readGroup_118 cvX8_54 (mt8_nextToken q4) (am_ke q1) ⟨rfl, rfl, Nat.le_of_ble_eq_true rfl, Nat.le_of_ble_eq_true rfl⟩ rfl (Nat.le_of_ble_eq_true rfl) ⟨Nat.le_of_ble_eq_true rfl, Nat.le_of_ble_eq_true rfl⟩ ?_
    refine am_iconst cx (v := (0 : Int32)) dX8_readGroup_121 (by decide) ?_
    obtain ⟨rfl, rfl⟩ := am_fin hres
    exact am_iret cx dX8_readGroup_122
  · have hres := am_ifn h hres
    refine am_aload_n cx 0 dX8_readGroup_111 rfl ?_
    refine am_iconst cx (v := (1 : Int32)) dX8_readGroup_112 (by decide) ?_
    obtain ⟨v5, M6, q7, hres⟩ := am_bd_some hres
    refine am_callV1 cx [.inl (1 : Int32)] dX8_readGroup_113 cvX8_72 (mt8_faultOf q7) (am_ke q1) ⟨rfl, rfl, Nat.le_of_ble_eq_true rfl, Nat.le_of_ble_eq_true rfl⟩ rfl (Nat.le_of_ble_eq_true rfl) ⟨Nat.le_of_ble_eq_true rfl, Nat.le_of_ble_eq_true rfl⟩ ?_
    obtain ⟨rfl, rfl⟩ := am_fin hres
    exact am_iret cx dX8_readGroup_116
set_option maxRecDepth 20000 in
theorem sn8_readGroup_b20B {l : Launch} {G : am_G} {v : Int32} {M' : am_Mem} {N : Nat} {k20 : Nat → Int32 → Int32 → am_Mem → Option (Int32 × am_Mem)} (cx : am_Ctx l rm8_readGroup yX8_readGroup cX8_readGroup 3 (some .int) (some (.inl v)) M' 0 0 G) (hk20 : ∀ (r0 : Nat) (x1 : Int32) (x2 : Int32) (M : am_Mem), k20 r0 x1 x2 M = some (v, M') → G 20 [(0, .inr (.inr r0)), (1, .inl x1), (2, .inl x2)] [] M 0 0) {r0 : Nat} {x1 : Int32} {x2 : Int32} {M : am_Mem} (hres : fn8_readGroup_b20B N k20 r0 x1 x2 M = some (v, M')) : G 20 [(0, .inr (.inr r0)), (1, .inl x1), (2, .inl x2)] [] M 0 0 := by
  unfold fn8_readGroup_b20B at hres
  refine am_iload_n cx 2 dX8_readGroup_20 rfl ?_
  refine am_bipush cx (v := (24 : Int32)) dX8_readGroup_21 (by decide) ?_
  refine am_icmp_gt cx (tgt := 103) dX8_readGroup_23 (by decide) (fun h => ?_) (fun h => ?_)
  · have hres := am_ifp h hres
    refine am_sub cx [0] rfl ?_
    exact sn8_readGroup_b103 cx  hres
  · have hres := am_ifn h hres
    refine am_aload_n cx 0 dX8_readGroup_26 rfl ?_
    obtain ⟨q1, hres⟩ := am_ck_some hres
    refine am_getI cx dX8_readGroup_27 flX8_57 (am_ke q1) ?_
    refine am_iconst cx (v := (2 : Int32)) dX8_readGroup_30 (by decide) ?_
    refine am_icmp_ne cx (tgt := 103) dX8_readGroup_31 (by decide) (fun h => ?_) (fun h => ?_)
    · have hres := am_ifn h hres
      refine am_sub cx [0] rfl ?_
      exact sn8_readGroup_b103 cx  hres
    · have hres := am_ifp h hres
      refine am_aload_n cx 0 dX8_readGroup_34 rfl ?_
      refine am_getJ cx dX8_readGroup_35 flX8_80 (am_ke q1) ?_
      refine am_lconst cx (v := (1 : Int64)) dX8_readGroup_38 (by decide) ?_
      refine am_lcmp cx dX8_readGroup_39 ?_
      refine am_if_ge cx (tgt := 49) dX8_readGroup_40 (by decide) (fun h => ?_) (fun h => ?_)
      · have hres := am_ifp h hres
        refine am_aload_n cx 0 dX8_readGroup_49 rfl ?_
        refine am_getR cx dX8_readGroup_50 flX8_23 (am_ke q1) ?_
        refine am_aload_n cx 0 dX8_readGroup_53 rfl ?_
        refine am_getI cx dX8_readGroup_54 flX8_51 (am_ke q1) ?_
        obtain ⟨q2, hres⟩ := am_ck_some hres
        obtain ⟨q3, hres⟩ := am_ck_some hres
        refine am_iald cx dX8_readGroup_57 (am_ke q2) q3 ?_
        refine am_bipush cx (v := (24 : Int32)) dX8_readGroup_58 (by decide) ?_
        refine am_icmp_lt cx (tgt := 69) dX8_readGroup_60 (by decide) (fun h => ?_) (fun h => ?_)
        · have hres := am_ifp h hres
          refine am_aload_n cx 0 dX8_readGroup_69 rfl ?_
          refine am_getR cx dX8_readGroup_70 flX8_32 (am_ke q1) ?_
          refine am_aload_n cx 0 dX8_readGroup_73 rfl ?_
          refine am_getI cx dX8_readGroup_74 flX8_51 (am_ke q1) ?_
          obtain ⟨q4, hres⟩ := am_ck_some hres
          obtain ⟨q5, hres⟩ := am_ck_some hres
          refine am_aald19 cx dX8_readGroup_77 (am_ke q4) q5 ?_
          refine am_aload_n cx 0 dX8_readGroup_78 rfl ?_
          refine am_getR cx dX8_readGroup_79 flX8_23 (am_ke q1) ?_
          refine am_aload_n cx 0 dX8_readGroup_82 rfl ?_
          refine am_getI cx dX8_readGroup_83 flX8_51 (am_ke q1) ?_
          obtain ⟨q6, hres⟩ := am_ck_some hres
          refine am_iald cx dX8_readGroup_86 (am_ke q2) q6 ?_
          refine am_iload_n cx 1 dX8_readGroup_87 rfl ?_
          obtain ⟨q7, hres⟩ := am_ck_some hres
          obtain ⟨q8, hres⟩ := am_ck_some hres
          refine am_iast cx dX8_readGroup_88 (am_ke q7) q8  ?_
          refine am_aload_n cx 0 dX8_readGroup_89 rfl ?_
          obtain ⟨v9, M10, q11, hres⟩ := am_bd_some hres
          refine am_callV0 cx [] dX8_readGroup_90 cvX8_93 (mt8_holdValue q11) (am_ke q1) ⟨rfl, rfl, Nat.le_of_ble_eq_true rfl, Nat.le_of_ble_eq_true rfl⟩ rfl (Nat.le_of_ble_eq_true rfl) ⟨Nat.le_of_ble_eq_true rfl, Nat.le_of_ble_eq_true rfl⟩ ?_
          refine am_aload_n cx 0 dX8_readGroup_93 rfl ?_
          obtain ⟨q12, hres⟩ := am_ck_some hres
          obtain ⟨v13, M14, q15, hres⟩ := am_bd_some hres
          refine am_callV0 cx [] dX8_readGroup_94 cvX8_54 (mt8_nextToken q15) (am_ke q12) ⟨rfl, rfl, Nat.le_of_ble_eq_true rfl, Nat.le_of_ble_eq_true rfl⟩ rfl (Nat.le_of_ble_eq_true rfl) ⟨Nat.le_of_ble_eq_true rfl, Nat.le_of_ble_eq_true rfl⟩ ?_
          refine am_iincw cx (lv' := [(0, .inr (.inr r0)), (1, .inl x1), (2, .inl (x2 + (1 : Int32)))]) (w := (1 : Int32)) 2 dX8_readGroup_97 (by decide) rfl (Nat.le_of_ble_eq_true rfl) rfl ?_
          refine am_goto cx (tgt := 20) dX8_readGroup_100 (by decide) ?_
          exact hk20 _ _ _ _ hres
        · have hres := am_ifn h hres
          refine am_aload_n cx 0 dX8_readGroup_63 rfl ?_
          refine am_iconst cx (v := (4 : Int32)) dX8_readGroup_64 (by decide) ?_
          obtain ⟨v16, M17, q18, hres⟩ := am_bd_some hres
          refine am_callV1 cx [.inl (4 : Int32)] dX8_readGroup_65 cvX8_72 (mt8_faultOf q18) (am_ke q1) ⟨rfl, rfl, Nat.le_of_ble_eq_true rfl, Nat.le_of_ble_eq_true rfl⟩ rfl (Nat.le_of_ble_eq_true rfl) ⟨Nat.le_of_ble_eq_true rfl, Nat.le_of_ble_eq_true rfl⟩ ?_
          obtain ⟨rfl, rfl⟩ := am_fin hres
          exact am_iret cx dX8_readGroup_68
      · have hres := am_ifn h hres
        refine am_aload_n cx 0 dX8_readGroup_43 rfl ?_
        refine am_iconst cx (v := (3 : Int32)) dX8_readGroup_44 (by decide) ?_
        obtain ⟨v19, M20, q21, hres⟩ := am_bd_some hres
        refine am_callV1 cx [.inl (3 : Int32)] dX8_readGroup_45 cvX8_72 (mt8_faultOf q21) (am_ke q1) ⟨rfl, rfl, Nat.le_of_ble_eq_true rfl, Nat.le_of_ble_eq_true rfl⟩ rfl (Nat.le_of_ble_eq_true rfl) ⟨Nat.le_of_ble_eq_true rfl, Nat.le_of_ble_eq_true rfl⟩ ?_
        obtain ⟨rfl, rfl⟩ := am_fin hres
        exact am_iret cx dX8_readGroup_48
set_option maxRecDepth 20000 in
theorem sn8_readGroup_b20 {l : Launch} {G : am_G} {v : Int32} {M' : am_Mem} {N : Nat}  (cx : am_Ctx l rm8_readGroup yX8_readGroup cX8_readGroup 3 (some .int) (some (.inl v)) M' 0 0 G)  (i : Nat) : ∀ (r0 : Nat) (x1 : Int32) (x2 : Int32) (M : am_Mem), fn8_readGroup_b20 N  i r0 x1 x2 M = some (v, M') → G 20 [(0, .inr (.inr r0)), (1, .inl x1), (2, .inl x2)] [] M 0 0 := by
  induction i with
  | zero => intro r0 x1 x2 M hres; exact am_no hres
  | succ i ih => intro r0 x1 x2 M hres; exact sn8_readGroup_b20B cx ih hres
set_option maxRecDepth 20000 in
theorem sn8_readGroup_b0 {l : Launch} {G : am_G} {v : Int32} {M' : am_Mem} {N : Nat}  (cx : am_Ctx l rm8_readGroup yX8_readGroup cX8_readGroup 3 (some .int) (some (.inl v)) M' 0 0 G)  {r0 : Nat} {x1 : Int32} {M : am_Mem} (hres : fn8_readGroup_b0 N  r0 x1 M = some (v, M')) : G 0 [(0, .inr (.inr r0)), (1, .inl x1)] [] M 0 0 := by
  unfold fn8_readGroup_b0 at hres
  refine am_aload_n cx 0 dX8_readGroup_0 rfl ?_
  obtain ⟨q1, hres⟩ := am_ck_some hres
  obtain ⟨v2, M3, q4, hres⟩ := am_bd_some hres
  refine am_callV0 cx [] dX8_readGroup_1 cvX8_54 (mt8_nextToken q4) (am_ke q1) ⟨rfl, rfl, Nat.le_of_ble_eq_true rfl, Nat.le_of_ble_eq_true rfl⟩ rfl (Nat.le_of_ble_eq_true rfl) ⟨Nat.le_of_ble_eq_true rfl, Nat.le_of_ble_eq_true rfl⟩ ?_
  refine am_aload_n cx 0 dX8_readGroup_4 rfl ?_
  obtain ⟨q5, hres⟩ := am_ck_some hres
  refine am_getI cx dX8_readGroup_5 flX8_57 (am_ke q5) ?_
  refine am_iconst cx (v := (2 : Int32)) dX8_readGroup_8 (by decide) ?_
  refine am_icmp_eq cx (tgt := 18) dX8_readGroup_9 (by decide) (fun h => ?_) (fun h => ?_)
  · have hres := am_ifp h hres
    refine am_iconst cx (v := (0 : Int32)) dX8_readGroup_18 (by decide) ?_
    refine am_istore_n cx (lv' := [(0, .inr (.inr r0)), (1, .inl x1), (2, .inl (0 : Int32))]) dX8_readGroup_19 (Nat.le_of_ble_eq_true rfl) rfl ?_
    exact sn8_readGroup_b20 cx  N _ _ _ _ hres
  · have hres := am_ifn h hres
    refine am_aload_n cx 0 dX8_readGroup_12 rfl ?_
    refine am_iconst cx (v := (1 : Int32)) dX8_readGroup_13 (by decide) ?_
    obtain ⟨v6, M7, q8, hres⟩ := am_bd_some hres
    refine am_callV1 cx [.inl (1 : Int32)] dX8_readGroup_14 cvX8_72 (mt8_faultOf q8) (am_ke q5) ⟨rfl, rfl, Nat.le_of_ble_eq_true rfl, Nat.le_of_ble_eq_true rfl⟩ rfl (Nat.le_of_ble_eq_true rfl) ⟨Nat.le_of_ble_eq_true rfl, Nat.le_of_ble_eq_true rfl⟩ ?_
    obtain ⟨rfl, rfl⟩ := am_fin hres
    exact am_iret cx dX8_readGroup_17
set_option maxRecDepth 20000 in
theorem mt8_readGroup {l : Launch} {v : Int32} {M M' : am_Mem} {N : Nat} {r0 : Nat} {x1 : Int32} (h : fn8_readGroup N M r0 x1 = some (v, M')) : am_Met l yX8_readGroup cX8_readGroup 3 (some .int) rm8_readGroup 0 0 [.inr (.inr r0), .inl x1] M (some (.inl v)) M' := am_mk (by decide) (Nat.le_of_ble_eq_true rfl) (fun G cx => (sn8_readGroup_b0 cx h))
-- SquareCuts$Reader.readWire
def fn8_readWire_b72 (N : Nat)  (r0 : Nat) (M : am_Mem) : Option (Int32 × am_Mem) :=
  am_ck (am_k M r0 8) (am_bd (fn8_faultOf M r0 (3 : Int32)) (fun v2 M3 => some (v2, M3)))
def fn8_readWire_b6 (N : Nat)  (r0 : Nat) (x1 : Int32) (j2 : Int64) (j4 : Int64) (M : am_Mem) : Option (Int32 × am_Mem) :=
  if (lg_cmp j4 j2) < 0 then if x1 < (14 : Int32) then am_ck (am_k M r0 8) (am_bd (fn8_holdValue M r0) (fun v2 M3 => am_ck (am_k M3 r0 8) (am_bd (fn8_nextToken N M3 r0) (fun v6 M7 => am_ck (am_k M7 r0 8) (if (am_I M7 r0 3) = (2 : Int32) then if 0 ≤ (lg_cmp (am_J M7 r0 5) j2) then fn8_readWire_b72 N  r0 M7 else if (lg_cmp (am_J M7 r0 5) j4) = 0 then fn8_readWire_b72 N  r0 M7 else am_bd (fn8_holdValue M7 r0) (fun v10 M11 => am_ck (am_k M11 r0 8) (am_bd (fn8_nextToken N M11 r0) (fun v14 M15 => some ((0 : Int32), M15)))) else am_bd (fn8_faultOf M7 r0 (1 : Int32)) (fun v17 M18 => some (v17, M18))))))) else am_ck (am_k M r0 8) (am_bd (fn8_faultOf M r0 (4 : Int32)) (fun v21 M22 => some (v21, M22))) else am_ck (am_k M r0 8) (am_bd (fn8_faultOf M r0 (3 : Int32)) (fun v25 M26 => some (v25, M26)))
def fn8_readWire_b0 (N : Nat)  (r0 : Nat) (x1 : Int32) (j2 : Int64) (M : am_Mem) : Option (Int32 × am_Mem) :=
  am_ck (am_k M r0 8) (fn8_readWire_b6 N  r0 x1 j2 (am_J M r0 5) M)
def fn8_readWire (N : Nat) (M : am_Mem) (r0 : Nat) (x1 : Int32) (j2 : Int64) : Option (Int32 × am_Mem) := fn8_readWire_b0 N r0 x1 j2 M
def rm8_readWire : Room := { frames := 2, cells := 0, slots := 0, locals := 40 }
set_option maxRecDepth 20000 in
theorem sn8_readWire_b72 {l : Launch} {G : am_G} {v : Int32} {M' : am_Mem} {N : Nat}  (cx : am_Ctx l rm8_readWire yX8_readWire cX8_readWire 6 (some .int) (some (.inl v)) M' 0 0 G)  {r0 : Nat} {M : am_Mem} (hres : fn8_readWire_b72 N  r0 M = some (v, M')) : G 72 [(0, .inr (.inr r0))] [] M 0 0 := by
  unfold fn8_readWire_b72 at hres
  refine am_aload_n cx 0 dX8_readWire_72 rfl ?_
  refine am_iconst cx (v := (3 : Int32)) dX8_readWire_73 (by decide) ?_
  obtain ⟨q1, hres⟩ := am_ck_some hres
  obtain ⟨v2, M3, q4, hres⟩ := am_bd_some hres
  refine am_callV1 cx [.inl (3 : Int32)] dX8_readWire_74 cvX8_72 (mt8_faultOf q4) (am_ke q1) ⟨rfl, rfl, Nat.le_of_ble_eq_true rfl, Nat.le_of_ble_eq_true rfl⟩ rfl (Nat.le_of_ble_eq_true rfl) ⟨Nat.le_of_ble_eq_true rfl, Nat.le_of_ble_eq_true rfl⟩ ?_
  obtain ⟨rfl, rfl⟩ := am_fin hres
  exact am_iret cx dX8_readWire_77
set_option maxRecDepth 20000 in
theorem sn8_readWire_b6 {l : Launch} {G : am_G} {v : Int32} {M' : am_Mem} {N : Nat}  (cx : am_Ctx l rm8_readWire yX8_readWire cX8_readWire 6 (some .int) (some (.inl v)) M' 0 0 G)  {r0 : Nat} {x1 : Int32} {j2 : Int64} {j4 : Int64} {M : am_Mem} (hres : fn8_readWire_b6 N  r0 x1 j2 j4 M = some (v, M')) : G 6 [(0, .inr (.inr r0)), (1, .inl x1), (2, .inr (.inl j2)), (4, .inr (.inl j4))] [] M 0 0 := by
  unfold fn8_readWire_b6 at hres
  refine am_lload cx 3 dX8_readWire_6 rfl ?_
  refine am_lload_n cx 2 dX8_readWire_8 rfl ?_
  refine am_lcmp cx dX8_readWire_9 ?_
  refine am_if_lt cx (tgt := 19) dX8_readWire_10 (by decide) (fun h => ?_) (fun h => ?_)
  · have hres := am_ifp h hres
    refine am_iload_n cx 1 dX8_readWire_19 rfl ?_
    refine am_bipush cx (v := (14 : Int32)) dX8_readWire_20 (by decide) ?_
    refine am_icmp_lt cx (tgt := 31) dX8_readWire_22 (by decide) (fun h => ?_) (fun h => ?_)
    · have hres := am_ifp h hres
      refine am_aload_n cx 0 dX8_readWire_31 rfl ?_
      obtain ⟨q1, hres⟩ := am_ck_some hres
      obtain ⟨v2, M3, q4, hres⟩ := am_bd_some hres
      refine am_callV0 cx [] dX8_readWire_32 cvX8_93 (mt8_holdValue q4) (am_ke q1) ⟨rfl, rfl, Nat.le_of_ble_eq_true rfl, Nat.le_of_ble_eq_true rfl⟩ rfl (Nat.le_of_ble_eq_true rfl) ⟨Nat.le_of_ble_eq_true rfl, Nat.le_of_ble_eq_true rfl⟩ ?_
      refine am_aload_n cx 0 dX8_readWire_35 rfl ?_
      obtain ⟨q5, hres⟩ := am_ck_some hres
      obtain ⟨v6, M7, q8, hres⟩ := am_bd_some hres
      refine am_callV0 cx [] dX8_readWire_36 cvX8_54 (mt8_nextToken q8) (am_ke q5) ⟨rfl, rfl, Nat.le_of_ble_eq_true rfl, Nat.le_of_ble_eq_true rfl⟩ rfl (Nat.le_of_ble_eq_true rfl) ⟨Nat.le_of_ble_eq_true rfl, Nat.le_of_ble_eq_true rfl⟩ ?_
      refine am_aload_n cx 0 dX8_readWire_39 rfl ?_
      obtain ⟨q9, hres⟩ := am_ck_some hres
      refine am_getI cx dX8_readWire_40 flX8_57 (am_ke q9) ?_
      refine am_iconst cx (v := (2 : Int32)) dX8_readWire_43 (by decide) ?_
      refine am_icmp_eq cx (tgt := 53) dX8_readWire_44 (by decide) (fun h => ?_) (fun h => ?_)
      · have hres := am_ifp h hres
        refine am_aload_n cx 0 dX8_readWire_53 rfl ?_
        refine am_getJ cx dX8_readWire_54 flX8_80 (am_ke q9) ?_
        refine am_lload_n cx 2 dX8_readWire_57 rfl ?_
        refine am_lcmp cx dX8_readWire_58 ?_
        refine am_if_ge cx (tgt := 72) dX8_readWire_59 (by decide) (fun h => ?_) (fun h => ?_)
        · have hres := am_ifp h hres
          refine am_sub cx [0] rfl ?_
          exact sn8_readWire_b72 cx  hres
        · have hres := am_ifn h hres
          refine am_aload_n cx 0 dX8_readWire_62 rfl ?_
          refine am_getJ cx dX8_readWire_63 flX8_80 (am_ke q9) ?_
          refine am_lload cx 3 dX8_readWire_66 rfl ?_
          refine am_lcmp cx dX8_readWire_68 ?_
          refine am_if_ne cx (tgt := 78) dX8_readWire_69 (by decide) (fun h => ?_) (fun h => ?_)
          · have hres := am_ifn h hres
            refine am_aload_n cx 0 dX8_readWire_78 rfl ?_
            obtain ⟨v10, M11, q12, hres⟩ := am_bd_some hres
            refine am_callV0 cx [] dX8_readWire_79 cvX8_93 (mt8_holdValue q12) (am_ke q9) ⟨rfl, rfl, Nat.le_of_ble_eq_true rfl, Nat.le_of_ble_eq_true rfl⟩ rfl (Nat.le_of_ble_eq_true rfl) ⟨Nat.le_of_ble_eq_true rfl, Nat.le_of_ble_eq_true rfl⟩ ?_
            refine am_aload_n cx 0 dX8_readWire_82 rfl ?_
            obtain ⟨q13, hres⟩ := am_ck_some hres
            obtain ⟨v14, M15, q16, hres⟩ := am_bd_some hres
            refine am_callV0 cx [] dX8_readWire_83 cvX8_54 (mt8_nextToken q16) (am_ke q13) ⟨rfl, rfl, Nat.le_of_ble_eq_true rfl, Nat.le_of_ble_eq_true rfl⟩ rfl (Nat.le_of_ble_eq_true rfl) ⟨Nat.le_of_ble_eq_true rfl, Nat.le_of_ble_eq_true rfl⟩ ?_
            refine am_iconst cx (v := (0 : Int32)) dX8_readWire_86 (by decide) ?_
            obtain ⟨rfl, rfl⟩ := am_fin hres
            exact am_iret cx dX8_readWire_87
          · have hres := am_ifp h hres
            refine am_sub cx [0] rfl ?_
            exact sn8_readWire_b72 cx  hres
      · have hres := am_ifn h hres
        refine am_aload_n cx 0 dX8_readWire_47 rfl ?_
        refine am_iconst cx (v := (1 : Int32)) dX8_readWire_48 (by decide) ?_
        obtain ⟨v17, M18, q19, hres⟩ := am_bd_some hres
        refine am_callV1 cx [.inl (1 : Int32)] dX8_readWire_49 cvX8_72 (mt8_faultOf q19) (am_ke q9) ⟨rfl, rfl, Nat.le_of_ble_eq_true rfl, Nat.le_of_ble_eq_true rfl⟩ rfl (Nat.le_of_ble_eq_true rfl) ⟨Nat.le_of_ble_eq_true rfl, Nat.le_of_ble_eq_true rfl⟩ ?_
        obtain ⟨rfl, rfl⟩ := am_fin hres
        exact am_iret cx dX8_readWire_52
    · have hres := am_ifn h hres
      refine am_aload_n cx 0 dX8_readWire_25 rfl ?_
      refine am_iconst cx (v := (4 : Int32)) dX8_readWire_26 (by decide) ?_
      obtain ⟨q20, hres⟩ := am_ck_some hres
      obtain ⟨v21, M22, q23, hres⟩ := am_bd_some hres
      refine am_callV1 cx [.inl (4 : Int32)] dX8_readWire_27 cvX8_72 (mt8_faultOf q23) (am_ke q20) ⟨rfl, rfl, Nat.le_of_ble_eq_true rfl, Nat.le_of_ble_eq_true rfl⟩ rfl (Nat.le_of_ble_eq_true rfl) ⟨Nat.le_of_ble_eq_true rfl, Nat.le_of_ble_eq_true rfl⟩ ?_
      obtain ⟨rfl, rfl⟩ := am_fin hres
      exact am_iret cx dX8_readWire_30
  · have hres := am_ifn h hres
    refine am_aload_n cx 0 dX8_readWire_13 rfl ?_
    refine am_iconst cx (v := (3 : Int32)) dX8_readWire_14 (by decide) ?_
    obtain ⟨q24, hres⟩ := am_ck_some hres
    obtain ⟨v25, M26, q27, hres⟩ := am_bd_some hres
    refine am_callV1 cx [.inl (3 : Int32)] dX8_readWire_15 cvX8_72 (mt8_faultOf q27) (am_ke q24) ⟨rfl, rfl, Nat.le_of_ble_eq_true rfl, Nat.le_of_ble_eq_true rfl⟩ rfl (Nat.le_of_ble_eq_true rfl) ⟨Nat.le_of_ble_eq_true rfl, Nat.le_of_ble_eq_true rfl⟩ ?_
    obtain ⟨rfl, rfl⟩ := am_fin hres
    exact am_iret cx dX8_readWire_18
set_option maxRecDepth 20000 in
theorem sn8_readWire_b0 {l : Launch} {G : am_G} {v : Int32} {M' : am_Mem} {N : Nat}  (cx : am_Ctx l rm8_readWire yX8_readWire cX8_readWire 6 (some .int) (some (.inl v)) M' 0 0 G)  {r0 : Nat} {x1 : Int32} {j2 : Int64} {M : am_Mem} (hres : fn8_readWire_b0 N  r0 x1 j2 M = some (v, M')) : G 0 [(0, .inr (.inr r0)), (1, .inl x1), (2, .inr (.inl j2))] [] M 0 0 := by
  unfold fn8_readWire_b0 at hres
  refine am_aload_n cx 0 dX8_readWire_0 rfl ?_
  obtain ⟨q1, hres⟩ := am_ck_some hres
  refine am_getJ cx dX8_readWire_1 flX8_80 (am_ke q1) ?_
  refine am_lstore cx (lv' := [(0, .inr (.inr r0)), (1, .inl x1), (2, .inr (.inl j2)), (4, .inr (.inl (am_J M r0 5)))]) dX8_readWire_4 (Nat.le_of_ble_eq_true rfl) rfl ?_
  exact sn8_readWire_b6 cx  hres
set_option maxRecDepth 20000 in
theorem mt8_readWire {l : Launch} {v : Int32} {M M' : am_Mem} {N : Nat} {r0 : Nat} {x1 : Int32} {j2 : Int64} (h : fn8_readWire N M r0 x1 j2 = some (v, M')) : am_Met l yX8_readWire cX8_readWire 6 (some .int) rm8_readWire 0 0 [.inr (.inr r0), .inl x1, .inr (.inl j2)] M (some (.inl v)) M' := am_mk (by decide) (Nat.le_of_ble_eq_true rfl) (fun G cx => (sn8_readWire_b0 cx h))
-- SquareCuts.print
def fn11_print_b20 (N : Nat)  (r2 : Nat) (M : am_Mem) : Option (Int32 × am_Mem) :=
  am_bd (fn11_refusalFor M r2) (fun v1 M2 => some (v1, M2))
def fn11_print_b0 (N : Nat)  (r0 : Nat) (x1 : Int32) (M : am_Mem) : Option (Int32 × am_Mem) :=
  am_ck (am_k M r0 11) (am_ck (am_k M (am_R M r0 8) 9) (am_bd (fn9_find M (am_R M r0 8) x1) (fun v3 M4 => if v3 = 0 then fn11_print_b20 N  v3 M4 else am_ck (am_k M4 v3 10) (if (am_I M4 v3 1) = 0 then am_ck (am_k M4 r0 11) (am_ck (am_k M4 (am_R M4 r0 7) 7) (am_bd (fn7_write N M4 (am_R M4 r0 7) v3) (fun v9 M10 => am_ck (am_k M10 r0 11) (am_ck (am_k M10 (am_R M10 r0 7) 7) (some ((am_I M10 (am_R M10 r0 7) 1), M10)))))) else fn11_print_b20 N  v3 M4))))
def fn11_print (N : Nat) (M : am_Mem) (r0 : Nat) (x1 : Int32) : Option (Int32 × am_Mem) := fn11_print_b0 N r0 x1 M
def rm11_print : Room := { frames := 3, cells := 0, slots := 0, locals := 65 }
set_option maxRecDepth 20000 in
theorem sn11_print_b20 {l : Launch} {G : am_G} {v : Int32} {M' : am_Mem} {N : Nat}  (cx : am_Ctx l rm11_print yX11_print cX11_print 3 (some .int) (some (.inl v)) M' 0 0 G)  {r2 : Nat} {M : am_Mem} (hres : fn11_print_b20 N  r2 M = some (v, M')) : G 20 [(2, .inr (.inr r2))] [] M 0 0 := by
  unfold fn11_print_b20 at hres
  refine am_aload_n cx 0 dX11_print_20 rfl ?_
  obtain ⟨v1, M2, q3, hres⟩ := am_bd_some hres
  refine am_callS1 cx [.inr (.inr r2)] dX11_print_21 csX11_169 (mt11_refusalFor q3)  ⟨rfl, rfl, Nat.le_of_ble_eq_true rfl, Nat.le_of_ble_eq_true rfl⟩ rfl (Nat.le_of_ble_eq_true rfl) ⟨Nat.le_of_ble_eq_true rfl, Nat.le_of_ble_eq_true rfl⟩ ?_
  obtain ⟨rfl, rfl⟩ := am_fin hres
  exact am_iret cx dX11_print_24
set_option maxRecDepth 20000 in
theorem sn11_print_b0 {l : Launch} {G : am_G} {v : Int32} {M' : am_Mem} {N : Nat}  (cx : am_Ctx l rm11_print yX11_print cX11_print 3 (some .int) (some (.inl v)) M' 0 0 G)  {r0 : Nat} {x1 : Int32} {M : am_Mem} (hres : fn11_print_b0 N  r0 x1 M = some (v, M')) : G 0 [(0, .inr (.inr r0)), (1, .inl x1)] [] M 0 0 := by
  unfold fn11_print_b0 at hres
  refine am_aload_n cx 0 dX11_print_0 rfl ?_
  obtain ⟨q1, hres⟩ := am_ck_some hres
  refine am_getR cx dX11_print_1 flX11_66 (am_ke q1) ?_
  refine am_iload_n cx 1 dX11_print_4 rfl ?_
  obtain ⟨q2, hres⟩ := am_ck_some hres
  obtain ⟨v3, M4, q5, hres⟩ := am_bd_some hres
  refine am_callV1 cx [.inl x1] dX11_print_5 cvX11_115 (mt9_find q5) (am_ke q2) ⟨rfl, rfl, Nat.le_of_ble_eq_true rfl, Nat.le_of_ble_eq_true rfl⟩ rfl (Nat.le_of_ble_eq_true rfl) ⟨Nat.le_of_ble_eq_true rfl, Nat.le_of_ble_eq_true rfl⟩ ?_
  refine am_astore_n cx (lv' := [(0, .inr (.inr r0)), (1, .inl x1), (2, .inr (.inr v3))]) dX11_print_8 (Nat.le_of_ble_eq_true rfl) rfl ?_
  refine am_aload_n cx 2 dX11_print_9 rfl ?_
  refine am_ifnull cx (tgt := 20) dX11_print_10 (by decide) (fun h => ?_) (fun h => ?_)
  · have hres := am_ifp h hres
    refine am_sub cx [2] rfl ?_
    exact sn11_print_b20 cx  hres
  · have hres := am_ifn h hres
    refine am_aload_n cx 2 dX11_print_13 rfl ?_
    obtain ⟨q6, hres⟩ := am_ck_some hres
    refine am_getI cx dX11_print_14 flX11_123 (am_ke q6) ?_
    refine am_if_eq cx (tgt := 25) dX11_print_17 (by decide) (fun h => ?_) (fun h => ?_)
    · have hres := am_ifp h hres
      refine am_aload_n cx 0 dX11_print_25 rfl ?_
      obtain ⟨q7, hres⟩ := am_ck_some hres
      refine am_getR cx dX11_print_26 flX11_59 (am_ke q7) ?_
      refine am_aload_n cx 2 dX11_print_29 rfl ?_
      obtain ⟨q8, hres⟩ := am_ck_some hres
      obtain ⟨v9, M10, q11, hres⟩ := am_bd_some hres
      refine am_callV0 cx [.inr (.inr v3)] dX11_print_30 cvX11_176 (mt7_write q11) (am_ke q8) ⟨rfl, rfl, Nat.le_of_ble_eq_true rfl, Nat.le_of_ble_eq_true rfl⟩ rfl (Nat.le_of_ble_eq_true rfl) ⟨Nat.le_of_ble_eq_true rfl, Nat.le_of_ble_eq_true rfl⟩ ?_
      refine am_aload_n cx 0 dX11_print_33 rfl ?_
      obtain ⟨q12, hres⟩ := am_ck_some hres
      refine am_getR cx dX11_print_34 flX11_59 (am_ke q12) ?_
      obtain ⟨q13, hres⟩ := am_ck_some hres
      refine am_getI cx dX11_print_37 flX11_179 (am_ke q13) ?_
      obtain ⟨rfl, rfl⟩ := am_fin hres
      exact am_iret cx dX11_print_40
    · have hres := am_ifn h hres
      refine am_sub cx [2] rfl ?_
      exact sn11_print_b20 cx  hres
set_option maxRecDepth 20000 in
theorem mt11_print {l : Launch} {v : Int32} {M M' : am_Mem} {N : Nat} {r0 : Nat} {x1 : Int32} (h : fn11_print N M r0 x1 = some (v, M')) : am_Met l yX11_print cX11_print 3 (some .int) rm11_print 0 0 [.inr (.inr r0), .inl x1] M (some (.inl v)) M' := am_mk (by decide) (Nat.le_of_ble_eq_true rfl) (fun G cx => (sn11_print_b0 cx h))
-- SquareCuts.lines
def fn11_lines_b20 (N : Nat)  (r2 : Nat) (M : am_Mem) : Option (Int32 × am_Mem) :=
  am_bd (fn11_refusalFor M r2) (fun v1 M2 => some (v1, M2))
def fn11_lines_b0 (N : Nat)  (r0 : Nat) (x1 : Int32) (M : am_Mem) : Option (Int32 × am_Mem) :=
  am_ck (am_k M r0 11) (am_ck (am_k M (am_R M r0 8) 9) (am_bd (fn9_find M (am_R M r0 8) x1) (fun v3 M4 => if v3 = 0 then fn11_lines_b20 N  v3 M4 else am_ck (am_k M4 v3 10) (if (am_I M4 v3 1) = 0 then am_ck (am_k M4 r0 11) (am_ck (am_k M4 (am_R M4 r0 6) 2) (am_bd (fn2_build N M4 (am_R M4 r0 6) v3) (fun v9 M10 => am_ck (am_k M10 r0 11) (am_ck (am_k M10 (am_R M10 r0 6) 2) (some ((am_I M10 (am_R M10 r0 6) 4), M10)))))) else fn11_lines_b20 N  v3 M4))))
def fn11_lines (N : Nat) (M : am_Mem) (r0 : Nat) (x1 : Int32) : Option (Int32 × am_Mem) := fn11_lines_b0 N r0 x1 M
def rm11_lines : Room := { frames := 3, cells := 0, slots := 0, locals := 69 }
set_option maxRecDepth 20000 in
theorem sn11_lines_b20 {l : Launch} {G : am_G} {v : Int32} {M' : am_Mem} {N : Nat}  (cx : am_Ctx l rm11_lines yX11_lines cX11_lines 3 (some .int) (some (.inl v)) M' 0 0 G)  {r2 : Nat} {M : am_Mem} (hres : fn11_lines_b20 N  r2 M = some (v, M')) : G 20 [(2, .inr (.inr r2))] [] M 0 0 := by
  unfold fn11_lines_b20 at hres
  refine am_aload_n cx 0 dX11_lines_20 rfl ?_
  obtain ⟨v1, M2, q3, hres⟩ := am_bd_some hres
  refine am_callS1 cx [.inr (.inr r2)] dX11_lines_21 csX11_169 (mt11_refusalFor q3)  ⟨rfl, rfl, Nat.le_of_ble_eq_true rfl, Nat.le_of_ble_eq_true rfl⟩ rfl (Nat.le_of_ble_eq_true rfl) ⟨Nat.le_of_ble_eq_true rfl, Nat.le_of_ble_eq_true rfl⟩ ?_
  obtain ⟨rfl, rfl⟩ := am_fin hres
  exact am_iret cx dX11_lines_24
set_option maxRecDepth 20000 in
theorem sn11_lines_b0 {l : Launch} {G : am_G} {v : Int32} {M' : am_Mem} {N : Nat}  (cx : am_Ctx l rm11_lines yX11_lines cX11_lines 3 (some .int) (some (.inl v)) M' 0 0 G)  {r0 : Nat} {x1 : Int32} {M : am_Mem} (hres : fn11_lines_b0 N  r0 x1 M = some (v, M')) : G 0 [(0, .inr (.inr r0)), (1, .inl x1)] [] M 0 0 := by
  unfold fn11_lines_b0 at hres
  refine am_aload_n cx 0 dX11_lines_0 rfl ?_
  obtain ⟨q1, hres⟩ := am_ck_some hres
  refine am_getR cx dX11_lines_1 flX11_66 (am_ke q1) ?_
  refine am_iload_n cx 1 dX11_lines_4 rfl ?_
  obtain ⟨q2, hres⟩ := am_ck_some hres
  obtain ⟨v3, M4, q5, hres⟩ := am_bd_some hres
  refine am_callV1 cx [.inl x1] dX11_lines_5 cvX11_115 (mt9_find q5) (am_ke q2) ⟨rfl, rfl, Nat.le_of_ble_eq_true rfl, Nat.le_of_ble_eq_true rfl⟩ rfl (Nat.le_of_ble_eq_true rfl) ⟨Nat.le_of_ble_eq_true rfl, Nat.le_of_ble_eq_true rfl⟩ ?_
  refine am_astore_n cx (lv' := [(0, .inr (.inr r0)), (1, .inl x1), (2, .inr (.inr v3))]) dX11_lines_8 (Nat.le_of_ble_eq_true rfl) rfl ?_
  refine am_aload_n cx 2 dX11_lines_9 rfl ?_
  refine am_ifnull cx (tgt := 20) dX11_lines_10 (by decide) (fun h => ?_) (fun h => ?_)
  · have hres := am_ifp h hres
    refine am_sub cx [2] rfl ?_
    exact sn11_lines_b20 cx  hres
  · have hres := am_ifn h hres
    refine am_aload_n cx 2 dX11_lines_13 rfl ?_
    obtain ⟨q6, hres⟩ := am_ck_some hres
    refine am_getI cx dX11_lines_14 flX11_123 (am_ke q6) ?_
    refine am_if_eq cx (tgt := 25) dX11_lines_17 (by decide) (fun h => ?_) (fun h => ?_)
    · have hres := am_ifp h hres
      refine am_aload_n cx 0 dX11_lines_25 rfl ?_
      obtain ⟨q7, hres⟩ := am_ck_some hres
      refine am_getR cx dX11_lines_26 flX11_52 (am_ke q7) ?_
      refine am_aload_n cx 2 dX11_lines_29 rfl ?_
      obtain ⟨q8, hres⟩ := am_ck_some hres
      obtain ⟨v9, M10, q11, hres⟩ := am_bd_some hres
      refine am_callV0 cx [.inr (.inr v3)] dX11_lines_30 cvX11_223 (mt2_build q11) (am_ke q8) ⟨rfl, rfl, Nat.le_of_ble_eq_true rfl, Nat.le_of_ble_eq_true rfl⟩ rfl (Nat.le_of_ble_eq_true rfl) ⟨Nat.le_of_ble_eq_true rfl, Nat.le_of_ble_eq_true rfl⟩ ?_
      refine am_aload_n cx 0 dX11_lines_33 rfl ?_
      obtain ⟨q12, hres⟩ := am_ck_some hres
      refine am_getR cx dX11_lines_34 flX11_52 (am_ke q12) ?_
      obtain ⟨q13, hres⟩ := am_ck_some hres
      refine am_getI cx dX11_lines_37 flX11_226 (am_ke q13) ?_
      obtain ⟨rfl, rfl⟩ := am_fin hres
      exact am_iret cx dX11_lines_40
    · have hres := am_ifn h hres
      refine am_sub cx [2] rfl ?_
      exact sn11_lines_b20 cx  hres
set_option maxRecDepth 20000 in
theorem mt11_lines {l : Launch} {v : Int32} {M M' : am_Mem} {N : Nat} {r0 : Nat} {x1 : Int32} (h : fn11_lines N M r0 x1 = some (v, M')) : am_Met l yX11_lines cX11_lines 3 (some .int) rm11_lines 0 0 [.inr (.inr r0), .inl x1] M (some (.inl v)) M' := am_mk (by decide) (Nat.le_of_ble_eq_true rfl) (fun G cx => (sn11_lines_b0 cx h))
-- SquareCuts.side
def fn11_side_b28 (N : Nat)   (M : am_Mem) : Option (Int32 × am_Mem) :=
  some ((-1 : Int32), M)
def fn11_side_b63 (N : Nat)  (c0 : Nat) (a1 : Int32) (x2 : Int32) (r4 : Nat) (M : am_Mem) : Option (Int32 × am_Mem) :=
  am_ck (am_k M r4 10) (am_ck (am_k M (am_R M r4 7) 14) (am_ck (am_in x2 (am_L M (am_R M r4 7))) (am_ck (am_k M c0 2) (am_bd (fn2_rowOf N M c0 a1 (am_I M (am_R M r4 7) x2.toNatClampNeg)) (fun v5 M6 => some (v5, M6))))))
def fn11_side_b0 (N : Nat)  (r0 : Nat) (x1 : Int32) (x2 : Int32) (x3 : Int32) (M : am_Mem) : Option (Int32 × am_Mem) :=
  am_ck (am_k M r0 11) (am_ck (am_k M (am_R M r0 8) 9) (am_bd (fn9_find M (am_R M r0 8) x1) (fun v3 M4 => if v3 = 0 then fn11_side_b28 N   M4 else if x2 < 0 then fn11_side_b28 N   M4 else am_ck (am_k M4 v3 10) (if x2 < (am_I M4 v3 4) then am_ck (am_k M4 r0 11) (am_ck (am_k M4 (am_R M4 r0 6) 2) (am_bd (fn2_build N M4 (am_R M4 r0 6) v3) (fun v9 M10 => am_ck (am_k M10 r0 11) (if x3 = 0 then am_ck (am_k M10 v3 10) (am_ck (am_k M10 (am_R M10 v3 8) 14) (am_ck (am_in x2 (am_L M10 (am_R M10 v3 8))) (fn11_side_b63 N  (am_R M10 r0 6) (am_I M10 (am_R M10 v3 8) x2.toNatClampNeg) x2 v3 M10))) else am_ck (am_k M10 v3 10) (am_bd (fn10_bottom M10 v3 x2) (fun v17 M18 => fn11_side_b63 N  (am_R M10 r0 6) v17 x2 v3 M18)))))) else fn11_side_b28 N   M4))))
def fn11_side (N : Nat) (M : am_Mem) (r0 : Nat) (x1 : Int32) (x2 : Int32) (x3 : Int32) : Option (Int32 × am_Mem) := fn11_side_b0 N r0 x1 x2 x3 M
def rm11_side : Room := { frames := 3, cells := 0, slots := 0, locals := 69 }
set_option maxRecDepth 20000 in
theorem sn11_side_b28 {l : Launch} {G : am_G} {v : Int32} {M' : am_Mem} {N : Nat}  (cx : am_Ctx l rm11_side yX11_side cX11_side 5 (some .int) (some (.inl v)) M' 0 0 G)   {M : am_Mem} (hres : fn11_side_b28 N   M = some (v, M')) : G 28 [] [] M 0 0 := by
  unfold fn11_side_b28 at hres
  refine am_iconst cx (v := (-1 : Int32)) dX11_side_28 (by decide) ?_
  obtain ⟨rfl, rfl⟩ := am_fin hres
  exact am_iret cx dX11_side_29
set_option maxRecDepth 20000 in
theorem sn11_side_b63 {l : Launch} {G : am_G} {v : Int32} {M' : am_Mem} {N : Nat}  (cx : am_Ctx l rm11_side yX11_side cX11_side 5 (some .int) (some (.inl v)) M' 0 0 G)  {c0 : Nat} {a1 : Int32} {x2 : Int32} {r4 : Nat} {M : am_Mem} (hres : fn11_side_b63 N  c0 a1 x2 r4 M = some (v, M')) : G 63 [(2, .inl x2), (4, .inr (.inr r4))] [.inl a1, .inr (.inr c0)] M 0 0 := by
  unfold fn11_side_b63 at hres
  refine am_aload cx 1 dX11_side_63 rfl ?_
  obtain ⟨q1, hres⟩ := am_ck_some hres
  refine am_getR cx dX11_side_65 flX11_154 (am_ke q1) ?_
  refine am_iload_n cx 0 dX11_side_68 rfl ?_
  obtain ⟨q2, hres⟩ := am_ck_some hres
  obtain ⟨q3, hres⟩ := am_ck_some hres
  refine am_iald cx dX11_side_69 (am_ke q2) q3 ?_
  obtain ⟨q4, hres⟩ := am_ck_some hres
  obtain ⟨v5, M6, q7, hres⟩ := am_bd_some hres
  refine am_callV1 cx [.inl a1, .inl (am_I M (am_R M r4 7) x2.toNatClampNeg)] dX11_side_70 cvX11_248 (mt2_rowOf q7) (am_ke q4) ⟨rfl, rfl, Nat.le_of_ble_eq_true rfl, Nat.le_of_ble_eq_true rfl⟩ rfl (Nat.le_of_ble_eq_true rfl) ⟨Nat.le_of_ble_eq_true rfl, Nat.le_of_ble_eq_true rfl⟩ ?_
  obtain ⟨rfl, rfl⟩ := am_fin hres
  exact am_iret cx dX11_side_73
set_option maxRecDepth 20000 in
theorem sn11_side_b0 {l : Launch} {G : am_G} {v : Int32} {M' : am_Mem} {N : Nat}  (cx : am_Ctx l rm11_side yX11_side cX11_side 5 (some .int) (some (.inl v)) M' 0 0 G)  {r0 : Nat} {x1 : Int32} {x2 : Int32} {x3 : Int32} {M : am_Mem} (hres : fn11_side_b0 N  r0 x1 x2 x3 M = some (v, M')) : G 0 [(0, .inr (.inr r0)), (1, .inl x1), (2, .inl x2), (3, .inl x3)] [] M 0 0 := by
  unfold fn11_side_b0 at hres
  refine am_aload_n cx 0 dX11_side_0 rfl ?_
  obtain ⟨q1, hres⟩ := am_ck_some hres
  refine am_getR cx dX11_side_1 flX11_66 (am_ke q1) ?_
  refine am_iload_n cx 1 dX11_side_4 rfl ?_
  obtain ⟨q2, hres⟩ := am_ck_some hres
  obtain ⟨v3, M4, q5, hres⟩ := am_bd_some hres
  refine am_callV1 cx [.inl x1] dX11_side_5 cvX11_115 (mt9_find q5) (am_ke q2) ⟨rfl, rfl, Nat.le_of_ble_eq_true rfl, Nat.le_of_ble_eq_true rfl⟩ rfl (Nat.le_of_ble_eq_true rfl) ⟨Nat.le_of_ble_eq_true rfl, Nat.le_of_ble_eq_true rfl⟩ ?_
  refine am_astore cx (lv' := [(0, .inr (.inr r0)), (1, .inl x1), (2, .inl x2), (3, .inl x3), (4, .inr (.inr v3))]) dX11_side_8 (Nat.le_of_ble_eq_true rfl) rfl ?_
  refine am_aload cx 4 dX11_side_10 rfl ?_
  refine am_ifnull cx (tgt := 28) dX11_side_12 (by decide) (fun h => ?_) (fun h => ?_)
  · have hres := am_ifp h hres
    refine am_sub cx [] rfl ?_
    exact sn11_side_b28 cx  hres
  · have hres := am_ifn h hres
    refine am_iload_n cx 2 dX11_side_15 rfl ?_
    refine am_if_lt cx (tgt := 28) dX11_side_16 (by decide) (fun h => ?_) (fun h => ?_)
    · have hres := am_ifp h hres
      refine am_sub cx [] rfl ?_
      exact sn11_side_b28 cx  hres
    · have hres := am_ifn h hres
      refine am_iload_n cx 2 dX11_side_19 rfl ?_
      refine am_aload cx 4 dX11_side_20 rfl ?_
      obtain ⟨q6, hres⟩ := am_ck_some hres
      refine am_getI cx dX11_side_22 flX11_127 (am_ke q6) ?_
      refine am_icmp_lt cx (tgt := 30) dX11_side_25 (by decide) (fun h => ?_) (fun h => ?_)
      · have hres := am_ifp h hres
        refine am_aload_n cx 0 dX11_side_30 rfl ?_
        obtain ⟨q7, hres⟩ := am_ck_some hres
        refine am_getR cx dX11_side_31 flX11_52 (am_ke q7) ?_
        refine am_aload cx 4 dX11_side_34 rfl ?_
        obtain ⟨q8, hres⟩ := am_ck_some hres
        obtain ⟨v9, M10, q11, hres⟩ := am_bd_some hres
        refine am_callV0 cx [.inr (.inr v3)] dX11_side_36 cvX11_223 (mt2_build q11) (am_ke q8) ⟨rfl, rfl, Nat.le_of_ble_eq_true rfl, Nat.le_of_ble_eq_true rfl⟩ rfl (Nat.le_of_ble_eq_true rfl) ⟨Nat.le_of_ble_eq_true rfl, Nat.le_of_ble_eq_true rfl⟩ ?_
        refine am_aload_n cx 0 dX11_side_39 rfl ?_
        obtain ⟨q12, hres⟩ := am_ck_some hres
        refine am_getR cx dX11_side_40 flX11_52 (am_ke q12) ?_
        refine am_iload_n cx 3 dX11_side_43 rfl ?_
        refine am_if_eq cx (tgt := 56) dX11_side_44 (by decide) (fun h => ?_) (fun h => ?_)
        · have hres := am_ifp h hres
          refine am_aload cx 4 dX11_side_56 rfl ?_
          obtain ⟨q13, hres⟩ := am_ck_some hres
          refine am_getR cx dX11_side_58 flX11_158 (am_ke q13) ?_
          refine am_iload_n cx 2 dX11_side_61 rfl ?_
          obtain ⟨q14, hres⟩ := am_ck_some hres
          obtain ⟨q15, hres⟩ := am_ck_some hres
          refine am_iald cx dX11_side_62 (am_ke q14) q15 ?_
          refine am_sub cx [2, 4] rfl ?_
          exact sn11_side_b63 cx  hres
        · have hres := am_ifn h hres
          refine am_aload cx 4 dX11_side_47 rfl ?_
          refine am_iload_n cx 2 dX11_side_49 rfl ?_
          obtain ⟨q16, hres⟩ := am_ck_some hres
          obtain ⟨v17, M18, q19, hres⟩ := am_bd_some hres
          refine am_callV1 cx [.inl x2] dX11_side_50 cvX11_245 (mt10_bottom q19) (am_ke q16) ⟨rfl, rfl, Nat.le_of_ble_eq_true rfl, Nat.le_of_ble_eq_true rfl⟩ rfl (Nat.le_of_ble_eq_true rfl) ⟨Nat.le_of_ble_eq_true rfl, Nat.le_of_ble_eq_true rfl⟩ ?_
          refine am_goto cx (tgt := 63) dX11_side_53 (by decide) ?_
          refine am_sub cx [2, 4] rfl ?_
          exact sn11_side_b63 cx  hres
      · have hres := am_ifn h hres
        refine am_sub cx [] rfl ?_
        exact sn11_side_b28 cx  hres
set_option maxRecDepth 20000 in
theorem mt11_side {l : Launch} {v : Int32} {M M' : am_Mem} {N : Nat} {r0 : Nat} {x1 : Int32} {x2 : Int32} {x3 : Int32} (h : fn11_side N M r0 x1 x2 x3 = some (v, M')) : am_Met l yX11_side cX11_side 5 (some .int) rm11_side 0 0 [.inr (.inr r0), .inl x1, .inl x2, .inl x3] M (some (.inl v)) M' := am_mk (by decide) (Nat.le_of_ble_eq_true rfl) (fun G cx => (sn11_side_b0 cx h))
-- SquareCuts.alike
def fn11_alike_b28 (N : Nat)   (M : am_Mem) : Option (Int32 × am_Mem) :=
  some ((-1 : Int32), M)
def fn11_alike_b86B (N : Nat) (k86 : Nat → Nat → Int32 → Int32 → am_Mem → Option (Int32 × am_Mem)) (r0 : Nat) (r4 : Nat) (x6 : Int32) (x7 : Int32) (M : am_Mem) : Option (Int32 × am_Mem) :=
  if (8 : Int32) ≤ x7 then some ((0 : Int32), M) else am_ck (am_k M r0 11) (am_ck (am_k M (am_R M r0 5) 0) (am_bd (fn0_takeTurned N M (am_R M r0 5) r4 x7 x6) (fun v3 M4 => am_ck (am_k M4 r0 11) (am_ck (am_k M4 (am_R M4 r0 4) 0) (am_bd (fn0_equalTo N M4 (am_R M4 r0 4) (am_R M4 r0 5)) (fun v8 M9 => if v8 = 0 then k86 r0 r4 x6 (x7 + (1 : Int32)) M9 else some ((1 : Int32), M9)))))))
def fn11_alike_b86 (N : Nat)  : Nat → Nat → Nat → Int32 → Int32 → am_Mem → Option (Int32 × am_Mem)
  | 0 => fun _ _ _ _ _ => none
  | i + 1 => fn11_alike_b86B N (fn11_alike_b86 N  i)
def fn11_alike_b57 (N : Nat)   (M : am_Mem) : Option (Int32 × am_Mem) :=
  some ((0 : Int32), M)
def fn11_alike_b0 (N : Nat)  (r0 : Nat) (x1 : Int32) (x2 : Int32) (M : am_Mem) : Option (Int32 × am_Mem) :=
  am_ck (am_k M r0 11) (am_ck (am_k M (am_R M r0 8) 9) (am_bd (fn9_find M (am_R M r0 8) x1) (fun v3 M4 => am_ck (am_k M4 r0 11) (am_ck (am_k M4 (am_R M4 r0 8) 9) (am_bd (fn9_find M4 (am_R M4 r0 8) x2) (fun v8 M9 => if v3 = 0 then fn11_alike_b28 N   M9 else if v8 = 0 then fn11_alike_b28 N   M9 else am_ck (am_k M9 v3 10) (if (am_I M9 v3 1) = 0 then am_ck (am_k M9 v8 10) (if (am_I M9 v8 1) = 0 then if (am_I M9 v3 4) = (am_I M9 v8 4) then am_bd (fn10_commonDivisor N M9 v3) (fun v13 M14 => am_ck (am_k M14 v8 10) (am_bd (fn10_commonDivisor N M14 v8) (fun v17 M18 => am_ck (am_k M18 r0 11) (am_ck (am_k M18 (am_R M18 r0 4) 0) (am_bd (fn0_takeTurned N M18 (am_R M18 r0 4) v3 (0 : Int32) v13) (fun v22 M23 => fn11_alike_b86 N  N r0 v8 v17 (0 : Int32) M23)))))) else fn11_alike_b57 N   M9 else fn11_alike_b57 N   M9) else fn11_alike_b57 N   M9)))))))
def fn11_alike (N : Nat) (M : am_Mem) (r0 : Nat) (x1 : Int32) (x2 : Int32) : Option (Int32 × am_Mem) := fn11_alike_b0 N r0 x1 x2 M
def rm11_alike : Room := { frames := 3, cells := 0, slots := 0, locals := 81 }
set_option maxRecDepth 20000 in
theorem sn11_alike_b28 {l : Launch} {G : am_G} {v : Int32} {M' : am_Mem} {N : Nat}  (cx : am_Ctx l rm11_alike yX11_alike cX11_alike 8 (some .int) (some (.inl v)) M' 0 0 G)   {M : am_Mem} (hres : fn11_alike_b28 N   M = some (v, M')) : G 28 [] [] M 0 0 := by
  unfold fn11_alike_b28 at hres
  refine am_iconst cx (v := (-1 : Int32)) dX11_alike_28 (by decide) ?_
  obtain ⟨rfl, rfl⟩ := am_fin hres
  exact am_iret cx dX11_alike_29
set_option maxRecDepth 20000 in
theorem sn11_alike_b86B {l : Launch} {G : am_G} {v : Int32} {M' : am_Mem} {N : Nat} {k86 : Nat → Nat → Int32 → Int32 → am_Mem → Option (Int32 × am_Mem)} (cx : am_Ctx l rm11_alike yX11_alike cX11_alike 8 (some .int) (some (.inl v)) M' 0 0 G) (hk86 : ∀ (r0 : Nat) (r4 : Nat) (x6 : Int32) (x7 : Int32) (M : am_Mem), k86 r0 r4 x6 x7 M = some (v, M') → G 86 [(0, .inr (.inr r0)), (4, .inr (.inr r4)), (6, .inl x6), (7, .inl x7)] [] M 0 0) {r0 : Nat} {r4 : Nat} {x6 : Int32} {x7 : Int32} {M : am_Mem} (hres : fn11_alike_b86B N k86 r0 r4 x6 x7 M = some (v, M')) : G 86 [(0, .inr (.inr r0)), (4, .inr (.inr r4)), (6, .inl x6), (7, .inl x7)] [] M 0 0 := by
  unfold fn11_alike_b86B at hres
  refine am_iload cx 3 dX11_alike_86 rfl ?_
  refine am_bipush cx (v := (8 : Int32)) dX11_alike_88 (by decide) ?_
  refine am_icmp_ge cx (tgt := 128) dX11_alike_90 (by decide) (fun h => ?_) (fun h => ?_)
  · have hres := am_ifp h hres
    refine am_iconst cx (v := (0 : Int32)) dX11_alike_128 (by decide) ?_
    obtain ⟨rfl, rfl⟩ := am_fin hres
    exact am_iret cx dX11_alike_129
  · have hres := am_ifn h hres
    refine am_aload_n cx 0 dX11_alike_93 rfl ?_
    obtain ⟨q1, hres⟩ := am_ck_some hres
    refine am_getR cx dX11_alike_94 flX11_46 (am_ke q1) ?_
    refine am_aload cx 1 dX11_alike_97 rfl ?_
    refine am_iload cx 3 dX11_alike_99 rfl ?_
    refine am_iload cx 2 dX11_alike_101 rfl ?_
    obtain ⟨q2, hres⟩ := am_ck_some hres
    obtain ⟨v3, M4, q5, hres⟩ := am_bd_some hres
    refine am_callV0 cx [.inr (.inr r4), .inl x7, .inl x6] dX11_alike_103 cvX11_255 (mt0_takeTurned q5) (am_ke q2) ⟨rfl, rfl, Nat.le_of_ble_eq_true rfl, Nat.le_of_ble_eq_true rfl⟩ rfl (Nat.le_of_ble_eq_true rfl) ⟨Nat.le_of_ble_eq_true rfl, Nat.le_of_ble_eq_true rfl⟩ ?_
    refine am_aload_n cx 0 dX11_alike_106 rfl ?_
    obtain ⟨q6, hres⟩ := am_ck_some hres
    refine am_getR cx dX11_alike_107 flX11_42 (am_ke q6) ?_
    refine am_aload_n cx 0 dX11_alike_110 rfl ?_
    refine am_getR cx dX11_alike_111 flX11_46 (am_ke q6) ?_
    obtain ⟨q7, hres⟩ := am_ck_some hres
    obtain ⟨v8, M9, q10, hres⟩ := am_bd_some hres
    refine am_callV1 cx [.inr (.inr (am_R M4 r0 5))] dX11_alike_114 cvX11_259 (mt0_equalTo q10) (am_ke q7) ⟨rfl, rfl, Nat.le_of_ble_eq_true rfl, Nat.le_of_ble_eq_true rfl⟩ rfl (Nat.le_of_ble_eq_true rfl) ⟨Nat.le_of_ble_eq_true rfl, Nat.le_of_ble_eq_true rfl⟩ ?_
    refine am_if_eq cx (tgt := 122) dX11_alike_117 (by decide) (fun h => ?_) (fun h => ?_)
    · have hres := am_ifp h hres
      refine am_iincw cx (lv' := [(0, .inr (.inr r0)), (4, .inr (.inr r4)), (6, .inl x6), (7, .inl (x7 + (1 : Int32)))]) (w := (1 : Int32)) 3 dX11_alike_122 (by decide) rfl (Nat.le_of_ble_eq_true rfl) rfl ?_
      refine am_goto cx (tgt := 86) dX11_alike_125 (by decide) ?_
      exact hk86 _ _ _ _ _ hres
    · have hres := am_ifn h hres
      refine am_iconst cx (v := (1 : Int32)) dX11_alike_120 (by decide) ?_
      obtain ⟨rfl, rfl⟩ := am_fin hres
      exact am_iret cx dX11_alike_121
set_option maxRecDepth 20000 in
theorem sn11_alike_b86 {l : Launch} {G : am_G} {v : Int32} {M' : am_Mem} {N : Nat}  (cx : am_Ctx l rm11_alike yX11_alike cX11_alike 8 (some .int) (some (.inl v)) M' 0 0 G)  (i : Nat) : ∀ (r0 : Nat) (r4 : Nat) (x6 : Int32) (x7 : Int32) (M : am_Mem), fn11_alike_b86 N  i r0 r4 x6 x7 M = some (v, M') → G 86 [(0, .inr (.inr r0)), (4, .inr (.inr r4)), (6, .inl x6), (7, .inl x7)] [] M 0 0 := by
  induction i with
  | zero => intro r0 r4 x6 x7 M hres; exact am_no hres
  | succ i ih => intro r0 r4 x6 x7 M hres; exact sn11_alike_b86B cx ih hres
set_option maxRecDepth 20000 in
theorem sn11_alike_b57 {l : Launch} {G : am_G} {v : Int32} {M' : am_Mem} {N : Nat}  (cx : am_Ctx l rm11_alike yX11_alike cX11_alike 8 (some .int) (some (.inl v)) M' 0 0 G)   {M : am_Mem} (hres : fn11_alike_b57 N   M = some (v, M')) : G 57 [] [] M 0 0 := by
  unfold fn11_alike_b57 at hres
  refine am_iconst cx (v := (0 : Int32)) dX11_alike_57 (by decide) ?_
  obtain ⟨rfl, rfl⟩ := am_fin hres
  exact am_iret cx dX11_alike_58
set_option maxRecDepth 20000 in
theorem sn11_alike_b0 {l : Launch} {G : am_G} {v : Int32} {M' : am_Mem} {N : Nat}  (cx : am_Ctx l rm11_alike yX11_alike cX11_alike 8 (some .int) (some (.inl v)) M' 0 0 G)  {r0 : Nat} {x1 : Int32} {x2 : Int32} {M : am_Mem} (hres : fn11_alike_b0 N  r0 x1 x2 M = some (v, M')) : G 0 [(0, .inr (.inr r0)), (1, .inl x1), (2, .inl x2)] [] M 0 0 := by
  unfold fn11_alike_b0 at hres
  refine am_aload_n cx 0 dX11_alike_0 rfl ?_
  obtain ⟨q1, hres⟩ := am_ck_some hres
  refine am_getR cx dX11_alike_1 flX11_66 (am_ke q1) ?_
  refine am_iload_n cx 1 dX11_alike_4 rfl ?_
  obtain ⟨q2, hres⟩ := am_ck_some hres
  obtain ⟨v3, M4, q5, hres⟩ := am_bd_some hres
  refine am_callV1 cx [.inl x1] dX11_alike_5 cvX11_115 (mt9_find q5) (am_ke q2) ⟨rfl, rfl, Nat.le_of_ble_eq_true rfl, Nat.le_of_ble_eq_true rfl⟩ rfl (Nat.le_of_ble_eq_true rfl) ⟨Nat.le_of_ble_eq_true rfl, Nat.le_of_ble_eq_true rfl⟩ ?_
  refine am_astore_n cx (lv' := [(0, .inr (.inr r0)), (1, .inl x1), (2, .inl x2), (3, .inr (.inr v3))]) dX11_alike_8 (Nat.le_of_ble_eq_true rfl) rfl ?_
  refine am_aload_n cx 0 dX11_alike_9 rfl ?_
  obtain ⟨q6, hres⟩ := am_ck_some hres
  refine am_getR cx dX11_alike_10 flX11_66 (am_ke q6) ?_
  refine am_iload_n cx 2 dX11_alike_13 rfl ?_
  obtain ⟨q7, hres⟩ := am_ck_some hres
  obtain ⟨v8, M9, q10, hres⟩ := am_bd_some hres
  refine am_callV1 cx [.inl x2] dX11_alike_14 cvX11_115 (mt9_find q10) (am_ke q7) ⟨rfl, rfl, Nat.le_of_ble_eq_true rfl, Nat.le_of_ble_eq_true rfl⟩ rfl (Nat.le_of_ble_eq_true rfl) ⟨Nat.le_of_ble_eq_true rfl, Nat.le_of_ble_eq_true rfl⟩ ?_
  refine am_astore cx (lv' := [(0, .inr (.inr r0)), (1, .inl x1), (2, .inl x2), (3, .inr (.inr v3)), (4, .inr (.inr v8))]) dX11_alike_17 (Nat.le_of_ble_eq_true rfl) rfl ?_
  refine am_aload_n cx 3 dX11_alike_19 rfl ?_
  refine am_ifnull cx (tgt := 28) dX11_alike_20 (by decide) (fun h => ?_) (fun h => ?_)
  · have hres := am_ifp h hres
    refine am_sub cx [] rfl ?_
    exact sn11_alike_b28 cx  hres
  · have hres := am_ifn h hres
    refine am_aload cx 4 dX11_alike_23 rfl ?_
    refine am_ifnonnull cx (tgt := 30) dX11_alike_25 (by decide) (fun h => ?_) (fun h => ?_)
    · have hres := am_ifn h hres
      refine am_aload_n cx 3 dX11_alike_30 rfl ?_
      obtain ⟨q11, hres⟩ := am_ck_some hres
      refine am_getI cx dX11_alike_31 flX11_123 (am_ke q11) ?_
      refine am_if_ne cx (tgt := 57) dX11_alike_34 (by decide) (fun h => ?_) (fun h => ?_)
      · have hres := am_ifn h hres
        refine am_sub cx [] rfl ?_
        exact sn11_alike_b57 cx  hres
      · have hres := am_ifp h hres
        refine am_aload cx 4 dX11_alike_37 rfl ?_
        obtain ⟨q12, hres⟩ := am_ck_some hres
        refine am_getI cx dX11_alike_39 flX11_123 (am_ke q12) ?_
        refine am_if_ne cx (tgt := 57) dX11_alike_42 (by decide) (fun h => ?_) (fun h => ?_)
        · have hres := am_ifn h hres
          refine am_sub cx [] rfl ?_
          exact sn11_alike_b57 cx  hres
        · have hres := am_ifp h hres
          refine am_aload_n cx 3 dX11_alike_45 rfl ?_
          refine am_getI cx dX11_alike_46 flX11_127 (am_ke q11) ?_
          refine am_aload cx 4 dX11_alike_49 rfl ?_
          refine am_getI cx dX11_alike_51 flX11_127 (am_ke q12) ?_
          refine am_icmp_eq cx (tgt := 59) dX11_alike_54 (by decide) (fun h => ?_) (fun h => ?_)
          · have hres := am_ifp h hres
            refine am_aload_n cx 3 dX11_alike_59 rfl ?_
            obtain ⟨v13, M14, q15, hres⟩ := am_bd_some hres
            refine am_callV1 cx [] dX11_alike_60 cvX11_252 (mt10_commonDivisor q15) (am_ke q11) ⟨rfl, rfl, Nat.le_of_ble_eq_true rfl, Nat.le_of_ble_eq_true rfl⟩ rfl (Nat.le_of_ble_eq_true rfl) ⟨Nat.le_of_ble_eq_true rfl, Nat.le_of_ble_eq_true rfl⟩ ?_
            refine am_istore cx (lv' := [(0, .inr (.inr r0)), (1, .inl x1), (2, .inl x2), (3, .inr (.inr v3)), (4, .inr (.inr v8)), (5, .inl v13)]) dX11_alike_63 (Nat.le_of_ble_eq_true rfl) rfl ?_
            refine am_aload cx 4 dX11_alike_65 rfl ?_
            obtain ⟨q16, hres⟩ := am_ck_some hres
            obtain ⟨v17, M18, q19, hres⟩ := am_bd_some hres
            refine am_callV1 cx [] dX11_alike_67 cvX11_252 (mt10_commonDivisor q19) (am_ke q16) ⟨rfl, rfl, Nat.le_of_ble_eq_true rfl, Nat.le_of_ble_eq_true rfl⟩ rfl (Nat.le_of_ble_eq_true rfl) ⟨Nat.le_of_ble_eq_true rfl, Nat.le_of_ble_eq_true rfl⟩ ?_
            refine am_istore cx (lv' := [(0, .inr (.inr r0)), (1, .inl x1), (2, .inl x2), (3, .inr (.inr v3)), (4, .inr (.inr v8)), (5, .inl v13), (6, .inl v17)]) dX11_alike_70 (Nat.le_of_ble_eq_true rfl) rfl ?_
            refine am_aload_n cx 0 dX11_alike_72 rfl ?_
            obtain ⟨q20, hres⟩ := am_ck_some hres
            refine am_getR cx dX11_alike_73 flX11_42 (am_ke q20) ?_
            refine am_aload_n cx 3 dX11_alike_76 rfl ?_
            refine am_iconst cx (v := (0 : Int32)) dX11_alike_77 (by decide) ?_
            refine am_iload cx 5 dX11_alike_78 rfl ?_
            obtain ⟨q21, hres⟩ := am_ck_some hres
            obtain ⟨v22, M23, q24, hres⟩ := am_bd_some hres
            refine am_callV0 cx [.inr (.inr v3), .inl (0 : Int32), .inl v13] dX11_alike_80 cvX11_255 (mt0_takeTurned q24) (am_ke q21) ⟨rfl, rfl, Nat.le_of_ble_eq_true rfl, Nat.le_of_ble_eq_true rfl⟩ rfl (Nat.le_of_ble_eq_true rfl) ⟨Nat.le_of_ble_eq_true rfl, Nat.le_of_ble_eq_true rfl⟩ ?_
            refine am_iconst cx (v := (0 : Int32)) dX11_alike_83 (by decide) ?_
            refine am_istore cx (lv' := [(0, .inr (.inr r0)), (1, .inl x1), (2, .inl x2), (3, .inr (.inr v3)), (4, .inr (.inr v8)), (5, .inl v13), (6, .inl v17), (7, .inl (0 : Int32))]) dX11_alike_84 (Nat.le_of_ble_eq_true rfl) rfl ?_
            refine am_sub cx [0, 4, 6, 7] rfl ?_
            exact sn11_alike_b86 cx  N _ _ _ _ _ hres
          · have hres := am_ifn h hres
            refine am_sub cx [] rfl ?_
            exact sn11_alike_b57 cx  hres
    · have hres := am_ifp h hres
      refine am_sub cx [] rfl ?_
      exact sn11_alike_b28 cx  hres
set_option maxRecDepth 20000 in
theorem mt11_alike {l : Launch} {v : Int32} {M M' : am_Mem} {N : Nat} {r0 : Nat} {x1 : Int32} {x2 : Int32} (h : fn11_alike N M r0 x1 x2 = some (v, M')) : am_Met l yX11_alike cX11_alike 8 (some .int) rm11_alike 0 0 [.inr (.inr r0), .inl x1, .inl x2] M (some (.inl v)) M' := am_mk (by decide) (Nat.le_of_ble_eq_true rfl) (fun G cx => (sn11_alike_b0 cx h))
-- SquareCuts.join
def fn11_join_b40 (N : Nat)   (M : am_Mem) : Option (Int32 × am_Mem) :=
  some ((-1 : Int32), M)
def fn11_join_b250 (N : Nat)  (c0 : Nat) (c1 : Nat) (a2 : Int32) (a3 : Int32) (a4 : Int32) (r0 : Nat) (M : am_Mem) : Option (Int32 × am_Mem) :=
  am_ck (am_k M c0 0) (am_bd (fn0_addTimes N M c0 c1 a2 a3 a4) (fun v2 M3 => am_ck (am_k M3 r0 11) (am_bd (fn11_putMade N M3 r0) (fun v6 M7 => some (v6, M7)))))
def fn11_join_b239 (N : Nat)  (c0 : Nat) (c1 : Nat) (a2 : Int32) (a3 : Int32) (r0 : Nat) (x3 : Int32) (j13 : Int64) (M : am_Mem) : Option (Int32 × am_Mem) :=
  if x3 = 0 then fn11_join_b250 N  c0 c1 a2 a3 (0 : Int32) r0 M else fn11_join_b250 N  c0 c1 a2 a3 j13.toInt32 r0 M
def fn11_join_b180 (N : Nat)  (b0 : Int64) (r0 : Nat) (x3 : Int32) (r4 : Nat) (r5 : Nat) (x9 : Int32) (x10 : Int32) (j11 : Int64) (j13 : Int64) (j15 : Int64) (M : am_Mem) : Option (Int32 × am_Mem) :=
  am_bd (fn11_isTooLarge M j15 b0) (fun v1 M2 => if v1 = 0 then am_ck (am_k M2 r0 11) (am_ck (am_k M2 (am_R M2 r0 4) 0) (am_bd (fn0_begin M2 (am_R M2 r0 4) j15.toInt32 b0.toInt32) (fun v6 M7 => am_ck (am_k M7 r0 11) (am_ck (am_k M7 (am_R M7 r0 4) 0) (am_bd (fn0_addTimes N M7 (am_R M7 r0 4) r4 x9 (0 : Int32) (0 : Int32)) (fun v11 M12 => am_ck (am_k M12 r0 11) (if x3 = 0 then fn11_join_b239 N  (am_R M12 r0 4) r5 x10 j11.toInt32 r0 x3 j13 M12 else fn11_join_b239 N  (am_R M12 r0 4) r5 x10 (0 : Int32) r0 x3 j13 M12))))))) else some ((-1 : Int32), M2))
def fn11_join_b158 (N : Nat)  (r0 : Nat) (x3 : Int32) (r4 : Nat) (r5 : Nat) (x9 : Int32) (x10 : Int32) (j11 : Int64) (j13 : Int64) (j15 : Int64) (M : am_Mem) : Option (Int32 × am_Mem) :=
  if x3 = 0 then fn11_join_b180 N  j13 r0 x3 r4 r5 x9 x10 j11 j13 j15 M else am_ck (am_k M r5 10) (fn11_join_b180 N  (j13 + ((am_I M r5 6).toInt64 * x10.toInt64)) r0 x3 r4 r5 x9 x10 j11 j13 j15 M)
def fn11_join_b156 (N : Nat)  (b0 : Int64) (r0 : Nat) (x3 : Int32) (r4 : Nat) (r5 : Nat) (x9 : Int32) (x10 : Int32) (j11 : Int64) (j13 : Int64) (M : am_Mem) : Option (Int32 × am_Mem) :=
  fn11_join_b158 N  r0 x3 r4 r5 x9 x10 j11 j13 b0 M
def fn11_join_b134 (N : Nat)  (r0 : Nat) (x3 : Int32) (r4 : Nat) (r5 : Nat) (x9 : Int32) (x10 : Int32) (j11 : Int64) (j13 : Int64) (M : am_Mem) : Option (Int32 × am_Mem) :=
  if x3 = 0 then am_ck (am_k M r5 10) (fn11_join_b156 N  (j11 + ((am_I M r5 5).toInt64 * x10.toInt64)) r0 x3 r4 r5 x9 x10 j11 j13 M) else fn11_join_b156 N  j11 r0 x3 r4 r5 x9 x10 j11 j13 M
def fn11_join_b122 (N : Nat)  (r0 : Nat) (x3 : Int32) (r4 : Nat) (r5 : Nat) (x9 : Int32) (x10 : Int32) (j11 : Int64) (M : am_Mem) : Option (Int32 × am_Mem) :=
  am_ck (am_k M r4 10) (fn11_join_b134 N  r0 x3 r4 r5 x9 x10 j11 ((am_I M r4 6).toInt64 * x9.toInt64) M)
def fn11_join_b110 (N : Nat)  (r0 : Nat) (x3 : Int32) (r4 : Nat) (r5 : Nat) (x9 : Int32) (x10 : Int32) (M : am_Mem) : Option (Int32 × am_Mem) :=
  am_ck (am_k M r4 10) (fn11_join_b122 N  r0 x3 r4 r5 x9 x10 ((am_I M r4 5).toInt64 * x9.toInt64) M)
def fn11_join_b103 (N : Nat)  (r0 : Nat) (x3 : Int32) (r4 : Nat) (r5 : Nat) (x6 : Int32) (x8 : Int32) (x9 : Int32) (M : am_Mem) : Option (Int32 × am_Mem) :=
  am_ck (decide (¬ x8 = 0)) (fn11_join_b110 N  r0 x3 r4 r5 x9 (x6 / x8) M)
def fn11_join_b80 (N : Nat)  (r0 : Nat) (x3 : Int32) (r4 : Nat) (r5 : Nat) (x6 : Int32) (x7 : Int32) (M : am_Mem) : Option (Int32 × am_Mem) :=
  am_bd (fn11_greatestDivisor N M x6 x7) (fun v1 M2 => if v1 = 0 then some ((-1 : Int32), M2) else am_ck (decide (¬ v1 = 0)) (fn11_join_b103 N  r0 x3 r4 r5 x6 v1 (x7 / v1) M2))
def fn11_join_b78 (N : Nat)  (a0 : Int32) (r0 : Nat) (x3 : Int32) (r4 : Nat) (r5 : Nat) (x6 : Int32) (M : am_Mem) : Option (Int32 × am_Mem) :=
  fn11_join_b80 N  r0 x3 r4 r5 x6 a0 M
def fn11_join_b61 (N : Nat)  (r0 : Nat) (x3 : Int32) (r4 : Nat) (r5 : Nat) (x6 : Int32) (M : am_Mem) : Option (Int32 × am_Mem) :=
  if x3 = 0 then am_ck (am_k M r5 10) (fn11_join_b78 N  (am_I M r5 6) r0 x3 r4 r5 x6 M) else am_ck (am_k M r5 10) (fn11_join_b78 N  (am_I M r5 5) r0 x3 r4 r5 x6 M)
def fn11_join_b59 (N : Nat)  (a0 : Int32) (r0 : Nat) (x3 : Int32) (r4 : Nat) (r5 : Nat) (M : am_Mem) : Option (Int32 × am_Mem) :=
  fn11_join_b61 N  r0 x3 r4 r5 a0 M
def fn11_join_b0 (N : Nat)  (r0 : Nat) (x1 : Int32) (x2 : Int32) (x3 : Int32) (M : am_Mem) : Option (Int32 × am_Mem) :=
  am_ck (am_k M r0 11) (am_bd (fn11_usable M r0 x1) (fun v2 M3 => am_ck (am_k M3 r0 11) (am_bd (fn11_usable M3 r0 x2) (fun v6 M7 => if v2 = 0 then fn11_join_b40 N   M7 else if v6 = 0 then fn11_join_b40 N   M7 else am_ck (am_k M7 v2 10) (am_ck (am_k M7 v6 10) (if ((am_I M7 v2 4) + (am_I M7 v6 4)) ≤ (40 : Int32) then if x3 = 0 then fn11_join_b59 N  (am_I M7 v2 6) r0 x3 v2 v6 M7 else fn11_join_b59 N  (am_I M7 v2 5) r0 x3 v2 v6 M7 else fn11_join_b40 N   M7))))))
def fn11_join (N : Nat) (M : am_Mem) (r0 : Nat) (x1 : Int32) (x2 : Int32) (x3 : Int32) : Option (Int32 × am_Mem) := fn11_join_b0 N r0 x1 x2 x3 M
def rm11_join : Room := { frames := 3, cells := 4, slots := 131, locals := 68 }
set_option maxRecDepth 20000 in
theorem sn11_join_b40 {l : Launch} {G : am_G} {v : Int32} {M' : am_Mem} {N : Nat}  (cx : am_Ctx l rm11_join yX11_join cX11_join 19 (some .int) (some (.inl v)) M' 4 131 G)   {M : am_Mem} (hres : fn11_join_b40 N   M = some (v, M')) : G 40 [] [] M 0 0 := by
  unfold fn11_join_b40 at hres
  refine am_iconst cx (v := (-1 : Int32)) dX11_join_40 (by decide) ?_
  obtain ⟨rfl, rfl⟩ := am_fin hres
  refine am_widen cx (k' := 4) (n' := 131) (Nat.le_of_ble_eq_true rfl) (Nat.le_of_ble_eq_true rfl) ?_
  exact am_iret cx dX11_join_41
set_option maxRecDepth 20000 in
theorem sn11_join_b250 {l : Launch} {G : am_G} {v : Int32} {M' : am_Mem} {N : Nat}  (cx : am_Ctx l rm11_join yX11_join cX11_join 19 (some .int) (some (.inl v)) M' 4 131 G)  {c0 : Nat} {c1 : Nat} {a2 : Int32} {a3 : Int32} {a4 : Int32} {r0 : Nat} {M : am_Mem} (hres : fn11_join_b250 N  c0 c1 a2 a3 a4 r0 M = some (v, M')) : G 250 [(0, .inr (.inr r0))] [.inl a4, .inl a3, .inl a2, .inr (.inr c1), .inr (.inr c0)] M 0 0 := by
  unfold fn11_join_b250 at hres
  obtain ⟨q1, hres⟩ := am_ck_some hres
  obtain ⟨v2, M3, q4, hres⟩ := am_bd_some hres
  refine am_callV0 cx [.inr (.inr c1), .inl a2, .inl a3, .inl a4] dX11_join_250 cvX11_277 (mt0_addTimes q4) (am_ke q1) ⟨rfl, rfl, Nat.le_of_ble_eq_true rfl, Nat.le_of_ble_eq_true rfl⟩ rfl (Nat.le_of_ble_eq_true rfl) ⟨Nat.le_of_ble_eq_true rfl, Nat.le_of_ble_eq_true rfl⟩ ?_
  refine am_aload_n cx 0 dX11_join_253 rfl ?_
  obtain ⟨q5, hres⟩ := am_ck_some hres
  obtain ⟨v6, M7, q8, hres⟩ := am_bd_some hres
  refine am_callV1 cx [] dX11_join_254 cvX11_281 (mt11_putMade q8) (am_ke q5) ⟨rfl, rfl, Nat.le_of_ble_eq_true rfl, Nat.le_of_ble_eq_true rfl⟩ rfl (Nat.le_of_ble_eq_true rfl) ⟨Nat.le_of_ble_eq_true rfl, Nat.le_of_ble_eq_true rfl⟩ ?_
  obtain ⟨rfl, rfl⟩ := am_fin hres
  exact am_iret cx dX11_join_257
set_option maxRecDepth 20000 in
theorem sn11_join_b239 {l : Launch} {G : am_G} {v : Int32} {M' : am_Mem} {N : Nat}  (cx : am_Ctx l rm11_join yX11_join cX11_join 19 (some .int) (some (.inl v)) M' 4 131 G)  {c0 : Nat} {c1 : Nat} {a2 : Int32} {a3 : Int32} {r0 : Nat} {x3 : Int32} {j13 : Int64} {M : am_Mem} (hres : fn11_join_b239 N  c0 c1 a2 a3 r0 x3 j13 M = some (v, M')) : G 239 [(0, .inr (.inr r0)), (3, .inl x3), (13, .inr (.inl j13))] [.inl a3, .inl a2, .inr (.inr c1), .inr (.inr c0)] M 0 0 := by
  unfold fn11_join_b239 at hres
  refine am_iload_n cx 1 dX11_join_239 rfl ?_
  refine am_if_eq cx (tgt := 249) dX11_join_240 (by decide) (fun h => ?_) (fun h => ?_)
  · have hres := am_ifp h hres
    refine am_iconst cx (v := (0 : Int32)) dX11_join_249 (by decide) ?_
    refine am_sub cx [0] rfl ?_
    exact sn11_join_b250 cx  hres
  · have hres := am_ifn h hres
    refine am_lload cx 2 dX11_join_243 rfl ?_
    refine am_l2i cx dX11_join_245 ?_
    refine am_goto cx (tgt := 250) dX11_join_246 (by decide) ?_
    refine am_sub cx [0] rfl ?_
    exact sn11_join_b250 cx  hres
set_option maxRecDepth 20000 in
theorem sn11_join_b180 {l : Launch} {G : am_G} {v : Int32} {M' : am_Mem} {N : Nat}  (cx : am_Ctx l rm11_join yX11_join cX11_join 19 (some .int) (some (.inl v)) M' 4 131 G)  {b0 : Int64} {r0 : Nat} {x3 : Int32} {r4 : Nat} {r5 : Nat} {x9 : Int32} {x10 : Int32} {j11 : Int64} {j13 : Int64} {j15 : Int64} {M : am_Mem} (hres : fn11_join_b180 N  b0 r0 x3 r4 r5 x9 x10 j11 j13 j15 M = some (v, M')) : G 180 [(0, .inr (.inr r0)), (3, .inl x3), (4, .inr (.inr r4)), (5, .inr (.inr r5)), (9, .inl x9), (10, .inl x10), (11, .inr (.inl j11)), (13, .inr (.inl j13)), (15, .inr (.inl j15))] [.inr (.inl b0)] M 0 0 := by
  unfold fn11_join_b180 at hres
  refine am_lstore cx (lv' := [(0, .inr (.inr r0)), (3, .inl x3), (4, .inr (.inr r4)), (5, .inr (.inr r5)), (9, .inl x9), (10, .inl x10), (11, .inr (.inl j11)), (13, .inr (.inl j13)), (15, .inr (.inl j15)), (17, .inr (.inl b0))]) dX11_join_180 (Nat.le_of_ble_eq_true rfl) rfl ?_
  refine am_lload cx 8 dX11_join_182 rfl ?_
  refine am_lload cx 9 dX11_join_184 rfl ?_
  obtain ⟨v1, M2, q3, hres⟩ := am_bd_some hres
  refine am_callS1 cx [.inr (.inl j15), .inr (.inl b0)] dX11_join_186 csX11_269 (mt11_isTooLarge q3)  ⟨rfl, rfl, Nat.le_of_ble_eq_true rfl, Nat.le_of_ble_eq_true rfl⟩ rfl (Nat.le_of_ble_eq_true rfl) ⟨Nat.le_of_ble_eq_true rfl, Nat.le_of_ble_eq_true rfl⟩ ?_
  refine am_if_eq cx (tgt := 194) dX11_join_189 (by decide) (fun h => ?_) (fun h => ?_)
  · have hres := am_ifp h hres
    refine am_aload_n cx 0 dX11_join_194 rfl ?_
    obtain ⟨q4, hres⟩ := am_ck_some hres
    refine am_getR cx dX11_join_195 flX11_42 (am_ke q4) ?_
    refine am_lload cx 8 dX11_join_198 rfl ?_
    refine am_l2i cx dX11_join_200 ?_
    refine am_lload cx 9 dX11_join_201 rfl ?_
    refine am_l2i cx dX11_join_203 ?_
    obtain ⟨q5, hres⟩ := am_ck_some hres
    obtain ⟨v6, M7, q8, hres⟩ := am_bd_some hres
    refine am_callV0 cx [.inl j15.toInt32, .inl b0.toInt32] dX11_join_204 cvX11_273 (mt0_begin q8) (am_ke q5) ⟨rfl, rfl, Nat.le_of_ble_eq_true rfl, Nat.le_of_ble_eq_true rfl⟩ rfl (Nat.le_of_ble_eq_true rfl) ⟨Nat.le_of_ble_eq_true rfl, Nat.le_of_ble_eq_true rfl⟩ ?_
    refine am_aload_n cx 0 dX11_join_207 rfl ?_
    obtain ⟨q9, hres⟩ := am_ck_some hres
    refine am_getR cx dX11_join_208 flX11_42 (am_ke q9) ?_
    refine am_aload cx 2 dX11_join_211 rfl ?_
    refine am_iload cx 4 dX11_join_213 rfl ?_
    refine am_iconst cx (v := (0 : Int32)) dX11_join_215 (by decide) ?_
    refine am_iconst cx (v := (0 : Int32)) dX11_join_216 (by decide) ?_
    obtain ⟨q10, hres⟩ := am_ck_some hres
    obtain ⟨v11, M12, q13, hres⟩ := am_bd_some hres
    refine am_callV0 cx [.inr (.inr r4), .inl x9, .inl (0 : Int32), .inl (0 : Int32)] dX11_join_217 cvX11_277 (mt0_addTimes q13) (am_ke q10) ⟨rfl, rfl, Nat.le_of_ble_eq_true rfl, Nat.le_of_ble_eq_true rfl⟩ rfl (Nat.le_of_ble_eq_true rfl) ⟨Nat.le_of_ble_eq_true rfl, Nat.le_of_ble_eq_true rfl⟩ ?_
    refine am_aload_n cx 0 dX11_join_220 rfl ?_
    obtain ⟨q14, hres⟩ := am_ck_some hres
    refine am_getR cx dX11_join_221 flX11_42 (am_ke q14) ?_
    refine am_aload cx 3 dX11_join_224 rfl ?_
    refine am_iload cx 5 dX11_join_226 rfl ?_
    refine am_iload_n cx 1 dX11_join_228 rfl ?_
    refine am_if_eq cx (tgt := 236) dX11_join_229 (by decide) (fun h => ?_) (fun h => ?_)
    · have hres := am_ifp h hres
      refine am_lload cx 6 dX11_join_236 rfl ?_
      refine am_l2i cx dX11_join_238 ?_
      refine am_sub cx [0, 1, 7] rfl ?_
      exact sn11_join_b239 cx  hres
    · have hres := am_ifn h hres
      refine am_iconst cx (v := (0 : Int32)) dX11_join_232 (by decide) ?_
      refine am_goto cx (tgt := 239) dX11_join_233 (by decide) ?_
      refine am_sub cx [0, 1, 7] rfl ?_
      exact sn11_join_b239 cx  hres
  · have hres := am_ifn h hres
    refine am_iconst cx (v := (-1 : Int32)) dX11_join_192 (by decide) ?_
    obtain ⟨rfl, rfl⟩ := am_fin hres
    refine am_widen cx (k' := 4) (n' := 131) (Nat.le_of_ble_eq_true rfl) (Nat.le_of_ble_eq_true rfl) ?_
    exact am_iret cx dX11_join_193
set_option maxRecDepth 20000 in
theorem sn11_join_b158 {l : Launch} {G : am_G} {v : Int32} {M' : am_Mem} {N : Nat}  (cx : am_Ctx l rm11_join yX11_join cX11_join 19 (some .int) (some (.inl v)) M' 4 131 G)  {r0 : Nat} {x3 : Int32} {r4 : Nat} {r5 : Nat} {x9 : Int32} {x10 : Int32} {j11 : Int64} {j13 : Int64} {j15 : Int64} {M : am_Mem} (hres : fn11_join_b158 N  r0 x3 r4 r5 x9 x10 j11 j13 j15 M = some (v, M')) : G 158 [(0, .inr (.inr r0)), (3, .inl x3), (4, .inr (.inr r4)), (5, .inr (.inr r5)), (9, .inl x9), (10, .inl x10), (11, .inr (.inl j11)), (13, .inr (.inl j13)), (15, .inr (.inl j15))] [] M 0 0 := by
  unfold fn11_join_b158 at hres
  refine am_iload_n cx 1 dX11_join_158 rfl ?_
  refine am_if_eq cx (tgt := 178) dX11_join_159 (by decide) (fun h => ?_) (fun h => ?_)
  · have hres := am_ifp h hres
    refine am_lload cx 7 dX11_join_178 rfl ?_
    exact sn11_join_b180 cx  hres
  · have hres := am_ifn h hres
    refine am_lload cx 7 dX11_join_162 rfl ?_
    refine am_aload cx 3 dX11_join_164 rfl ?_
    obtain ⟨q1, hres⟩ := am_ck_some hres
    refine am_getI cx dX11_join_166 flX11_133 (am_ke q1) ?_
    refine am_i2l cx dX11_join_169 ?_
    refine am_iload cx 5 dX11_join_170 rfl ?_
    refine am_i2l cx dX11_join_172 ?_
    refine am_lmul cx dX11_join_173 ?_
    refine am_ladd cx dX11_join_174 ?_
    refine am_goto cx (tgt := 180) dX11_join_175 (by decide) ?_
    exact sn11_join_b180 cx  hres
set_option maxRecDepth 20000 in
theorem sn11_join_b156 {l : Launch} {G : am_G} {v : Int32} {M' : am_Mem} {N : Nat}  (cx : am_Ctx l rm11_join yX11_join cX11_join 19 (some .int) (some (.inl v)) M' 4 131 G)  {b0 : Int64} {r0 : Nat} {x3 : Int32} {r4 : Nat} {r5 : Nat} {x9 : Int32} {x10 : Int32} {j11 : Int64} {j13 : Int64} {M : am_Mem} (hres : fn11_join_b156 N  b0 r0 x3 r4 r5 x9 x10 j11 j13 M = some (v, M')) : G 156 [(0, .inr (.inr r0)), (3, .inl x3), (4, .inr (.inr r4)), (5, .inr (.inr r5)), (9, .inl x9), (10, .inl x10), (11, .inr (.inl j11)), (13, .inr (.inl j13))] [.inr (.inl b0)] M 0 0 := by
  unfold fn11_join_b156 at hres
  refine am_lstore cx (lv' := [(0, .inr (.inr r0)), (3, .inl x3), (4, .inr (.inr r4)), (5, .inr (.inr r5)), (9, .inl x9), (10, .inl x10), (11, .inr (.inl j11)), (13, .inr (.inl j13)), (15, .inr (.inl b0))]) dX11_join_156 (Nat.le_of_ble_eq_true rfl) rfl ?_
  exact sn11_join_b158 cx  hres
set_option maxRecDepth 20000 in
theorem sn11_join_b134 {l : Launch} {G : am_G} {v : Int32} {M' : am_Mem} {N : Nat}  (cx : am_Ctx l rm11_join yX11_join cX11_join 19 (some .int) (some (.inl v)) M' 4 131 G)  {r0 : Nat} {x3 : Int32} {r4 : Nat} {r5 : Nat} {x9 : Int32} {x10 : Int32} {j11 : Int64} {j13 : Int64} {M : am_Mem} (hres : fn11_join_b134 N  r0 x3 r4 r5 x9 x10 j11 j13 M = some (v, M')) : G 134 [(0, .inr (.inr r0)), (3, .inl x3), (4, .inr (.inr r4)), (5, .inr (.inr r5)), (9, .inl x9), (10, .inl x10), (11, .inr (.inl j11)), (13, .inr (.inl j13))] [] M 0 0 := by
  unfold fn11_join_b134 at hres
  refine am_iload_n cx 1 dX11_join_134 rfl ?_
  refine am_if_eq cx (tgt := 143) dX11_join_135 (by decide) (fun h => ?_) (fun h => ?_)
  · have hres := am_ifp h hres
    refine am_lload cx 6 dX11_join_143 rfl ?_
    refine am_aload cx 3 dX11_join_145 rfl ?_
    obtain ⟨q1, hres⟩ := am_ck_some hres
    refine am_getI cx dX11_join_147 flX11_130 (am_ke q1) ?_
    refine am_i2l cx dX11_join_150 ?_
    refine am_iload cx 5 dX11_join_151 rfl ?_
    refine am_i2l cx dX11_join_153 ?_
    refine am_lmul cx dX11_join_154 ?_
    refine am_ladd cx dX11_join_155 ?_
    exact sn11_join_b156 cx  hres
  · have hres := am_ifn h hres
    refine am_lload cx 6 dX11_join_138 rfl ?_
    refine am_goto cx (tgt := 156) dX11_join_140 (by decide) ?_
    exact sn11_join_b156 cx  hres
set_option maxRecDepth 20000 in
theorem sn11_join_b122 {l : Launch} {G : am_G} {v : Int32} {M' : am_Mem} {N : Nat}  (cx : am_Ctx l rm11_join yX11_join cX11_join 19 (some .int) (some (.inl v)) M' 4 131 G)  {r0 : Nat} {x3 : Int32} {r4 : Nat} {r5 : Nat} {x9 : Int32} {x10 : Int32} {j11 : Int64} {M : am_Mem} (hres : fn11_join_b122 N  r0 x3 r4 r5 x9 x10 j11 M = some (v, M')) : G 122 [(0, .inr (.inr r0)), (3, .inl x3), (4, .inr (.inr r4)), (5, .inr (.inr r5)), (9, .inl x9), (10, .inl x10), (11, .inr (.inl j11))] [] M 0 0 := by
  unfold fn11_join_b122 at hres
  refine am_aload cx 2 dX11_join_122 rfl ?_
  obtain ⟨q1, hres⟩ := am_ck_some hres
  refine am_getI cx dX11_join_124 flX11_133 (am_ke q1) ?_
  refine am_i2l cx dX11_join_127 ?_
  refine am_iload cx 4 dX11_join_128 rfl ?_
  refine am_i2l cx dX11_join_130 ?_
  refine am_lmul cx dX11_join_131 ?_
  refine am_lstore cx (lv' := [(0, .inr (.inr r0)), (3, .inl x3), (4, .inr (.inr r4)), (5, .inr (.inr r5)), (9, .inl x9), (10, .inl x10), (11, .inr (.inl j11)), (13, .inr (.inl ((am_I M r4 6).toInt64 * x9.toInt64)))]) dX11_join_132 (Nat.le_of_ble_eq_true rfl) rfl ?_
  exact sn11_join_b134 cx  hres
set_option maxRecDepth 20000 in
theorem sn11_join_b110 {l : Launch} {G : am_G} {v : Int32} {M' : am_Mem} {N : Nat}  (cx : am_Ctx l rm11_join yX11_join cX11_join 19 (some .int) (some (.inl v)) M' 4 131 G)  {r0 : Nat} {x3 : Int32} {r4 : Nat} {r5 : Nat} {x9 : Int32} {x10 : Int32} {M : am_Mem} (hres : fn11_join_b110 N  r0 x3 r4 r5 x9 x10 M = some (v, M')) : G 110 [(0, .inr (.inr r0)), (3, .inl x3), (4, .inr (.inr r4)), (5, .inr (.inr r5)), (9, .inl x9), (10, .inl x10)] [] M 0 0 := by
  unfold fn11_join_b110 at hres
  refine am_aload cx 2 dX11_join_110 rfl ?_
  obtain ⟨q1, hres⟩ := am_ck_some hres
  refine am_getI cx dX11_join_112 flX11_130 (am_ke q1) ?_
  refine am_i2l cx dX11_join_115 ?_
  refine am_iload cx 4 dX11_join_116 rfl ?_
  refine am_i2l cx dX11_join_118 ?_
  refine am_lmul cx dX11_join_119 ?_
  refine am_lstore cx (lv' := [(0, .inr (.inr r0)), (3, .inl x3), (4, .inr (.inr r4)), (5, .inr (.inr r5)), (9, .inl x9), (10, .inl x10), (11, .inr (.inl ((am_I M r4 5).toInt64 * x9.toInt64)))]) dX11_join_120 (Nat.le_of_ble_eq_true rfl) rfl ?_
  exact sn11_join_b122 cx  hres
set_option maxRecDepth 20000 in
theorem sn11_join_b103 {l : Launch} {G : am_G} {v : Int32} {M' : am_Mem} {N : Nat}  (cx : am_Ctx l rm11_join yX11_join cX11_join 19 (some .int) (some (.inl v)) M' 4 131 G)  {r0 : Nat} {x3 : Int32} {r4 : Nat} {r5 : Nat} {x6 : Int32} {x8 : Int32} {x9 : Int32} {M : am_Mem} (hres : fn11_join_b103 N  r0 x3 r4 r5 x6 x8 x9 M = some (v, M')) : G 103 [(0, .inr (.inr r0)), (3, .inl x3), (4, .inr (.inr r4)), (5, .inr (.inr r5)), (6, .inl x6), (8, .inl x8), (9, .inl x9)] [] M 0 0 := by
  unfold fn11_join_b103 at hres
  refine am_iload cx 4 dX11_join_103 rfl ?_
  refine am_iload cx 5 dX11_join_105 rfl ?_
  obtain ⟨q1, hres⟩ := am_ck_some hres
  refine am_idiv cx dX11_join_107 (of_decide_eq_true q1) ?_
  refine am_istore cx (lv' := [(0, .inr (.inr r0)), (3, .inl x3), (4, .inr (.inr r4)), (5, .inr (.inr r5)), (6, .inl x6), (8, .inl x8), (9, .inl x9), (10, .inl (x6 / x8))]) dX11_join_108 (Nat.le_of_ble_eq_true rfl) rfl ?_
  refine am_sub cx [0, 1, 2, 3, 6, 7] rfl ?_
  exact sn11_join_b110 cx  hres
set_option maxRecDepth 20000 in
theorem sn11_join_b80 {l : Launch} {G : am_G} {v : Int32} {M' : am_Mem} {N : Nat}  (cx : am_Ctx l rm11_join yX11_join cX11_join 19 (some .int) (some (.inl v)) M' 4 131 G)  {r0 : Nat} {x3 : Int32} {r4 : Nat} {r5 : Nat} {x6 : Int32} {x7 : Int32} {M : am_Mem} (hres : fn11_join_b80 N  r0 x3 r4 r5 x6 x7 M = some (v, M')) : G 80 [(0, .inr (.inr r0)), (3, .inl x3), (4, .inr (.inr r4)), (5, .inr (.inr r5)), (6, .inl x6), (7, .inl x7)] [] M 0 0 := by
  unfold fn11_join_b80 at hres
  refine am_iload cx 4 dX11_join_80 rfl ?_
  refine am_iload cx 5 dX11_join_82 rfl ?_
  obtain ⟨v1, M2, q3, hres⟩ := am_bd_some hres
  refine am_callS1 cx [.inl x6, .inl x7] dX11_join_84 csX11_266 (mt11_greatestDivisor q3)  ⟨rfl, rfl, Nat.le_of_ble_eq_true rfl, Nat.le_of_ble_eq_true rfl⟩ rfl (Nat.le_of_ble_eq_true rfl) ⟨Nat.le_of_ble_eq_true rfl, Nat.le_of_ble_eq_true rfl⟩ ?_
  refine am_istore cx (lv' := [(0, .inr (.inr r0)), (3, .inl x3), (4, .inr (.inr r4)), (5, .inr (.inr r5)), (6, .inl x6), (7, .inl x7), (8, .inl v1)]) dX11_join_87 (Nat.le_of_ble_eq_true rfl) rfl ?_
  refine am_iload cx 6 dX11_join_89 rfl ?_
  refine am_if_ne cx (tgt := 96) dX11_join_91 (by decide) (fun h => ?_) (fun h => ?_)
  · have hres := am_ifn h hres
    refine am_iload cx 5 dX11_join_96 rfl ?_
    refine am_iload cx 6 dX11_join_98 rfl ?_
    obtain ⟨q4, hres⟩ := am_ck_some hres
    refine am_idiv cx dX11_join_100 (of_decide_eq_true q4) ?_
    refine am_istore cx (lv' := [(0, .inr (.inr r0)), (3, .inl x3), (4, .inr (.inr r4)), (5, .inr (.inr r5)), (6, .inl x6), (7, .inl x7), (8, .inl v1), (9, .inl (x7 / v1))]) dX11_join_101 (Nat.le_of_ble_eq_true rfl) rfl ?_
    refine am_sub cx [0, 1, 2, 3, 4, 6, 7] rfl ?_
    exact sn11_join_b103 cx  hres
  · have hres := am_ifp h hres
    refine am_iconst cx (v := (-1 : Int32)) dX11_join_94 (by decide) ?_
    obtain ⟨rfl, rfl⟩ := am_fin hres
    refine am_widen cx (k' := 4) (n' := 131) (Nat.le_of_ble_eq_true rfl) (Nat.le_of_ble_eq_true rfl) ?_
    exact am_iret cx dX11_join_95
set_option maxRecDepth 20000 in
theorem sn11_join_b78 {l : Launch} {G : am_G} {v : Int32} {M' : am_Mem} {N : Nat}  (cx : am_Ctx l rm11_join yX11_join cX11_join 19 (some .int) (some (.inl v)) M' 4 131 G)  {a0 : Int32} {r0 : Nat} {x3 : Int32} {r4 : Nat} {r5 : Nat} {x6 : Int32} {M : am_Mem} (hres : fn11_join_b78 N  a0 r0 x3 r4 r5 x6 M = some (v, M')) : G 78 [(0, .inr (.inr r0)), (3, .inl x3), (4, .inr (.inr r4)), (5, .inr (.inr r5)), (6, .inl x6)] [.inl a0] M 0 0 := by
  unfold fn11_join_b78 at hres
  refine am_istore cx (lv' := [(0, .inr (.inr r0)), (3, .inl x3), (4, .inr (.inr r4)), (5, .inr (.inr r5)), (6, .inl x6), (7, .inl a0)]) dX11_join_78 (Nat.le_of_ble_eq_true rfl) rfl ?_
  exact sn11_join_b80 cx  hres
set_option maxRecDepth 20000 in
theorem sn11_join_b61 {l : Launch} {G : am_G} {v : Int32} {M' : am_Mem} {N : Nat}  (cx : am_Ctx l rm11_join yX11_join cX11_join 19 (some .int) (some (.inl v)) M' 4 131 G)  {r0 : Nat} {x3 : Int32} {r4 : Nat} {r5 : Nat} {x6 : Int32} {M : am_Mem} (hres : fn11_join_b61 N  r0 x3 r4 r5 x6 M = some (v, M')) : G 61 [(0, .inr (.inr r0)), (3, .inl x3), (4, .inr (.inr r4)), (5, .inr (.inr r5)), (6, .inl x6)] [] M 0 0 := by
  unfold fn11_join_b61 at hres
  refine am_iload_n cx 1 dX11_join_61 rfl ?_
  refine am_if_eq cx (tgt := 73) dX11_join_62 (by decide) (fun h => ?_) (fun h => ?_)
  · have hres := am_ifp h hres
    refine am_aload cx 3 dX11_join_73 rfl ?_
    obtain ⟨q1, hres⟩ := am_ck_some hres
    refine am_getI cx dX11_join_75 flX11_133 (am_ke q1) ?_
    exact sn11_join_b78 cx  hres
  · have hres := am_ifn h hres
    refine am_aload cx 3 dX11_join_65 rfl ?_
    obtain ⟨q2, hres⟩ := am_ck_some hres
    refine am_getI cx dX11_join_67 flX11_130 (am_ke q2) ?_
    refine am_goto cx (tgt := 78) dX11_join_70 (by decide) ?_
    exact sn11_join_b78 cx  hres
set_option maxRecDepth 20000 in
theorem sn11_join_b59 {l : Launch} {G : am_G} {v : Int32} {M' : am_Mem} {N : Nat}  (cx : am_Ctx l rm11_join yX11_join cX11_join 19 (some .int) (some (.inl v)) M' 4 131 G)  {a0 : Int32} {r0 : Nat} {x3 : Int32} {r4 : Nat} {r5 : Nat} {M : am_Mem} (hres : fn11_join_b59 N  a0 r0 x3 r4 r5 M = some (v, M')) : G 59 [(0, .inr (.inr r0)), (3, .inl x3), (4, .inr (.inr r4)), (5, .inr (.inr r5))] [.inl a0] M 0 0 := by
  unfold fn11_join_b59 at hres
  refine am_istore cx (lv' := [(0, .inr (.inr r0)), (3, .inl x3), (4, .inr (.inr r4)), (5, .inr (.inr r5)), (6, .inl a0)]) dX11_join_59 (Nat.le_of_ble_eq_true rfl) rfl ?_
  exact sn11_join_b61 cx  hres
set_option maxRecDepth 20000 in
theorem sn11_join_b0 {l : Launch} {G : am_G} {v : Int32} {M' : am_Mem} {N : Nat}  (cx : am_Ctx l rm11_join yX11_join cX11_join 19 (some .int) (some (.inl v)) M' 4 131 G)  {r0 : Nat} {x1 : Int32} {x2 : Int32} {x3 : Int32} {M : am_Mem} (hres : fn11_join_b0 N  r0 x1 x2 x3 M = some (v, M')) : G 0 [(0, .inr (.inr r0)), (1, .inl x1), (2, .inl x2), (3, .inl x3)] [] M 0 0 := by
  unfold fn11_join_b0 at hres
  refine am_aload_n cx 0 dX11_join_0 rfl ?_
  refine am_iload_n cx 1 dX11_join_1 rfl ?_
  obtain ⟨q1, hres⟩ := am_ck_some hres
  obtain ⟨v2, M3, q4, hres⟩ := am_bd_some hres
  refine am_callV1 cx [.inl x1] dX11_join_2 cvX11_263 (mt11_usable q4) (am_ke q1) ⟨rfl, rfl, Nat.le_of_ble_eq_true rfl, Nat.le_of_ble_eq_true rfl⟩ rfl (Nat.le_of_ble_eq_true rfl) ⟨Nat.le_of_ble_eq_true rfl, Nat.le_of_ble_eq_true rfl⟩ ?_
  refine am_astore cx (lv' := [(0, .inr (.inr r0)), (1, .inl x1), (2, .inl x2), (3, .inl x3), (4, .inr (.inr v2))]) dX11_join_5 (Nat.le_of_ble_eq_true rfl) rfl ?_
  refine am_aload_n cx 0 dX11_join_7 rfl ?_
  refine am_iload_n cx 2 dX11_join_8 rfl ?_
  obtain ⟨q5, hres⟩ := am_ck_some hres
  obtain ⟨v6, M7, q8, hres⟩ := am_bd_some hres
  refine am_callV1 cx [.inl x2] dX11_join_9 cvX11_263 (mt11_usable q8) (am_ke q5) ⟨rfl, rfl, Nat.le_of_ble_eq_true rfl, Nat.le_of_ble_eq_true rfl⟩ rfl (Nat.le_of_ble_eq_true rfl) ⟨Nat.le_of_ble_eq_true rfl, Nat.le_of_ble_eq_true rfl⟩ ?_
  refine am_astore cx (lv' := [(0, .inr (.inr r0)), (1, .inl x1), (2, .inl x2), (3, .inl x3), (4, .inr (.inr v2)), (5, .inr (.inr v6))]) dX11_join_12 (Nat.le_of_ble_eq_true rfl) rfl ?_
  refine am_aload cx 4 dX11_join_14 rfl ?_
  refine am_ifnull cx (tgt := 40) dX11_join_16 (by decide) (fun h => ?_) (fun h => ?_)
  · have hres := am_ifp h hres
    refine am_sub cx [] rfl ?_
    exact sn11_join_b40 cx  hres
  · have hres := am_ifn h hres
    refine am_aload cx 5 dX11_join_19 rfl ?_
    refine am_ifnull cx (tgt := 40) dX11_join_21 (by decide) (fun h => ?_) (fun h => ?_)
    · have hres := am_ifp h hres
      refine am_sub cx [] rfl ?_
      exact sn11_join_b40 cx  hres
    · have hres := am_ifn h hres
      refine am_aload cx 4 dX11_join_24 rfl ?_
      obtain ⟨q9, hres⟩ := am_ck_some hres
      refine am_getI cx dX11_join_26 flX11_127 (am_ke q9) ?_
      refine am_aload cx 5 dX11_join_29 rfl ?_
      obtain ⟨q10, hres⟩ := am_ck_some hres
      refine am_getI cx dX11_join_31 flX11_127 (am_ke q10) ?_
      refine am_iadd cx dX11_join_34 ?_
      refine am_bipush cx (v := (40 : Int32)) dX11_join_35 (by decide) ?_
      refine am_icmp_le cx (tgt := 42) dX11_join_37 (by decide) (fun h => ?_) (fun h => ?_)
      · have hres := am_ifp h hres
        refine am_iload_n cx 3 dX11_join_42 rfl ?_
        refine am_if_eq cx (tgt := 54) dX11_join_43 (by decide) (fun h => ?_) (fun h => ?_)
        · have hres := am_ifp h hres
          refine am_aload cx 4 dX11_join_54 rfl ?_
          refine am_getI cx dX11_join_56 flX11_133 (am_ke q9) ?_
          refine am_sub cx [0, 3, 4, 5] rfl ?_
          exact sn11_join_b59 cx  hres
        · have hres := am_ifn h hres
          refine am_aload cx 4 dX11_join_46 rfl ?_
          refine am_getI cx dX11_join_48 flX11_130 (am_ke q9) ?_
          refine am_goto cx (tgt := 59) dX11_join_51 (by decide) ?_
          refine am_sub cx [0, 3, 4, 5] rfl ?_
          exact sn11_join_b59 cx  hres
      · have hres := am_ifn h hres
        refine am_sub cx [] rfl ?_
        exact sn11_join_b40 cx  hres
set_option maxRecDepth 20000 in
theorem mt11_join {l : Launch} {v : Int32} {M M' : am_Mem} {N : Nat} {r0 : Nat} {x1 : Int32} {x2 : Int32} {x3 : Int32} (h : fn11_join N M r0 x1 x2 x3 = some (v, M')) : am_Met l yX11_join cX11_join 19 (some .int) rm11_join 4 131 [.inr (.inr r0), .inl x1, .inl x2, .inl x3] M (some (.inl v)) M' := am_mk (by decide) (Nat.le_of_ble_eq_true rfl) (fun G cx => (sn11_join_b0 cx h))
