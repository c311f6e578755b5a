-- SquareCutsModel.level
def fn12_level_b60  (a0 : Int32) (M : am_Mem) : Option (Int32 × am_Mem) :=
  some (a0, M)
def fn12_level_b57   (M : am_Mem) : Option (Int32 × am_Mem) :=
  fn12_level_b60  (-2147483648 : Int32) M
def fn12_level_b0  (r0 : Nat) (x1 : Int32) (x2 : Int32) (M : am_Mem) : Option (Int32 × am_Mem) :=
  am_ck (am_k M r0 12) (am_bd (fn12_isNet (am_wI M r0 0 (0 : Int32)) r0 x1) (fun v2 M3 => if v2 = 0 then fn12_level_b57   M3 else am_ck (am_k M3 r0 12) (am_ck (am_k M3 (am_R M3 r0 29) 15) (am_ck (am_in x1 (am_L M3 (am_R M3 r0 29))) (if (lg_cmp (am_J M3 (am_R M3 r0 29) x1.toNatClampNeg) (0 : Int64)) ≤ 0 then fn12_level_b57   M3 else am_ck (am_k M3 (am_R M3 r0 24) 14) (am_ck (am_in x1 (am_L M3 (am_R M3 r0 24))) (am_bd (fn12_within M3 x2.toInt64 (0 : Int64) (((am_I M3 (am_R M3 r0 24) x1.toNatClampNeg) - (1 : Int32)).toInt64)) (fun v10 M11 => if v10 = 0 then fn12_level_b57   M11 else am_ck (am_k M11 r0 12) (am_ck (am_k M11 (am_R M11 r0 30) 15) (am_ck (am_in (((9 : Int32) * x1) + x2) (am_L M11 (am_R M11 r0 30))) (fn12_level_b60  ((am_J M11 (am_R M11 r0 30) (((9 : Int32) * x1) + x2).toNatClampNeg).toInt32) M11)))))))))))
def fn12_level (M : am_Mem) (r0 : Nat) (x1 : Int32) (x2 : Int32) : Option (Int32 × am_Mem) := fn12_level_b0  r0 x1 x2 M
def rm12_level : Room := { frames := 3, cells := 0, slots := 0, locals := 67 }
set_option maxRecDepth 20000 in
theorem sn12_level_b60 {l : Launch} {G : am_G} {v : Int32} {M' : am_Mem}  (cx : am_Ctx l rm12_level yX12_level cX12_level 3 (some .int) (some (.inl v)) M' 0 0 G)  {a0 : Int32} {M : am_Mem} (hres : fn12_level_b60  a0 M = some (v, M')) : G 60 [] [.inl a0] M 0 0 := by
  unfold fn12_level_b60 at hres
  obtain ⟨rfl, rfl⟩ := am_fin hres
  exact am_iret cx dX12_level_60
set_option maxRecDepth 20000 in
theorem sn12_level_b57 {l : Launch} {G : am_G} {v : Int32} {M' : am_Mem}  (cx : am_Ctx l rm12_level yX12_level cX12_level 3 (some .int) (some (.inl v)) M' 0 0 G)   {M : am_Mem} (hres : fn12_level_b57   M = some (v, M')) : G 57 [] [] M 0 0 := by
  unfold fn12_level_b57 at hres
  refine am_ldcw cx dX12_level_57 aw_6_204 ?_
  exact sn12_level_b60 cx  hres
set_option maxRecDepth 20000 in
theorem sn12_level_b0 {l : Launch} {G : am_G} {v : Int32} {M' : am_Mem}  (cx : am_Ctx l rm12_level yX12_level cX12_level 3 (some .int) (some (.inl v)) M' 0 0 G)  {r0 : Nat} {x1 : Int32} {x2 : Int32} {M : am_Mem} (hres : fn12_level_b0  r0 x1 x2 M = some (v, M')) : G 0 [(0, .inr (.inr (.inl r0))), (1, .inl x1), (2, .inl x2)] [] M 0 0 := by
  unfold fn12_level_b0 at hres
  refine am_aload_n cx 0 dX12_level_0 rfl ?_
  refine am_iconst cx (v := (0 : Int32)) dX12_level_1 (by decide) ?_
  obtain ⟨q1, hres⟩ := am_ck_some hres
  refine am_putI cx dX12_level_2 fpX12_103 (fun h => by cases h) (am_ke q1) ?_
  refine am_aload_n cx 0 dX12_level_5 rfl ?_
  refine am_iload_n cx 1 dX12_level_6 rfl ?_
  obtain ⟨v2, M3, q4, hres⟩ := am_bd_some hres
  refine am_callV1 cx [.inl x1] dX12_level_7 cvX12_354 (mt12_isNet q4) (am_ke q1) ⟨rfl, rfl, Nat.le_of_ble_eq_true rfl, Nat.le_of_ble_eq_true rfl⟩ rfl (Nat.le_of_ble_eq_true rfl) ⟨Nat.le_of_ble_eq_true rfl, Nat.le_of_ble_eq_true rfl⟩ ?_
  refine am_if_eq cx (tgt := 57) dX12_level_10 (by decide) (fun h => ?_) (fun h => ?_)
  · have hres := am_ifp h hres
    refine am_sub cx [] rfl ?_
    exact sn12_level_b57 cx  hres
  · have hres := am_ifn h hres
    refine am_aload_n cx 0 dX12_level_13 rfl ?_
    obtain ⟨q5, hres⟩ := am_ck_some hres
    refine am_getR cx dX12_level_14 flX12_61 (am_ke q5) ?_
    refine am_iload_n cx 1 dX12_level_17 rfl ?_
    obtain ⟨q6, hres⟩ := am_ck_some hres
    obtain ⟨q7, hres⟩ := am_ck_some hres
    refine am_lald cx dX12_level_18 (am_ke q6) q7 ?_
    refine am_lconst cx (v := (0 : Int64)) dX12_level_19 (by decide) ?_
    refine am_lcmp cx dX12_level_20 ?_
    refine am_if_le cx (tgt := 57) dX12_level_21 (by decide) (fun h => ?_) (fun h => ?_)
    · have hres := am_ifp h hres
      refine am_sub cx [] rfl ?_
      exact sn12_level_b57 cx  hres
    · have hres := am_ifn h hres
      refine am_iload_n cx 2 dX12_level_24 rfl ?_
      refine am_i2l cx dX12_level_25 ?_
      refine am_lconst cx (v := (0 : Int64)) dX12_level_26 (by decide) ?_
      refine am_aload_n cx 0 dX12_level_27 rfl ?_
      refine am_getR cx dX12_level_28 flX12_46 (am_ke q5) ?_
      refine am_iload_n cx 1 dX12_level_31 rfl ?_
      obtain ⟨q8, hres⟩ := am_ck_some hres
      obtain ⟨q9, hres⟩ := am_ck_some hres
      refine am_iald cx dX12_level_32 (am_ke q8) q9 ?_
      refine am_iconst cx (v := (1 : Int32)) dX12_level_33 (by decide) ?_
      refine am_isub cx dX12_level_34 ?_
      refine am_i2l cx dX12_level_35 ?_
      obtain ⟨v10, M11, q12, hres⟩ := am_bd_some hres
      refine am_callS1 cx [.inr (.inl x2.toInt64), .inr (.inl (0 : Int64)), .inr (.inl ((am_I M3 (am_R M3 r0 24) x1.toNatClampNeg) - (1 : Int32)).toInt64)] dX12_level_36 csX12_141 (mt12_within q12)  ⟨rfl, rfl, Nat.le_of_ble_eq_true rfl, Nat.le_of_ble_eq_true rfl⟩ rfl (Nat.le_of_ble_eq_true rfl) ⟨Nat.le_of_ble_eq_true rfl, Nat.le_of_ble_eq_true rfl⟩ ?_
      refine am_if_eq cx (tgt := 57) dX12_level_39 (by decide) (fun h => ?_) (fun h => ?_)
      · have hres := am_ifp h hres
        refine am_sub cx [] rfl ?_
        exact sn12_level_b57 cx  hres
      · have hres := am_ifn h hres
        refine am_aload_n cx 0 dX12_level_42 rfl ?_
        obtain ⟨q13, hres⟩ := am_ck_some hres
        refine am_getR cx dX12_level_43 flX12_64 (am_ke q13) ?_
        refine am_bipush cx (v := (9 : Int32)) dX12_level_46 (by decide) ?_
        refine am_iload_n cx 1 dX12_level_48 rfl ?_
        refine am_imul cx dX12_level_49 ?_
        refine am_iload_n cx 2 dX12_level_50 rfl ?_
        refine am_iadd cx dX12_level_51 ?_
        obtain ⟨q14, hres⟩ := am_ck_some hres
        obtain ⟨q15, hres⟩ := am_ck_some hres
        refine am_lald cx dX12_level_52 (am_ke q14) q15 ?_
        refine am_l2i cx dX12_level_53 ?_
        refine am_goto cx (tgt := 60) dX12_level_54 (by decide) ?_
        refine am_sub cx [] rfl ?_
        exact sn12_level_b60 cx  hres
set_option maxRecDepth 20000 in
theorem mt12_level {l : Launch} {v : Int32} {M M' : am_Mem} {r0 : Nat} {x1 : Int32} {x2 : Int32} (h : fn12_level M r0 x1 x2 = some (v, M')) : am_Met l yX12_level cX12_level 3 (some .int) rm12_level 0 0 [.inr (.inr (.inl r0)), .inl x1, .inl x2] M (some (.inl v)) M' := am_mk (by decide) (Nat.le_of_ble_eq_true rfl) (fun G cx => (sn12_level_b0 cx h))
-- SquareCutsModel.layings
def fn12_layings_b36  (a0 : Int32) (M : am_Mem) : Option (Int32 × am_Mem) :=
  some (a0, M)
def fn12_layings_b0  (r0 : Nat) (x1 : Int32) (M : am_Mem) : Option (Int32 × am_Mem) :=
  am_ck (am_k M r0 12) (am_bd (fn12_isRect (am_wI M r0 0 (0 : Int32)) r0 x1) (fun v2 M3 => if v2 = 0 then fn12_layings_b36  (-1 : Int32) M3 else am_ck (am_k M3 r0 12) (am_bd (fn12_isNet M3 r0 x1) (fun v6 M7 => if v6 = 0 then fn12_layings_b36  (-2 : Int32) M7 else am_ck (am_k M7 r0 12) (am_ck (am_k M7 (am_R M7 r0 28) 14) (am_ck (am_in x1 (am_L M7 (am_R M7 r0 28))) (fn12_layings_b36  (am_I M7 (am_R M7 r0 28) x1.toNatClampNeg) M7)))))))
def fn12_layings (M : am_Mem) (r0 : Nat) (x1 : Int32) : Option (Int32 × am_Mem) := fn12_layings_b0  r0 x1 M
def rm12_layings : Room := { frames := 3, cells := 0, slots := 0, locals := 67 }
set_option maxRecDepth 20000 in
theorem sn12_layings_b36 {l : Launch} {G : am_G} {v : Int32} {M' : am_Mem}  (cx : am_Ctx l rm12_layings yX12_layings cX12_layings 2 (some .int) (some (.inl v)) M' 0 0 G)  {a0 : Int32} {M : am_Mem} (hres : fn12_layings_b36  a0 M = some (v, M')) : G 36 [] [.inl a0] M 0 0 := by
  unfold fn12_layings_b36 at hres
  obtain ⟨rfl, rfl⟩ := am_fin hres
  exact am_iret cx dX12_layings_36
set_option maxRecDepth 20000 in
theorem sn12_layings_b0 {l : Launch} {G : am_G} {v : Int32} {M' : am_Mem}  (cx : am_Ctx l rm12_layings yX12_layings cX12_layings 2 (some .int) (some (.inl v)) M' 0 0 G)  {r0 : Nat} {x1 : Int32} {M : am_Mem} (hres : fn12_layings_b0  r0 x1 M = some (v, M')) : G 0 [(0, .inr (.inr (.inl r0))), (1, .inl x1)] [] M 0 0 := by
  unfold fn12_layings_b0 at hres
  refine am_aload_n cx 0 dX12_layings_0 rfl ?_
  refine am_iconst cx (v := (0 : Int32)) dX12_layings_1 (by decide) ?_
  obtain ⟨q1, hres⟩ := am_ck_some hres
  refine am_putI cx dX12_layings_2 fpX12_103 (fun h => by cases h) (am_ke q1) ?_
  refine am_aload_n cx 0 dX12_layings_5 rfl ?_
  refine am_iload_n cx 1 dX12_layings_6 rfl ?_
  obtain ⟨v2, M3, q4, hres⟩ := am_bd_some hres
  refine am_callV1 cx [.inl x1] dX12_layings_7 cvX12_316 (mt12_isRect q4) (am_ke q1) ⟨rfl, rfl, Nat.le_of_ble_eq_true rfl, Nat.le_of_ble_eq_true rfl⟩ rfl (Nat.le_of_ble_eq_true rfl) ⟨Nat.le_of_ble_eq_true rfl, Nat.le_of_ble_eq_true rfl⟩ ?_
  refine am_if_ne cx (tgt := 17) dX12_layings_10 (by decide) (fun h => ?_) (fun h => ?_)
  · have hres := am_ifn h hres
    refine am_aload_n cx 0 dX12_layings_17 rfl ?_
    refine am_iload_n cx 1 dX12_layings_18 rfl ?_
    obtain ⟨q5, hres⟩ := am_ck_some hres
    obtain ⟨v6, M7, q8, hres⟩ := am_bd_some hres
    refine am_callV1 cx [.inl x1] dX12_layings_19 cvX12_354 (mt12_isNet q8) (am_ke q5) ⟨rfl, rfl, Nat.le_of_ble_eq_true rfl, Nat.le_of_ble_eq_true rfl⟩ rfl (Nat.le_of_ble_eq_true rfl) ⟨Nat.le_of_ble_eq_true rfl, Nat.le_of_ble_eq_true rfl⟩ ?_
    refine am_if_eq cx (tgt := 34) dX12_layings_22 (by decide) (fun h => ?_) (fun h => ?_)
    · have hres := am_ifp h hres
      refine am_bipush cx (v := (-2 : Int32)) dX12_layings_34 (by decide) ?_
      refine am_sub cx [] rfl ?_
      exact sn12_layings_b36 cx  hres
    · have hres := am_ifn h hres
      refine am_aload_n cx 0 dX12_layings_25 rfl ?_
      obtain ⟨q9, hres⟩ := am_ck_some hres
      refine am_getR cx dX12_layings_26 flX12_58 (am_ke q9) ?_
      refine am_iload_n cx 1 dX12_layings_29 rfl ?_
      obtain ⟨q10, hres⟩ := am_ck_some hres
      obtain ⟨q11, hres⟩ := am_ck_some hres
      refine am_iald cx dX12_layings_30 (am_ke q10) q11 ?_
      refine am_goto cx (tgt := 36) dX12_layings_31 (by decide) ?_
      refine am_sub cx [] rfl ?_
      exact sn12_layings_b36 cx  hres
  · have hres := am_ifp h hres
    refine am_iconst cx (v := (-1 : Int32)) dX12_layings_13 (by decide) ?_
    refine am_goto cx (tgt := 36) dX12_layings_14 (by decide) ?_
    refine am_sub cx [] rfl ?_
    exact sn12_layings_b36 cx  hres
set_option maxRecDepth 20000 in
theorem mt12_layings {l : Launch} {v : Int32} {M M' : am_Mem} {r0 : Nat} {x1 : Int32} (h : fn12_layings M r0 x1 = some (v, M')) : am_Met l yX12_layings cX12_layings 2 (some .int) rm12_layings 0 0 [.inr (.inr (.inl r0)), .inl x1] M (some (.inl v)) M' := am_mk (by decide) (Nat.le_of_ble_eq_true rfl) (fun G cx => (sn12_layings_b0 cx h))
-- SquareCutsModel.drops
def fn12_drops_b2B (N : Nat) (k2 : Nat → Int32 → am_Mem → Option (Unit × am_Mem)) (r0 : Nat) (x2 : Int32) (M : am_Mem) : Option (Unit × am_Mem) :=
  am_ck (am_k M r0 12) (if (am_I M r0 47) ≤ (x2 + (1 : Int32)) then some ((), (am_wI M r0 47 ((am_I M r0 47) - (1 : Int32)))) else am_ck (am_k M (am_R M r0 43) 14) (am_ck (am_in (x2 + (1 : Int32)) (am_L M (am_R M r0 43))) (am_ck (am_in x2 (am_L M (am_R M r0 43))) (am_ck (am_k M (am_R M r0 44) 14) (am_ck (am_in (x2 + (1 : Int32)) (am_L M (am_R M r0 44))) (am_ck (am_in x2 (am_L M (am_R M r0 44))) (am_ck (am_k M (am_R M r0 45) 14) (am_ck (am_in (x2 + (1 : Int32)) (am_L M (am_R M r0 45))) (am_ck (am_in x2 (am_L M (am_R M r0 45))) (am_ck (am_k M (am_R M r0 46) 14) (am_ck (am_in (x2 + (1 : Int32)) (am_L M (am_R M r0 46))) (am_ck (am_in x2 (am_L M (am_R M r0 46))) (k2 r0 (x2 + (1 : Int32)) (am_wI (am_wI (am_wI (am_wI M (am_R M r0 43) x2.toNatClampNeg (am_I M (am_R M r0 43) (x2 + (1 : Int32)).toNatClampNeg)) (am_R M r0 44) x2.toNatClampNeg (am_I (am_wI M (am_R M r0 43) x2.toNatClampNeg (am_I M (am_R M r0 43) (x2 + (1 : Int32)).toNatClampNeg)) (am_R M r0 44) (x2 + (1 : Int32)).toNatClampNeg)) (am_R M r0 45) x2.toNatClampNeg (am_I (am_wI (am_wI M (am_R M r0 43) x2.toNatClampNeg (am_I M (am_R M r0 43) (x2 + (1 : Int32)).toNatClampNeg)) (am_R M r0 44) x2.toNatClampNeg (am_I (am_wI M (am_R M r0 43) x2.toNatClampNeg (am_I M (am_R M r0 43) (x2 + (1 : Int32)).toNatClampNeg)) (am_R M r0 44) (x2 + (1 : Int32)).toNatClampNeg)) (am_R M r0 45) (x2 + (1 : Int32)).toNatClampNeg)) (am_R M r0 46) x2.toNatClampNeg (am_I (am_wI (am_wI (am_wI M (am_R M r0 43) x2.toNatClampNeg (am_I M (am_R M r0 43) (x2 + (1 : Int32)).toNatClampNeg)) (am_R M r0 44) x2.toNatClampNeg (am_I (am_wI M (am_R M r0 43) x2.toNatClampNeg (am_I M (am_R M r0 43) (x2 + (1 : Int32)).toNatClampNeg)) (am_R M r0 44) (x2 + (1 : Int32)).toNatClampNeg)) (am_R M r0 45) x2.toNatClampNeg (am_I (am_wI (am_wI M (am_R M r0 43) x2.toNatClampNeg (am_I M (am_R M r0 43) (x2 + (1 : Int32)).toNatClampNeg)) (am_R M r0 44) x2.toNatClampNeg (am_I (am_wI M (am_R M r0 43) x2.toNatClampNeg (am_I M (am_R M r0 43) (x2 + (1 : Int32)).toNatClampNeg)) (am_R M r0 44) (x2 + (1 : Int32)).toNatClampNeg)) (am_R M r0 45) (x2 + (1 : Int32)).toNatClampNeg)) (am_R M r0 46) (x2 + (1 : Int32)).toNatClampNeg)))))))))))))))
def fn12_drops_b2 (N : Nat)  : Nat → Nat → Int32 → am_Mem → Option (Unit × am_Mem)
  | 0 => fun _ _ _ => none
  | i + 1 => fn12_drops_b2B N (fn12_drops_b2 N  i)
def fn12_drops_b0 (N : Nat)  (r0 : Nat) (x1 : Int32) (M : am_Mem) : Option (Unit × am_Mem) :=
  fn12_drops_b2 N  N r0 x1 M
def fn12_drops (N : Nat) (M : am_Mem) (r0 : Nat) (x1 : Int32) : Option (Unit × am_Mem) := fn12_drops_b0 N r0 x1 M
def rm12_drops : Room := { frames := 0, cells := 0, slots := 0, locals := 0 }
set_option maxRecDepth 20000 in
theorem sn12_drops_b2B {l : Launch} {G : am_G} {M' : am_Mem} {N : Nat} {k2 : Nat → Int32 → am_Mem → Option (Unit × am_Mem)} (cx : am_Ctx l rm12_drops yX12_drops cX12_drops 3 none none M' 0 0 G) (hk2 : ∀ (r0 : Nat) (x2 : Int32) (M : am_Mem), k2 r0 x2 M = some ((), M') → G 2 [(0, .inr (.inr (.inl r0))), (2, .inl x2)] [] M 0 0) {r0 : Nat} {x2 : Int32} {M : am_Mem} (hres : fn12_drops_b2B N k2 r0 x2 M = some ((), M')) : G 2 [(0, .inr (.inr (.inl r0))), (2, .inl x2)] [] M 0 0 := by
  unfold fn12_drops_b2B at hres
  refine am_iload_n cx 1 dX12_drops_2 rfl ?_
  refine am_iconst cx (v := (1 : Int32)) dX12_drops_3 (by decide) ?_
  refine am_iadd cx dX12_drops_4 ?_
  refine am_aload_n cx 0 dX12_drops_5 rfl ?_
  obtain ⟨q1, hres⟩ := am_ck_some hres
  refine am_getI cx dX12_drops_6 flX12_360 (am_ke q1) ?_
  refine am_icmp_ge cx (tgt := 74) dX12_drops_9 (by decide) (fun h => ?_) (fun h => ?_)
  · have hres := am_ifp h hres
    refine am_aload_n cx 0 dX12_drops_74 rfl ?_
    refine am_dup cx dX12_drops_75 rfl ?_
    refine am_getI cx dX12_drops_76 flX12_360 (am_ke q1) ?_
    refine am_iconst cx (v := (1 : Int32)) dX12_drops_79 (by decide) ?_
    refine am_isub cx dX12_drops_80 ?_
    refine am_putI cx dX12_drops_81 fpX12_360 (fun h => by cases h) (am_ke q1) ?_
    obtain ⟨-, rfl⟩ := am_fin hres
    exact am_vret cx dX12_drops_84
  · have hres := am_ifn h hres
    refine am_aload_n cx 0 dX12_drops_12 rfl ?_
    refine am_getR cx dX12_drops_13 flX12_88 (am_ke q1) ?_
    refine am_iload_n cx 1 dX12_drops_16 rfl ?_
    refine am_aload_n cx 0 dX12_drops_17 rfl ?_
    refine am_getR cx dX12_drops_18 flX12_88 (am_ke q1) ?_
    refine am_iload_n cx 1 dX12_drops_21 rfl ?_
    refine am_iconst cx (v := (1 : Int32)) dX12_drops_22 (by decide) ?_
    refine am_iadd cx dX12_drops_23 ?_
    obtain ⟨q2, hres⟩ := am_ck_some hres
    obtain ⟨q3, hres⟩ := am_ck_some hres
    refine am_iald cx dX12_drops_24 (am_ke q2) q3 ?_
    obtain ⟨q4, hres⟩ := am_ck_some hres
    refine am_iast cx dX12_drops_25 (am_ke q2) q4  ?_
    refine am_aload_n cx 0 dX12_drops_26 rfl ?_
    refine am_getR cx dX12_drops_27 flX12_91 (am_ke q1) ?_
    refine am_iload_n cx 1 dX12_drops_30 rfl ?_
    refine am_aload_n cx 0 dX12_drops_31 rfl ?_
    refine am_getR cx dX12_drops_32 flX12_91 (am_ke q1) ?_
    refine am_iload_n cx 1 dX12_drops_35 rfl ?_
    refine am_iconst cx (v := (1 : Int32)) dX12_drops_36 (by decide) ?_
    refine am_iadd cx dX12_drops_37 ?_
    obtain ⟨q5, hres⟩ := am_ck_some hres
    obtain ⟨q6, hres⟩ := am_ck_some hres
    refine am_iald cx dX12_drops_38 (am_ke q5) q6 ?_
    obtain ⟨q7, hres⟩ := am_ck_some hres
    refine am_iast cx dX12_drops_39 (am_ke q5) q7  ?_
    refine am_aload_n cx 0 dX12_drops_40 rfl ?_
    refine am_getR cx dX12_drops_41 flX12_94 (am_ke q1) ?_
    refine am_iload_n cx 1 dX12_drops_44 rfl ?_
    refine am_aload_n cx 0 dX12_drops_45 rfl ?_
    refine am_getR cx dX12_drops_46 flX12_94 (am_ke q1) ?_
    refine am_iload_n cx 1 dX12_drops_49 rfl ?_
    refine am_iconst cx (v := (1 : Int32)) dX12_drops_50 (by decide) ?_
    refine am_iadd cx dX12_drops_51 ?_
    obtain ⟨q8, hres⟩ := am_ck_some hres
    obtain ⟨q9, hres⟩ := am_ck_some hres
    refine am_iald cx dX12_drops_52 (am_ke q8) q9 ?_
    obtain ⟨q10, hres⟩ := am_ck_some hres
    refine am_iast cx dX12_drops_53 (am_ke q8) q10  ?_
    refine am_aload_n cx 0 dX12_drops_54 rfl ?_
    refine am_getR cx dX12_drops_55 flX12_97 (am_ke q1) ?_
    refine am_iload_n cx 1 dX12_drops_58 rfl ?_
    refine am_aload_n cx 0 dX12_drops_59 rfl ?_
    refine am_getR cx dX12_drops_60 flX12_97 (am_ke q1) ?_
    refine am_iload_n cx 1 dX12_drops_63 rfl ?_
    refine am_iconst cx (v := (1 : Int32)) dX12_drops_64 (by decide) ?_
    refine am_iadd cx dX12_drops_65 ?_
    obtain ⟨q11, hres⟩ := am_ck_some hres
    obtain ⟨q12, hres⟩ := am_ck_some hres
    refine am_iald cx dX12_drops_66 (am_ke q11) q12 ?_
    obtain ⟨q13, hres⟩ := am_ck_some hres
    refine am_iast cx dX12_drops_67 (am_ke q11) q13  ?_
    refine am_iincw cx (lv' := [(0, .inr (.inr (.inl r0))), (2, .inl (x2 + (1 : Int32)))]) (w := (1 : Int32)) 1 dX12_drops_68 (by decide) rfl (Nat.le_of_ble_eq_true rfl) rfl ?_
    refine am_goto cx (tgt := 2) dX12_drops_71 (by decide) ?_
    exact hk2 _ _ _ hres
set_option maxRecDepth 20000 in
theorem sn12_drops_b2 {l : Launch} {G : am_G} {M' : am_Mem} {N : Nat}  (cx : am_Ctx l rm12_drops yX12_drops cX12_drops 3 none none M' 0 0 G)  (i : Nat) : ∀ (r0 : Nat) (x2 : Int32) (M : am_Mem), fn12_drops_b2 N  i r0 x2 M = some ((), M') → G 2 [(0, .inr (.inr (.inl r0))), (2, .inl x2)] [] M 0 0 := by
  induction i with
  | zero => intro r0 x2 M hres; exact am_no hres
  | succ i ih => intro r0 x2 M hres; exact sn12_drops_b2B cx ih hres
set_option maxRecDepth 20000 in
theorem sn12_drops_b0 {l : Launch} {G : am_G} {M' : am_Mem} {N : Nat}  (cx : am_Ctx l rm12_drops yX12_drops cX12_drops 3 none none M' 0 0 G)  {r0 : Nat} {x1 : Int32} {M : am_Mem} (hres : fn12_drops_b0 N  r0 x1 M = some ((), M')) : G 0 [(0, .inr (.inr (.inl r0))), (1, .inl x1)] [] M 0 0 := by
  unfold fn12_drops_b0 at hres
  refine am_iload_n cx 1 dX12_drops_0 rfl ?_
  refine am_istore_n cx (lv' := [(0, .inr (.inr (.inl r0))), (1, .inl x1), (2, .inl x1)]) dX12_drops_1 (Nat.le_of_ble_eq_true rfl) rfl ?_
  refine am_sub cx [0, 2] rfl ?_
  exact sn12_drops_b2 cx  N _ _ _ hres
set_option maxRecDepth 20000 in
theorem mt12_drops {l : Launch} {M M' : am_Mem} {N : Nat} {r0 : Nat} {x1 : Int32} (h : fn12_drops N M r0 x1 = some ((), M')) : am_Met l yX12_drops cX12_drops 3 none rm12_drops 0 0 [.inr (.inr (.inl r0)), .inl x1] M none M' := am_mk (by decide) (Nat.le_of_ble_eq_true rfl) (fun G cx => (sn12_drops_b0 cx h))
-- SquareCutsModel.comes
def fn12_comes_b260 (N : Nat)  (r0 : Nat) (x1 : Int32) (x5 : Int32) (x6 : Int32) (x7 : Int32) (x9 : Int32) (M : am_Mem) : Option (Unit × am_Mem) :=
  am_ck (am_k M r0 12) (am_ck (am_k M (am_R M r0 43) 14) (am_ck (am_in x9 (am_L M (am_R M r0 43))) (am_ck (am_k M (am_R M r0 44) 14) (am_ck (am_in x9 (am_L M (am_R M r0 44))) (am_ck (am_k M (am_R M r0 45) 14) (am_ck (am_in x9 (am_L M (am_R M r0 45))) (am_ck (am_k M (am_R M r0 46) 14) (am_ck (am_in x9 (am_L M (am_R M r0 46))) (some ((), (am_wI (am_wI (am_wI (am_wI (am_wI M (am_R M r0 43) x9.toNatClampNeg x1) (am_R M r0 44) x9.toNatClampNeg x5) (am_R M r0 45) x9.toNatClampNeg x6) (am_R M r0 46) x9.toNatClampNeg x7) r0 47 ((am_I (am_wI (am_wI (am_wI (am_wI M (am_R M r0 43) x9.toNatClampNeg x1) (am_R M r0 44) x9.toNatClampNeg x5) (am_R M r0 45) x9.toNatClampNeg x6) (am_R M r0 46) x9.toNatClampNeg x7) r0 47) + (1 : Int32)))))))))))))
def fn12_comes_b190 (N : Nat) (k145 : Nat → Int32 → Int32 → Int32 → Int32 → Int32 → am_Mem → Option (Unit × am_Mem)) (r0 : Nat) (x1 : Int32) (x5 : Int32) (x6 : Int32) (x7 : Int32) (x9 : Int32) (M : am_Mem) : Option (Unit × am_Mem) :=
  am_ck (am_k M r0 12) (am_ck (am_k M (am_R M r0 43) 14) (am_ck (am_in (x9 - (1 : Int32)) (am_L M (am_R M r0 43))) (am_ck (am_in x9 (am_L M (am_R M r0 43))) (am_ck (am_k M (am_R M r0 44) 14) (am_ck (am_in (x9 - (1 : Int32)) (am_L M (am_R M r0 44))) (am_ck (am_in x9 (am_L M (am_R M r0 44))) (am_ck (am_k M (am_R M r0 45) 14) (am_ck (am_in (x9 - (1 : Int32)) (am_L M (am_R M r0 45))) (am_ck (am_in x9 (am_L M (am_R M r0 45))) (am_ck (am_k M (am_R M r0 46) 14) (am_ck (am_in (x9 - (1 : Int32)) (am_L M (am_R M r0 46))) (am_ck (am_in x9 (am_L M (am_R M r0 46))) (k145 r0 x1 x5 x6 x7 (x9 + (-1 : Int32)) (am_wI (am_wI (am_wI (am_wI M (am_R M r0 43) x9.toNatClampNeg (am_I M (am_R M r0 43) (x9 - (1 : Int32)).toNatClampNeg)) (am_R M r0 44) x9.toNatClampNeg (am_I (am_wI M (am_R M r0 43) x9.toNatClampNeg (am_I M (am_R M r0 43) (x9 - (1 : Int32)).toNatClampNeg)) (am_R M r0 44) (x9 - (1 : Int32)).toNatClampNeg)) (am_R M r0 45) x9.toNatClampNeg (am_I (am_wI (am_wI M (am_R M r0 43) x9.toNatClampNeg (am_I M (am_R M r0 43) (x9 - (1 : Int32)).toNatClampNeg)) (am_R M r0 44) x9.toNatClampNeg (am_I (am_wI M (am_R M r0 43) x9.toNatClampNeg (am_I M (am_R M r0 43) (x9 - (1 : Int32)).toNatClampNeg)) (am_R M r0 44) (x9 - (1 : Int32)).toNatClampNeg)) (am_R M r0 45) (x9 - (1 : Int32)).toNatClampNeg)) (am_R M r0 46) x9.toNatClampNeg (am_I (am_wI (am_wI (am_wI M (am_R M r0 43) x9.toNatClampNeg (am_I M (am_R M r0 43) (x9 - (1 : Int32)).toNatClampNeg)) (am_R M r0 44) x9.toNatClampNeg (am_I (am_wI M (am_R M r0 43) x9.toNatClampNeg (am_I M (am_R M r0 43) (x9 - (1 : Int32)).toNatClampNeg)) (am_R M r0 44) (x9 - (1 : Int32)).toNatClampNeg)) (am_R M r0 45) x9.toNatClampNeg (am_I (am_wI (am_wI M (am_R M r0 43) x9.toNatClampNeg (am_I M (am_R M r0 43) (x9 - (1 : Int32)).toNatClampNeg)) (am_R M r0 44) x9.toNatClampNeg (am_I (am_wI M (am_R M r0 43) x9.toNatClampNeg (am_I M (am_R M r0 43) (x9 - (1 : Int32)).toNatClampNeg)) (am_R M r0 44) (x9 - (1 : Int32)).toNatClampNeg)) (am_R M r0 45) (x9 - (1 : Int32)).toNatClampNeg)) (am_R M r0 46) (x9 - (1 : Int32)).toNatClampNeg)))))))))))))))
def fn12_comes_b145B (N : Nat) (k145 : Nat → Int32 → Int32 → Int32 → Int32 → Int32 → am_Mem → Option (Unit × am_Mem)) (r0 : Nat) (x1 : Int32) (x5 : Int32) (x6 : Int32) (x7 : Int32) (x9 : Int32) (M : am_Mem) : Option (Unit × am_Mem) :=
  if x9 ≤ 0 then fn12_comes_b260 N  r0 x1 x5 x6 x7 x9 M else am_ck (am_k M r0 12) (am_ck (am_k M (am_R M r0 43) 14) (am_ck (am_in (x9 - (1 : Int32)) (am_L M (am_R M r0 43))) (if x1 < (am_I M (am_R M r0 43) (x9 - (1 : Int32)).toNatClampNeg) then fn12_comes_b190 N k145 r0 x1 x5 x6 x7 x9 M else am_ck (am_in (x9 - (1 : Int32)) (am_L M (am_R M r0 43))) (if (am_I M (am_R M r0 43) (x9 - (1 : Int32)).toNatClampNeg) = x1 then am_ck (am_k M (am_R M r0 44) 14) (am_ck (am_in (x9 - (1 : Int32)) (am_L M (am_R M r0 44))) (if (am_I M (am_R M r0 44) (x9 - (1 : Int32)).toNatClampNeg) ≤ x5 then fn12_comes_b260 N  r0 x1 x5 x6 x7 x9 M else fn12_comes_b190 N k145 r0 x1 x5 x6 x7 x9 M)) else fn12_comes_b260 N  r0 x1 x5 x6 x7 x9 M))))
def fn12_comes_b145 (N : Nat)  : Nat → Nat → Int32 → Int32 → Int32 → Int32 → Int32 → am_Mem → Option (Unit × am_Mem)
  | 0 => fun _ _ _ _ _ _ _ => none
  | i + 1 => fn12_comes_b145B N (fn12_comes_b145 N  i)
def fn12_comes_b57 (N : Nat) (k13 : Nat → Int32 → Int32 → Int32 → Int32 → Int32 → am_Mem → Option (Unit × am_Mem)) (r0 : Nat) (x1 : Int32) (x5 : Int32) (x6 : Int32) (x7 : Int32) (x8 : Int32) (M : am_Mem) : Option (Unit × am_Mem) :=
  k13 r0 x1 x5 x6 x7 (x8 + (1 : Int32)) M
def fn12_comes_b127 (N : Nat) (k13 : Nat → Int32 → Int32 → Int32 → Int32 → Int32 → am_Mem → Option (Unit × am_Mem)) (r0 : Nat) (x1 : Int32) (x5 : Int32) (x6 : Int32) (x7 : Int32) (x8 : Int32) (M : am_Mem) : Option (Unit × am_Mem) :=
  am_ck (am_k M r0 12) (am_bd (fn12_drops N M r0 x8) (fun v2 M3 => k13 r0 x1 x5 x6 x7 (0 : Int32) M3))
def fn12_comes_b113 (N : Nat) (k13 : Nat → Int32 → Int32 → Int32 → Int32 → Int32 → am_Mem → Option (Unit × am_Mem)) (a0 : Int32) (r0 : Nat) (x1 : Int32) (x5 : Int32) (x7 : Int32) (x8 : Int32) (M : am_Mem) : Option (Unit × am_Mem) :=
  am_ck (am_k M r0 12) (am_ck (am_k M (am_R M r0 46) 14) (am_ck (am_in x8 (am_L M (am_R M r0 46))) (fn12_comes_b127 N k13 r0 x1 x5 a0 (x7 + (am_I M (am_R M r0 46) x8.toNatClampNeg)) x8 M)))
def fn12_comes_b87 (N : Nat) (k13 : Nat → Int32 → Int32 → Int32 → Int32 → Int32 → am_Mem → Option (Unit × am_Mem)) (a0 : Int32) (r0 : Nat) (x1 : Int32) (x6 : Int32) (x7 : Int32) (x8 : Int32) (M : am_Mem) : Option (Unit × am_Mem) :=
  am_ck (am_k M r0 12) (am_ck (am_k M (am_R M r0 45) 14) (am_ck (am_in x8 (am_L M (am_R M r0 45))) (if (am_I M (am_R M r0 45) x8.toNatClampNeg) ≤ x6 then fn12_comes_b113 N k13 x6 r0 x1 a0 x7 x8 M else am_ck (am_in x8 (am_L M (am_R M r0 45))) (fn12_comes_b113 N k13 (am_I M (am_R M r0 45) x8.toNatClampNeg) r0 x1 a0 x7 x8 M))))
def fn12_comes_b13B (N : Nat) (k13 : Nat → Int32 → Int32 → Int32 → Int32 → Int32 → am_Mem → Option (Unit × am_Mem)) (r0 : Nat) (x1 : Int32) (x5 : Int32) (x6 : Int32) (x7 : Int32) (x8 : Int32) (M : am_Mem) : Option (Unit × am_Mem) :=
  am_ck (am_k M r0 12) (if (am_I M r0 47) ≤ x8 then fn12_comes_b145 N  N r0 x1 x5 x6 x7 (am_I M r0 47) M else am_ck (am_k M (am_R M r0 43) 14) (am_ck (am_in x8 (am_L M (am_R M r0 43))) (if (am_I M (am_R M r0 43) x8.toNatClampNeg) = x1 then am_ck (am_k M (am_R M r0 45) 14) (am_ck (am_in x8 (am_L M (am_R M r0 45))) (if (am_I M (am_R M r0 45) x8.toNatClampNeg) < x5 then fn12_comes_b57 N k13 r0 x1 x5 x6 x7 x8 M else am_ck (am_k M (am_R M r0 44) 14) (am_ck (am_in x8 (am_L M (am_R M r0 44))) (if (am_I M (am_R M r0 44) x8.toNatClampNeg) ≤ x6 then am_ck (am_in x8 (am_L M (am_R M r0 44))) (if x5 ≤ (am_I M (am_R M r0 44) x8.toNatClampNeg) then fn12_comes_b87 N k13 x5 r0 x1 x6 x7 x8 M else am_ck (am_in x8 (am_L M (am_R M r0 44))) (fn12_comes_b87 N k13 (am_I M (am_R M r0 44) x8.toNatClampNeg) r0 x1 x6 x7 x8 M)) else fn12_comes_b57 N k13 r0 x1 x5 x6 x7 x8 M)))) else fn12_comes_b57 N k13 r0 x1 x5 x6 x7 x8 M)))
def fn12_comes_b13 (N : Nat)  : Nat → Nat → Int32 → Int32 → Int32 → Int32 → Int32 → am_Mem → Option (Unit × am_Mem)
  | 0 => fun _ _ _ _ _ _ _ => none
  | i + 1 => fn12_comes_b13B N (fn12_comes_b13 N  i)
def fn12_comes_b0 (N : Nat)  (r0 : Nat) (x1 : Int32) (x2 : Int32) (x3 : Int32) (x4 : Int32) (M : am_Mem) : Option (Unit × am_Mem) :=
  fn12_comes_b13 N  N r0 x1 x2 x3 x4 (0 : Int32) M
def fn12_comes (N : Nat) (M : am_Mem) (r0 : Nat) (x1 : Int32) (x2 : Int32) (x3 : Int32) (x4 : Int32) : Option (Unit × am_Mem) := fn12_comes_b0 N r0 x1 x2 x3 x4 M
def rm12_comes : Room := { frames := 1, cells := 0, slots := 0, locals := 22 }
set_option maxRecDepth 20000 in
theorem sn12_comes_b260 {l : Launch} {G : am_G} {M' : am_Mem} {N : Nat}  (cx : am_Ctx l rm12_comes yX12_comes cX12_comes 10 none none M' 0 0 G)  {r0 : Nat} {x1 : Int32} {x5 : Int32} {x6 : Int32} {x7 : Int32} {x9 : Int32} {M : am_Mem} (hres : fn12_comes_b260 N  r0 x1 x5 x6 x7 x9 M = some ((), M')) : G 260 [(0, .inr (.inr (.inl r0))), (1, .inl x1), (5, .inl x5), (6, .inl x6), (7, .inl x7), (9, .inl x9)] [] M 0 0 := by
  unfold fn12_comes_b260 at hres
  refine am_aload_n cx 0 dX12_comes_260 rfl ?_
  obtain ⟨q1, hres⟩ := am_ck_some hres
  refine am_getR cx dX12_comes_261 flX12_88 (am_ke q1) ?_
  refine am_iload cx 5 dX12_comes_264 rfl ?_
  refine am_iload_n cx 1 dX12_comes_266 rfl ?_
  obtain ⟨q2, hres⟩ := am_ck_some hres
  obtain ⟨q3, hres⟩ := am_ck_some hres
  refine am_iast cx dX12_comes_267 (am_ke q2) q3  ?_
  refine am_aload_n cx 0 dX12_comes_268 rfl ?_
  refine am_getR cx dX12_comes_269 flX12_91 (am_ke q1) ?_
  refine am_iload cx 5 dX12_comes_272 rfl ?_
  refine am_iload cx 2 dX12_comes_274 rfl ?_
  obtain ⟨q4, hres⟩ := am_ck_some hres
  obtain ⟨q5, hres⟩ := am_ck_some hres
  refine am_iast cx dX12_comes_276 (am_ke q4) q5  ?_
  refine am_aload_n cx 0 dX12_comes_277 rfl ?_
  refine am_getR cx dX12_comes_278 flX12_94 (am_ke q1) ?_
  refine am_iload cx 5 dX12_comes_281 rfl ?_
  refine am_iload cx 3 dX12_comes_283 rfl ?_
  obtain ⟨q6, hres⟩ := am_ck_some hres
  obtain ⟨q7, hres⟩ := am_ck_some hres
  refine am_iast cx dX12_comes_285 (am_ke q6) q7  ?_
  refine am_aload_n cx 0 dX12_comes_286 rfl ?_
  refine am_getR cx dX12_comes_287 flX12_97 (am_ke q1) ?_
  refine am_iload cx 5 dX12_comes_290 rfl ?_
  refine am_iload cx 4 dX12_comes_292 rfl ?_
  obtain ⟨q8, hres⟩ := am_ck_some hres
  obtain ⟨q9, hres⟩ := am_ck_some hres
  refine am_iast cx dX12_comes_294 (am_ke q8) q9  ?_
  refine am_aload_n cx 0 dX12_comes_295 rfl ?_
  refine am_dup cx dX12_comes_296 rfl ?_
  refine am_getI cx dX12_comes_297 flX12_360 (am_ke q1) ?_
  refine am_iconst cx (v := (1 : Int32)) dX12_comes_300 (by decide) ?_
  refine am_iadd cx dX12_comes_301 ?_
  refine am_putI cx dX12_comes_302 fpX12_360 (fun h => by cases h) (am_ke q1) ?_
  obtain ⟨-, rfl⟩ := am_fin hres
  exact am_vret cx dX12_comes_305
set_option maxRecDepth 20000 in
theorem sn12_comes_b190 {l : Launch} {G : am_G} {M' : am_Mem} {N : Nat} {k145 : Nat → Int32 → Int32 → Int32 → Int32 → Int32 → am_Mem → Option (Unit × am_Mem)} (cx : am_Ctx l rm12_comes yX12_comes cX12_comes 10 none none M' 0 0 G) (hk145 : ∀ (r0 : Nat) (x1 : Int32) (x5 : Int32) (x6 : Int32) (x7 : Int32) (x9 : Int32) (M : am_Mem), k145 r0 x1 x5 x6 x7 x9 M = some ((), M') → G 145 [(0, .inr (.inr (.inl r0))), (1, .inl x1), (5, .inl x5), (6, .inl x6), (7, .inl x7), (9, .inl x9)] [] M 0 0) {r0 : Nat} {x1 : Int32} {x5 : Int32} {x6 : Int32} {x7 : Int32} {x9 : Int32} {M : am_Mem} (hres : fn12_comes_b190 N k145 r0 x1 x5 x6 x7 x9 M = some ((), M')) : G 190 [(0, .inr (.inr (.inl r0))), (1, .inl x1), (5, .inl x5), (6, .inl x6), (7, .inl x7), (9, .inl x9)] [] M 0 0 := by
  unfold fn12_comes_b190 at hres
  refine am_aload_n cx 0 dX12_comes_190 rfl ?_
  obtain ⟨q1, hres⟩ := am_ck_some hres
  refine am_getR cx dX12_comes_191 flX12_88 (am_ke q1) ?_
  refine am_iload cx 5 dX12_comes_194 rfl ?_
  refine am_aload_n cx 0 dX12_comes_196 rfl ?_
  refine am_getR cx dX12_comes_197 flX12_88 (am_ke q1) ?_
  refine am_iload cx 5 dX12_comes_200 rfl ?_
  refine am_iconst cx (v := (1 : Int32)) dX12_comes_202 (by decide) ?_
  refine am_isub cx dX12_comes_203 ?_
  obtain ⟨q2, hres⟩ := am_ck_some hres
  obtain ⟨q3, hres⟩ := am_ck_some hres
  refine am_iald cx dX12_comes_204 (am_ke q2) q3 ?_
  obtain ⟨q4, hres⟩ := am_ck_some hres
  refine am_iast cx dX12_comes_205 (am_ke q2) q4  ?_
  refine am_aload_n cx 0 dX12_comes_206 rfl ?_
  refine am_getR cx dX12_comes_207 flX12_91 (am_ke q1) ?_
  refine am_iload cx 5 dX12_comes_210 rfl ?_
  refine am_aload_n cx 0 dX12_comes_212 rfl ?_
  refine am_getR cx dX12_comes_213 flX12_91 (am_ke q1) ?_
  refine am_iload cx 5 dX12_comes_216 rfl ?_
  refine am_iconst cx (v := (1 : Int32)) dX12_comes_218 (by decide) ?_
  refine am_isub cx dX12_comes_219 ?_
  obtain ⟨q5, hres⟩ := am_ck_some hres
  obtain ⟨q6, hres⟩ := am_ck_some hres
  refine am_iald cx dX12_comes_220 (am_ke q5) q6 ?_
  obtain ⟨q7, hres⟩ := am_ck_some hres
  refine am_iast cx dX12_comes_221 (am_ke q5) q7  ?_
  refine am_aload_n cx 0 dX12_comes_222 rfl ?_
  refine am_getR cx dX12_comes_223 flX12_94 (am_ke q1) ?_
  refine am_iload cx 5 dX12_comes_226 rfl ?_
  refine am_aload_n cx 0 dX12_comes_228 rfl ?_
  refine am_getR cx dX12_comes_229 flX12_94 (am_ke q1) ?_
  refine am_iload cx 5 dX12_comes_232 rfl ?_
  refine am_iconst cx (v := (1 : Int32)) dX12_comes_234 (by decide) ?_
  refine am_isub cx dX12_comes_235 ?_
  obtain ⟨q8, hres⟩ := am_ck_some hres
  obtain ⟨q9, hres⟩ := am_ck_some hres
  refine am_iald cx dX12_comes_236 (am_ke q8) q9 ?_
  obtain ⟨q10, hres⟩ := am_ck_some hres
  refine am_iast cx dX12_comes_237 (am_ke q8) q10  ?_
  refine am_aload_n cx 0 dX12_comes_238 rfl ?_
  refine am_getR cx dX12_comes_239 flX12_97 (am_ke q1) ?_
  refine am_iload cx 5 dX12_comes_242 rfl ?_
  refine am_aload_n cx 0 dX12_comes_244 rfl ?_
  refine am_getR cx dX12_comes_245 flX12_97 (am_ke q1) ?_
  refine am_iload cx 5 dX12_comes_248 rfl ?_
  refine am_iconst cx (v := (1 : Int32)) dX12_comes_250 (by decide) ?_
  refine am_isub cx dX12_comes_251 ?_
  obtain ⟨q11, hres⟩ := am_ck_some hres
  obtain ⟨q12, hres⟩ := am_ck_some hres
  refine am_iald cx dX12_comes_252 (am_ke q11) q12 ?_
  obtain ⟨q13, hres⟩ := am_ck_some hres
  refine am_iast cx dX12_comes_253 (am_ke q11) q13  ?_
  refine am_iincw cx (lv' := [(0, .inr (.inr (.inl r0))), (1, .inl x1), (5, .inl x5), (6, .inl x6), (7, .inl x7), (9, .inl (x9 + (-1 : Int32)))]) (w := (-1 : Int32)) 5 dX12_comes_254 (by decide) rfl (Nat.le_of_ble_eq_true rfl) rfl ?_
  refine am_goto cx (tgt := 145) dX12_comes_257 (by decide) ?_
  exact hk145 _ _ _ _ _ _ _ hres
set_option maxRecDepth 20000 in
theorem sn12_comes_b145B {l : Launch} {G : am_G} {M' : am_Mem} {N : Nat} {k145 : Nat → Int32 → Int32 → Int32 → Int32 → Int32 → am_Mem → Option (Unit × am_Mem)} (cx : am_Ctx l rm12_comes yX12_comes cX12_comes 10 none none M' 0 0 G) (hk145 : ∀ (r0 : Nat) (x1 : Int32) (x5 : Int32) (x6 : Int32) (x7 : Int32) (x9 : Int32) (M : am_Mem), k145 r0 x1 x5 x6 x7 x9 M = some ((), M') → G 145 [(0, .inr (.inr (.inl r0))), (1, .inl x1), (5, .inl x5), (6, .inl x6), (7, .inl x7), (9, .inl x9)] [] M 0 0) {r0 : Nat} {x1 : Int32} {x5 : Int32} {x6 : Int32} {x7 : Int32} {x9 : Int32} {M : am_Mem} (hres : fn12_comes_b145B N k145 r0 x1 x5 x6 x7 x9 M = some ((), M')) : G 145 [(0, .inr (.inr (.inl r0))), (1, .inl x1), (5, .inl x5), (6, .inl x6), (7, .inl x7), (9, .inl x9)] [] M 0 0 := by
  unfold fn12_comes_b145B at hres
  refine am_iload cx 5 dX12_comes_145 rfl ?_
  refine am_if_le cx (tgt := 260) dX12_comes_147 (by decide) (fun h => ?_) (fun h => ?_)
  · have hres := am_ifp h hres
    exact sn12_comes_b260 cx  hres
  · have hres := am_ifn h hres
    refine am_aload_n cx 0 dX12_comes_150 rfl ?_
    obtain ⟨q1, hres⟩ := am_ck_some hres
    refine am_getR cx dX12_comes_151 flX12_88 (am_ke q1) ?_
    refine am_iload cx 5 dX12_comes_154 rfl ?_
    refine am_iconst cx (v := (1 : Int32)) dX12_comes_156 (by decide) ?_
    refine am_isub cx dX12_comes_157 ?_
    obtain ⟨q2, hres⟩ := am_ck_some hres
    obtain ⟨q3, hres⟩ := am_ck_some hres
    refine am_iald cx dX12_comes_158 (am_ke q2) q3 ?_
    refine am_iload_n cx 1 dX12_comes_159 rfl ?_
    refine am_icmp_gt cx (tgt := 190) dX12_comes_160 (by decide) (fun h => ?_) (fun h => ?_)
    · have hres := am_ifp h hres
      exact sn12_comes_b190 cx hk145 hres
    · have hres := am_ifn h hres
      refine am_aload_n cx 0 dX12_comes_163 rfl ?_
      refine am_getR cx dX12_comes_164 flX12_88 (am_ke q1) ?_
      refine am_iload cx 5 dX12_comes_167 rfl ?_
      refine am_iconst cx (v := (1 : Int32)) dX12_comes_169 (by decide) ?_
      refine am_isub cx dX12_comes_170 ?_
      obtain ⟨q4, hres⟩ := am_ck_some hres
      refine am_iald cx dX12_comes_171 (am_ke q2) q4 ?_
      refine am_iload_n cx 1 dX12_comes_172 rfl ?_
      refine am_icmp_ne cx (tgt := 260) dX12_comes_173 (by decide) (fun h => ?_) (fun h => ?_)
      · have hres := am_ifn h hres
        exact sn12_comes_b260 cx  hres
      · have hres := am_ifp h hres
        refine am_aload_n cx 0 dX12_comes_176 rfl ?_
        refine am_getR cx dX12_comes_177 flX12_91 (am_ke q1) ?_
        refine am_iload cx 5 dX12_comes_180 rfl ?_
        refine am_iconst cx (v := (1 : Int32)) dX12_comes_182 (by decide) ?_
        refine am_isub cx dX12_comes_183 ?_
        obtain ⟨q5, hres⟩ := am_ck_some hres
        obtain ⟨q6, hres⟩ := am_ck_some hres
        refine am_iald cx dX12_comes_184 (am_ke q5) q6 ?_
        refine am_iload cx 2 dX12_comes_185 rfl ?_
        refine am_icmp_le cx (tgt := 260) dX12_comes_187 (by decide) (fun h => ?_) (fun h => ?_)
        · have hres := am_ifp h hres
          exact sn12_comes_b260 cx  hres
        · have hres := am_ifn h hres
          exact sn12_comes_b190 cx hk145 hres
set_option maxRecDepth 20000 in
theorem sn12_comes_b145 {l : Launch} {G : am_G} {M' : am_Mem} {N : Nat}  (cx : am_Ctx l rm12_comes yX12_comes cX12_comes 10 none none M' 0 0 G)  (i : Nat) : ∀ (r0 : Nat) (x1 : Int32) (x5 : Int32) (x6 : Int32) (x7 : Int32) (x9 : Int32) (M : am_Mem), fn12_comes_b145 N  i r0 x1 x5 x6 x7 x9 M = some ((), M') → G 145 [(0, .inr (.inr (.inl r0))), (1, .inl x1), (5, .inl x5), (6, .inl x6), (7, .inl x7), (9, .inl x9)] [] M 0 0 := by
  induction i with
  | zero => intro r0 x1 x5 x6 x7 x9 M hres; exact am_no hres
  | succ i ih => intro r0 x1 x5 x6 x7 x9 M hres; exact sn12_comes_b145B cx ih hres
set_option maxRecDepth 20000 in
theorem sn12_comes_b57 {l : Launch} {G : am_G} {M' : am_Mem} {N : Nat} {k13 : Nat → Int32 → Int32 → Int32 → Int32 → Int32 → am_Mem → Option (Unit × am_Mem)} (cx : am_Ctx l rm12_comes yX12_comes cX12_comes 10 none none M' 0 0 G) (hk13 : ∀ (r0 : Nat) (x1 : Int32) (x5 : Int32) (x6 : Int32) (x7 : Int32) (x8 : Int32) (M : am_Mem), k13 r0 x1 x5 x6 x7 x8 M = some ((), M') → G 13 [(0, .inr (.inr (.inl r0))), (1, .inl x1), (5, .inl x5), (6, .inl x6), (7, .inl x7), (8, .inl x8)] [] M 0 0) {r0 : Nat} {x1 : Int32} {x5 : Int32} {x6 : Int32} {x7 : Int32} {x8 : Int32} {M : am_Mem} (hres : fn12_comes_b57 N k13 r0 x1 x5 x6 x7 x8 M = some ((), M')) : G 57 [(0, .inr (.inr (.inl r0))), (1, .inl x1), (5, .inl x5), (6, .inl x6), (7, .inl x7), (8, .inl x8)] [] M 0 0 := by
  unfold fn12_comes_b57 at hres
  refine am_iincw cx (lv' := [(0, .inr (.inr (.inl r0))), (1, .inl x1), (5, .inl x5), (6, .inl x6), (7, .inl x7), (8, .inl (x8 + (1 : Int32)))]) (w := (1 : Int32)) 5 dX12_comes_57 (by decide) rfl (Nat.le_of_ble_eq_true rfl) rfl ?_
  refine am_goto cx (tgt := 13) dX12_comes_60 (by decide) ?_
  exact hk13 _ _ _ _ _ _ _ hres
set_option maxRecDepth 20000 in
theorem sn12_comes_b127 {l : Launch} {G : am_G} {M' : am_Mem} {N : Nat} {k13 : Nat → Int32 → Int32 → Int32 → Int32 → Int32 → am_Mem → Option (Unit × am_Mem)} (cx : am_Ctx l rm12_comes yX12_comes cX12_comes 10 none none M' 0 0 G) (hk13 : ∀ (r0 : Nat) (x1 : Int32) (x5 : Int32) (x6 : Int32) (x7 : Int32) (x8 : Int32) (M : am_Mem), k13 r0 x1 x5 x6 x7 x8 M = some ((), M') → G 13 [(0, .inr (.inr (.inl r0))), (1, .inl x1), (5, .inl x5), (6, .inl x6), (7, .inl x7), (8, .inl x8)] [] M 0 0) {r0 : Nat} {x1 : Int32} {x5 : Int32} {x6 : Int32} {x7 : Int32} {x8 : Int32} {M : am_Mem} (hres : fn12_comes_b127 N k13 r0 x1 x5 x6 x7 x8 M = some ((), M')) : G 127 [(0, .inr (.inr (.inl r0))), (1, .inl x1), (5, .inl x5), (6, .inl x6), (7, .inl x7), (8, .inl x8)] [] M 0 0 := by
  unfold fn12_comes_b127 at hres
  refine am_aload_n cx 0 dX12_comes_127 rfl ?_
  refine am_iload cx 5 dX12_comes_128 rfl ?_
  obtain ⟨q1, hres⟩ := am_ck_some hres
  obtain ⟨v2, M3, q4, hres⟩ := am_bd_some hres
  refine am_callV0 cx [.inl x8] dX12_comes_130 cvX12_363 (mt12_drops q4) (am_ke q1) ⟨rfl, rfl, Nat.le_of_ble_eq_true rfl, Nat.le_of_ble_eq_true rfl⟩ rfl (Nat.le_of_ble_eq_true rfl) ⟨Nat.le_of_ble_eq_true rfl, Nat.le_of_ble_eq_true rfl⟩ ?_
  refine am_iconst cx (v := (0 : Int32)) dX12_comes_133 (by decide) ?_
  refine am_istore cx (lv' := [(0, .inr (.inr (.inl r0))), (1, .inl x1), (5, .inl x5), (6, .inl x6), (7, .inl x7), (8, .inl (0 : Int32))]) dX12_comes_134 (Nat.le_of_ble_eq_true rfl) rfl ?_
  refine am_goto cx (tgt := 13) dX12_comes_136 (by decide) ?_
  exact hk13 _ _ _ _ _ _ _ hres
set_option maxRecDepth 20000 in
theorem sn12_comes_b113 {l : Launch} {G : am_G} {M' : am_Mem} {N : Nat} {k13 : Nat → Int32 → Int32 → Int32 → Int32 → Int32 → am_Mem → Option (Unit × am_Mem)} (cx : am_Ctx l rm12_comes yX12_comes cX12_comes 10 none none M' 0 0 G) (hk13 : ∀ (r0 : Nat) (x1 : Int32) (x5 : Int32) (x6 : Int32) (x7 : Int32) (x8 : Int32) (M : am_Mem), k13 r0 x1 x5 x6 x7 x8 M = some ((), M') → G 13 [(0, .inr (.inr (.inl r0))), (1, .inl x1), (5, .inl x5), (6, .inl x6), (7, .inl x7), (8, .inl x8)] [] M 0 0) {a0 : Int32} {r0 : Nat} {x1 : Int32} {x5 : Int32} {x7 : Int32} {x8 : Int32} {M : am_Mem} (hres : fn12_comes_b113 N k13 a0 r0 x1 x5 x7 x8 M = some ((), M')) : G 113 [(0, .inr (.inr (.inl r0))), (1, .inl x1), (5, .inl x5), (7, .inl x7), (8, .inl x8)] [.inl a0] M 0 0 := by
  unfold fn12_comes_b113 at hres
  refine am_istore cx (lv' := [(0, .inr (.inr (.inl r0))), (1, .inl x1), (5, .inl x5), (6, .inl a0), (7, .inl x7), (8, .inl x8)]) dX12_comes_113 (Nat.le_of_ble_eq_true rfl) rfl ?_
  refine am_iload cx 4 dX12_comes_115 rfl ?_
  refine am_aload_n cx 0 dX12_comes_117 rfl ?_
  obtain ⟨q1, hres⟩ := am_ck_some hres
  refine am_getR cx dX12_comes_118 flX12_97 (am_ke q1) ?_
  refine am_iload cx 5 dX12_comes_121 rfl ?_
  obtain ⟨q2, hres⟩ := am_ck_some hres
  obtain ⟨q3, hres⟩ := am_ck_some hres
  refine am_iald cx dX12_comes_123 (am_ke q2) q3 ?_
  refine am_iadd cx dX12_comes_124 ?_
  refine am_istore cx (lv' := [(0, .inr (.inr (.inl r0))), (1, .inl x1), (5, .inl x5), (6, .inl a0), (7, .inl (x7 + (am_I M (am_R M r0 46) x8.toNatClampNeg))), (8, .inl x8)]) dX12_comes_125 (Nat.le_of_ble_eq_true rfl) rfl ?_
  exact sn12_comes_b127 cx hk13 hres
set_option maxRecDepth 20000 in
theorem sn12_comes_b87 {l : Launch} {G : am_G} {M' : am_Mem} {N : Nat} {k13 : Nat → Int32 → Int32 → Int32 → Int32 → Int32 → am_Mem → Option (Unit × am_Mem)} (cx : am_Ctx l rm12_comes yX12_comes cX12_comes 10 none none M' 0 0 G) (hk13 : ∀ (r0 : Nat) (x1 : Int32) (x5 : Int32) (x6 : Int32) (x7 : Int32) (x8 : Int32) (M : am_Mem), k13 r0 x1 x5 x6 x7 x8 M = some ((), M') → G 13 [(0, .inr (.inr (.inl r0))), (1, .inl x1), (5, .inl x5), (6, .inl x6), (7, .inl x7), (8, .inl x8)] [] M 0 0) {a0 : Int32} {r0 : Nat} {x1 : Int32} {x6 : Int32} {x7 : Int32} {x8 : Int32} {M : am_Mem} (hres : fn12_comes_b87 N k13 a0 r0 x1 x6 x7 x8 M = some ((), M')) : G 87 [(0, .inr (.inr (.inl r0))), (1, .inl x1), (6, .inl x6), (7, .inl x7), (8, .inl x8)] [.inl a0] M 0 0 := by
  unfold fn12_comes_b87 at hres
  refine am_istore cx (lv' := [(0, .inr (.inr (.inl r0))), (1, .inl x1), (5, .inl a0), (6, .inl x6), (7, .inl x7), (8, .inl x8)]) dX12_comes_87 (Nat.le_of_ble_eq_true rfl) rfl ?_
  refine am_aload_n cx 0 dX12_comes_89 rfl ?_
  obtain ⟨q1, hres⟩ := am_ck_some hres
  refine am_getR cx dX12_comes_90 flX12_94 (am_ke q1) ?_
  refine am_iload cx 5 dX12_comes_93 rfl ?_
  obtain ⟨q2, hres⟩ := am_ck_some hres
  obtain ⟨q3, hres⟩ := am_ck_some hres
  refine am_iald cx dX12_comes_95 (am_ke q2) q3 ?_
  refine am_iload cx 3 dX12_comes_96 rfl ?_
  refine am_icmp_le cx (tgt := 111) dX12_comes_98 (by decide) (fun h => ?_) (fun h => ?_)
  · have hres := am_ifp h hres
    refine am_iload cx 3 dX12_comes_111 rfl ?_
    refine am_sub cx [0, 1, 2, 4, 5] rfl ?_
    exact sn12_comes_b113 cx hk13 hres
  · have hres := am_ifn h hres
    refine am_aload_n cx 0 dX12_comes_101 rfl ?_
    refine am_getR cx dX12_comes_102 flX12_94 (am_ke q1) ?_
    refine am_iload cx 5 dX12_comes_105 rfl ?_
    obtain ⟨q4, hres⟩ := am_ck_some hres
    refine am_iald cx dX12_comes_107 (am_ke q2) q4 ?_
    refine am_goto cx (tgt := 113) dX12_comes_108 (by decide) ?_
    refine am_sub cx [0, 1, 2, 4, 5] rfl ?_
    exact sn12_comes_b113 cx hk13 hres
set_option maxRecDepth 20000 in
theorem sn12_comes_b13B {l : Launch} {G : am_G} {M' : am_Mem} {N : Nat} {k13 : Nat → Int32 → Int32 → Int32 → Int32 → Int32 → am_Mem → Option (Unit × am_Mem)} (cx : am_Ctx l rm12_comes yX12_comes cX12_comes 10 none none M' 0 0 G) (hk13 : ∀ (r0 : Nat) (x1 : Int32) (x5 : Int32) (x6 : Int32) (x7 : Int32) (x8 : Int32) (M : am_Mem), k13 r0 x1 x5 x6 x7 x8 M = some ((), M') → G 13 [(0, .inr (.inr (.inl r0))), (1, .inl x1), (5, .inl x5), (6, .inl x6), (7, .inl x7), (8, .inl x8)] [] M 0 0) {r0 : Nat} {x1 : Int32} {x5 : Int32} {x6 : Int32} {x7 : Int32} {x8 : Int32} {M : am_Mem} (hres : fn12_comes_b13B N k13 r0 x1 x5 x6 x7 x8 M = some ((), M')) : G 13 [(0, .inr (.inr (.inl r0))), (1, .inl x1), (5, .inl x5), (6, .inl x6), (7, .inl x7), (8, .inl x8)] [] M 0 0 := by
  unfold fn12_comes_b13B at hres
  refine am_iload cx 5 dX12_comes_13 rfl ?_
  refine am_aload_n cx 0 dX12_comes_15 rfl ?_
  obtain ⟨q1, hres⟩ := am_ck_some hres
  refine am_getI cx dX12_comes_16 flX12_360 (am_ke q1) ?_
  refine am_icmp_ge cx (tgt := 139) dX12_comes_19 (by decide) (fun h => ?_) (fun h => ?_)
  · have hres := am_ifp h hres
    refine am_aload_n cx 0 dX12_comes_139 rfl ?_
    refine am_getI cx dX12_comes_140 flX12_360 (am_ke q1) ?_
    refine am_istore cx (lv' := [(0, .inr (.inr (.inl r0))), (1, .inl x1), (5, .inl x5), (6, .inl x6), (7, .inl x7), (8, .inl x8), (9, .inl (am_I M r0 47))]) dX12_comes_143 (Nat.le_of_ble_eq_true rfl) rfl ?_
    refine am_sub cx [0, 1, 2, 3, 4, 6] rfl ?_
    exact sn12_comes_b145 cx  N _ _ _ _ _ _ _ hres
  · have hres := am_ifn h hres
    refine am_aload_n cx 0 dX12_comes_22 rfl ?_
    refine am_getR cx dX12_comes_23 flX12_88 (am_ke q1) ?_
    refine am_iload cx 5 dX12_comes_26 rfl ?_
    obtain ⟨q2, hres⟩ := am_ck_some hres
    obtain ⟨q3, hres⟩ := am_ck_some hres
    refine am_iald cx dX12_comes_28 (am_ke q2) q3 ?_
    refine am_iload_n cx 1 dX12_comes_29 rfl ?_
    refine am_icmp_ne cx (tgt := 57) dX12_comes_30 (by decide) (fun h => ?_) (fun h => ?_)
    · have hres := am_ifn h hres
      exact sn12_comes_b57 cx hk13 hres
    · have hres := am_ifp h hres
      refine am_aload_n cx 0 dX12_comes_33 rfl ?_
      refine am_getR cx dX12_comes_34 flX12_94 (am_ke q1) ?_
      refine am_iload cx 5 dX12_comes_37 rfl ?_
      obtain ⟨q4, hres⟩ := am_ck_some hres
      obtain ⟨q5, hres⟩ := am_ck_some hres
      refine am_iald cx dX12_comes_39 (am_ke q4) q5 ?_
      refine am_iload cx 2 dX12_comes_40 rfl ?_
      refine am_icmp_lt cx (tgt := 57) dX12_comes_42 (by decide) (fun h => ?_) (fun h => ?_)
      · have hres := am_ifp h hres
        exact sn12_comes_b57 cx hk13 hres
      · have hres := am_ifn h hres
        refine am_aload_n cx 0 dX12_comes_45 rfl ?_
        refine am_getR cx dX12_comes_46 flX12_91 (am_ke q1) ?_
        refine am_iload cx 5 dX12_comes_49 rfl ?_
        obtain ⟨q6, hres⟩ := am_ck_some hres
        obtain ⟨q7, hres⟩ := am_ck_some hres
        refine am_iald cx dX12_comes_51 (am_ke q6) q7 ?_
        refine am_iload cx 3 dX12_comes_52 rfl ?_
        refine am_icmp_le cx (tgt := 63) dX12_comes_54 (by decide) (fun h => ?_) (fun h => ?_)
        · have hres := am_ifp h hres
          refine am_aload_n cx 0 dX12_comes_63 rfl ?_
          refine am_getR cx dX12_comes_64 flX12_91 (am_ke q1) ?_
          refine am_iload cx 5 dX12_comes_67 rfl ?_
          obtain ⟨q8, hres⟩ := am_ck_some hres
          refine am_iald cx dX12_comes_69 (am_ke q6) q8 ?_
          refine am_iload cx 2 dX12_comes_70 rfl ?_
          refine am_icmp_ge cx (tgt := 85) dX12_comes_72 (by decide) (fun h => ?_) (fun h => ?_)
          · have hres := am_ifp h hres
            refine am_iload cx 2 dX12_comes_85 rfl ?_
            refine am_sub cx [0, 1, 3, 4, 5] rfl ?_
            exact sn12_comes_b87 cx hk13 hres
          · have hres := am_ifn h hres
            refine am_aload_n cx 0 dX12_comes_75 rfl ?_
            refine am_getR cx dX12_comes_76 flX12_91 (am_ke q1) ?_
            refine am_iload cx 5 dX12_comes_79 rfl ?_
            obtain ⟨q9, hres⟩ := am_ck_some hres
            refine am_iald cx dX12_comes_81 (am_ke q6) q9 ?_
            refine am_goto cx (tgt := 87) dX12_comes_82 (by decide) ?_
            refine am_sub cx [0, 1, 3, 4, 5] rfl ?_
            exact sn12_comes_b87 cx hk13 hres
        · have hres := am_ifn h hres
          exact sn12_comes_b57 cx hk13 hres
set_option maxRecDepth 20000 in
theorem sn12_comes_b13 {l : Launch} {G : am_G} {M' : am_Mem} {N : Nat}  (cx : am_Ctx l rm12_comes yX12_comes cX12_comes 10 none none M' 0 0 G)  (i : Nat) : ∀ (r0 : Nat) (x1 : Int32) (x5 : Int32) (x6 : Int32) (x7 : Int32) (x8 : Int32) (M : am_Mem), fn12_comes_b13 N  i r0 x1 x5 x6 x7 x8 M = some ((), M') → G 13 [(0, .inr (.inr (.inl r0))), (1, .inl x1), (5, .inl x5), (6, .inl x6), (7, .inl x7), (8, .inl x8)] [] M 0 0 := by
  induction i with
  | zero => intro r0 x1 x5 x6 x7 x8 M hres; exact am_no hres
  | succ i ih => intro r0 x1 x5 x6 x7 x8 M hres; exact sn12_comes_b13B cx ih hres
set_option maxRecDepth 20000 in
theorem sn12_comes_b0 {l : Launch} {G : am_G} {M' : am_Mem} {N : Nat}  (cx : am_Ctx l rm12_comes yX12_comes cX12_comes 10 none none M' 0 0 G)  {r0 : Nat} {x1 : Int32} {x2 : Int32} {x3 : Int32} {x4 : Int32} {M : am_Mem} (hres : fn12_comes_b0 N  r0 x1 x2 x3 x4 M = some ((), M')) : G 0 [(0, .inr (.inr (.inl r0))), (1, .inl x1), (2, .inl x2), (3, .inl x3), (4, .inl x4)] [] M 0 0 := by
  unfold fn12_comes_b0 at hres
  refine am_iload_n cx 2 dX12_comes_0 rfl ?_
  refine am_istore cx (lv' := [(0, .inr (.inr (.inl r0))), (1, .inl x1), (2, .inl x2), (3, .inl x3), (4, .inl x4), (5, .inl x2)]) dX12_comes_1 (Nat.le_of_ble_eq_true rfl) rfl ?_
  refine am_iload_n cx 3 dX12_comes_3 rfl ?_
  refine am_istore cx (lv' := [(0, .inr (.inr (.inl r0))), (1, .inl x1), (2, .inl x2), (3, .inl x3), (4, .inl x4), (5, .inl x2), (6, .inl x3)]) dX12_comes_4 (Nat.le_of_ble_eq_true rfl) rfl ?_
  refine am_iload cx 4 dX12_comes_6 rfl ?_
  refine am_istore cx (lv' := [(0, .inr (.inr (.inl r0))), (1, .inl x1), (2, .inl x2), (3, .inl x3), (4, .inl x4), (5, .inl x2), (6, .inl x3), (7, .inl x4)]) dX12_comes_8 (Nat.le_of_ble_eq_true rfl) rfl ?_
  refine am_iconst cx (v := (0 : Int32)) dX12_comes_10 (by decide) ?_
  refine am_istore cx (lv' := [(0, .inr (.inr (.inl r0))), (1, .inl x1), (2, .inl x2), (3, .inl x3), (4, .inl x4), (5, .inl x2), (6, .inl x3), (7, .inl x4), (8, .inl (0 : Int32))]) dX12_comes_11 (Nat.le_of_ble_eq_true rfl) rfl ?_
  refine am_sub cx [0, 1, 5, 6, 7, 8] rfl ?_
  exact sn12_comes_b13 cx  N _ _ _ _ _ _ _ hres
set_option maxRecDepth 20000 in
theorem mt12_comes {l : Launch} {M M' : am_Mem} {N : Nat} {r0 : Nat} {x1 : Int32} {x2 : Int32} {x3 : Int32} {x4 : Int32} (h : fn12_comes N M r0 x1 x2 x3 x4 = some ((), M')) : am_Met l yX12_comes cX12_comes 10 none rm12_comes 0 0 [.inr (.inr (.inl r0)), .inl x1, .inl x2, .inl x3, .inl x4] M none M' := am_mk (by decide) (Nat.le_of_ble_eq_true rfl) (fun G cx => (sn12_comes_b0 cx h))
-- SquareCutsModel.laysLines
def fn12_laysLines_b7B (N : Nat) (k7 : Nat → Int32 → Int32 → am_Mem → Option (Unit × am_Mem)) (r0 : Nat) (x1 : Int32) (x2 : Int32) (M : am_Mem) : Option (Unit × am_Mem) :=
  am_ck (am_k M r0 12) (am_bd (fn12_of M r0 x1 (0 : Int32)) (fun v2 M3 => if v2 ≤ x2 then some ((), M3) else am_ck (am_k M3 r0 12) (am_bd (fn12_of M3 r0 x1 ((84 : Int32) + x2)) (fun v6 M7 => am_ck (am_k M7 r0 12) (am_bd (fn12_of M7 r0 x1 ((4 : Int32) + x2)) (fun v10 M11 => am_ck (am_k M11 r0 12) (am_bd (fn12_of M11 r0 x1 ((44 : Int32) + x2)) (fun v14 M15 => am_ck (am_k M15 r0 12) (am_bd (fn12_comes N M15 r0 v14 v10 (v10 + v6) v6) (fun v18 M19 => am_ck (am_k M19 r0 12) (am_bd (fn12_of M19 r0 x1 ((44 : Int32) + x2)) (fun v22 M23 => am_ck (am_k M23 r0 12) (am_bd (fn12_comes N M23 r0 (v22 + v6) v10 (v10 + v6) (-v6)) (fun v26 M27 => k7 r0 x1 (x2 + (1 : Int32)) M27))))))))))))))
def fn12_laysLines_b7 (N : Nat)  : Nat → Nat → Int32 → Int32 → am_Mem → Option (Unit × am_Mem)
  | 0 => fun _ _ _ _ => none
  | i + 1 => fn12_laysLines_b7B N (fn12_laysLines_b7 N  i)
def fn12_laysLines_b0 (N : Nat)  (r0 : Nat) (x1 : Int32) (M : am_Mem) : Option (Unit × am_Mem) :=
  am_ck (am_k M r0 12) (fn12_laysLines_b7 N  N r0 x1 (0 : Int32) (am_wI M r0 47 (0 : Int32)))
def fn12_laysLines (N : Nat) (M : am_Mem) (r0 : Nat) (x1 : Int32) : Option (Unit × am_Mem) := fn12_laysLines_b0 N r0 x1 M
def rm12_laysLines : Room := { frames := 2, cells := 0, slots := 0, locals := 51 }
set_option maxRecDepth 20000 in
theorem sn12_laysLines_b7B {l : Launch} {G : am_G} {M' : am_Mem} {N : Nat} {k7 : Nat → Int32 → Int32 → am_Mem → Option (Unit × am_Mem)} (cx : am_Ctx l rm12_laysLines yX12_laysLines cX12_laysLines 5 none none M' 0 0 G) (hk7 : ∀ (r0 : Nat) (x1 : Int32) (x2 : Int32) (M : am_Mem), k7 r0 x1 x2 M = some ((), M') → G 7 [(0, .inr (.inr (.inl r0))), (1, .inl x1), (2, .inl x2)] [] M 0 0) {r0 : Nat} {x1 : Int32} {x2 : Int32} {M : am_Mem} (hres : fn12_laysLines_b7B N k7 r0 x1 x2 M = some ((), M')) : G 7 [(0, .inr (.inr (.inl r0))), (1, .inl x1), (2, .inl x2)] [] M 0 0 := by
  unfold fn12_laysLines_b7B at hres
  refine am_iload_n cx 2 dX12_laysLines_7 rfl ?_
  refine am_aload_n cx 0 dX12_laysLines_8 rfl ?_
  refine am_iload_n cx 1 dX12_laysLines_9 rfl ?_
  refine am_iconst cx (v := (0 : Int32)) dX12_laysLines_10 (by decide) ?_
  obtain ⟨q1, hres⟩ := am_ck_some hres
  obtain ⟨v2, M3, q4, hres⟩ := am_bd_some hres
  refine am_callV1 cx [.inl x1, .inl (0 : Int32)] dX12_laysLines_11 cvX12_306 (mt12_of q4) (am_ke q1) ⟨rfl, rfl, Nat.le_of_ble_eq_true rfl, Nat.le_of_ble_eq_true rfl⟩ rfl (Nat.le_of_ble_eq_true rfl) ⟨Nat.le_of_ble_eq_true rfl, Nat.le_of_ble_eq_true rfl⟩ ?_
  refine am_icmp_ge cx (tgt := 86) dX12_laysLines_14 (by decide) (fun h => ?_) (fun h => ?_)
  · have hres := am_ifp h hres
    obtain ⟨-, rfl⟩ := am_fin hres
    exact am_vret cx dX12_laysLines_86
  · have hres := am_ifn h hres
    refine am_aload_n cx 0 dX12_laysLines_17 rfl ?_
    refine am_iload_n cx 1 dX12_laysLines_18 rfl ?_
    refine am_bipush cx (v := (84 : Int32)) dX12_laysLines_19 (by decide) ?_
    refine am_iload_n cx 2 dX12_laysLines_21 rfl ?_
    refine am_iadd cx dX12_laysLines_22 ?_
    obtain ⟨q5, hres⟩ := am_ck_some hres
    obtain ⟨v6, M7, q8, hres⟩ := am_bd_some hres
    refine am_callV1 cx [.inl x1, .inl ((84 : Int32) + x2)] dX12_laysLines_23 cvX12_306 (mt12_of q8) (am_ke q5) ⟨rfl, rfl, Nat.le_of_ble_eq_true rfl, Nat.le_of_ble_eq_true rfl⟩ rfl (Nat.le_of_ble_eq_true rfl) ⟨Nat.le_of_ble_eq_true rfl, Nat.le_of_ble_eq_true rfl⟩ ?_
    refine am_istore_n cx (lv' := [(0, .inr (.inr (.inl r0))), (1, .inl x1), (2, .inl x2), (3, .inl v6)]) dX12_laysLines_26 (Nat.le_of_ble_eq_true rfl) rfl ?_
    refine am_aload_n cx 0 dX12_laysLines_27 rfl ?_
    refine am_iload_n cx 1 dX12_laysLines_28 rfl ?_
    refine am_iconst cx (v := (4 : Int32)) dX12_laysLines_29 (by decide) ?_
    refine am_iload_n cx 2 dX12_laysLines_30 rfl ?_
    refine am_iadd cx dX12_laysLines_31 ?_
    obtain ⟨q9, hres⟩ := am_ck_some hres
    obtain ⟨v10, M11, q12, hres⟩ := am_bd_some hres
    refine am_callV1 cx [.inl x1, .inl ((4 : Int32) + x2)] dX12_laysLines_32 cvX12_306 (mt12_of q12) (am_ke q9) ⟨rfl, rfl, Nat.le_of_ble_eq_true rfl, Nat.le_of_ble_eq_true rfl⟩ rfl (Nat.le_of_ble_eq_true rfl) ⟨Nat.le_of_ble_eq_true rfl, Nat.le_of_ble_eq_true rfl⟩ ?_
    refine am_istore cx (lv' := [(0, .inr (.inr (.inl r0))), (1, .inl x1), (2, .inl x2), (3, .inl v6), (4, .inl v10)]) dX12_laysLines_35 (Nat.le_of_ble_eq_true rfl) rfl ?_
    refine am_aload_n cx 0 dX12_laysLines_37 rfl ?_
    refine am_aload_n cx 0 dX12_laysLines_38 rfl ?_
    refine am_iload_n cx 1 dX12_laysLines_39 rfl ?_
    refine am_bipush cx (v := (44 : Int32)) dX12_laysLines_40 (by decide) ?_
    refine am_iload_n cx 2 dX12_laysLines_42 rfl ?_
    refine am_iadd cx dX12_laysLines_43 ?_
    obtain ⟨q13, hres⟩ := am_ck_some hres
    obtain ⟨v14, M15, q16, hres⟩ := am_bd_some hres
    refine am_callV1 cx [.inl x1, .inl ((44 : Int32) + x2)] dX12_laysLines_44 cvX12_306 (mt12_of q16) (am_ke q13) ⟨rfl, rfl, Nat.le_of_ble_eq_true rfl, Nat.le_of_ble_eq_true rfl⟩ rfl (Nat.le_of_ble_eq_true rfl) ⟨Nat.le_of_ble_eq_true rfl, Nat.le_of_ble_eq_true rfl⟩ ?_
    refine am_iload cx 4 dX12_laysLines_47 rfl ?_
    refine am_iload cx 4 dX12_laysLines_49 rfl ?_
    refine am_iload_n cx 3 dX12_laysLines_51 rfl ?_
    refine am_iadd cx dX12_laysLines_52 ?_
    refine am_iload_n cx 3 dX12_laysLines_53 rfl ?_
    obtain ⟨q17, hres⟩ := am_ck_some hres
    obtain ⟨v18, M19, q20, hres⟩ := am_bd_some hres
    refine am_callV0 cx [.inl v14, .inl v10, .inl (v10 + v6), .inl v6] dX12_laysLines_54 cvX12_366 (mt12_comes q20) (am_ke q17) ⟨rfl, rfl, Nat.le_of_ble_eq_true rfl, Nat.le_of_ble_eq_true rfl⟩ rfl (Nat.le_of_ble_eq_true rfl) ⟨Nat.le_of_ble_eq_true rfl, Nat.le_of_ble_eq_true rfl⟩ ?_
    refine am_aload_n cx 0 dX12_laysLines_57 rfl ?_
    refine am_aload_n cx 0 dX12_laysLines_58 rfl ?_
    refine am_iload_n cx 1 dX12_laysLines_59 rfl ?_
    refine am_bipush cx (v := (44 : Int32)) dX12_laysLines_60 (by decide) ?_
    refine am_iload_n cx 2 dX12_laysLines_62 rfl ?_
    refine am_iadd cx dX12_laysLines_63 ?_
    obtain ⟨q21, hres⟩ := am_ck_some hres
    obtain ⟨v22, M23, q24, hres⟩ := am_bd_some hres
    refine am_callV1 cx [.inl x1, .inl ((44 : Int32) + x2)] dX12_laysLines_64 cvX12_306 (mt12_of q24) (am_ke q21) ⟨rfl, rfl, Nat.le_of_ble_eq_true rfl, Nat.le_of_ble_eq_true rfl⟩ rfl (Nat.le_of_ble_eq_true rfl) ⟨Nat.le_of_ble_eq_true rfl, Nat.le_of_ble_eq_true rfl⟩ ?_
    refine am_iload_n cx 3 dX12_laysLines_67 rfl ?_
    refine am_iadd cx dX12_laysLines_68 ?_
    refine am_iload cx 4 dX12_laysLines_69 rfl ?_
    refine am_iload cx 4 dX12_laysLines_71 rfl ?_
    refine am_iload_n cx 3 dX12_laysLines_73 rfl ?_
    refine am_iadd cx dX12_laysLines_74 ?_
    refine am_iload_n cx 3 dX12_laysLines_75 rfl ?_
    refine am_ineg cx dX12_laysLines_76 ?_
    obtain ⟨q25, hres⟩ := am_ck_some hres
    obtain ⟨v26, M27, q28, hres⟩ := am_bd_some hres
    refine am_callV0 cx [.inl (v22 + v6), .inl v10, .inl (v10 + v6), .inl (-v6)] dX12_laysLines_77 cvX12_366 (mt12_comes q28) (am_ke q25) ⟨rfl, rfl, Nat.le_of_ble_eq_true rfl, Nat.le_of_ble_eq_true rfl⟩ rfl (Nat.le_of_ble_eq_true rfl) ⟨Nat.le_of_ble_eq_true rfl, Nat.le_of_ble_eq_true rfl⟩ ?_
    refine am_iincw cx (lv' := [(0, .inr (.inr (.inl r0))), (1, .inl x1), (2, .inl (x2 + (1 : Int32))), (3, .inl v6), (4, .inl v10)]) (w := (1 : Int32)) 2 dX12_laysLines_80 (by decide) rfl (Nat.le_of_ble_eq_true rfl) rfl ?_
    refine am_goto cx (tgt := 7) dX12_laysLines_83 (by decide) ?_
    refine am_sub cx [0, 1, 2] rfl ?_
    exact hk7 _ _ _ _ hres
set_option maxRecDepth 20000 in
theorem sn12_laysLines_b7 {l : Launch} {G : am_G} {M' : am_Mem} {N : Nat}  (cx : am_Ctx l rm12_laysLines yX12_laysLines cX12_laysLines 5 none none M' 0 0 G)  (i : Nat) : ∀ (r0 : Nat) (x1 : Int32) (x2 : Int32) (M : am_Mem), fn12_laysLines_b7 N  i r0 x1 x2 M = some ((), M') → G 7 [(0, .inr (.inr (.inl r0))), (1, .inl x1), (2, .inl x2)] [] M 0 0 := by
  induction i with
  | zero => intro r0 x1 x2 M hres; exact am_no hres
  | succ i ih => intro r0 x1 x2 M hres; exact sn12_laysLines_b7B cx ih hres
set_option maxRecDepth 20000 in
theorem sn12_laysLines_b0 {l : Launch} {G : am_G} {M' : am_Mem} {N : Nat}  (cx : am_Ctx l rm12_laysLines yX12_laysLines cX12_laysLines 5 none none M' 0 0 G)  {r0 : Nat} {x1 : Int32} {M : am_Mem} (hres : fn12_laysLines_b0 N  r0 x1 M = some ((), M')) : G 0 [(0, .inr (.inr (.inl r0))), (1, .inl x1)] [] M 0 0 := by
  unfold fn12_laysLines_b0 at hres
  refine am_aload_n cx 0 dX12_laysLines_0 rfl ?_
  refine am_iconst cx (v := (0 : Int32)) dX12_laysLines_1 (by decide) ?_
  obtain ⟨q1, hres⟩ := am_ck_some hres
  refine am_putI cx dX12_laysLines_2 fpX12_360 (fun h => by cases h) (am_ke q1) ?_
  refine am_iconst cx (v := (0 : Int32)) dX12_laysLines_5 (by decide) ?_
  refine am_istore_n cx (lv' := [(0, .inr (.inr (.inl r0))), (1, .inl x1), (2, .inl (0 : Int32))]) dX12_laysLines_6 (Nat.le_of_ble_eq_true rfl) rfl ?_
  exact sn12_laysLines_b7 cx  N _ _ _ _ hres
set_option maxRecDepth 20000 in
theorem mt12_laysLines {l : Launch} {M M' : am_Mem} {N : Nat} {r0 : Nat} {x1 : Int32} (h : fn12_laysLines N M r0 x1 = some ((), M')) : am_Met l yX12_laysLines cX12_laysLines 5 none rm12_laysLines 0 0 [.inr (.inr (.inl r0)), .inl x1] M none M' := am_mk (by decide) (Nat.le_of_ble_eq_true rfl) (fun G cx => (sn12_laysLines_b0 cx h))
-- SquareCutsModel.lines
def fn12_lines_b0 (N : Nat)  (r0 : Nat) (x1 : Int32) (M : am_Mem) : Option (Int32 × am_Mem) :=
  am_ck (am_k M r0 12) (am_bd (fn12_isRect (am_wI M r0 0 (0 : Int32)) r0 x1) (fun v2 M3 => if v2 = 0 then some ((-1 : Int32), M3) else am_ck (am_k M3 r0 12) (am_bd (fn12_doesFail M3 r0 x1) (fun v6 M7 => if v6 = 0 then am_ck (am_k M7 r0 12) (am_bd (fn12_laysLines N M7 r0 x1) (fun v10 M11 => am_ck (am_k M11 r0 12) (some ((am_I M11 r0 47), M11)))) else some ((-2 : Int32), M7)))))
def fn12_lines (N : Nat) (M : am_Mem) (r0 : Nat) (x1 : Int32) : Option (Int32 × am_Mem) := fn12_lines_b0 N r0 x1 M
def rm12_lines : Room := { frames := 3, cells := 0, slots := 0, locals := 75 }
set_option maxRecDepth 20000 in
theorem sn12_lines_b0 {l : Launch} {G : am_G} {v : Int32} {M' : am_Mem} {N : Nat}  (cx : am_Ctx l rm12_lines yX12_lines cX12_lines 2 (some .int) (some (.inl v)) M' 0 0 G)  {r0 : Nat} {x1 : Int32} {M : am_Mem} (hres : fn12_lines_b0 N  r0 x1 M = some (v, M')) : G 0 [(0, .inr (.inr (.inl r0))), (1, .inl x1)] [] M 0 0 := by
  unfold fn12_lines_b0 at hres
  refine am_aload_n cx 0 dX12_lines_0 rfl ?_
  refine am_iconst cx (v := (0 : Int32)) dX12_lines_1 (by decide) ?_
  obtain ⟨q1, hres⟩ := am_ck_some hres
  refine am_putI cx dX12_lines_2 fpX12_103 (fun h => by cases h) (am_ke q1) ?_
  refine am_aload_n cx 0 dX12_lines_5 rfl ?_
  refine am_iload_n cx 1 dX12_lines_6 rfl ?_
  obtain ⟨v2, M3, q4, hres⟩ := am_bd_some hres
  refine am_callV1 cx [.inl x1] dX12_lines_7 cvX12_316 (mt12_isRect q4) (am_ke q1) ⟨rfl, rfl, Nat.le_of_ble_eq_true rfl, Nat.le_of_ble_eq_true rfl⟩ rfl (Nat.le_of_ble_eq_true rfl) ⟨Nat.le_of_ble_eq_true rfl, Nat.le_of_ble_eq_true rfl⟩ ?_
  refine am_if_ne cx (tgt := 15) dX12_lines_10 (by decide) (fun h => ?_) (fun h => ?_)
  · have hres := am_ifn h hres
    refine am_aload_n cx 0 dX12_lines_15 rfl ?_
    refine am_iload_n cx 1 dX12_lines_16 rfl ?_
    obtain ⟨q5, hres⟩ := am_ck_some hres
    obtain ⟨v6, M7, q8, hres⟩ := am_bd_some hres
    refine am_callV1 cx [.inl x1] dX12_lines_17 cvX12_325 (mt12_doesFail q8) (am_ke q5) ⟨rfl, rfl, Nat.le_of_ble_eq_true rfl, Nat.le_of_ble_eq_true rfl⟩ rfl (Nat.le_of_ble_eq_true rfl) ⟨Nat.le_of_ble_eq_true rfl, Nat.le_of_ble_eq_true rfl⟩ ?_
    refine am_if_eq cx (tgt := 26) dX12_lines_20 (by decide) (fun h => ?_) (fun h => ?_)
    · have hres := am_ifp h hres
      refine am_aload_n cx 0 dX12_lines_26 rfl ?_
      refine am_iload_n cx 1 dX12_lines_27 rfl ?_
      obtain ⟨q9, hres⟩ := am_ck_some hres
      obtain ⟨v10, M11, q12, hres⟩ := am_bd_some hres
      refine am_callV0 cx [.inl x1] dX12_lines_28 cvX12_369 (mt12_laysLines q12) (am_ke q9) ⟨rfl, rfl, Nat.le_of_ble_eq_true rfl, Nat.le_of_ble_eq_true rfl⟩ rfl (Nat.le_of_ble_eq_true rfl) ⟨Nat.le_of_ble_eq_true rfl, Nat.le_of_ble_eq_true rfl⟩ ?_
      refine am_aload_n cx 0 dX12_lines_31 rfl ?_
      obtain ⟨q13, hres⟩ := am_ck_some hres
      refine am_getI cx dX12_lines_32 flX12_360 (am_ke q13) ?_
      obtain ⟨rfl, rfl⟩ := am_fin hres
      exact am_iret cx dX12_lines_35
    · have hres := am_ifn h hres
      refine am_bipush cx (v := (-2 : Int32)) dX12_lines_23 (by decide) ?_
      obtain ⟨rfl, rfl⟩ := am_fin hres
      exact am_iret cx dX12_lines_25
  · have hres := am_ifp h hres
    refine am_iconst cx (v := (-1 : Int32)) dX12_lines_13 (by decide) ?_
    obtain ⟨rfl, rfl⟩ := am_fin hres
    exact am_iret cx dX12_lines_14
set_option maxRecDepth 20000 in
theorem mt12_lines {l : Launch} {v : Int32} {M M' : am_Mem} {N : Nat} {r0 : Nat} {x1 : Int32} (h : fn12_lines N M r0 x1 = some (v, M')) : am_Met l yX12_lines cX12_lines 2 (some .int) rm12_lines 0 0 [.inr (.inr (.inl r0)), .inl x1] M (some (.inl v)) M' := am_mk (by decide) (Nat.le_of_ble_eq_true rfl) (fun G cx => (sn12_lines_b0 cx h))
-- SquareCutsModel.line
def fn12_line_b132 (N : Nat)  (a0 : Int32) (M : am_Mem) : Option (Int32 × am_Mem) :=
  some (a0, M)
def fn12_line_b72 (N : Nat)  (c0 : Nat) (a1 : Int32) (r0 : Nat) (x2 : Int32) (x3 : Int32) (M : am_Mem) : Option (Int32 × am_Mem) :=
  am_ck (am_k M c0 12) (am_ck (am_k M r0 12) (if (am_I (am_wI M c0 0 a1) r0 0) = (1 : Int32) then some ((0 : Int32), (am_wI M c0 0 a1)) else if x3 = 0 then am_ck (am_k M (am_R M r0 43) 14) (am_ck (am_in x2 (am_L M (am_R M r0 43))) (fn12_line_b132 N  (am_I (am_wI M c0 0 a1) (am_R M r0 43) x2.toNatClampNeg) (am_wI M c0 0 a1))) else if x3 = (1 : Int32) then am_ck (am_k M (am_R M r0 44) 14) (am_ck (am_in x2 (am_L M (am_R M r0 44))) (fn12_line_b132 N  (am_I (am_wI M c0 0 a1) (am_R M r0 44) x2.toNatClampNeg) (am_wI M c0 0 a1))) else if x3 = (2 : Int32) then am_ck (am_k M (am_R M r0 45) 14) (am_ck (am_in x2 (am_L M (am_R M r0 45))) (fn12_line_b132 N  (am_I (am_wI M c0 0 a1) (am_R M r0 45) x2.toNatClampNeg) (am_wI M c0 0 a1))) else am_ck (am_k M (am_R M r0 46) 14) (am_ck (am_in x2 (am_L M (am_R M r0 46))) (fn12_line_b132 N  (am_I (am_wI M c0 0 a1) (am_R M r0 46) x2.toNatClampNeg) (am_wI M c0 0 a1)))))
def fn12_line_b71 (N : Nat)  (c0 : Nat) (r0 : Nat) (x2 : Int32) (x3 : Int32) (M : am_Mem) : Option (Int32 × am_Mem) :=
  fn12_line_b72 N  c0 (1 : Int32) r0 x2 x3 M
def fn12_line_b45 (N : Nat)  (r0 : Nat) (x2 : Int32) (x3 : Int32) (x4 : Int32) (M : am_Mem) : Option (Int32 × am_Mem) :=
  if x4 = 0 then fn12_line_b71 N  r0 r0 x2 x3 M else am_ck (am_k M r0 12) (am_bd (fn12_within M x2.toInt64 (0 : Int64) (((am_I M r0 47) - (1 : Int32)).toInt64)) (fun v2 M3 => if v2 = 0 then fn12_line_b71 N  r0 r0 x2 x3 M3 else fn12_line_b72 N  r0 (0 : Int32) r0 x2 x3 M3))
def fn12_line_b33 (N : Nat)  (a0 : Int32) (r0 : Nat) (x1 : Int32) (x2 : Int32) (x3 : Int32) (M : am_Mem) : Option (Int32 × am_Mem) :=
  if a0 = 0 then fn12_line_b45 N  r0 x2 x3 a0 M else am_ck (am_k M r0 12) (am_bd (fn12_laysLines N M r0 x1) (fun v2 M3 => fn12_line_b45 N  r0 x2 x3 a0 M3))
def fn12_line_b32 (N : Nat)  (r0 : Nat) (x1 : Int32) (x2 : Int32) (x3 : Int32) (M : am_Mem) : Option (Int32 × am_Mem) :=
  fn12_line_b33 N  (0 : Int32) r0 x1 x2 x3 M
def fn12_line_b0 (N : Nat)  (r0 : Nat) (x1 : Int32) (x2 : Int32) (x3 : Int32) (M : am_Mem) : Option (Int32 × am_Mem) :=
  am_ck (am_k M r0 12) (am_bd (fn12_isRect M r0 x1) (fun v2 M3 => if v2 = 0 then fn12_line_b32 N  r0 x1 x2 x3 M3 else am_ck (am_k M3 r0 12) (am_bd (fn12_doesFail M3 r0 x1) (fun v6 M7 => if v6 = 0 then am_bd (fn12_within M7 x3.toInt64 (0 : Int64) (3 : Int64)) (fun v9 M10 => if v9 = 0 then fn12_line_b32 N  r0 x1 x2 x3 M10 else fn12_line_b33 N  (1 : Int32) r0 x1 x2 x3 M10) else fn12_line_b32 N  r0 x1 x2 x3 M7))))
def fn12_line (N : Nat) (M : am_Mem) (r0 : Nat) (x1 : Int32) (x2 : Int32) (x3 : Int32) : Option (Int32 × am_Mem) := fn12_line_b0 N r0 x1 x2 x3 M
def rm12_line : Room := { frames := 3, cells := 0, slots := 0, locals := 75 }
set_option maxRecDepth 20000 in
theorem sn12_line_b132 {l : Launch} {G : am_G} {v : Int32} {M' : am_Mem} {N : Nat}  (cx : am_Ctx l rm12_line yX12_line cX12_line 5 (some .int) (some (.inl v)) M' 0 0 G)  {a0 : Int32} {M : am_Mem} (hres : fn12_line_b132 N  a0 M = some (v, M')) : G 132 [] [.inl a0] M 0 0 := by
  unfold fn12_line_b132 at hres
  obtain ⟨rfl, rfl⟩ := am_fin hres
  exact am_iret cx dX12_line_132
set_option maxRecDepth 20000 in
theorem sn12_line_b72 {l : Launch} {G : am_G} {v : Int32} {M' : am_Mem} {N : Nat}  (cx : am_Ctx l rm12_line yX12_line cX12_line 5 (some .int) (some (.inl v)) M' 0 0 G)  {c0 : Nat} {a1 : Int32} {r0 : Nat} {x2 : Int32} {x3 : Int32} {M : am_Mem} (hres : fn12_line_b72 N  c0 a1 r0 x2 x3 M = some (v, M')) : G 72 [(0, .inr (.inr (.inl r0))), (2, .inl x2), (3, .inl x3)] [.inl a1, .inr (.inr (.inl c0))] M 0 0 := by
  unfold fn12_line_b72 at hres
  obtain ⟨q1, hres⟩ := am_ck_some hres
  refine am_putI cx dX12_line_72 fpX12_103 (fun h => by cases h) (am_ke q1) ?_
  refine am_aload_n cx 0 dX12_line_75 rfl ?_
  obtain ⟨q2, hres⟩ := am_ck_some hres
  refine am_getI cx dX12_line_76 flX12_103 (am_ke q2) ?_
  refine am_iconst cx (v := (1 : Int32)) dX12_line_79 (by decide) ?_
  refine am_icmp_ne cx (tgt := 85) dX12_line_80 (by decide) (fun h => ?_) (fun h => ?_)
  · have hres := am_ifn h hres
    refine am_iload_n cx 2 dX12_line_85 rfl ?_
    refine am_if_ne cx (tgt := 98) dX12_line_86 (by decide) (fun h => ?_) (fun h => ?_)
    · have hres := am_ifn h hres
      refine am_iload_n cx 2 dX12_line_98 rfl ?_
      refine am_iconst cx (v := (1 : Int32)) dX12_line_99 (by decide) ?_
      refine am_icmp_ne cx (tgt := 112) dX12_line_100 (by decide) (fun h => ?_) (fun h => ?_)
      · have hres := am_ifn h hres
        refine am_iload_n cx 2 dX12_line_112 rfl ?_
        refine am_iconst cx (v := (2 : Int32)) dX12_line_113 (by decide) ?_
        refine am_icmp_ne cx (tgt := 126) dX12_line_114 (by decide) (fun h => ?_) (fun h => ?_)
        · have hres := am_ifn h hres
          refine am_aload_n cx 0 dX12_line_126 rfl ?_
          refine am_getR cx dX12_line_127 flX12_97 (am_ke q2) ?_
          refine am_iload_n cx 1 dX12_line_130 rfl ?_
          obtain ⟨q3, hres⟩ := am_ck_some hres
          obtain ⟨q4, hres⟩ := am_ck_some hres
          refine am_iald cx dX12_line_131 (am_ke q3) q4 ?_
          refine am_sub cx [] rfl ?_
          exact sn12_line_b132 cx  hres
        · have hres := am_ifp h hres
          refine am_aload_n cx 0 dX12_line_117 rfl ?_
          refine am_getR cx dX12_line_118 flX12_94 (am_ke q2) ?_
          refine am_iload_n cx 1 dX12_line_121 rfl ?_
          obtain ⟨q5, hres⟩ := am_ck_some hres
          obtain ⟨q6, hres⟩ := am_ck_some hres
          refine am_iald cx dX12_line_122 (am_ke q5) q6 ?_
          refine am_goto cx (tgt := 132) dX12_line_123 (by decide) ?_
          refine am_sub cx [] rfl ?_
          exact sn12_line_b132 cx  hres
      · have hres := am_ifp h hres
        refine am_aload_n cx 0 dX12_line_103 rfl ?_
        refine am_getR cx dX12_line_104 flX12_91 (am_ke q2) ?_
        refine am_iload_n cx 1 dX12_line_107 rfl ?_
        obtain ⟨q7, hres⟩ := am_ck_some hres
        obtain ⟨q8, hres⟩ := am_ck_some hres
        refine am_iald cx dX12_line_108 (am_ke q7) q8 ?_
        refine am_goto cx (tgt := 132) dX12_line_109 (by decide) ?_
        refine am_sub cx [] rfl ?_
        exact sn12_line_b132 cx  hres
    · have hres := am_ifp h hres
      refine am_aload_n cx 0 dX12_line_89 rfl ?_
      refine am_getR cx dX12_line_90 flX12_88 (am_ke q2) ?_
      refine am_iload_n cx 1 dX12_line_93 rfl ?_
      obtain ⟨q9, hres⟩ := am_ck_some hres
      obtain ⟨q10, hres⟩ := am_ck_some hres
      refine am_iald cx dX12_line_94 (am_ke q9) q10 ?_
      refine am_goto cx (tgt := 132) dX12_line_95 (by decide) ?_
      refine am_sub cx [] rfl ?_
      exact sn12_line_b132 cx  hres
  · have hres := am_ifp h hres
    refine am_iconst cx (v := (0 : Int32)) dX12_line_83 (by decide) ?_
    obtain ⟨rfl, rfl⟩ := am_fin hres
    exact am_iret cx dX12_line_84
set_option maxRecDepth 20000 in
theorem sn12_line_b71 {l : Launch} {G : am_G} {v : Int32} {M' : am_Mem} {N : Nat}  (cx : am_Ctx l rm12_line yX12_line cX12_line 5 (some .int) (some (.inl v)) M' 0 0 G)  {c0 : Nat} {r0 : Nat} {x2 : Int32} {x3 : Int32} {M : am_Mem} (hres : fn12_line_b71 N  c0 r0 x2 x3 M = some (v, M')) : G 71 [(0, .inr (.inr (.inl r0))), (2, .inl x2), (3, .inl x3)] [.inr (.inr (.inl c0))] M 0 0 := by
  unfold fn12_line_b71 at hres
  refine am_iconst cx (v := (1 : Int32)) dX12_line_71 (by decide) ?_
  exact sn12_line_b72 cx  hres
set_option maxRecDepth 20000 in
theorem sn12_line_b45 {l : Launch} {G : am_G} {v : Int32} {M' : am_Mem} {N : Nat}  (cx : am_Ctx l rm12_line yX12_line cX12_line 5 (some .int) (some (.inl v)) M' 0 0 G)  {r0 : Nat} {x2 : Int32} {x3 : Int32} {x4 : Int32} {M : am_Mem} (hres : fn12_line_b45 N  r0 x2 x3 x4 M = some (v, M')) : G 45 [(0, .inr (.inr (.inl r0))), (2, .inl x2), (3, .inl x3), (4, .inl x4)] [] M 0 0 := by
  unfold fn12_line_b45 at hres
  refine am_aload_n cx 0 dX12_line_45 rfl ?_
  refine am_iload cx 3 dX12_line_46 rfl ?_
  refine am_if_eq cx (tgt := 71) dX12_line_48 (by decide) (fun h => ?_) (fun h => ?_)
  · have hres := am_ifp h hres
    refine am_sub cx [0, 1, 2] rfl ?_
    exact sn12_line_b71 cx  hres
  · have hres := am_ifn h hres
    refine am_iload_n cx 1 dX12_line_51 rfl ?_
    refine am_i2l cx dX12_line_52 ?_
    refine am_lconst cx (v := (0 : Int64)) dX12_line_53 (by decide) ?_
    refine am_aload_n cx 0 dX12_line_54 rfl ?_
    obtain ⟨q1, hres⟩ := am_ck_some hres
    refine am_getI cx dX12_line_55 flX12_360 (am_ke q1) ?_
    refine am_iconst cx (v := (1 : Int32)) dX12_line_58 (by decide) ?_
    refine am_isub cx dX12_line_59 ?_
    refine am_i2l cx dX12_line_60 ?_
    obtain ⟨v2, M3, q4, hres⟩ := am_bd_some hres
    refine am_callS1 cx [.inr (.inl x2.toInt64), .inr (.inl (0 : Int64)), .inr (.inl ((am_I M r0 47) - (1 : Int32)).toInt64)] dX12_line_61 csX12_141 (mt12_within q4)  ⟨rfl, rfl, Nat.le_of_ble_eq_true rfl, Nat.le_of_ble_eq_true rfl⟩ rfl (Nat.le_of_ble_eq_true rfl) ⟨Nat.le_of_ble_eq_true rfl, Nat.le_of_ble_eq_true rfl⟩ ?_
    refine am_if_eq cx (tgt := 71) dX12_line_64 (by decide) (fun h => ?_) (fun h => ?_)
    · have hres := am_ifp h hres
      refine am_sub cx [0, 1, 2] rfl ?_
      exact sn12_line_b71 cx  hres
    · have hres := am_ifn h hres
      refine am_iconst cx (v := (0 : Int32)) dX12_line_67 (by decide) ?_
      refine am_goto cx (tgt := 72) dX12_line_68 (by decide) ?_
      refine am_sub cx [0, 1, 2] rfl ?_
      exact sn12_line_b72 cx  hres
set_option maxRecDepth 20000 in
theorem sn12_line_b33 {l : Launch} {G : am_G} {v : Int32} {M' : am_Mem} {N : Nat}  (cx : am_Ctx l rm12_line yX12_line cX12_line 5 (some .int) (some (.inl v)) M' 0 0 G)  {a0 : Int32} {r0 : Nat} {x1 : Int32} {x2 : Int32} {x3 : Int32} {M : am_Mem} (hres : fn12_line_b33 N  a0 r0 x1 x2 x3 M = some (v, M')) : G 33 [(0, .inr (.inr (.inl r0))), (1, .inl x1), (2, .inl x2), (3, .inl x3)] [.inl a0] M 0 0 := by
  unfold fn12_line_b33 at hres
  refine am_istore cx (lv' := [(0, .inr (.inr (.inl r0))), (1, .inl x1), (2, .inl x2), (3, .inl x3), (4, .inl a0)]) dX12_line_33 (Nat.le_of_ble_eq_true rfl) rfl ?_
  refine am_iload cx 4 dX12_line_35 rfl ?_
  refine am_if_eq cx (tgt := 45) dX12_line_37 (by decide) (fun h => ?_) (fun h => ?_)
  · have hres := am_ifp h hres
    refine am_sub cx [0, 2, 3, 4] rfl ?_
    exact sn12_line_b45 cx  hres
  · have hres := am_ifn h hres
    refine am_aload_n cx 0 dX12_line_40 rfl ?_
    refine am_iload_n cx 1 dX12_line_41 rfl ?_
    obtain ⟨q1, hres⟩ := am_ck_some hres
    obtain ⟨v2, M3, q4, hres⟩ := am_bd_some hres
    refine am_callV0 cx [.inl x1] dX12_line_42 cvX12_369 (mt12_laysLines q4) (am_ke q1) ⟨rfl, rfl, Nat.le_of_ble_eq_true rfl, Nat.le_of_ble_eq_true rfl⟩ rfl (Nat.le_of_ble_eq_true rfl) ⟨Nat.le_of_ble_eq_true rfl, Nat.le_of_ble_eq_true rfl⟩ ?_
    refine am_sub cx [0, 2, 3, 4] rfl ?_
    exact sn12_line_b45 cx  hres
set_option maxRecDepth 20000 in
theorem sn12_line_b32 {l : Launch} {G : am_G} {v : Int32} {M' : am_Mem} {N : Nat}  (cx : am_Ctx l rm12_line yX12_line cX12_line 5 (some .int) (some (.inl v)) M' 0 0 G)  {r0 : Nat} {x1 : Int32} {x2 : Int32} {x3 : Int32} {M : am_Mem} (hres : fn12_line_b32 N  r0 x1 x2 x3 M = some (v, M')) : G 32 [(0, .inr (.inr (.inl r0))), (1, .inl x1), (2, .inl x2), (3, .inl x3)] [] M 0 0 := by
  unfold fn12_line_b32 at hres
  refine am_iconst cx (v := (0 : Int32)) dX12_line_32 (by decide) ?_
  exact sn12_line_b33 cx  hres
set_option maxRecDepth 20000 in
theorem sn12_line_b0 {l : Launch} {G : am_G} {v : Int32} {M' : am_Mem} {N : Nat}  (cx : am_Ctx l rm12_line yX12_line cX12_line 5 (some .int) (some (.inl v)) M' 0 0 G)  {r0 : Nat} {x1 : Int32} {x2 : Int32} {x3 : Int32} {M : am_Mem} (hres : fn12_line_b0 N  r0 x1 x2 x3 M = some (v, M')) : G 0 [(0, .inr (.inr (.inl r0))), (1, .inl x1), (2, .inl x2), (3, .inl x3)] [] M 0 0 := by
  unfold fn12_line_b0 at hres
  refine am_aload_n cx 0 dX12_line_0 rfl ?_
  refine am_iload_n cx 1 dX12_line_1 rfl ?_
  obtain ⟨q1, hres⟩ := am_ck_some hres
  obtain ⟨v2, M3, q4, hres⟩ := am_bd_some hres
  refine am_callV1 cx [.inl x1] dX12_line_2 cvX12_316 (mt12_isRect q4) (am_ke q1) ⟨rfl, rfl, Nat.le_of_ble_eq_true rfl, Nat.le_of_ble_eq_true rfl⟩ rfl (Nat.le_of_ble_eq_true rfl) ⟨Nat.le_of_ble_eq_true rfl, Nat.le_of_ble_eq_true rfl⟩ ?_
  refine am_if_eq cx (tgt := 32) dX12_line_5 (by decide) (fun h => ?_) (fun h => ?_)
  · have hres := am_ifp h hres
    exact sn12_line_b32 cx  hres
  · have hres := am_ifn h hres
    refine am_aload_n cx 0 dX12_line_8 rfl ?_
    refine am_iload_n cx 1 dX12_line_9 rfl ?_
    obtain ⟨q5, hres⟩ := am_ck_some hres
    obtain ⟨v6, M7, q8, hres⟩ := am_bd_some hres
    refine am_callV1 cx [.inl x1] dX12_line_10 cvX12_325 (mt12_doesFail q8) (am_ke q5) ⟨rfl, rfl, Nat.le_of_ble_eq_true rfl, Nat.le_of_ble_eq_true rfl⟩ rfl (Nat.le_of_ble_eq_true rfl) ⟨Nat.le_of_ble_eq_true rfl, Nat.le_of_ble_eq_true rfl⟩ ?_
    refine am_if_ne cx (tgt := 32) dX12_line_13 (by decide) (fun h => ?_) (fun h => ?_)
    · have hres := am_ifn h hres
      exact sn12_line_b32 cx  hres
    · have hres := am_ifp h hres
      refine am_iload_n cx 3 dX12_line_16 rfl ?_
      refine am_i2l cx dX12_line_17 ?_
      refine am_lconst cx (v := (0 : Int64)) dX12_line_18 (by decide) ?_
      refine am_ldc2 cx dX12_line_19 aw_6_233 ?_
      obtain ⟨v9, M10, q11, hres⟩ := am_bd_some hres
      refine am_callS1 cx [.inr (.inl x3.toInt64), .inr (.inl (0 : Int64)), .inr (.inl (3 : Int64))] dX12_line_22 csX12_141 (mt12_within q11)  ⟨rfl, rfl, Nat.le_of_ble_eq_true rfl, Nat.le_of_ble_eq_true rfl⟩ rfl (Nat.le_of_ble_eq_true rfl) ⟨Nat.le_of_ble_eq_true rfl, Nat.le_of_ble_eq_true rfl⟩ ?_
      refine am_if_eq cx (tgt := 32) dX12_line_25 (by decide) (fun h => ?_) (fun h => ?_)
      · have hres := am_ifp h hres
        exact sn12_line_b32 cx  hres
      · have hres := am_ifn h hres
        refine am_iconst cx (v := (1 : Int32)) dX12_line_28 (by decide) ?_
        refine am_goto cx (tgt := 33) dX12_line_29 (by decide) ?_
        exact sn12_line_b33 cx  hres
set_option maxRecDepth 20000 in
theorem mt12_line {l : Launch} {v : Int32} {M M' : am_Mem} {N : Nat} {r0 : Nat} {x1 : Int32} {x2 : Int32} {x3 : Int32} (h : fn12_line N M r0 x1 x2 x3 = some (v, M')) : am_Met l yX12_line cX12_line 5 (some .int) rm12_line 0 0 [.inr (.inr (.inl r0)), .inl x1, .inl x2, .inl x3] M (some (.inl v)) M' := am_mk (by decide) (Nat.le_of_ble_eq_true rfl) (fun G cx => (sn12_line_b0 cx h))
-- SquareCutsModel.side
def fn12_side_b123 (N : Nat) (k53 : Nat → Int32 → Int32 → Int32 → Int32 → am_Mem → Option (Int32 × am_Mem)) (r0 : Nat) (x1 : Int32) (x2 : Int32) (x4 : Int32) (x5 : Int32) (M : am_Mem) : Option (Int32 × am_Mem) :=
  k53 r0 x1 x2 x4 (x5 + (1 : Int32)) M
def fn12_side_b53B (N : Nat) (k53 : Nat → Int32 → Int32 → Int32 → Int32 → am_Mem → Option (Int32 × am_Mem)) (r0 : Nat) (x1 : Int32) (x2 : Int32) (x4 : Int32) (x5 : Int32) (M : am_Mem) : Option (Int32 × am_Mem) :=
  am_ck (am_k M r0 12) (if (am_I M r0 47) ≤ x5 then some ((-1 : Int32), M) else am_ck (am_k M (am_R M r0 43) 14) (am_ck (am_in x5 (am_L M (am_R M r0 43))) (if (am_I M (am_R M r0 43) x5.toNatClampNeg) = x4 then am_ck (am_k M (am_R M r0 44) 14) (am_ck (am_in x5 (am_L M (am_R M r0 44))) (am_bd (fn12_of M r0 x1 ((4 : Int32) + x2)) (fun v6 M7 => if v6 < (am_I M (am_R M r0 44) x5.toNatClampNeg) then fn12_side_b123 N k53 r0 x1 x2 x4 x5 M7 else am_ck (am_k M7 r0 12) (am_ck (am_k M7 (am_R M7 r0 45) 14) (am_ck (am_in x5 (am_L M7 (am_R M7 r0 45))) (am_bd (fn12_of M7 r0 x1 ((4 : Int32) + x2)) (fun v12 M13 => am_ck (am_k M13 r0 12) (am_bd (fn12_of M13 r0 x1 ((84 : Int32) + x2)) (fun v16 M17 => if (am_I M7 (am_R M7 r0 45) x5.toNatClampNeg) < (v12 + v16) then fn12_side_b123 N k53 r0 x1 x2 x4 x5 M17 else some (x5, M17)))))))))) else fn12_side_b123 N k53 r0 x1 x2 x4 x5 M)))
def fn12_side_b53 (N : Nat)  : Nat → Nat → Int32 → Int32 → Int32 → Int32 → am_Mem → Option (Int32 × am_Mem)
  | 0 => fun _ _ _ _ _ _ => none
  | i + 1 => fn12_side_b53B N (fn12_side_b53 N  i)
def fn12_side_b50 (N : Nat)  (r0 : Nat) (x1 : Int32) (x2 : Int32) (x4 : Int32) (M : am_Mem) : Option (Int32 × am_Mem) :=
  fn12_side_b53 N  N r0 x1 x2 x4 (0 : Int32) M
def fn12_side_b47 (N : Nat)  (a0 : Int32) (a1 : Int32) (r0 : Nat) (x1 : Int32) (x2 : Int32) (M : am_Mem) : Option (Int32 × am_Mem) :=
  fn12_side_b50 N  r0 x1 x2 (a0 + a1) M
def fn12_side_b0 (N : Nat)  (r0 : Nat) (x1 : Int32) (x2 : Int32) (x3 : Int32) (M : am_Mem) : Option (Int32 × am_Mem) :=
  am_ck (am_k M r0 12) (am_bd (fn12_isSquare (am_wI M r0 0 (0 : Int32)) r0 x1 x2) (fun v2 M3 => if v2 = 0 then some ((-1 : Int32), M3) else am_ck (am_k M3 r0 12) (am_bd (fn12_laysLines N M3 r0 x1) (fun v6 M7 => am_ck (am_k M7 r0 12) (am_bd (fn12_of M7 r0 x1 ((44 : Int32) + x2)) (fun v10 M11 => if x3 = 0 then fn12_side_b47 N  v10 (0 : Int32) r0 x1 x2 M11 else am_ck (am_k M11 r0 12) (am_bd (fn12_of M11 r0 x1 ((84 : Int32) + x2)) (fun v14 M15 => fn12_side_b47 N  v10 v14 r0 x1 x2 M15))))))))
def fn12_side (N : Nat) (M : am_Mem) (r0 : Nat) (x1 : Int32) (x2 : Int32) (x3 : Int32) : Option (Int32 × am_Mem) := fn12_side_b0 N r0 x1 x2 x3 M
def rm12_side : Room := { frames := 3, cells := 0, slots := 0, locals := 75 }
set_option maxRecDepth 20000 in
theorem sn12_side_b123 {l : Launch} {G : am_G} {v : Int32} {M' : am_Mem} {N : Nat} {k53 : Nat → Int32 → Int32 → Int32 → Int32 → am_Mem → Option (Int32 × am_Mem)} (cx : am_Ctx l rm12_side yX12_side cX12_side 6 (some .int) (some (.inl v)) M' 0 0 G) (hk53 : ∀ (r0 : Nat) (x1 : Int32) (x2 : Int32) (x4 : Int32) (x5 : Int32) (M : am_Mem), k53 r0 x1 x2 x4 x5 M = some (v, M') → G 53 [(0, .inr (.inr (.inl r0))), (1, .inl x1), (2, .inl x2), (4, .inl x4), (5, .inl x5)] [] M 0 0) {r0 : Nat} {x1 : Int32} {x2 : Int32} {x4 : Int32} {x5 : Int32} {M : am_Mem} (hres : fn12_side_b123 N k53 r0 x1 x2 x4 x5 M = some (v, M')) : G 123 [(0, .inr (.inr (.inl r0))), (1, .inl x1), (2, .inl x2), (4, .inl x4), (5, .inl x5)] [] M 0 0 := by
  unfold fn12_side_b123 at hres
  refine am_iincw cx (lv' := [(0, .inr (.inr (.inl r0))), (1, .inl x1), (2, .inl x2), (4, .inl x4), (5, .inl (x5 + (1 : Int32)))]) (w := (1 : Int32)) 4 dX12_side_123 (by decide) rfl (Nat.le_of_ble_eq_true rfl) rfl ?_
  refine am_goto cx (tgt := 53) dX12_side_126 (by decide) ?_
  exact hk53 _ _ _ _ _ _ hres
set_option maxRecDepth 20000 in
theorem sn12_side_b53B {l : Launch} {G : am_G} {v : Int32} {M' : am_Mem} {N : Nat} {k53 : Nat → Int32 → Int32 → Int32 → Int32 → am_Mem → Option (Int32 × am_Mem)} (cx : am_Ctx l rm12_side yX12_side cX12_side 6 (some .int) (some (.inl v)) M' 0 0 G) (hk53 : ∀ (r0 : Nat) (x1 : Int32) (x2 : Int32) (x4 : Int32) (x5 : Int32) (M : am_Mem), k53 r0 x1 x2 x4 x5 M = some (v, M') → G 53 [(0, .inr (.inr (.inl r0))), (1, .inl x1), (2, .inl x2), (4, .inl x4), (5, .inl x5)] [] M 0 0) {r0 : Nat} {x1 : Int32} {x2 : Int32} {x4 : Int32} {x5 : Int32} {M : am_Mem} (hres : fn12_side_b53B N k53 r0 x1 x2 x4 x5 M = some (v, M')) : G 53 [(0, .inr (.inr (.inl r0))), (1, .inl x1), (2, .inl x2), (4, .inl x4), (5, .inl x5)] [] M 0 0 := by
  unfold fn12_side_b53B at hres
  refine am_iload cx 4 dX12_side_53 rfl ?_
  refine am_aload_n cx 0 dX12_side_55 rfl ?_
  obtain ⟨q1, hres⟩ := am_ck_some hres
  refine am_getI cx dX12_side_56 flX12_360 (am_ke q1) ?_
  refine am_icmp_ge cx (tgt := 129) dX12_side_59 (by decide) (fun h => ?_) (fun h => ?_)
  · have hres := am_ifp h hres
    refine am_iconst cx (v := (-1 : Int32)) dX12_side_129 (by decide) ?_
    obtain ⟨rfl, rfl⟩ := am_fin hres
    exact am_iret cx dX12_side_130
  · have hres := am_ifn h hres
    refine am_aload_n cx 0 dX12_side_62 rfl ?_
    refine am_getR cx dX12_side_63 flX12_88 (am_ke q1) ?_
    refine am_iload cx 4 dX12_side_66 rfl ?_
    obtain ⟨q2, hres⟩ := am_ck_some hres
    obtain ⟨q3, hres⟩ := am_ck_some hres
    refine am_iald cx dX12_side_68 (am_ke q2) q3 ?_
    refine am_iload cx 3 dX12_side_69 rfl ?_
    refine am_icmp_ne cx (tgt := 123) dX12_side_71 (by decide) (fun h => ?_) (fun h => ?_)
    · have hres := am_ifn h hres
      exact sn12_side_b123 cx hk53 hres
    · have hres := am_ifp h hres
      refine am_aload_n cx 0 dX12_side_74 rfl ?_
      refine am_getR cx dX12_side_75 flX12_91 (am_ke q1) ?_
      refine am_iload cx 4 dX12_side_78 rfl ?_
      obtain ⟨q4, hres⟩ := am_ck_some hres
      obtain ⟨q5, hres⟩ := am_ck_some hres
      refine am_iald cx dX12_side_80 (am_ke q4) q5 ?_
      refine am_aload_n cx 0 dX12_side_81 rfl ?_
      refine am_iload_n cx 1 dX12_side_82 rfl ?_
      refine am_iconst cx (v := (4 : Int32)) dX12_side_83 (by decide) ?_
      refine am_iload_n cx 2 dX12_side_84 rfl ?_
      refine am_iadd cx dX12_side_85 ?_
      obtain ⟨v6, M7, q8, hres⟩ := am_bd_some hres
      refine am_callV1 cx [.inl x1, .inl ((4 : Int32) + x2)] dX12_side_86 cvX12_306 (mt12_of q8) (am_ke q1) ⟨rfl, rfl, Nat.le_of_ble_eq_true rfl, Nat.le_of_ble_eq_true rfl⟩ rfl (Nat.le_of_ble_eq_true rfl) ⟨Nat.le_of_ble_eq_true rfl, Nat.le_of_ble_eq_true rfl⟩ ?_
      refine am_icmp_gt cx (tgt := 123) dX12_side_89 (by decide) (fun h => ?_) (fun h => ?_)
      · have hres := am_ifp h hres
        exact sn12_side_b123 cx hk53 hres
      · have hres := am_ifn h hres
        refine am_aload_n cx 0 dX12_side_92 rfl ?_
        obtain ⟨q9, hres⟩ := am_ck_some hres
        refine am_getR cx dX12_side_93 flX12_94 (am_ke q9) ?_
        refine am_iload cx 4 dX12_side_96 rfl ?_
        obtain ⟨q10, hres⟩ := am_ck_some hres
        obtain ⟨q11, hres⟩ := am_ck_some hres
        refine am_iald cx dX12_side_98 (am_ke q10) q11 ?_
        refine am_aload_n cx 0 dX12_side_99 rfl ?_
        refine am_iload_n cx 1 dX12_side_100 rfl ?_
        refine am_iconst cx (v := (4 : Int32)) dX12_side_101 (by decide) ?_
        refine am_iload_n cx 2 dX12_side_102 rfl ?_
        refine am_iadd cx dX12_side_103 ?_
        obtain ⟨v12, M13, q14, hres⟩ := am_bd_some hres
        refine am_callV1 cx [.inl x1, .inl ((4 : Int32) + x2)] dX12_side_104 cvX12_306 (mt12_of q14) (am_ke q9) ⟨rfl, rfl, Nat.le_of_ble_eq_true rfl, Nat.le_of_ble_eq_true rfl⟩ rfl (Nat.le_of_ble_eq_true rfl) ⟨Nat.le_of_ble_eq_true rfl, Nat.le_of_ble_eq_true rfl⟩ ?_
        refine am_aload_n cx 0 dX12_side_107 rfl ?_
        refine am_iload_n cx 1 dX12_side_108 rfl ?_
        refine am_bipush cx (v := (84 : Int32)) dX12_side_109 (by decide) ?_
        refine am_iload_n cx 2 dX12_side_111 rfl ?_
        refine am_iadd cx dX12_side_112 ?_
        obtain ⟨q15, hres⟩ := am_ck_some hres
        obtain ⟨v16, M17, q18, hres⟩ := am_bd_some hres
        refine am_callV1 cx [.inl x1, .inl ((84 : Int32) + x2)] dX12_side_113 cvX12_306 (mt12_of q18) (am_ke q15) ⟨rfl, rfl, Nat.le_of_ble_eq_true rfl, Nat.le_of_ble_eq_true rfl⟩ rfl (Nat.le_of_ble_eq_true rfl) ⟨Nat.le_of_ble_eq_true rfl, Nat.le_of_ble_eq_true rfl⟩ ?_
        refine am_iadd cx dX12_side_116 ?_
        refine am_icmp_lt cx (tgt := 123) dX12_side_117 (by decide) (fun h => ?_) (fun h => ?_)
        · have hres := am_ifp h hres
          exact sn12_side_b123 cx hk53 hres
        · have hres := am_ifn h hres
          refine am_iload cx 4 dX12_side_120 rfl ?_
          obtain ⟨rfl, rfl⟩ := am_fin hres
          exact am_iret cx dX12_side_122
set_option maxRecDepth 20000 in
theorem sn12_side_b53 {l : Launch} {G : am_G} {v : Int32} {M' : am_Mem} {N : Nat}  (cx : am_Ctx l rm12_side yX12_side cX12_side 6 (some .int) (some (.inl v)) M' 0 0 G)  (i : Nat) : ∀ (r0 : Nat) (x1 : Int32) (x2 : Int32) (x4 : Int32) (x5 : Int32) (M : am_Mem), fn12_side_b53 N  i r0 x1 x2 x4 x5 M = some (v, M') → G 53 [(0, .inr (.inr (.inl r0))), (1, .inl x1), (2, .inl x2), (4, .inl x4), (5, .inl x5)] [] M 0 0 := by
  induction i with
  | zero => intro r0 x1 x2 x4 x5 M hres; exact am_no hres
  | succ i ih => intro r0 x1 x2 x4 x5 M hres; exact sn12_side_b53B cx ih hres
set_option maxRecDepth 20000 in
theorem sn12_side_b50 {l : Launch} {G : am_G} {v : Int32} {M' : am_Mem} {N : Nat}  (cx : am_Ctx l rm12_side yX12_side cX12_side 6 (some .int) (some (.inl v)) M' 0 0 G)  {r0 : Nat} {x1 : Int32} {x2 : Int32} {x4 : Int32} {M : am_Mem} (hres : fn12_side_b50 N  r0 x1 x2 x4 M = some (v, M')) : G 50 [(0, .inr (.inr (.inl r0))), (1, .inl x1), (2, .inl x2), (4, .inl x4)] [] M 0 0 := by
  unfold fn12_side_b50 at hres
  refine am_iconst cx (v := (0 : Int32)) dX12_side_50 (by decide) ?_
  refine am_istore cx (lv' := [(0, .inr (.inr (.inl r0))), (1, .inl x1), (2, .inl x2), (4, .inl x4), (5, .inl (0 : Int32))]) dX12_side_51 (Nat.le_of_ble_eq_true rfl) rfl ?_
  exact sn12_side_b53 cx  N _ _ _ _ _ _ hres
set_option maxRecDepth 20000 in
theorem sn12_side_b47 {l : Launch} {G : am_G} {v : Int32} {M' : am_Mem} {N : Nat}  (cx : am_Ctx l rm12_side yX12_side cX12_side 6 (some .int) (some (.inl v)) M' 0 0 G)  {a0 : Int32} {a1 : Int32} {r0 : Nat} {x1 : Int32} {x2 : Int32} {M : am_Mem} (hres : fn12_side_b47 N  a0 a1 r0 x1 x2 M = some (v, M')) : G 47 [(0, .inr (.inr (.inl r0))), (1, .inl x1), (2, .inl x2)] [.inl a1, .inl a0] M 0 0 := by
  unfold fn12_side_b47 at hres
  refine am_iadd cx dX12_side_47 ?_
  refine am_istore cx (lv' := [(0, .inr (.inr (.inl r0))), (1, .inl x1), (2, .inl x2), (4, .inl (a0 + a1))]) dX12_side_48 (Nat.le_of_ble_eq_true rfl) rfl ?_
  exact sn12_side_b50 cx  hres
set_option maxRecDepth 20000 in
theorem sn12_side_b0 {l : Launch} {G : am_G} {v : Int32} {M' : am_Mem} {N : Nat}  (cx : am_Ctx l rm12_side yX12_side cX12_side 6 (some .int) (some (.inl v)) M' 0 0 G)  {r0 : Nat} {x1 : Int32} {x2 : Int32} {x3 : Int32} {M : am_Mem} (hres : fn12_side_b0 N  r0 x1 x2 x3 M = some (v, M')) : G 0 [(0, .inr (.inr (.inl r0))), (1, .inl x1), (2, .inl x2), (3, .inl x3)] [] M 0 0 := by
  unfold fn12_side_b0 at hres
  refine am_aload_n cx 0 dX12_side_0 rfl ?_
  refine am_iconst cx (v := (0 : Int32)) dX12_side_1 (by decide) ?_
  obtain ⟨q1, hres⟩ := am_ck_some hres
  refine am_putI cx dX12_side_2 fpX12_103 (fun h => by cases h) (am_ke q1) ?_
  refine am_aload_n cx 0 dX12_side_5 rfl ?_
  refine am_iload_n cx 1 dX12_side_6 rfl ?_
  refine am_iload_n cx 2 dX12_side_7 rfl ?_
  obtain ⟨v2, M3, q4, hres⟩ := am_bd_some hres
  refine am_callV1 cx [.inl x1, .inl x2] dX12_side_8 cvX12_337 (mt12_isSquare q4) (am_ke q1) ⟨rfl, rfl, Nat.le_of_ble_eq_true rfl, Nat.le_of_ble_eq_true rfl⟩ rfl (Nat.le_of_ble_eq_true rfl) ⟨Nat.le_of_ble_eq_true rfl, Nat.le_of_ble_eq_true rfl⟩ ?_
  refine am_if_ne cx (tgt := 16) dX12_side_11 (by decide) (fun h => ?_) (fun h => ?_)
  · have hres := am_ifn h hres
    refine am_aload_n cx 0 dX12_side_16 rfl ?_
    refine am_iload_n cx 1 dX12_side_17 rfl ?_
    obtain ⟨q5, hres⟩ := am_ck_some hres
    obtain ⟨v6, M7, q8, hres⟩ := am_bd_some hres
    refine am_callV0 cx [.inl x1] dX12_side_18 cvX12_369 (mt12_laysLines q8) (am_ke q5) ⟨rfl, rfl, Nat.le_of_ble_eq_true rfl, Nat.le_of_ble_eq_true rfl⟩ rfl (Nat.le_of_ble_eq_true rfl) ⟨Nat.le_of_ble_eq_true rfl, Nat.le_of_ble_eq_true rfl⟩ ?_
    refine am_aload_n cx 0 dX12_side_21 rfl ?_
    refine am_iload_n cx 1 dX12_side_22 rfl ?_
    refine am_bipush cx (v := (44 : Int32)) dX12_side_23 (by decide) ?_
    refine am_iload_n cx 2 dX12_side_25 rfl ?_
    refine am_iadd cx dX12_side_26 ?_
    obtain ⟨q9, hres⟩ := am_ck_some hres
    obtain ⟨v10, M11, q12, hres⟩ := am_bd_some hres
    refine am_callV1 cx [.inl x1, .inl ((44 : Int32) + x2)] dX12_side_27 cvX12_306 (mt12_of q12) (am_ke q9) ⟨rfl, rfl, Nat.le_of_ble_eq_true rfl, Nat.le_of_ble_eq_true rfl⟩ rfl (Nat.le_of_ble_eq_true rfl) ⟨Nat.le_of_ble_eq_true rfl, Nat.le_of_ble_eq_true rfl⟩ ?_
    refine am_iload_n cx 3 dX12_side_30 rfl ?_
    refine am_if_eq cx (tgt := 46) dX12_side_31 (by decide) (fun h => ?_) (fun h => ?_)
    · have hres := am_ifp h hres
      refine am_iconst cx (v := (0 : Int32)) dX12_side_46 (by decide) ?_
      refine am_sub cx [0, 1, 2] rfl ?_
      exact sn12_side_b47 cx  hres
    · have hres := am_ifn h hres
      refine am_aload_n cx 0 dX12_side_34 rfl ?_
      refine am_iload_n cx 1 dX12_side_35 rfl ?_
      refine am_bipush cx (v := (84 : Int32)) dX12_side_36 (by decide) ?_
      refine am_iload_n cx 2 dX12_side_38 rfl ?_
      refine am_iadd cx dX12_side_39 ?_
      obtain ⟨q13, hres⟩ := am_ck_some hres
      obtain ⟨v14, M15, q16, hres⟩ := am_bd_some hres
      refine am_callV1 cx [.inl x1, .inl ((84 : Int32) + x2)] dX12_side_40 cvX12_306 (mt12_of q16) (am_ke q13) ⟨rfl, rfl, Nat.le_of_ble_eq_true rfl, Nat.le_of_ble_eq_true rfl⟩ rfl (Nat.le_of_ble_eq_true rfl) ⟨Nat.le_of_ble_eq_true rfl, Nat.le_of_ble_eq_true rfl⟩ ?_
      refine am_goto cx (tgt := 47) dX12_side_43 (by decide) ?_
      refine am_sub cx [0, 1, 2] rfl ?_
      exact sn12_side_b47 cx  hres
  · have hres := am_ifp h hres
    refine am_iconst cx (v := (-1 : Int32)) dX12_side_14 (by decide) ?_
    obtain ⟨rfl, rfl⟩ := am_fin hres
    exact am_iret cx dX12_side_15
set_option maxRecDepth 20000 in
theorem mt12_side {l : Launch} {v : Int32} {M M' : am_Mem} {N : Nat} {r0 : Nat} {x1 : Int32} {x2 : Int32} {x3 : Int32} (h : fn12_side N M r0 x1 x2 x3 = some (v, M')) : am_Met l yX12_side cX12_side 6 (some .int) rm12_side 0 0 [.inr (.inr (.inl r0)), .inl x1, .inl x2, .inl x3] M (some (.inl v)) M' := am_mk (by decide) (Nat.le_of_ble_eq_true rfl) (fun G cx => (sn12_side_b0 cx h))
-- SquareCutsModel.takes
def fn12_takes_b2B (N : Nat) (k2 : Nat → Int32 → Int32 → am_Mem → Option (Unit × am_Mem)) (r0 : Nat) (x1 : Int32) (x2 : Int32) (M : am_Mem) : Option (Unit × am_Mem) :=
  if (124 : Int32) ≤ x2 then some ((), M) else am_ck (am_k M r0 12) (am_ck (am_k M (am_R M r0 17) 14) (am_ck (am_in (((124 : Int32) * x1) + x2) (am_L M (am_R M r0 17))) (am_ck (am_k M (am_R M r0 48) 14) (am_ck (am_in x2 (am_L M (am_R M r0 48))) (k2 r0 x1 (x2 + (1 : Int32)) (am_wI M (am_R M r0 48) x2.toNatClampNeg (am_I M (am_R M r0 17) (((124 : Int32) * x1) + x2).toNatClampNeg)))))))
def fn12_takes_b2 (N : Nat)  : Nat → Nat → Int32 → Int32 → am_Mem → Option (Unit × am_Mem)
  | 0 => fun _ _ _ _ => none
  | i + 1 => fn12_takes_b2B N (fn12_takes_b2 N  i)
def fn12_takes_b0 (N : Nat)  (r0 : Nat) (x1 : Int32) (M : am_Mem) : Option (Unit × am_Mem) :=
  fn12_takes_b2 N  N r0 x1 (0 : Int32) M
def fn12_takes (N : Nat) (M : am_Mem) (r0 : Nat) (x1 : Int32) : Option (Unit × am_Mem) := fn12_takes_b0 N r0 x1 M
def rm12_takes : Room := { frames := 0, cells := 0, slots := 0, locals := 0 }
set_option maxRecDepth 20000 in
theorem sn12_takes_b2B {l : Launch} {G : am_G} {M' : am_Mem} {N : Nat} {k2 : Nat → Int32 → Int32 → am_Mem → Option (Unit × am_Mem)} (cx : am_Ctx l rm12_takes yX12_takes cX12_takes 3 none none M' 0 0 G) (hk2 : ∀ (r0 : Nat) (x1 : Int32) (x2 : Int32) (M : am_Mem), k2 r0 x1 x2 M = some ((), M') → G 2 [(0, .inr (.inr (.inl r0))), (1, .inl x1), (2, .inl x2)] [] M 0 0) {r0 : Nat} {x1 : Int32} {x2 : Int32} {M : am_Mem} (hres : fn12_takes_b2B N k2 r0 x1 x2 M = some ((), M')) : G 2 [(0, .inr (.inr (.inl r0))), (1, .inl x1), (2, .inl x2)] [] M 0 0 := by
  unfold fn12_takes_b2B at hres
  refine am_iload_n cx 2 dX12_takes_2 rfl ?_
  refine am_bipush cx (v := (124 : Int32)) dX12_takes_3 (by decide) ?_
  refine am_icmp_ge cx (tgt := 31) dX12_takes_5 (by decide) (fun h => ?_) (fun h => ?_)
  · have hres := am_ifp h hres
    obtain ⟨-, rfl⟩ := am_fin hres
    exact am_vret cx dX12_takes_31
  · have hres := am_ifn h hres
    refine am_aload_n cx 0 dX12_takes_8 rfl ?_
    obtain ⟨q1, hres⟩ := am_ck_some hres
    refine am_getR cx dX12_takes_9 flX12_100 (am_ke q1) ?_
    refine am_iload_n cx 2 dX12_takes_12 rfl ?_
    refine am_aload_n cx 0 dX12_takes_13 rfl ?_
    refine am_getR cx dX12_takes_14 flX12_30 (am_ke q1) ?_
    refine am_bipush cx (v := (124 : Int32)) dX12_takes_17 (by decide) ?_
    refine am_iload_n cx 1 dX12_takes_19 rfl ?_
    refine am_imul cx dX12_takes_20 ?_
    refine am_iload_n cx 2 dX12_takes_21 rfl ?_
    refine am_iadd cx dX12_takes_22 ?_
    obtain ⟨q2, hres⟩ := am_ck_some hres
    obtain ⟨q3, hres⟩ := am_ck_some hres
    refine am_iald cx dX12_takes_23 (am_ke q2) q3 ?_
    obtain ⟨q4, hres⟩ := am_ck_some hres
    obtain ⟨q5, hres⟩ := am_ck_some hres
    refine am_iast cx dX12_takes_24 (am_ke q4) q5  ?_
    refine am_iincw cx (lv' := [(0, .inr (.inr (.inl r0))), (1, .inl x1), (2, .inl (x2 + (1 : Int32)))]) (w := (1 : Int32)) 2 dX12_takes_25 (by decide) rfl (Nat.le_of_ble_eq_true rfl) rfl ?_
    refine am_goto cx (tgt := 2) dX12_takes_28 (by decide) ?_
    exact hk2 _ _ _ _ hres
set_option maxRecDepth 20000 in
theorem sn12_takes_b2 {l : Launch} {G : am_G} {M' : am_Mem} {N : Nat}  (cx : am_Ctx l rm12_takes yX12_takes cX12_takes 3 none none M' 0 0 G)  (i : Nat) : ∀ (r0 : Nat) (x1 : Int32) (x2 : Int32) (M : am_Mem), fn12_takes_b2 N  i r0 x1 x2 M = some ((), M') → G 2 [(0, .inr (.inr (.inl r0))), (1, .inl x1), (2, .inl x2)] [] M 0 0 := by
  induction i with
  | zero => intro r0 x1 x2 M hres; exact am_no hres
  | succ i ih => intro r0 x1 x2 M hres; exact sn12_takes_b2B cx ih hres
set_option maxRecDepth 20000 in
theorem sn12_takes_b0 {l : Launch} {G : am_G} {M' : am_Mem} {N : Nat}  (cx : am_Ctx l rm12_takes yX12_takes cX12_takes 3 none none M' 0 0 G)  {r0 : Nat} {x1 : Int32} {M : am_Mem} (hres : fn12_takes_b0 N  r0 x1 M = some ((), M')) : G 0 [(0, .inr (.inr (.inl r0))), (1, .inl x1)] [] M 0 0 := by
  unfold fn12_takes_b0 at hres
  refine am_iconst cx (v := (0 : Int32)) dX12_takes_0 (by decide) ?_
  refine am_istore_n cx (lv' := [(0, .inr (.inr (.inl r0))), (1, .inl x1), (2, .inl (0 : Int32))]) dX12_takes_1 (Nat.le_of_ble_eq_true rfl) rfl ?_
  exact sn12_takes_b2 cx  N _ _ _ _ hres
set_option maxRecDepth 20000 in
theorem mt12_takes {l : Launch} {M M' : am_Mem} {N : Nat} {r0 : Nat} {x1 : Int32} (h : fn12_takes N M r0 x1 = some ((), M')) : am_Met l yX12_takes cX12_takes 3 none rm12_takes 0 0 [.inr (.inr (.inl r0)), .inl x1] M none M' := am_mk (by decide) (Nat.le_of_ble_eq_true rfl) (fun G cx => (sn12_takes_b0 cx h))
-- SquareCutsModel.quarter
def fn12_quarter_b28 (N : Nat) (k9 : Nat → Int32 → Int32 → am_Mem → Option (Unit × am_Mem)) (r0 : Nat) (x1 : Int32) (x2 : Int32) (x3 : Int32) (M : am_Mem) : Option (Unit × am_Mem) :=
  am_ck (am_k M r0 12) (am_ck (am_k M (am_R M r0 48) 14) (am_ck (am_in ((44 : Int32) + x2) (am_L M (am_R M r0 48))) (am_ck (am_in ((84 : Int32) + x2) (am_L M (am_R M r0 48))) (am_ck (am_in ((4 : Int32) + x2) (am_L M (am_R M r0 48))) (am_ck (am_in ((44 : Int32) + x2) (am_L M (am_R M r0 48))) (k9 r0 x1 (x2 + (1 : Int32)) (am_wI (am_wI M (am_R M r0 48) ((4 : Int32) + x2).toNatClampNeg ((x1 - (am_I M (am_R M r0 48) ((44 : Int32) + x2).toNatClampNeg)) - (am_I M (am_R M r0 48) ((84 : Int32) + x2).toNatClampNeg))) (am_R M r0 48) ((44 : Int32) + x2).toNatClampNeg x3)))))))
def fn12_quarter_b9B (N : Nat) (k9 : Nat → Int32 → Int32 → am_Mem → Option (Unit × am_Mem)) (r0 : Nat) (x1 : Int32) (x2 : Int32) (M : am_Mem) : Option (Unit × am_Mem) :=
  am_ck (am_k M r0 12) (am_ck (am_k M (am_R M r0 48) 14) (am_ck (am_in (0 : Int32) (am_L M (am_R M r0 48))) (if (am_I M (am_R M r0 48) (0 : Int32).toNatClampNeg) ≤ x2 then am_ck (am_in (1 : Int32) (am_L M (am_R M r0 48))) (am_ck (am_in (2 : Int32) (am_L M (am_R M r0 48))) (am_ck (am_in (1 : Int32) (am_L M (am_R M r0 48))) (some ((), (am_wI (am_wI M (am_R M r0 48) (2 : Int32).toNatClampNeg (am_I M (am_R M r0 48) (1 : Int32).toNatClampNeg)) (am_R M r0 48) (1 : Int32).toNatClampNeg x1))))) else am_ck (am_in ((4 : Int32) + x2) (am_L M (am_R M r0 48))) (fn12_quarter_b28 N k9 r0 x1 x2 (am_I M (am_R M r0 48) ((4 : Int32) + x2).toNatClampNeg) M))))
def fn12_quarter_b9 (N : Nat)  : Nat → Nat → Int32 → Int32 → am_Mem → Option (Unit × am_Mem)
  | 0 => fun _ _ _ _ => none
  | i + 1 => fn12_quarter_b9B N (fn12_quarter_b9 N  i)
def fn12_quarter_b7 (N : Nat)  (r0 : Nat) (x1 : Int32) (M : am_Mem) : Option (Unit × am_Mem) :=
  fn12_quarter_b9 N  N r0 x1 (0 : Int32) M
def fn12_quarter_b0 (N : Nat)  (r0 : Nat) (M : am_Mem) : Option (Unit × am_Mem) :=
  am_ck (am_k M r0 12) (am_ck (am_k M (am_R M r0 48) 14) (am_ck (am_in (2 : Int32) (am_L M (am_R M r0 48))) (fn12_quarter_b7 N  r0 (am_I M (am_R M r0 48) (2 : Int32).toNatClampNeg) M)))
def fn12_quarter (N : Nat) (M : am_Mem) (r0 : Nat) : Option (Unit × am_Mem) := fn12_quarter_b0 N r0 M
def rm12_quarter : Room := { frames := 0, cells := 0, slots := 0, locals := 0 }
set_option maxRecDepth 20000 in
theorem sn12_quarter_b28 {l : Launch} {G : am_G} {M' : am_Mem} {N : Nat} {k9 : Nat → Int32 → Int32 → am_Mem → Option (Unit × am_Mem)} (cx : am_Ctx l rm12_quarter yX12_quarter cX12_quarter 4 none none M' 0 0 G) (hk9 : ∀ (r0 : Nat) (x1 : Int32) (x2 : Int32) (M : am_Mem), k9 r0 x1 x2 M = some ((), M') → G 9 [(0, .inr (.inr (.inl r0))), (1, .inl x1), (2, .inl x2)] [] M 0 0) {r0 : Nat} {x1 : Int32} {x2 : Int32} {x3 : Int32} {M : am_Mem} (hres : fn12_quarter_b28 N k9 r0 x1 x2 x3 M = some ((), M')) : G 28 [(0, .inr (.inr (.inl r0))), (1, .inl x1), (2, .inl x2), (3, .inl x3)] [] M 0 0 := by
  unfold fn12_quarter_b28 at hres
  refine am_aload_n cx 0 dX12_quarter_28 rfl ?_
  obtain ⟨q1, hres⟩ := am_ck_some hres
  refine am_getR cx dX12_quarter_29 flX12_100 (am_ke q1) ?_
  refine am_iconst cx (v := (4 : Int32)) dX12_quarter_32 (by decide) ?_
  refine am_iload_n cx 2 dX12_quarter_33 rfl ?_
  refine am_iadd cx dX12_quarter_34 ?_
  refine am_iload_n cx 1 dX12_quarter_35 rfl ?_
  refine am_aload_n cx 0 dX12_quarter_36 rfl ?_
  refine am_getR cx dX12_quarter_37 flX12_100 (am_ke q1) ?_
  refine am_bipush cx (v := (44 : Int32)) dX12_quarter_40 (by decide) ?_
  refine am_iload_n cx 2 dX12_quarter_42 rfl ?_
  refine am_iadd cx dX12_quarter_43 ?_
  obtain ⟨q2, hres⟩ := am_ck_some hres
  obtain ⟨q3, hres⟩ := am_ck_some hres
  refine am_iald cx dX12_quarter_44 (am_ke q2) q3 ?_
  refine am_isub cx dX12_quarter_45 ?_
  refine am_aload_n cx 0 dX12_quarter_46 rfl ?_
  refine am_getR cx dX12_quarter_47 flX12_100 (am_ke q1) ?_
  refine am_bipush cx (v := (84 : Int32)) dX12_quarter_50 (by decide) ?_
  refine am_iload_n cx 2 dX12_quarter_52 rfl ?_
  refine am_iadd cx dX12_quarter_53 ?_
  obtain ⟨q4, hres⟩ := am_ck_some hres
  refine am_iald cx dX12_quarter_54 (am_ke q2) q4 ?_
  refine am_isub cx dX12_quarter_55 ?_
  obtain ⟨q5, hres⟩ := am_ck_some hres
  refine am_iast cx dX12_quarter_56 (am_ke q2) q5  ?_
  refine am_aload_n cx 0 dX12_quarter_57 rfl ?_
  refine am_getR cx dX12_quarter_58 flX12_100 (am_ke q1) ?_
  refine am_bipush cx (v := (44 : Int32)) dX12_quarter_61 (by decide) ?_
  refine am_iload_n cx 2 dX12_quarter_63 rfl ?_
  refine am_iadd cx dX12_quarter_64 ?_
  refine am_iload_n cx 3 dX12_quarter_65 rfl ?_
  obtain ⟨q6, hres⟩ := am_ck_some hres
  refine am_iast cx dX12_quarter_66 (am_ke q2) q6  ?_
  refine am_iincw cx (lv' := [(0, .inr (.inr (.inl r0))), (1, .inl x1), (2, .inl (x2 + (1 : Int32))), (3, .inl x3)]) (w := (1 : Int32)) 2 dX12_quarter_67 (by decide) rfl (Nat.le_of_ble_eq_true rfl) rfl ?_
  refine am_goto cx (tgt := 9) dX12_quarter_70 (by decide) ?_
  refine am_sub cx [0, 1, 2] rfl ?_
  exact hk9 _ _ _ _ hres
set_option maxRecDepth 20000 in
theorem sn12_quarter_b9B {l : Launch} {G : am_G} {M' : am_Mem} {N : Nat} {k9 : Nat → Int32 → Int32 → am_Mem → Option (Unit × am_Mem)} (cx : am_Ctx l rm12_quarter yX12_quarter cX12_quarter 4 none none M' 0 0 G) (hk9 : ∀ (r0 : Nat) (x1 : Int32) (x2 : Int32) (M : am_Mem), k9 r0 x1 x2 M = some ((), M') → G 9 [(0, .inr (.inr (.inl r0))), (1, .inl x1), (2, .inl x2)] [] M 0 0) {r0 : Nat} {x1 : Int32} {x2 : Int32} {M : am_Mem} (hres : fn12_quarter_b9B N k9 r0 x1 x2 M = some ((), M')) : G 9 [(0, .inr (.inr (.inl r0))), (1, .inl x1), (2, .inl x2)] [] M 0 0 := by
  unfold fn12_quarter_b9B at hres
  refine am_iload_n cx 2 dX12_quarter_9 rfl ?_
  refine am_aload_n cx 0 dX12_quarter_10 rfl ?_
  obtain ⟨q1, hres⟩ := am_ck_some hres
  refine am_getR cx dX12_quarter_11 flX12_100 (am_ke q1) ?_
  refine am_iconst cx (v := (0 : Int32)) dX12_quarter_14 (by decide) ?_
  obtain ⟨q2, hres⟩ := am_ck_some hres
  obtain ⟨q3, hres⟩ := am_ck_some hres
  refine am_iald cx dX12_quarter_15 (am_ke q2) q3 ?_
  refine am_icmp_ge cx (tgt := 73) dX12_quarter_16 (by decide) (fun h => ?_) (fun h => ?_)
  · have hres := am_ifp h hres
    refine am_aload_n cx 0 dX12_quarter_73 rfl ?_
    refine am_getR cx dX12_quarter_74 flX12_100 (am_ke q1) ?_
    refine am_iconst cx (v := (2 : Int32)) dX12_quarter_77 (by decide) ?_
    refine am_aload_n cx 0 dX12_quarter_78 rfl ?_
    refine am_getR cx dX12_quarter_79 flX12_100 (am_ke q1) ?_
    refine am_iconst cx (v := (1 : Int32)) dX12_quarter_82 (by decide) ?_
    obtain ⟨q4, hres⟩ := am_ck_some hres
    refine am_iald cx dX12_quarter_83 (am_ke q2) q4 ?_
    obtain ⟨q5, hres⟩ := am_ck_some hres
    refine am_iast cx dX12_quarter_84 (am_ke q2) q5  ?_
    refine am_aload_n cx 0 dX12_quarter_85 rfl ?_
    refine am_getR cx dX12_quarter_86 flX12_100 (am_ke q1) ?_
    refine am_iconst cx (v := (1 : Int32)) dX12_quarter_89 (by decide) ?_
    refine am_iload_n cx 1 dX12_quarter_90 rfl ?_
    obtain ⟨q6, hres⟩ := am_ck_some hres
    refine am_iast cx dX12_quarter_91 (am_ke q2) q6  ?_
    obtain ⟨-, rfl⟩ := am_fin hres
    exact am_vret cx dX12_quarter_92
  · have hres := am_ifn h hres
    refine am_aload_n cx 0 dX12_quarter_19 rfl ?_
    refine am_getR cx dX12_quarter_20 flX12_100 (am_ke q1) ?_
    refine am_iconst cx (v := (4 : Int32)) dX12_quarter_23 (by decide) ?_
    refine am_iload_n cx 2 dX12_quarter_24 rfl ?_
    refine am_iadd cx dX12_quarter_25 ?_
    obtain ⟨q7, hres⟩ := am_ck_some hres
    refine am_iald cx dX12_quarter_26 (am_ke q2) q7 ?_
    refine am_istore_n cx (lv' := [(0, .inr (.inr (.inl r0))), (1, .inl x1), (2, .inl x2), (3, .inl (am_I M (am_R M r0 48) ((4 : Int32) + x2).toNatClampNeg))]) dX12_quarter_27 (Nat.le_of_ble_eq_true rfl) rfl ?_
    exact sn12_quarter_b28 cx hk9 hres
set_option maxRecDepth 20000 in
theorem sn12_quarter_b9 {l : Launch} {G : am_G} {M' : am_Mem} {N : Nat}  (cx : am_Ctx l rm12_quarter yX12_quarter cX12_quarter 4 none none M' 0 0 G)  (i : Nat) : ∀ (r0 : Nat) (x1 : Int32) (x2 : Int32) (M : am_Mem), fn12_quarter_b9 N  i r0 x1 x2 M = some ((), M') → G 9 [(0, .inr (.inr (.inl r0))), (1, .inl x1), (2, .inl x2)] [] M 0 0 := by
  induction i with
  | zero => intro r0 x1 x2 M hres; exact am_no hres
  | succ i ih => intro r0 x1 x2 M hres; exact sn12_quarter_b9B cx ih hres
set_option maxRecDepth 20000 in
theorem sn12_quarter_b7 {l : Launch} {G : am_G} {M' : am_Mem} {N : Nat}  (cx : am_Ctx l rm12_quarter yX12_quarter cX12_quarter 4 none none M' 0 0 G)  {r0 : Nat} {x1 : Int32} {M : am_Mem} (hres : fn12_quarter_b7 N  r0 x1 M = some ((), M')) : G 7 [(0, .inr (.inr (.inl r0))), (1, .inl x1)] [] M 0 0 := by
  unfold fn12_quarter_b7 at hres
  refine am_iconst cx (v := (0 : Int32)) dX12_quarter_7 (by decide) ?_
  refine am_istore_n cx (lv' := [(0, .inr (.inr (.inl r0))), (1, .inl x1), (2, .inl (0 : Int32))]) dX12_quarter_8 (Nat.le_of_ble_eq_true rfl) rfl ?_
  exact sn12_quarter_b9 cx  N _ _ _ _ hres
set_option maxRecDepth 20000 in
theorem sn12_quarter_b0 {l : Launch} {G : am_G} {M' : am_Mem} {N : Nat}  (cx : am_Ctx l rm12_quarter yX12_quarter cX12_quarter 4 none none M' 0 0 G)  {r0 : Nat} {M : am_Mem} (hres : fn12_quarter_b0 N  r0 M = some ((), M')) : G 0 [(0, .inr (.inr (.inl r0)))] [] M 0 0 := by
  unfold fn12_quarter_b0 at hres
  refine am_aload_n cx 0 dX12_quarter_0 rfl ?_
  obtain ⟨q1, hres⟩ := am_ck_some hres
  refine am_getR cx dX12_quarter_1 flX12_100 (am_ke q1) ?_
  refine am_iconst cx (v := (2 : Int32)) dX12_quarter_4 (by decide) ?_
  obtain ⟨q2, hres⟩ := am_ck_some hres
  obtain ⟨q3, hres⟩ := am_ck_some hres
  refine am_iald cx dX12_quarter_5 (am_ke q2) q3 ?_
  refine am_istore_n cx (lv' := [(0, .inr (.inr (.inl r0))), (1, .inl (am_I M (am_R M r0 48) (2 : Int32).toNatClampNeg))]) dX12_quarter_6 (Nat.le_of_ble_eq_true rfl) rfl ?_
  exact sn12_quarter_b7 cx  hres
set_option maxRecDepth 20000 in
theorem mt12_quarter {l : Launch} {M M' : am_Mem} {N : Nat} {r0 : Nat} (h : fn12_quarter N M r0 = some ((), M')) : am_Met l yX12_quarter cX12_quarter 4 none rm12_quarter 0 0 [.inr (.inr (.inl r0))] M none M' := am_mk (by decide) (Nat.le_of_ble_eq_true rfl) (fun G cx => (sn12_quarter_b0 cx h))
-- SquareCutsModel.turns
def fn12_turns_b60B (N : Nat) (k60 : Nat → Int32 → am_Mem → Option (Unit × am_Mem)) (r0 : Nat) (x2 : Int32) (M : am_Mem) : Option (Unit × am_Mem) :=
  if x2 ≤ 0 then some ((), M) else am_ck (am_k M r0 12) (am_bd (fn12_quarter N M r0) (fun v2 M3 => k60 r0 (x2 + (-1 : Int32)) M3))
def fn12_turns_b60 (N : Nat)  : Nat → Nat → Int32 → am_Mem → Option (Unit × am_Mem)
  | 0 => fun _ _ _ => none
  | i + 1 => fn12_turns_b60B N (fn12_turns_b60 N  i)
def fn12_turns_b56 (N : Nat)  (r0 : Nat) (x1 : Int32) (M : am_Mem) : Option (Unit × am_Mem) :=
  fn12_turns_b60 N  N r0 (x1 - x1 / (4 : Int32) * (4 : Int32)) M
def fn12_turns_b7B (N : Nat) (k7 : Nat → Int32 → Int32 → am_Mem → Option (Unit × am_Mem)) (r0 : Nat) (x1 : Int32) (x2 : Int32) (M : am_Mem) : Option (Unit × am_Mem) :=
  am_ck (am_k M r0 12) (am_ck (am_k M (am_R M r0 48) 14) (am_ck (am_in (0 : Int32) (am_L M (am_R M r0 48))) (if (am_I M (am_R M r0 48) (0 : Int32).toNatClampNeg) ≤ x2 then fn12_turns_b56 N  r0 x1 M else am_ck (am_in (1 : Int32) (am_L M (am_R M r0 48))) (am_ck (am_in ((4 : Int32) + x2) (am_L M (am_R M r0 48))) (am_ck (am_in ((84 : Int32) + x2) (am_L M (am_R M r0 48))) (am_ck (am_in ((4 : Int32) + x2) (am_L M (am_R M r0 48))) (k7 r0 x1 (x2 + (1 : Int32)) (am_wI M (am_R M r0 48) ((4 : Int32) + x2).toNatClampNeg (((am_I M (am_R M r0 48) (1 : Int32).toNatClampNeg) - (am_I M (am_R M r0 48) ((4 : Int32) + x2).toNatClampNeg)) - (am_I M (am_R M r0 48) ((84 : Int32) + x2).toNatClampNeg))))))))))
def fn12_turns_b7 (N : Nat)  : Nat → Nat → Int32 → Int32 → am_Mem → Option (Unit × am_Mem)
  | 0 => fun _ _ _ _ => none
  | i + 1 => fn12_turns_b7B N (fn12_turns_b7 N  i)
def fn12_turns_b0 (N : Nat)  (r0 : Nat) (x1 : Int32) (M : am_Mem) : Option (Unit × am_Mem) :=
  if x1 ≤ (3 : Int32) then fn12_turns_b56 N  r0 x1 M else fn12_turns_b7 N  N r0 x1 (0 : Int32) M
def fn12_turns (N : Nat) (M : am_Mem) (r0 : Nat) (x1 : Int32) : Option (Unit × am_Mem) := fn12_turns_b0 N r0 x1 M
def rm12_turns : Room := { frames := 1, cells := 0, slots := 0, locals := 23 }
set_option maxRecDepth 20000 in
theorem sn12_turns_b60B {l : Launch} {G : am_G} {M' : am_Mem} {N : Nat} {k60 : Nat → Int32 → am_Mem → Option (Unit × am_Mem)} (cx : am_Ctx l rm12_turns yX12_turns cX12_turns 3 none none M' 0 0 G) (hk60 : ∀ (r0 : Nat) (x2 : Int32) (M : am_Mem), k60 r0 x2 M = some ((), M') → G 60 [(0, .inr (.inr (.inl r0))), (2, .inl x2)] [] M 0 0) {r0 : Nat} {x2 : Int32} {M : am_Mem} (hres : fn12_turns_b60B N k60 r0 x2 M = some ((), M')) : G 60 [(0, .inr (.inr (.inl r0))), (2, .inl x2)] [] M 0 0 := by
  unfold fn12_turns_b60B at hres
  refine am_iload_n cx 1 dX12_turns_60 rfl ?_
  refine am_if_le cx (tgt := 74) dX12_turns_61 (by decide) (fun h => ?_) (fun h => ?_)
  · have hres := am_ifp h hres
    obtain ⟨-, rfl⟩ := am_fin hres
    exact am_vret cx dX12_turns_74
  · have hres := am_ifn h hres
    refine am_aload_n cx 0 dX12_turns_64 rfl ?_
    obtain ⟨q1, hres⟩ := am_ck_some hres
    obtain ⟨v2, M3, q4, hres⟩ := am_bd_some hres
    refine am_callV0 cx [] dX12_turns_65 cvX12_374 (mt12_quarter q4) (am_ke q1) ⟨rfl, rfl, Nat.le_of_ble_eq_true rfl, Nat.le_of_ble_eq_true rfl⟩ rfl (Nat.le_of_ble_eq_true rfl) ⟨Nat.le_of_ble_eq_true rfl, Nat.le_of_ble_eq_true rfl⟩ ?_
    refine am_iincw cx (lv' := [(0, .inr (.inr (.inl r0))), (2, .inl (x2 + (-1 : Int32)))]) (w := (-1 : Int32)) 1 dX12_turns_68 (by decide) rfl (Nat.le_of_ble_eq_true rfl) rfl ?_
    refine am_goto cx (tgt := 60) dX12_turns_71 (by decide) ?_
    exact hk60 _ _ _ hres
set_option maxRecDepth 20000 in
theorem sn12_turns_b60 {l : Launch} {G : am_G} {M' : am_Mem} {N : Nat}  (cx : am_Ctx l rm12_turns yX12_turns cX12_turns 3 none none M' 0 0 G)  (i : Nat) : ∀ (r0 : Nat) (x2 : Int32) (M : am_Mem), fn12_turns_b60 N  i r0 x2 M = some ((), M') → G 60 [(0, .inr (.inr (.inl r0))), (2, .inl x2)] [] M 0 0 := by
  induction i with
  | zero => intro r0 x2 M hres; exact am_no hres
  | succ i ih => intro r0 x2 M hres; exact sn12_turns_b60B cx ih hres
set_option maxRecDepth 20000 in
theorem sn12_turns_b56 {l : Launch} {G : am_G} {M' : am_Mem} {N : Nat}  (cx : am_Ctx l rm12_turns yX12_turns cX12_turns 3 none none M' 0 0 G)  {r0 : Nat} {x1 : Int32} {M : am_Mem} (hres : fn12_turns_b56 N  r0 x1 M = some ((), M')) : G 56 [(0, .inr (.inr (.inl r0))), (1, .inl x1)] [] M 0 0 := by
  unfold fn12_turns_b56 at hres
  refine am_iload_n cx 1 dX12_turns_56 rfl ?_
  refine am_iconst cx (v := (4 : Int32)) dX12_turns_57 (by decide) ?_
  refine am_irem cx dX12_turns_58 (by decide) ?_
  refine am_istore_n cx (lv' := [(0, .inr (.inr (.inl r0))), (1, .inl x1), (2, .inl (x1 - x1 / (4 : Int32) * (4 : Int32)))]) dX12_turns_59 (Nat.le_of_ble_eq_true rfl) rfl ?_
  refine am_sub cx [0, 2] rfl ?_
  exact sn12_turns_b60 cx  N _ _ _ hres
set_option maxRecDepth 20000 in
theorem sn12_turns_b7B {l : Launch} {G : am_G} {M' : am_Mem} {N : Nat} {k7 : Nat → Int32 → Int32 → am_Mem → Option (Unit × am_Mem)} (cx : am_Ctx l rm12_turns yX12_turns cX12_turns 3 none none M' 0 0 G) (hk7 : ∀ (r0 : Nat) (x1 : Int32) (x2 : Int32) (M : am_Mem), k7 r0 x1 x2 M = some ((), M') → G 7 [(0, .inr (.inr (.inl r0))), (1, .inl x1), (2, .inl x2)] [] M 0 0) {r0 : Nat} {x1 : Int32} {x2 : Int32} {M : am_Mem} (hres : fn12_turns_b7B N k7 r0 x1 x2 M = some ((), M')) : G 7 [(0, .inr (.inr (.inl r0))), (1, .inl x1), (2, .inl x2)] [] M 0 0 := by
  unfold fn12_turns_b7B at hres
  refine am_iload_n cx 2 dX12_turns_7 rfl ?_
  refine am_aload_n cx 0 dX12_turns_8 rfl ?_
  obtain ⟨q1, hres⟩ := am_ck_some hres
  refine am_getR cx dX12_turns_9 flX12_100 (am_ke q1) ?_
  refine am_iconst cx (v := (0 : Int32)) dX12_turns_12 (by decide) ?_
  obtain ⟨q2, hres⟩ := am_ck_some hres
  obtain ⟨q3, hres⟩ := am_ck_some hres
  refine am_iald cx dX12_turns_13 (am_ke q2) q3 ?_
  refine am_icmp_ge cx (tgt := 56) dX12_turns_14 (by decide) (fun h => ?_) (fun h => ?_)
  · have hres := am_ifp h hres
    refine am_sub cx [0, 1] rfl ?_
    exact sn12_turns_b56 cx  hres
  · have hres := am_ifn h hres
    refine am_aload_n cx 0 dX12_turns_17 rfl ?_
    refine am_getR cx dX12_turns_18 flX12_100 (am_ke q1) ?_
    refine am_iconst cx (v := (4 : Int32)) dX12_turns_21 (by decide) ?_
    refine am_iload_n cx 2 dX12_turns_22 rfl ?_
    refine am_iadd cx dX12_turns_23 ?_
    refine am_aload_n cx 0 dX12_turns_24 rfl ?_
    refine am_getR cx dX12_turns_25 flX12_100 (am_ke q1) ?_
    refine am_iconst cx (v := (1 : Int32)) dX12_turns_28 (by decide) ?_
    obtain ⟨q4, hres⟩ := am_ck_some hres
    refine am_iald cx dX12_turns_29 (am_ke q2) q4 ?_
    refine am_aload_n cx 0 dX12_turns_30 rfl ?_
    refine am_getR cx dX12_turns_31 flX12_100 (am_ke q1) ?_
    refine am_iconst cx (v := (4 : Int32)) dX12_turns_34 (by decide) ?_
    refine am_iload_n cx 2 dX12_turns_35 rfl ?_
    refine am_iadd cx dX12_turns_36 ?_
    obtain ⟨q5, hres⟩ := am_ck_some hres
    refine am_iald cx dX12_turns_37 (am_ke q2) q5 ?_
    refine am_isub cx dX12_turns_38 ?_
    refine am_aload_n cx 0 dX12_turns_39 rfl ?_
    refine am_getR cx dX12_turns_40 flX12_100 (am_ke q1) ?_
    refine am_bipush cx (v := (84 : Int32)) dX12_turns_43 (by decide) ?_
    refine am_iload_n cx 2 dX12_turns_45 rfl ?_
    refine am_iadd cx dX12_turns_46 ?_
    obtain ⟨q6, hres⟩ := am_ck_some hres
    refine am_iald cx dX12_turns_47 (am_ke q2) q6 ?_
    refine am_isub cx dX12_turns_48 ?_
    obtain ⟨q7, hres⟩ := am_ck_some hres
    refine am_iast cx dX12_turns_49 (am_ke q2) q7  ?_
    refine am_iincw cx (lv' := [(0, .inr (.inr (.inl r0))), (1, .inl x1), (2, .inl (x2 + (1 : Int32)))]) (w := (1 : Int32)) 2 dX12_turns_50 (by decide) rfl (Nat.le_of_ble_eq_true rfl) rfl ?_
    refine am_goto cx (tgt := 7) dX12_turns_53 (by decide) ?_
    exact hk7 _ _ _ _ hres
set_option maxRecDepth 20000 in
theorem sn12_turns_b7 {l : Launch} {G : am_G} {M' : am_Mem} {N : Nat}  (cx : am_Ctx l rm12_turns yX12_turns cX12_turns 3 none none M' 0 0 G)  (i : Nat) : ∀ (r0 : Nat) (x1 : Int32) (x2 : Int32) (M : am_Mem), fn12_turns_b7 N  i r0 x1 x2 M = some ((), M') → G 7 [(0, .inr (.inr (.inl r0))), (1, .inl x1), (2, .inl x2)] [] M 0 0 := by
  induction i with
  | zero => intro r0 x1 x2 M hres; exact am_no hres
  | succ i ih => intro r0 x1 x2 M hres; exact sn12_turns_b7B cx ih hres
set_option maxRecDepth 20000 in
theorem sn12_turns_b0 {l : Launch} {G : am_G} {M' : am_Mem} {N : Nat}  (cx : am_Ctx l rm12_turns yX12_turns cX12_turns 3 none none M' 0 0 G)  {r0 : Nat} {x1 : Int32} {M : am_Mem} (hres : fn12_turns_b0 N  r0 x1 M = some ((), M')) : G 0 [(0, .inr (.inr (.inl r0))), (1, .inl x1)] [] M 0 0 := by
  unfold fn12_turns_b0 at hres
  refine am_iload_n cx 1 dX12_turns_0 rfl ?_
  refine am_iconst cx (v := (3 : Int32)) dX12_turns_1 (by decide) ?_
  refine am_icmp_le cx (tgt := 56) dX12_turns_2 (by decide) (fun h => ?_) (fun h => ?_)
  · have hres := am_ifp h hres
    exact sn12_turns_b56 cx  hres
  · have hres := am_ifn h hres
    refine am_iconst cx (v := (0 : Int32)) dX12_turns_5 (by decide) ?_
    refine am_istore_n cx (lv' := [(0, .inr (.inr (.inl r0))), (1, .inl x1), (2, .inl (0 : Int32))]) dX12_turns_6 (Nat.le_of_ble_eq_true rfl) rfl ?_
    exact sn12_turns_b7 cx  N _ _ _ _ hres
set_option maxRecDepth 20000 in
theorem mt12_turns {l : Launch} {M M' : am_Mem} {N : Nat} {r0 : Nat} {x1 : Int32} (h : fn12_turns N M r0 x1 = some ((), M')) : am_Met l yX12_turns cX12_turns 3 none rm12_turns 0 0 [.inr (.inr (.inl r0)), .inl x1] M none M' := am_mk (by decide) (Nat.le_of_ble_eq_true rfl) (fun G cx => (sn12_turns_b0 cx h))
