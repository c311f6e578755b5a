-- SquareCutsModel.lineHere
def fn12_lineHere_b67 (N : Nat)   (M : am_Mem) : Option (Int32 × am_Mem) :=
  some ((0 : Int32), M)
def fn12_lineHere_b135 (N : Nat)   (M : am_Mem) : Option (Int32 × am_Mem) :=
  some ((0 : Int32), M)
def fn12_lineHere_b128 (N : Nat)  (c0 : Nat) (a1 : Int32) (r0 : Nat) (M : am_Mem) : Option (Int32 × am_Mem) :=
  am_ck (am_k M c0 12) (am_bd (fn12_must M c0 a1 (1 : Int32)) (fun v2 M3 => if v2 = 0 then fn12_lineHere_b135 N   M3 else am_ck (am_k M3 r0 12) (am_bd (fn12_steps N (am_wI M3 r0 11 ((am_I M3 r0 11) + (1 : Int32))) r0) (fun v6 M7 => some ((1 : Int32), M7)))))
def fn12_lineHere_b114 (N : Nat)  (r0 : Nat) (M : am_Mem) : Option (Int32 × am_Mem) :=
  am_ck (am_k M r0 12) (if (am_I M r0 6) = (3 : Int32) then fn12_lineHere_b128 N  r0 (1 : Int32) r0 M else fn12_lineHere_b128 N  r0 (0 : Int32) r0 M)
def fn12_lineHere_b60 (N : Nat)  (c0 : Nat) (a1 : Int32) (r0 : Nat) (x1 : Int32) (M : am_Mem) : Option (Int32 × am_Mem) :=
  am_ck (am_k M c0 12) (am_bd (fn12_must M c0 a1 (4 : Int32)) (fun v2 M3 => if v2 = 0 then fn12_lineHere_b67 N   M3 else am_ck (am_k M3 r0 12) (am_bd (fn12_steps N M3 r0) (fun v6 M7 => am_ck (am_k M7 r0 12) (am_ck (am_k M7 (am_R M7 r0 13) 14) (am_ck (am_in (am_I M7 r0 11) (am_L M7 (am_R M7 r0 13))) (am_ck (am_k M7 (am_R M7 r0 14) 14) (am_ck (am_in (am_I (am_wI M7 (am_R M7 r0 13) (am_I M7 r0 11).toNatClampNeg x1) r0 11) (am_L M7 (am_R M7 r0 14))) (if x1 = 0 then am_bd (fn12_drawnLine N (am_wI (am_wI M7 (am_R M7 r0 13) (am_I M7 r0 11).toNatClampNeg x1) (am_R M7 r0 14) (am_I (am_wI M7 (am_R M7 r0 13) (am_I M7 r0 11).toNatClampNeg x1) r0 11).toNatClampNeg (0 : Int32)) r0) (fun v17 M18 => if v17 = 0 then fn12_lineHere_b135 N   M18 else fn12_lineHere_b114 N  r0 M18) else am_bd (fn12_netLine N (am_wI (am_wI M7 (am_R M7 r0 13) (am_I M7 r0 11).toNatClampNeg x1) (am_R M7 r0 14) (am_I (am_wI M7 (am_R M7 r0 13) (am_I M7 r0 11).toNatClampNeg x1) r0 11).toNatClampNeg (0 : Int32)) r0) (fun v14 M15 => if v14 = 0 then fn12_lineHere_b135 N   M15 else fn12_lineHere_b114 N  r0 M15))))))))))
def fn12_lineHere_b38 (N : Nat)  (c0 : Nat) (a1 : Int32) (r0 : Nat) (x1 : Int32) (M : am_Mem) : Option (Int32 × am_Mem) :=
  am_ck (am_k M c0 12) (am_bd (fn12_must M c0 a1 (1 : Int32)) (fun v2 M3 => if v2 = 0 then fn12_lineHere_b67 N   M3 else am_ck (am_k M3 r0 12) (if (6 : Int32) ≤ (am_I M3 r0 11) then fn12_lineHere_b60 N  r0 (0 : Int32) r0 x1 M3 else fn12_lineHere_b60 N  r0 (1 : Int32) r0 x1 M3)))
def fn12_lineHere_b27 (N : Nat)  (a0 : Int32) (r0 : Nat) (M : am_Mem) : Option (Int32 × am_Mem) :=
  if a0 < 0 then fn12_lineHere_b38 N  r0 (0 : Int32) r0 a0 M else fn12_lineHere_b38 N  r0 (1 : Int32) r0 a0 M
def fn12_lineHere_b0 (N : Nat)  (r0 : Nat) (M : am_Mem) : Option (Int32 × am_Mem) :=
  am_ck (am_k M r0 12) (am_bd (fn12_is N M r0 5) (fun v2 M3 => if v2 = 0 then am_ck (am_k M3 r0 12) (am_bd (fn12_is N M3 r0 6) (fun v6 M7 => if v6 = 0 then fn12_lineHere_b27 N  (-1 : Int32) r0 M7 else fn12_lineHere_b27 N  (1 : Int32) r0 M7)) else fn12_lineHere_b27 N  (0 : Int32) r0 M3))
def fn12_lineHere (N : Nat) (M : am_Mem) (r0 : Nat) : Option (Int32 × am_Mem) := fn12_lineHere_b0 N r0 M
def rm12_lineHere : Room := { frames := 9, cells := 0, slots := 0, locals := 192 }
set_option maxRecDepth 20000 in
theorem sn12_lineHere_b67 {l : Launch} {G : am_G} {v : Int32} {M' : am_Mem} {N : Nat}  (cx : am_Ctx l rm12_lineHere yX12_lineHere cX12_lineHere 2 (some .boolean) (some (.inl v)) M' 0 0 G)   {M : am_Mem} (hres : fn12_lineHere_b67 N   M = some (v, M')) : G 67 [] [] M 0 0 := by
  unfold fn12_lineHere_b67 at hres
  refine am_iconst cx (v := (0 : Int32)) dX12_lineHere_67 (by decide) ?_
  obtain ⟨rfl, rfl⟩ := am_fin hres
  exact am_zret cx rfl dX12_lineHere_68
set_option maxRecDepth 20000 in
theorem sn12_lineHere_b135 {l : Launch} {G : am_G} {v : Int32} {M' : am_Mem} {N : Nat}  (cx : am_Ctx l rm12_lineHere yX12_lineHere cX12_lineHere 2 (some .boolean) (some (.inl v)) M' 0 0 G)   {M : am_Mem} (hres : fn12_lineHere_b135 N   M = some (v, M')) : G 135 [] [] M 0 0 := by
  unfold fn12_lineHere_b135 at hres
  refine am_iconst cx (v := (0 : Int32)) dX12_lineHere_135 (by decide) ?_
  obtain ⟨rfl, rfl⟩ := am_fin hres
  exact am_zret cx rfl dX12_lineHere_136
set_option maxRecDepth 20000 in
theorem sn12_lineHere_b128 {l : Launch} {G : am_G} {v : Int32} {M' : am_Mem} {N : Nat}  (cx : am_Ctx l rm12_lineHere yX12_lineHere cX12_lineHere 2 (some .boolean) (some (.inl v)) M' 0 0 G)  {c0 : Nat} {a1 : Int32} {r0 : Nat} {M : am_Mem} (hres : fn12_lineHere_b128 N  c0 a1 r0 M = some (v, M')) : G 128 [(0, .inr (.inr (.inl r0)))] [.inl a1, .inr (.inr (.inl c0))] M 0 0 := by
  unfold fn12_lineHere_b128 at hres
  refine am_iconst cx (v := (1 : Int32)) dX12_lineHere_128 (by decide) ?_
  obtain ⟨q1, hres⟩ := am_ck_some hres
  obtain ⟨v2, M3, q4, hres⟩ := am_bd_some hres
  refine am_callV1 cx [.inl a1, .inl (1 : Int32)] dX12_lineHere_129 cvX12_186 (mt12_must q4) (am_ke q1) ⟨rfl, rfl, Nat.le_of_ble_eq_true rfl, Nat.le_of_ble_eq_true rfl⟩ rfl (Nat.le_of_ble_eq_true rfl) ⟨Nat.le_of_ble_eq_true rfl, Nat.le_of_ble_eq_true rfl⟩ ?_
  refine am_if_ne cx (tgt := 137) dX12_lineHere_132 (by decide) (fun h => ?_) (fun h => ?_)
  · have hres := am_ifn h hres
    refine am_aload_n cx 0 dX12_lineHere_137 rfl ?_
    refine am_dup cx dX12_lineHere_138 rfl ?_
    obtain ⟨q5, hres⟩ := am_ck_some hres
    refine am_getI cx dX12_lineHere_139 flX12_179 (am_ke q5) ?_
    refine am_iconst cx (v := (1 : Int32)) dX12_lineHere_142 (by decide) ?_
    refine am_iadd cx dX12_lineHere_143 ?_
    refine am_putI cx dX12_lineHere_144 fpX12_179 (fun h => by cases h) (am_ke q5) ?_
    refine am_aload_n cx 0 dX12_lineHere_147 rfl ?_
    obtain ⟨v6, M7, q8, hres⟩ := am_bd_some hres
    refine am_callV0 cx [] dX12_lineHere_148 cvX12_190 (mt12_steps q8) (am_ke q5) ⟨rfl, rfl, Nat.le_of_ble_eq_true rfl, Nat.le_of_ble_eq_true rfl⟩ rfl (Nat.le_of_ble_eq_true rfl) ⟨Nat.le_of_ble_eq_true rfl, Nat.le_of_ble_eq_true rfl⟩ ?_
    refine am_iconst cx (v := (1 : Int32)) dX12_lineHere_151 (by decide) ?_
    obtain ⟨rfl, rfl⟩ := am_fin hres
    exact am_zret cx rfl dX12_lineHere_152
  · have hres := am_ifp h hres
    refine am_sub cx [] rfl ?_
    exact sn12_lineHere_b135 cx  hres
set_option maxRecDepth 20000 in
theorem sn12_lineHere_b114 {l : Launch} {G : am_G} {v : Int32} {M' : am_Mem} {N : Nat}  (cx : am_Ctx l rm12_lineHere yX12_lineHere cX12_lineHere 2 (some .boolean) (some (.inl v)) M' 0 0 G)  {r0 : Nat} {M : am_Mem} (hres : fn12_lineHere_b114 N  r0 M = some (v, M')) : G 114 [(0, .inr (.inr (.inl r0)))] [] M 0 0 := by
  unfold fn12_lineHere_b114 at hres
  refine am_aload_n cx 0 dX12_lineHere_114 rfl ?_
  refine am_aload_n cx 0 dX12_lineHere_115 rfl ?_
  obtain ⟨q1, hres⟩ := am_ck_some hres
  refine am_getI cx dX12_lineHere_116 flX12_127 (am_ke q1) ?_
  refine am_iconst cx (v := (3 : Int32)) dX12_lineHere_119 (by decide) ?_
  refine am_icmp_ne cx (tgt := 127) dX12_lineHere_120 (by decide) (fun h => ?_) (fun h => ?_)
  · have hres := am_ifn h hres
    refine am_iconst cx (v := (0 : Int32)) dX12_lineHere_127 (by decide) ?_
    exact sn12_lineHere_b128 cx  hres
  · have hres := am_ifp h hres
    refine am_iconst cx (v := (1 : Int32)) dX12_lineHere_123 (by decide) ?_
    refine am_goto cx (tgt := 128) dX12_lineHere_124 (by decide) ?_
    exact sn12_lineHere_b128 cx  hres
set_option maxRecDepth 20000 in
theorem sn12_lineHere_b60 {l : Launch} {G : am_G} {v : Int32} {M' : am_Mem} {N : Nat}  (cx : am_Ctx l rm12_lineHere yX12_lineHere cX12_lineHere 2 (some .boolean) (some (.inl v)) M' 0 0 G)  {c0 : Nat} {a1 : Int32} {r0 : Nat} {x1 : Int32} {M : am_Mem} (hres : fn12_lineHere_b60 N  c0 a1 r0 x1 M = some (v, M')) : G 60 [(0, .inr (.inr (.inl r0))), (1, .inl x1)] [.inl a1, .inr (.inr (.inl c0))] M 0 0 := by
  unfold fn12_lineHere_b60 at hres
  refine am_iconst cx (v := (4 : Int32)) dX12_lineHere_60 (by decide) ?_
  obtain ⟨q1, hres⟩ := am_ck_some hres
  obtain ⟨v2, M3, q4, hres⟩ := am_bd_some hres
  refine am_callV1 cx [.inl a1, .inl (4 : Int32)] dX12_lineHere_61 cvX12_186 (mt12_must q4) (am_ke q1) ⟨rfl, rfl, Nat.le_of_ble_eq_true rfl, Nat.le_of_ble_eq_true rfl⟩ rfl (Nat.le_of_ble_eq_true rfl) ⟨Nat.le_of_ble_eq_true rfl, Nat.le_of_ble_eq_true rfl⟩ ?_
  refine am_if_ne cx (tgt := 69) dX12_lineHere_64 (by decide) (fun h => ?_) (fun h => ?_)
  · have hres := am_ifn h hres
    refine am_aload_n cx 0 dX12_lineHere_69 rfl ?_
    obtain ⟨q5, hres⟩ := am_ck_some hres
    obtain ⟨v6, M7, q8, hres⟩ := am_bd_some hres
    refine am_callV0 cx [] dX12_lineHere_70 cvX12_190 (mt12_steps q8) (am_ke q5) ⟨rfl, rfl, Nat.le_of_ble_eq_true rfl, Nat.le_of_ble_eq_true rfl⟩ rfl (Nat.le_of_ble_eq_true rfl) ⟨Nat.le_of_ble_eq_true rfl, Nat.le_of_ble_eq_true rfl⟩ ?_
    refine am_aload_n cx 0 dX12_lineHere_73 rfl ?_
    obtain ⟨q9, hres⟩ := am_ck_some hres
    refine am_getR cx dX12_lineHere_74 flX12_17 (am_ke q9) ?_
    refine am_aload_n cx 0 dX12_lineHere_77 rfl ?_
    refine am_getI cx dX12_lineHere_78 flX12_179 (am_ke q9) ?_
    refine am_iload_n cx 1 dX12_lineHere_81 rfl ?_
    obtain ⟨q10, hres⟩ := am_ck_some hres
    obtain ⟨q11, hres⟩ := am_ck_some hres
    refine am_iast cx dX12_lineHere_82 (am_ke q10) q11  ?_
    refine am_aload_n cx 0 dX12_lineHere_83 rfl ?_
    refine am_getR cx dX12_lineHere_84 flX12_21 (am_ke q9) ?_
    refine am_aload_n cx 0 dX12_lineHere_87 rfl ?_
    refine am_getI cx dX12_lineHere_88 flX12_179 (am_ke q9) ?_
    refine am_iconst cx (v := (0 : Int32)) dX12_lineHere_91 (by decide) ?_
    obtain ⟨q12, hres⟩ := am_ck_some hres
    obtain ⟨q13, hres⟩ := am_ck_some hres
    refine am_iast cx dX12_lineHere_92 (am_ke q12) q13  ?_
    refine am_iload_n cx 1 dX12_lineHere_93 rfl ?_
    refine am_if_ne cx (tgt := 107) dX12_lineHere_94 (by decide) (fun h => ?_) (fun h => ?_)
    · have hres := am_ifn h hres
      refine am_aload_n cx 0 dX12_lineHere_107 rfl ?_
      obtain ⟨v14, M15, q16, hres⟩ := am_bd_some hres
      refine am_callV1 cx [] dX12_lineHere_108 cvX12_206 (mt12_netLine q16) (am_ke q9) ⟨rfl, rfl, Nat.le_of_ble_eq_true rfl, Nat.le_of_ble_eq_true rfl⟩ rfl (Nat.le_of_ble_eq_true rfl) ⟨Nat.le_of_ble_eq_true rfl, Nat.le_of_ble_eq_true rfl⟩ ?_
      refine am_if_eq cx (tgt := 135) dX12_lineHere_111 (by decide) (fun h => ?_) (fun h => ?_)
      · have hres := am_ifp h hres
        refine am_sub cx [] rfl ?_
        exact sn12_lineHere_b135 cx  hres
      · have hres := am_ifn h hres
        refine am_sub cx [0] rfl ?_
        exact sn12_lineHere_b114 cx  hres
    · have hres := am_ifp h hres
      refine am_aload_n cx 0 dX12_lineHere_97 rfl ?_
      obtain ⟨v17, M18, q19, hres⟩ := am_bd_some hres
      refine am_callV1 cx [] dX12_lineHere_98 cvX12_203 (mt12_drawnLine q19) (am_ke q9) ⟨rfl, rfl, Nat.le_of_ble_eq_true rfl, Nat.le_of_ble_eq_true rfl⟩ rfl (Nat.le_of_ble_eq_true rfl) ⟨Nat.le_of_ble_eq_true rfl, Nat.le_of_ble_eq_true rfl⟩ ?_
      refine am_if_eq cx (tgt := 135) dX12_lineHere_101 (by decide) (fun h => ?_) (fun h => ?_)
      · have hres := am_ifp h hres
        refine am_sub cx [] rfl ?_
        exact sn12_lineHere_b135 cx  hres
      · have hres := am_ifn h hres
        refine am_goto cx (tgt := 114) dX12_lineHere_104 (by decide) ?_
        refine am_sub cx [0] rfl ?_
        exact sn12_lineHere_b114 cx  hres
  · have hres := am_ifp h hres
    refine am_sub cx [] rfl ?_
    exact sn12_lineHere_b67 cx  hres
set_option maxRecDepth 20000 in
theorem sn12_lineHere_b38 {l : Launch} {G : am_G} {v : Int32} {M' : am_Mem} {N : Nat}  (cx : am_Ctx l rm12_lineHere yX12_lineHere cX12_lineHere 2 (some .boolean) (some (.inl v)) M' 0 0 G)  {c0 : Nat} {a1 : Int32} {r0 : Nat} {x1 : Int32} {M : am_Mem} (hres : fn12_lineHere_b38 N  c0 a1 r0 x1 M = some (v, M')) : G 38 [(0, .inr (.inr (.inl r0))), (1, .inl x1)] [.inl a1, .inr (.inr (.inl c0))] M 0 0 := by
  unfold fn12_lineHere_b38 at hres
  refine am_iconst cx (v := (1 : Int32)) dX12_lineHere_38 (by decide) ?_
  obtain ⟨q1, hres⟩ := am_ck_some hres
  obtain ⟨v2, M3, q4, hres⟩ := am_bd_some hres
  refine am_callV1 cx [.inl a1, .inl (1 : Int32)] dX12_lineHere_39 cvX12_186 (mt12_must q4) (am_ke q1) ⟨rfl, rfl, Nat.le_of_ble_eq_true rfl, Nat.le_of_ble_eq_true rfl⟩ rfl (Nat.le_of_ble_eq_true rfl) ⟨Nat.le_of_ble_eq_true rfl, Nat.le_of_ble_eq_true rfl⟩ ?_
  refine am_if_eq cx (tgt := 67) dX12_lineHere_42 (by decide) (fun h => ?_) (fun h => ?_)
  · have hres := am_ifp h hres
    refine am_sub cx [] rfl ?_
    exact sn12_lineHere_b67 cx  hres
  · have hres := am_ifn h hres
    refine am_aload_n cx 0 dX12_lineHere_45 rfl ?_
    refine am_aload_n cx 0 dX12_lineHere_46 rfl ?_
    obtain ⟨q5, hres⟩ := am_ck_some hres
    refine am_getI cx dX12_lineHere_47 flX12_179 (am_ke q5) ?_
    refine am_bipush cx (v := (6 : Int32)) dX12_lineHere_50 (by decide) ?_
    refine am_icmp_ge cx (tgt := 59) dX12_lineHere_52 (by decide) (fun h => ?_) (fun h => ?_)
    · have hres := am_ifp h hres
      refine am_iconst cx (v := (0 : Int32)) dX12_lineHere_59 (by decide) ?_
      exact sn12_lineHere_b60 cx  hres
    · have hres := am_ifn h hres
      refine am_iconst cx (v := (1 : Int32)) dX12_lineHere_55 (by decide) ?_
      refine am_goto cx (tgt := 60) dX12_lineHere_56 (by decide) ?_
      exact sn12_lineHere_b60 cx  hres
set_option maxRecDepth 20000 in
theorem sn12_lineHere_b27 {l : Launch} {G : am_G} {v : Int32} {M' : am_Mem} {N : Nat}  (cx : am_Ctx l rm12_lineHere yX12_lineHere cX12_lineHere 2 (some .boolean) (some (.inl v)) M' 0 0 G)  {a0 : Int32} {r0 : Nat} {M : am_Mem} (hres : fn12_lineHere_b27 N  a0 r0 M = some (v, M')) : G 27 [(0, .inr (.inr (.inl r0)))] [.inl a0] M 0 0 := by
  unfold fn12_lineHere_b27 at hres
  refine am_istore_n cx (lv' := [(0, .inr (.inr (.inl r0))), (1, .inl a0)]) dX12_lineHere_27 (Nat.le_of_ble_eq_true rfl) rfl ?_
  refine am_aload_n cx 0 dX12_lineHere_28 rfl ?_
  refine am_iload_n cx 1 dX12_lineHere_29 rfl ?_
  refine am_if_lt cx (tgt := 37) dX12_lineHere_30 (by decide) (fun h => ?_) (fun h => ?_)
  · have hres := am_ifp h hres
    refine am_iconst cx (v := (0 : Int32)) dX12_lineHere_37 (by decide) ?_
    exact sn12_lineHere_b38 cx  hres
  · have hres := am_ifn h hres
    refine am_iconst cx (v := (1 : Int32)) dX12_lineHere_33 (by decide) ?_
    refine am_goto cx (tgt := 38) dX12_lineHere_34 (by decide) ?_
    exact sn12_lineHere_b38 cx  hres
set_option maxRecDepth 20000 in
theorem sn12_lineHere_b0 {l : Launch} {G : am_G} {v : Int32} {M' : am_Mem} {N : Nat}  (cx : am_Ctx l rm12_lineHere yX12_lineHere cX12_lineHere 2 (some .boolean) (some (.inl v)) M' 0 0 G)  {r0 : Nat} {M : am_Mem} (hres : fn12_lineHere_b0 N  r0 M = some (v, M')) : G 0 [(0, .inr (.inr (.inl r0)))] [] M 0 0 := by
  unfold fn12_lineHere_b0 at hres
  refine am_aload_n cx 0 dX12_lineHere_0 rfl ?_
  refine am_ldcS cx 5 dX12_lineHere_1 (by decide) rfl rfl ?_
  obtain ⟨q1, hres⟩ := am_ck_some hres
  obtain ⟨v2, M3, q4, hres⟩ := am_bd_some hres
  refine am_callV1 cx [.inr (.inr (.inr 5))] dX12_lineHere_3 cvX12_173 (mt12_is q4) (am_ke q1) ⟨rfl, rfl, Nat.le_of_ble_eq_true rfl, Nat.le_of_ble_eq_true rfl⟩ rfl (Nat.le_of_ble_eq_true rfl) ⟨Nat.le_of_ble_eq_true rfl, Nat.le_of_ble_eq_true rfl⟩ ?_
  refine am_if_eq cx (tgt := 13) dX12_lineHere_6 (by decide) (fun h => ?_) (fun h => ?_)
  · have hres := am_ifp h hres
    refine am_aload_n cx 0 dX12_lineHere_13 rfl ?_
    refine am_ldcS cx 6 dX12_lineHere_14 (by decide) rfl rfl ?_
    obtain ⟨q5, hres⟩ := am_ck_some hres
    obtain ⟨v6, M7, q8, hres⟩ := am_bd_some hres
    refine am_callV1 cx [.inr (.inr (.inr 6))] dX12_lineHere_16 cvX12_173 (mt12_is q8) (am_ke q5) ⟨rfl, rfl, Nat.le_of_ble_eq_true rfl, Nat.le_of_ble_eq_true rfl⟩ rfl (Nat.le_of_ble_eq_true rfl) ⟨Nat.le_of_ble_eq_true rfl, Nat.le_of_ble_eq_true rfl⟩ ?_
    refine am_if_eq cx (tgt := 26) dX12_lineHere_19 (by decide) (fun h => ?_) (fun h => ?_)
    · have hres := am_ifp h hres
      refine am_iconst cx (v := (-1 : Int32)) dX12_lineHere_26 (by decide) ?_
      exact sn12_lineHere_b27 cx  hres
    · have hres := am_ifn h hres
      refine am_iconst cx (v := (1 : Int32)) dX12_lineHere_22 (by decide) ?_
      refine am_goto cx (tgt := 27) dX12_lineHere_23 (by decide) ?_
      exact sn12_lineHere_b27 cx  hres
  · have hres := am_ifn h hres
    refine am_iconst cx (v := (0 : Int32)) dX12_lineHere_9 (by decide) ?_
    refine am_goto cx (tgt := 27) dX12_lineHere_10 (by decide) ?_
    exact sn12_lineHere_b27 cx  hres
set_option maxRecDepth 20000 in
theorem mt12_lineHere {l : Launch} {v : Int32} {M M' : am_Mem} {N : Nat} {r0 : Nat} (h : fn12_lineHere N M r0 = some (v, M')) : am_Met l yX12_lineHere cX12_lineHere 2 (some .boolean) rm12_lineHere 0 0 [.inr (.inr (.inl r0))] M (some (.inl v)) M' := am_mk (by decide) (Nat.le_of_ble_eq_true rfl) (fun G cx => (sn12_lineHere_b0 cx h))
-- SquareCutsModel.text
def fn12_text_b71 (N : Nat)  (r0 : Nat) (x2 : Int32) (M : am_Mem) : Option (Int32 × am_Mem) :=
  if x2 = 0 then am_ck (am_k M r0 12) (some (((-2 : Int32) - (((8 : Int32) * (am_I M r0 10)) + (am_I M r0 9))), M)) else am_ck (am_k M r0 12) (am_bd (fn12_takesOver N M r0) (fun v2 M3 => am_ck (am_k M3 r0 12) (some ((am_I M3 r0 18), M3))))
def fn12_text_b52B (N : Nat) (k52 : Nat → Int32 → am_Mem → Option (Int32 × am_Mem)) (r0 : Nat) (x2 : Int32) (M : am_Mem) : Option (Int32 × am_Mem) :=
  if x2 = 0 then fn12_text_b71 N  r0 x2 M else am_ck (am_k M r0 12) (if (am_I M r0 6) = 0 then fn12_text_b71 N  r0 x2 M else am_bd (fn12_lineHere N M r0) (fun v2 M3 => k52 r0 v2 M3))
def fn12_text_b52 (N : Nat)  : Nat → Nat → Int32 → am_Mem → Option (Int32 × am_Mem)
  | 0 => fun _ _ _ => none
  | i + 1 => fn12_text_b52B N (fn12_text_b52 N  i)
def fn12_text_b0 (N : Nat)  (r0 : Nat) (x1 : Int32) (M : am_Mem) : Option (Int32 × am_Mem) :=
  am_ck (am_k M r0 12) (am_bd (fn12_within (am_wI M r0 0 (0 : Int32)) x1.toInt64 (0 : Int64) ((am_I (am_wI M r0 0 (0 : Int32)) r0 2).toInt64)) (fun v2 M3 => if v2 = 0 then some ((-1 : Int32), M3) else am_ck (am_k M3 r0 12) (am_bd (fn12_steps N (am_wI (am_wI (am_wI (am_wI (am_wI M3 r0 2 (0 : Int32)) r0 3 x1) r0 5 (0 : Int32)) r0 9 (0 : Int32)) r0 11 (0 : Int32)) r0) (fun v6 M7 => fn12_text_b52 N  N r0 (1 : Int32) M7))))
def fn12_text (N : Nat) (M : am_Mem) (r0 : Nat) (x1 : Int32) : Option (Int32 × am_Mem) := fn12_text_b0 N r0 x1 M
def rm12_text : Room := { frames := 26, cells := 0, slots := 0, locals := 680 }
set_option maxRecDepth 20000 in
theorem sn12_text_b71 {l : Launch} {G : am_G} {v : Int32} {M' : am_Mem} {N : Nat}  (cx : am_Ctx l rm12_text yX12_text cX12_text 3 (some .int) (some (.inl v)) M' 0 0 G)  {r0 : Nat} {x2 : Int32} {M : am_Mem} (hres : fn12_text_b71 N  r0 x2 M = some (v, M')) : G 71 [(0, .inr (.inr (.inl r0))), (2, .inl x2)] [] M 0 0 := by
  unfold fn12_text_b71 at hres
  refine am_iload_n cx 1 dX12_text_71 rfl ?_
  refine am_if_ne cx (tgt := 91) dX12_text_72 (by decide) (fun h => ?_) (fun h => ?_)
  · have hres := am_ifn h hres
    refine am_aload_n cx 0 dX12_text_91 rfl ?_
    obtain ⟨q1, hres⟩ := am_ck_some hres
    obtain ⟨v2, M3, q4, hres⟩ := am_bd_some hres
    refine am_callV0 cx [] dX12_text_92 cvX12_303 (mt12_takesOver q4) (am_ke q1) ⟨rfl, rfl, Nat.le_of_ble_eq_true rfl, Nat.le_of_ble_eq_true rfl⟩ rfl (Nat.le_of_ble_eq_true rfl) ⟨Nat.le_of_ble_eq_true rfl, Nat.le_of_ble_eq_true rfl⟩ ?_
    refine am_aload_n cx 0 dX12_text_95 rfl ?_
    obtain ⟨q5, hres⟩ := am_ck_some hres
    refine am_getI cx dX12_text_96 flX12_285 (am_ke q5) ?_
    obtain ⟨rfl, rfl⟩ := am_fin hres
    exact am_iret cx dX12_text_99
  · have hres := am_ifp h hres
    refine am_bipush cx (v := (-2 : Int32)) dX12_text_75 (by decide) ?_
    refine am_bipush cx (v := (8 : Int32)) dX12_text_77 (by decide) ?_
    refine am_aload_n cx 0 dX12_text_79 rfl ?_
    obtain ⟨q6, hres⟩ := am_ck_some hres
    refine am_getI cx dX12_text_80 flX12_154 (am_ke q6) ?_
    refine am_imul cx dX12_text_83 ?_
    refine am_aload_n cx 0 dX12_text_84 rfl ?_
    refine am_getI cx dX12_text_85 flX12_151 (am_ke q6) ?_
    refine am_iadd cx dX12_text_88 ?_
    refine am_isub cx dX12_text_89 ?_
    obtain ⟨rfl, rfl⟩ := am_fin hres
    exact am_iret cx dX12_text_90
set_option maxRecDepth 20000 in
theorem sn12_text_b52B {l : Launch} {G : am_G} {v : Int32} {M' : am_Mem} {N : Nat} {k52 : Nat → Int32 → am_Mem → Option (Int32 × am_Mem)} (cx : am_Ctx l rm12_text yX12_text cX12_text 3 (some .int) (some (.inl v)) M' 0 0 G) (hk52 : ∀ (r0 : Nat) (x2 : Int32) (M : am_Mem), k52 r0 x2 M = some (v, M') → G 52 [(0, .inr (.inr (.inl r0))), (2, .inl x2)] [] M 0 0) {r0 : Nat} {x2 : Int32} {M : am_Mem} (hres : fn12_text_b52B N k52 r0 x2 M = some (v, M')) : G 52 [(0, .inr (.inr (.inl r0))), (2, .inl x2)] [] M 0 0 := by
  unfold fn12_text_b52B at hres
  refine am_iload_n cx 1 dX12_text_52 rfl ?_
  refine am_if_eq cx (tgt := 71) dX12_text_53 (by decide) (fun h => ?_) (fun h => ?_)
  · have hres := am_ifp h hres
    exact sn12_text_b71 cx  hres
  · have hres := am_ifn h hres
    refine am_aload_n cx 0 dX12_text_56 rfl ?_
    obtain ⟨q1, hres⟩ := am_ck_some hres
    refine am_getI cx dX12_text_57 flX12_127 (am_ke q1) ?_
    refine am_if_eq cx (tgt := 71) dX12_text_60 (by decide) (fun h => ?_) (fun h => ?_)
    · have hres := am_ifp h hres
      exact sn12_text_b71 cx  hres
    · have hres := am_ifn h hres
      refine am_aload_n cx 0 dX12_text_63 rfl ?_
      obtain ⟨v2, M3, q4, hres⟩ := am_bd_some hres
      refine am_callV1 cx [] dX12_text_64 cvX12_300 (mt12_lineHere q4) (am_ke q1) ⟨rfl, rfl, Nat.le_of_ble_eq_true rfl, Nat.le_of_ble_eq_true rfl⟩ rfl (Nat.le_of_ble_eq_true rfl) ⟨Nat.le_of_ble_eq_true rfl, Nat.le_of_ble_eq_true rfl⟩ ?_
      refine am_istore_n cx (lv' := [(0, .inr (.inr (.inl r0))), (2, .inl v2)]) dX12_text_67 (Nat.le_of_ble_eq_true rfl) rfl ?_
      refine am_goto cx (tgt := 52) dX12_text_68 (by decide) ?_
      exact hk52 _ _ _ hres
set_option maxRecDepth 20000 in
theorem sn12_text_b52 {l : Launch} {G : am_G} {v : Int32} {M' : am_Mem} {N : Nat}  (cx : am_Ctx l rm12_text yX12_text cX12_text 3 (some .int) (some (.inl v)) M' 0 0 G)  (i : Nat) : ∀ (r0 : Nat) (x2 : Int32) (M : am_Mem), fn12_text_b52 N  i r0 x2 M = some (v, M') → G 52 [(0, .inr (.inr (.inl r0))), (2, .inl x2)] [] M 0 0 := by
  induction i with
  | zero => intro r0 x2 M hres; exact am_no hres
  | succ i ih => intro r0 x2 M hres; exact sn12_text_b52B cx ih hres
set_option maxRecDepth 20000 in
theorem sn12_text_b0 {l : Launch} {G : am_G} {v : Int32} {M' : am_Mem} {N : Nat}  (cx : am_Ctx l rm12_text yX12_text cX12_text 3 (some .int) (some (.inl v)) M' 0 0 G)  {r0 : Nat} {x1 : Int32} {M : am_Mem} (hres : fn12_text_b0 N  r0 x1 M = some (v, M')) : G 0 [(0, .inr (.inr (.inl r0))), (1, .inl x1)] [] M 0 0 := by
  unfold fn12_text_b0 at hres
  refine am_aload_n cx 0 dX12_text_0 rfl ?_
  refine am_iconst cx (v := (0 : Int32)) dX12_text_1 (by decide) ?_
  obtain ⟨q1, hres⟩ := am_ck_some hres
  refine am_putI cx dX12_text_2 fpX12_103 (fun h => by cases h) (am_ke q1) ?_
  refine am_iload_n cx 1 dX12_text_5 rfl ?_
  refine am_i2l cx dX12_text_6 ?_
  refine am_lconst cx (v := (0 : Int64)) dX12_text_7 (by decide) ?_
  refine am_aload_n cx 0 dX12_text_8 rfl ?_
  refine am_getI cx dX12_text_9 flX12_107 (am_ke q1) ?_
  refine am_i2l cx dX12_text_12 ?_
  obtain ⟨v2, M3, q4, hres⟩ := am_bd_some hres
  refine am_callS1 cx [.inr (.inl x1.toInt64), .inr (.inl (0 : Int64)), .inr (.inl (am_I (am_wI M r0 0 (0 : Int32)) r0 2).toInt64)] dX12_text_13 csX12_141 (mt12_within q4)  ⟨rfl, rfl, Nat.le_of_ble_eq_true rfl, Nat.le_of_ble_eq_true rfl⟩ rfl (Nat.le_of_ble_eq_true rfl) ⟨Nat.le_of_ble_eq_true rfl, Nat.le_of_ble_eq_true rfl⟩ ?_
  refine am_if_ne cx (tgt := 21) dX12_text_16 (by decide) (fun h => ?_) (fun h => ?_)
  · have hres := am_ifn h hres
    refine am_aload_n cx 0 dX12_text_21 rfl ?_
    refine am_iconst cx (v := (0 : Int32)) dX12_text_22 (by decide) ?_
    obtain ⟨q5, hres⟩ := am_ck_some hres
    refine am_putI cx dX12_text_23 fpX12_107 (fun h => by cases h) (am_ke q5) ?_
    refine am_aload_n cx 0 dX12_text_26 rfl ?_
    refine am_iload_n cx 1 dX12_text_27 rfl ?_
    refine am_putI cx dX12_text_28 fpX12_114 (fun h => by cases h) (am_ke q5) ?_
    refine am_aload_n cx 0 dX12_text_31 rfl ?_
    refine am_iconst cx (v := (0 : Int32)) dX12_text_32 (by decide) ?_
    refine am_putI cx dX12_text_33 fpX12_117 (fun h => by cases h) (am_ke q5) ?_
    refine am_aload_n cx 0 dX12_text_36 rfl ?_
    refine am_iconst cx (v := (0 : Int32)) dX12_text_37 (by decide) ?_
    refine am_putI cx dX12_text_38 fpX12_151 (fun h => by cases h) (am_ke q5) ?_
    refine am_aload_n cx 0 dX12_text_41 rfl ?_
    refine am_iconst cx (v := (0 : Int32)) dX12_text_42 (by decide) ?_
    refine am_putI cx dX12_text_43 fpX12_179 (fun h => by cases h) (am_ke q5) ?_
    refine am_aload_n cx 0 dX12_text_46 rfl ?_
    obtain ⟨v6, M7, q8, hres⟩ := am_bd_some hres
    refine am_callV0 cx [] dX12_text_47 cvX12_190 (mt12_steps q8) (am_ke q5) ⟨rfl, rfl, Nat.le_of_ble_eq_true rfl, Nat.le_of_ble_eq_true rfl⟩ rfl (Nat.le_of_ble_eq_true rfl) ⟨Nat.le_of_ble_eq_true rfl, Nat.le_of_ble_eq_true rfl⟩ ?_
    refine am_iconst cx (v := (1 : Int32)) dX12_text_50 (by decide) ?_
    refine am_istore_n cx (lv' := [(0, .inr (.inr (.inl r0))), (1, .inl x1), (2, .inl (1 : Int32))]) dX12_text_51 (Nat.le_of_ble_eq_true rfl) rfl ?_
    refine am_sub cx [0, 2] rfl ?_
    exact sn12_text_b52 cx  N _ _ _ hres
  · have hres := am_ifp h hres
    refine am_iconst cx (v := (-1 : Int32)) dX12_text_19 (by decide) ?_
    obtain ⟨rfl, rfl⟩ := am_fin hres
    exact am_iret cx dX12_text_20
set_option maxRecDepth 20000 in
theorem mt12_text {l : Launch} {v : Int32} {M M' : am_Mem} {N : Nat} {r0 : Nat} {x1 : Int32} (h : fn12_text N M r0 x1 = some (v, M')) : am_Met l yX12_text cX12_text 3 (some .int) rm12_text 0 0 [.inr (.inr (.inl r0)), .inl x1] M (some (.inl v)) M' := am_mk (by decide) (Nat.le_of_ble_eq_true rfl) (fun G cx => (sn12_text_b0 cx h))
-- SquareCuts$Reader.readLine
def fn8_readLine_b146 (N : Nat)  (a0 : Int32) (r0 : Nat) (M : am_Mem) : Option (Int32 × am_Mem) :=
  if a0 = 0 then am_ck (am_k M r0 8) (if (am_I M r0 3) = (5 : Int32) then am_bd (fn8_nextToken N (am_wI M r0 8 ((am_I M r0 8) + (1 : Int32))) r0) (fun v2 M3 => some ((0 : Int32), M3)) else am_bd (fn8_faultOf M r0 (1 : Int32)) (fun v5 M6 => some (v5, M6))) else some (a0, M)
def fn8_readLine_b75 (N : Nat)  (r0 : Nat) (M : am_Mem) : Option (Int32 × am_Mem) :=
  am_ck (am_k M r0 8) (am_bd (fn8_faultOf M r0 (1 : Int32)) (fun v2 M3 => some (v2, M3)))
def fn8_readLine_b28 (N : Nat)  (r0 : Nat) (x1 : Int32) (M : am_Mem) : Option (Int32 × am_Mem) :=
  am_ck (am_k M r0 8) (if (am_I M r0 8) < (6 : Int32) then am_bd (fn8_nextToken N M r0) (fun v2 M3 => am_ck (am_k M3 r0 8) (if (am_I M3 r0 3) = (1 : Int32) then am_bd (fn8_isWord M3 r0 (431415719790 : Int64)) (fun v6 M7 => if v6 = 0 then am_ck (am_k M7 r0 8) (am_bd (fn8_isWord M7 r0 (7234932 : Int64)) (fun v10 M11 => if v10 = 0 then am_ck (am_k M11 r0 8) (am_bd (fn8_isNameThere N M11 r0) (fun v14 M15 => if v14 = 0 then am_ck (am_k M15 r0 8) (am_ck (am_k M15 (am_R M15 r0 6) 15) (am_ck (am_in (am_I M15 r0 8) (am_L M15 (am_R M15 r0 6))) (am_ck (am_k M15 (am_R M15 r0 9) 16) (am_ck (am_in (am_I M15 r0 8) (am_L M15 (am_R M15 r0 9))) (am_ck (am_k M15 (am_R M15 r0 10) 14) (am_ck (am_in (am_I (am_wI (am_wJ M15 (am_R M15 r0 6) (am_I M15 r0 8).toNatClampNeg (am_J M15 r0 5)) (am_R M15 r0 9) (am_I M15 r0 8).toNatClampNeg (x1 &&& 1)) r0 8) (am_L M15 (am_R M15 r0 10))) (am_bd (fn8_nextToken N (am_wI (am_wI (am_wJ M15 (am_R M15 r0 6) (am_I M15 r0 8).toNatClampNeg (am_J M15 r0 5)) (am_R M15 r0 9) (am_I M15 r0 8).toNatClampNeg (x1 &&& 1)) (am_R M15 r0 10) (am_I (am_wI (am_wJ M15 (am_R M15 r0 6) (am_I M15 r0 8).toNatClampNeg (am_J M15 r0 5)) (am_R M15 r0 9) (am_I M15 r0 8).toNatClampNeg (x1 &&& 1)) r0 8).toNatClampNeg (0 : Int32)) r0) (fun v24 M25 => if x1 = 0 then am_ck (am_k M25 r0 8) (am_bd (fn8_readNet N M25 r0) (fun v28 M29 => fn8_readLine_b146 N  v28 r0 M29)) else am_ck (am_k M25 r0 8) (am_bd (fn8_readGroups N M25 r0) (fun v32 M33 => fn8_readLine_b146 N  v32 r0 M33)))))))))) else am_ck (am_k M15 r0 8) (am_bd (fn8_faultOf M15 r0 (2 : Int32)) (fun v36 M37 => some (v36, M37))))) else fn8_readLine_b75 N  r0 M11)) else fn8_readLine_b75 N  r0 M7) else fn8_readLine_b75 N  r0 M3)) else am_bd (fn8_faultOf M r0 (4 : Int32)) (fun v39 M40 => some (v39, M40)))
def fn8_readLine_b0 (N : Nat)  (r0 : Nat) (M : am_Mem) : Option (Int32 × am_Mem) :=
  am_ck (am_k M r0 8) (am_bd (fn8_isWord M r0 (431415719790 : Int64)) (fun v2 M3 => if v2 = 0 then am_ck (am_k M3 r0 8) (am_bd (fn8_isWord M3 r0 (7234932 : Int64)) (fun v6 M7 => if v6 = 0 then am_ck (am_k M7 r0 8) (am_bd (fn8_faultOf M7 r0 (1 : Int32)) (fun v10 M11 => some (v10, M11))) else fn8_readLine_b28 N  r0 v2 M7)) else fn8_readLine_b28 N  r0 v2 M3))
def fn8_readLine (N : Nat) (M : am_Mem) (r0 : Nat) : Option (Int32 × am_Mem) := fn8_readLine_b0 N r0 M
def rm8_readLine : Room := { frames := 4, cells := 0, slots := 0, locals := 89 }
set_option maxRecDepth 20000 in
theorem sn8_readLine_b146 {l : Launch} {G : am_G} {v : Int32} {M' : am_Mem} {N : Nat}  (cx : am_Ctx l rm8_readLine yX8_readLine cX8_readLine 3 (some .int) (some (.inl v)) M' 0 0 G)  {a0 : Int32} {r0 : Nat} {M : am_Mem} (hres : fn8_readLine_b146 N  a0 r0 M = some (v, M')) : G 146 [(0, .inr (.inr (.inl r0)))] [.inl a0] M 0 0 := by
  unfold fn8_readLine_b146 at hres
  refine am_istore_n cx (lv' := [(0, .inr (.inr (.inl r0))), (2, .inl a0)]) dX8_readLine_146 (Nat.le_of_ble_eq_true rfl) rfl ?_
  refine am_iload_n cx 1 dX8_readLine_147 rfl ?_
  refine am_if_eq cx (tgt := 153) dX8_readLine_148 (by decide) (fun h => ?_) (fun h => ?_)
  · have hres := am_ifp h hres
    refine am_aload_n cx 0 dX8_readLine_153 rfl ?_
    obtain ⟨q1, hres⟩ := am_ck_some hres
    refine am_getI cx dX8_readLine_154 flX8_57 (am_ke q1) ?_
    refine am_iconst cx (v := (5 : Int32)) dX8_readLine_157 (by decide) ?_
    refine am_icmp_eq cx (tgt := 167) dX8_readLine_158 (by decide) (fun h => ?_) (fun h => ?_)
    · have hres := am_ifp h hres
      refine am_aload_n cx 0 dX8_readLine_167 rfl ?_
      refine am_dup cx dX8_readLine_168 rfl ?_
      refine am_getI cx dX8_readLine_169 flX8_51 (am_ke q1) ?_
      refine am_iconst cx (v := (1 : Int32)) dX8_readLine_172 (by decide) ?_
      refine am_iadd cx dX8_readLine_173 ?_
      refine am_putI cx dX8_readLine_174 fpX8_51 (fun h => by cases h) (am_ke q1) ?_
      refine am_aload_n cx 0 dX8_readLine_177 rfl ?_
      obtain ⟨v2, M3, q4, hres⟩ := am_bd_some hres
      refine am_callV0 cx [] dX8_readLine_178 cvX8_54 (mt8_nextToken q4) (am_ke q1) ⟨rfl, rfl, Nat.le_of_ble_eq_true rfl, Nat.le_of_ble_eq_true rfl⟩ rfl (Nat.le_of_ble_eq_true rfl) ⟨Nat.le_of_ble_eq_true rfl, Nat.le_of_ble_eq_true rfl⟩ ?_
      refine am_iconst cx (v := (0 : Int32)) dX8_readLine_181 (by decide) ?_
      obtain ⟨rfl, rfl⟩ := am_fin hres
      exact am_iret cx dX8_readLine_182
    · have hres := am_ifn h hres
      refine am_aload_n cx 0 dX8_readLine_161 rfl ?_
      refine am_iconst cx (v := (1 : Int32)) dX8_readLine_162 (by decide) ?_
      obtain ⟨v5, M6, q7, hres⟩ := am_bd_some hres
      refine am_callV1 cx [.inl (1 : Int32)] dX8_readLine_163 cvX8_72 (mt8_faultOf q7) (am_ke q1) ⟨rfl, rfl, Nat.le_of_ble_eq_true rfl, Nat.le_of_ble_eq_true rfl⟩ rfl (Nat.le_of_ble_eq_true rfl) ⟨Nat.le_of_ble_eq_true rfl, Nat.le_of_ble_eq_true rfl⟩ ?_
      obtain ⟨rfl, rfl⟩ := am_fin hres
      exact am_iret cx dX8_readLine_166
  · have hres := am_ifn h hres
    refine am_iload_n cx 1 dX8_readLine_151 rfl ?_
    obtain ⟨rfl, rfl⟩ := am_fin hres
    exact am_iret cx dX8_readLine_152
set_option maxRecDepth 20000 in
theorem sn8_readLine_b75 {l : Launch} {G : am_G} {v : Int32} {M' : am_Mem} {N : Nat}  (cx : am_Ctx l rm8_readLine yX8_readLine cX8_readLine 3 (some .int) (some (.inl v)) M' 0 0 G)  {r0 : Nat} {M : am_Mem} (hres : fn8_readLine_b75 N  r0 M = some (v, M')) : G 75 [(0, .inr (.inr (.inl r0)))] [] M 0 0 := by
  unfold fn8_readLine_b75 at hres
  refine am_aload_n cx 0 dX8_readLine_75 rfl ?_
  refine am_iconst cx (v := (1 : Int32)) dX8_readLine_76 (by decide) ?_
  obtain ⟨q1, hres⟩ := am_ck_some hres
  obtain ⟨v2, M3, q4, hres⟩ := am_bd_some hres
  refine am_callV1 cx [.inl (1 : Int32)] dX8_readLine_77 cvX8_72 (mt8_faultOf q4) (am_ke q1) ⟨rfl, rfl, Nat.le_of_ble_eq_true rfl, Nat.le_of_ble_eq_true rfl⟩ rfl (Nat.le_of_ble_eq_true rfl) ⟨Nat.le_of_ble_eq_true rfl, Nat.le_of_ble_eq_true rfl⟩ ?_
  obtain ⟨rfl, rfl⟩ := am_fin hres
  exact am_iret cx dX8_readLine_80
set_option maxRecDepth 20000 in
theorem sn8_readLine_b28 {l : Launch} {G : am_G} {v : Int32} {M' : am_Mem} {N : Nat}  (cx : am_Ctx l rm8_readLine yX8_readLine cX8_readLine 3 (some .int) (some (.inl v)) M' 0 0 G)  {r0 : Nat} {x1 : Int32} {M : am_Mem} (hres : fn8_readLine_b28 N  r0 x1 M = some (v, M')) : G 28 [(0, .inr (.inr (.inl r0))), (1, .inl x1)] [] M 0 0 := by
  unfold fn8_readLine_b28 at hres
  refine am_aload_n cx 0 dX8_readLine_28 rfl ?_
  obtain ⟨q1, hres⟩ := am_ck_some hres
  refine am_getI cx dX8_readLine_29 flX8_51 (am_ke q1) ?_
  refine am_bipush cx (v := (6 : Int32)) dX8_readLine_32 (by decide) ?_
  refine am_icmp_lt cx (tgt := 43) dX8_readLine_34 (by decide) (fun h => ?_) (fun h => ?_)
  · have hres := am_ifp h hres
    refine am_aload_n cx 0 dX8_readLine_43 rfl ?_
    obtain ⟨v2, M3, q4, hres⟩ := am_bd_some hres
    refine am_callV0 cx [] dX8_readLine_44 cvX8_54 (mt8_nextToken q4) (am_ke q1) ⟨rfl, rfl, Nat.le_of_ble_eq_true rfl, Nat.le_of_ble_eq_true rfl⟩ rfl (Nat.le_of_ble_eq_true rfl) ⟨Nat.le_of_ble_eq_true rfl, Nat.le_of_ble_eq_true rfl⟩ ?_
    refine am_aload_n cx 0 dX8_readLine_47 rfl ?_
    obtain ⟨q5, hres⟩ := am_ck_some hres
    refine am_getI cx dX8_readLine_48 flX8_57 (am_ke q5) ?_
    refine am_iconst cx (v := (1 : Int32)) dX8_readLine_51 (by decide) ?_
    refine am_icmp_ne cx (tgt := 75) dX8_readLine_52 (by decide) (fun h => ?_) (fun h => ?_)
    · have hres := am_ifn h hres
      refine am_sub cx [0] rfl ?_
      exact sn8_readLine_b75 cx  hres
    · have hres := am_ifp h hres
      refine am_aload_n cx 0 dX8_readLine_55 rfl ?_
      refine am_ldc2 cx dX8_readLine_56 aw_2_98 ?_
      obtain ⟨v6, M7, q8, hres⟩ := am_bd_some hres
      refine am_callV1 cx [.inr (.inl (431415719790 : Int64))] dX8_readLine_59 cvX8_66 (mt8_isWord q8) (am_ke q5) ⟨rfl, rfl, Nat.le_of_ble_eq_true rfl, Nat.le_of_ble_eq_true rfl⟩ rfl (Nat.le_of_ble_eq_true rfl) ⟨Nat.le_of_ble_eq_true rfl, Nat.le_of_ble_eq_true rfl⟩ ?_
      refine am_if_ne cx (tgt := 75) dX8_readLine_62 (by decide) (fun h => ?_) (fun h => ?_)
      · have hres := am_ifn h hres
        refine am_sub cx [0] rfl ?_
        exact sn8_readLine_b75 cx  hres
      · have hres := am_ifp h hres
        refine am_aload_n cx 0 dX8_readLine_65 rfl ?_
        refine am_ldc2 cx dX8_readLine_66 aw_2_103 ?_
        obtain ⟨q9, hres⟩ := am_ck_some hres
        obtain ⟨v10, M11, q12, hres⟩ := am_bd_some hres
        refine am_callV1 cx [.inr (.inl (7234932 : Int64))] dX8_readLine_69 cvX8_66 (mt8_isWord q12) (am_ke q9) ⟨rfl, rfl, Nat.le_of_ble_eq_true rfl, Nat.le_of_ble_eq_true rfl⟩ rfl (Nat.le_of_ble_eq_true rfl) ⟨Nat.le_of_ble_eq_true rfl, Nat.le_of_ble_eq_true rfl⟩ ?_
        refine am_if_eq cx (tgt := 81) dX8_readLine_72 (by decide) (fun h => ?_) (fun h => ?_)
        · have hres := am_ifp h hres
          refine am_aload_n cx 0 dX8_readLine_81 rfl ?_
          obtain ⟨q13, hres⟩ := am_ck_some hres
          obtain ⟨v14, M15, q16, hres⟩ := am_bd_some hres
          refine am_callV1 cx [] dX8_readLine_82 cvX8_76 (mt8_isNameThere q16) (am_ke q13) ⟨rfl, rfl, Nat.le_of_ble_eq_true rfl, Nat.le_of_ble_eq_true rfl⟩ rfl (Nat.le_of_ble_eq_true rfl) ⟨Nat.le_of_ble_eq_true rfl, Nat.le_of_ble_eq_true rfl⟩ ?_
          refine am_if_eq cx (tgt := 94) dX8_readLine_85 (by decide) (fun h => ?_) (fun h => ?_)
          · have hres := am_ifp h hres
            refine am_aload_n cx 0 dX8_readLine_94 rfl ?_
            obtain ⟨q17, hres⟩ := am_ck_some hres
            refine am_getR cx dX8_readLine_95 flX8_15 (am_ke q17) ?_
            refine am_aload_n cx 0 dX8_readLine_98 rfl ?_
            refine am_getI cx dX8_readLine_99 flX8_51 (am_ke q17) ?_
            refine am_aload_n cx 0 dX8_readLine_102 rfl ?_
            refine am_getJ cx dX8_readLine_103 flX8_80 (am_ke q17) ?_
            obtain ⟨q18, hres⟩ := am_ck_some hres
            obtain ⟨q19, hres⟩ := am_ck_some hres
            refine am_last cx dX8_readLine_106 (am_ke q18) q19  ?_
            refine am_aload_n cx 0 dX8_readLine_107 rfl ?_
            refine am_getR cx dX8_readLine_108 flX8_19 (am_ke q17) ?_
            refine am_aload_n cx 0 dX8_readLine_111 rfl ?_
            refine am_getI cx dX8_readLine_112 flX8_51 (am_ke q17) ?_
            refine am_iload_n cx 1 dX8_readLine_115 rfl ?_
            obtain ⟨q20, hres⟩ := am_ck_some hres
            obtain ⟨q21, hres⟩ := am_ck_some hres
            refine am_zast cx dX8_readLine_116 (am_ke q20) q21  ?_
            refine am_aload_n cx 0 dX8_readLine_117 rfl ?_
            refine am_getR cx dX8_readLine_118 flX8_23 (am_ke q17) ?_
            refine am_aload_n cx 0 dX8_readLine_121 rfl ?_
            refine am_getI cx dX8_readLine_122 flX8_51 (am_ke q17) ?_
            refine am_iconst cx (v := (0 : Int32)) dX8_readLine_125 (by decide) ?_
            obtain ⟨q22, hres⟩ := am_ck_some hres
            obtain ⟨q23, hres⟩ := am_ck_some hres
            refine am_iast cx dX8_readLine_126 (am_ke q22) q23  ?_
            refine am_aload_n cx 0 dX8_readLine_127 rfl ?_
            obtain ⟨v24, M25, q26, hres⟩ := am_bd_some hres
            refine am_callV0 cx [] dX8_readLine_128 cvX8_54 (mt8_nextToken q26) (am_ke q17) ⟨rfl, rfl, Nat.le_of_ble_eq_true rfl, Nat.le_of_ble_eq_true rfl⟩ rfl (Nat.le_of_ble_eq_true rfl) ⟨Nat.le_of_ble_eq_true rfl, Nat.le_of_ble_eq_true rfl⟩ ?_
            refine am_iload_n cx 1 dX8_readLine_131 rfl ?_
            refine am_if_eq cx (tgt := 142) dX8_readLine_132 (by decide) (fun h => ?_) (fun h => ?_)
            · have hres := am_ifp h hres
              refine am_aload_n cx 0 dX8_readLine_142 rfl ?_
              obtain ⟨q27, hres⟩ := am_ck_some hres
              obtain ⟨v28, M29, q30, hres⟩ := am_bd_some hres
              refine am_callV1 cx [] dX8_readLine_143 cvX8_87 (mt8_readNet q30) (am_ke q27) ⟨rfl, rfl, Nat.le_of_ble_eq_true rfl, Nat.le_of_ble_eq_true rfl⟩ rfl (Nat.le_of_ble_eq_true rfl) ⟨Nat.le_of_ble_eq_true rfl, Nat.le_of_ble_eq_true rfl⟩ ?_
              refine am_sub cx [0] rfl ?_
              exact sn8_readLine_b146 cx  hres
            · have hres := am_ifn h hres
              refine am_aload_n cx 0 dX8_readLine_135 rfl ?_
              obtain ⟨q31, hres⟩ := am_ck_some hres
              obtain ⟨v32, M33, q34, hres⟩ := am_bd_some hres
              refine am_callV1 cx [] dX8_readLine_136 cvX8_84 (mt8_readGroups q34) (am_ke q31) ⟨rfl, rfl, Nat.le_of_ble_eq_true rfl, Nat.le_of_ble_eq_true rfl⟩ rfl (Nat.le_of_ble_eq_true rfl) ⟨Nat.le_of_ble_eq_true rfl, Nat.le_of_ble_eq_true rfl⟩ ?_
              refine am_goto cx (tgt := 146) dX8_readLine_139 (by decide) ?_
              refine am_sub cx [0] rfl ?_
              exact sn8_readLine_b146 cx  hres
          · have hres := am_ifn h hres
            refine am_aload_n cx 0 dX8_readLine_88 rfl ?_
            refine am_iconst cx (v := (2 : Int32)) dX8_readLine_89 (by decide) ?_
            obtain ⟨q35, hres⟩ := am_ck_some hres
            obtain ⟨v36, M37, q38, hres⟩ := am_bd_some hres
            refine am_callV1 cx [.inl (2 : Int32)] dX8_readLine_90 cvX8_72 (mt8_faultOf q38) (am_ke q35) ⟨rfl, rfl, Nat.le_of_ble_eq_true rfl, Nat.le_of_ble_eq_true rfl⟩ rfl (Nat.le_of_ble_eq_true rfl) ⟨Nat.le_of_ble_eq_true rfl, Nat.le_of_ble_eq_true rfl⟩ ?_
            obtain ⟨rfl, rfl⟩ := am_fin hres
            exact am_iret cx dX8_readLine_93
        · have hres := am_ifn h hres
          refine am_sub cx [0] rfl ?_
          exact sn8_readLine_b75 cx  hres
  · have hres := am_ifn h hres
    refine am_aload_n cx 0 dX8_readLine_37 rfl ?_
    refine am_iconst cx (v := (4 : Int32)) dX8_readLine_38 (by decide) ?_
    obtain ⟨v39, M40, q41, hres⟩ := am_bd_some hres
    refine am_callV1 cx [.inl (4 : Int32)] dX8_readLine_39 cvX8_72 (mt8_faultOf q41) (am_ke q1) ⟨rfl, rfl, Nat.le_of_ble_eq_true rfl, Nat.le_of_ble_eq_true rfl⟩ rfl (Nat.le_of_ble_eq_true rfl) ⟨Nat.le_of_ble_eq_true rfl, Nat.le_of_ble_eq_true rfl⟩ ?_
    obtain ⟨rfl, rfl⟩ := am_fin hres
    exact am_iret cx dX8_readLine_42
set_option maxRecDepth 20000 in
theorem sn8_readLine_b0 {l : Launch} {G : am_G} {v : Int32} {M' : am_Mem} {N : Nat}  (cx : am_Ctx l rm8_readLine yX8_readLine cX8_readLine 3 (some .int) (some (.inl v)) M' 0 0 G)  {r0 : Nat} {M : am_Mem} (hres : fn8_readLine_b0 N  r0 M = some (v, M')) : G 0 [(0, .inr (.inr (.inl r0)))] [] M 0 0 := by
  unfold fn8_readLine_b0 at hres
  refine am_aload_n cx 0 dX8_readLine_0 rfl ?_
  refine am_ldc2 cx dX8_readLine_1 aw_2_98 ?_
  obtain ⟨q1, hres⟩ := am_ck_some hres
  obtain ⟨v2, M3, q4, hres⟩ := am_bd_some hres
  refine am_callV1 cx [.inr (.inl (431415719790 : Int64))] dX8_readLine_4 cvX8_66 (mt8_isWord q4) (am_ke q1) ⟨rfl, rfl, Nat.le_of_ble_eq_true rfl, Nat.le_of_ble_eq_true rfl⟩ rfl (Nat.le_of_ble_eq_true rfl) ⟨Nat.le_of_ble_eq_true rfl, Nat.le_of_ble_eq_true rfl⟩ ?_
  refine am_istore_n cx (lv' := [(0, .inr (.inr (.inl r0))), (1, .inl v2)]) dX8_readLine_7 (Nat.le_of_ble_eq_true rfl) rfl ?_
  refine am_iload_n cx 1 dX8_readLine_8 rfl ?_
  refine am_if_ne cx (tgt := 28) dX8_readLine_9 (by decide) (fun h => ?_) (fun h => ?_)
  · have hres := am_ifn h hres
    exact sn8_readLine_b28 cx  hres
  · have hres := am_ifp h hres
    refine am_aload_n cx 0 dX8_readLine_12 rfl ?_
    refine am_ldc2 cx dX8_readLine_13 aw_2_103 ?_
    obtain ⟨q5, hres⟩ := am_ck_some hres
    obtain ⟨v6, M7, q8, hres⟩ := am_bd_some hres
    refine am_callV1 cx [.inr (.inl (7234932 : Int64))] dX8_readLine_16 cvX8_66 (mt8_isWord q8) (am_ke q5) ⟨rfl, rfl, Nat.le_of_ble_eq_true rfl, Nat.le_of_ble_eq_true rfl⟩ rfl (Nat.le_of_ble_eq_true rfl) ⟨Nat.le_of_ble_eq_true rfl, Nat.le_of_ble_eq_true rfl⟩ ?_
    refine am_if_ne cx (tgt := 28) dX8_readLine_19 (by decide) (fun h => ?_) (fun h => ?_)
    · have hres := am_ifn h hres
      exact sn8_readLine_b28 cx  hres
    · have hres := am_ifp h hres
      refine am_aload_n cx 0 dX8_readLine_22 rfl ?_
      refine am_iconst cx (v := (1 : Int32)) dX8_readLine_23 (by decide) ?_
      obtain ⟨q9, hres⟩ := am_ck_some hres
      obtain ⟨v10, M11, q12, hres⟩ := am_bd_some hres
      refine am_callV1 cx [.inl (1 : Int32)] dX8_readLine_24 cvX8_72 (mt8_faultOf q12) (am_ke q9) ⟨rfl, rfl, Nat.le_of_ble_eq_true rfl, Nat.le_of_ble_eq_true rfl⟩ rfl (Nat.le_of_ble_eq_true rfl) ⟨Nat.le_of_ble_eq_true rfl, Nat.le_of_ble_eq_true rfl⟩ ?_
      obtain ⟨rfl, rfl⟩ := am_fin hres
      exact am_iret cx dX8_readLine_27
set_option maxRecDepth 20000 in
theorem mt8_readLine {l : Launch} {v : Int32} {M M' : am_Mem} {N : Nat} {r0 : Nat} (h : fn8_readLine N M r0 = some (v, M')) : am_Met l yX8_readLine cX8_readLine 3 (some .int) rm8_readLine 0 0 [.inr (.inr (.inl r0))] M (some (.inl v)) M' := am_mk (by decide) (Nat.le_of_ble_eq_true rfl) (fun G cx => (sn8_readLine_b0 cx h))
-- SquareCuts$Reader.read
def fn8_read_b63 (N : Nat)   (M : am_Mem) : Option (Int32 × am_Mem) :=
  some ((0 : Int32), M)
def fn8_read_b33B (N : Nat) (k33 : Nat → Int32 → am_Mem → Option (Int32 × am_Mem)) (r0 : Nat) (x2 : Int32) (M : am_Mem) : Option (Int32 × am_Mem) :=
  if (6 : Int32) < x2 then fn8_read_b63 N   M else am_ck (am_k M r0 8) (if (am_I M r0 3) = 0 then fn8_read_b63 N   M else am_bd (fn8_readLine N M r0) (fun v2 M3 => if v2 = 0 then k33 r0 (x2 + (1 : Int32)) M3 else some (v2, M3)))
def fn8_read_b33 (N : Nat)  : Nat → Nat → Int32 → am_Mem → Option (Int32 × am_Mem)
  | 0 => fun _ _ _ => none
  | i + 1 => fn8_read_b33B N (fn8_read_b33 N  i)
def fn8_read_b0 (N : Nat)  (r0 : Nat) (x1 : Int32) (M : am_Mem) : Option (Int32 × am_Mem) :=
  am_ck (am_k M r0 8) (am_bd (fn8_nextToken N (am_wI (am_wI (am_wI (am_wI M r0 1 (if (am_I M r0 7) < x1 then (am_I M r0 7) else x1)) r0 7 (0 : Int32)) r0 2 (0 : Int32)) r0 8 (0 : Int32)) r0) (fun v2 M3 => fn8_read_b33 N  N r0 (0 : Int32) M3))
def fn8_read (N : Nat) (M : am_Mem) (r0 : Nat) (x1 : Int32) : Option (Int32 × am_Mem) := fn8_read_b0 N r0 x1 M
def rm8_read : Room := { frames := 5, cells := 0, slots := 0, locals := 111 }
set_option maxRecDepth 20000 in
theorem sn8_read_b63 {l : Launch} {G : am_G} {v : Int32} {M' : am_Mem} {N : Nat}  (cx : am_Ctx l rm8_read yX8_read cX8_read 4 (some .int) (some (.inl v)) M' 0 0 G)   {M : am_Mem} (hres : fn8_read_b63 N   M = some (v, M')) : G 63 [] [] M 0 0 := by
  unfold fn8_read_b63 at hres
  refine am_iconst cx (v := (0 : Int32)) dX8_read_63 (by decide) ?_
  obtain ⟨rfl, rfl⟩ := am_fin hres
  exact am_iret cx dX8_read_64
set_option maxRecDepth 20000 in
theorem sn8_read_b33B {l : Launch} {G : am_G} {v : Int32} {M' : am_Mem} {N : Nat} {k33 : Nat → Int32 → am_Mem → Option (Int32 × am_Mem)} (cx : am_Ctx l rm8_read yX8_read cX8_read 4 (some .int) (some (.inl v)) M' 0 0 G) (hk33 : ∀ (r0 : Nat) (x2 : Int32) (M : am_Mem), k33 r0 x2 M = some (v, M') → G 33 [(0, .inr (.inr (.inl r0))), (2, .inl x2)] [] M 0 0) {r0 : Nat} {x2 : Int32} {M : am_Mem} (hres : fn8_read_b33B N k33 r0 x2 M = some (v, M')) : G 33 [(0, .inr (.inr (.inl r0))), (2, .inl x2)] [] M 0 0 := by
  unfold fn8_read_b33B at hres
  refine am_iload_n cx 1 dX8_read_33 rfl ?_
  refine am_bipush cx (v := (6 : Int32)) dX8_read_34 (by decide) ?_
  refine am_icmp_gt cx (tgt := 63) dX8_read_36 (by decide) (fun h => ?_) (fun h => ?_)
  · have hres := am_ifp h hres
    refine am_sub cx [] rfl ?_
    exact sn8_read_b63 cx  hres
  · have hres := am_ifn h hres
    refine am_aload_n cx 0 dX8_read_39 rfl ?_
    obtain ⟨q1, hres⟩ := am_ck_some hres
    refine am_getI cx dX8_read_40 flX8_57 (am_ke q1) ?_
    refine am_if_eq cx (tgt := 63) dX8_read_43 (by decide) (fun h => ?_) (fun h => ?_)
    · have hres := am_ifp h hres
      refine am_sub cx [] rfl ?_
      exact sn8_read_b63 cx  hres
    · have hres := am_ifn h hres
      refine am_aload_n cx 0 dX8_read_46 rfl ?_
      obtain ⟨v2, M3, q4, hres⟩ := am_bd_some hres
      refine am_callV1 cx [] dX8_read_47 cvX8_60 (mt8_readLine q4) (am_ke q1) ⟨rfl, rfl, Nat.le_of_ble_eq_true rfl, Nat.le_of_ble_eq_true rfl⟩ rfl (Nat.le_of_ble_eq_true rfl) ⟨Nat.le_of_ble_eq_true rfl, Nat.le_of_ble_eq_true rfl⟩ ?_
      refine am_istore_n cx (lv' := [(0, .inr (.inr (.inl r0))), (2, .inl x2), (3, .inl v2)]) dX8_read_50 (Nat.le_of_ble_eq_true rfl) rfl ?_
      refine am_iload_n cx 2 dX8_read_51 rfl ?_
      refine am_if_eq cx (tgt := 57) dX8_read_52 (by decide) (fun h => ?_) (fun h => ?_)
      · have hres := am_ifp h hres
        refine am_iincw cx (lv' := [(0, .inr (.inr (.inl r0))), (2, .inl (x2 + (1 : Int32))), (3, .inl v2)]) (w := (1 : Int32)) 1 dX8_read_57 (by decide) rfl (Nat.le_of_ble_eq_true rfl) rfl ?_
        refine am_goto cx (tgt := 33) dX8_read_60 (by decide) ?_
        refine am_sub cx [0, 1] rfl ?_
        exact hk33 _ _ _ hres
      · have hres := am_ifn h hres
        refine am_iload_n cx 2 dX8_read_55 rfl ?_
        obtain ⟨rfl, rfl⟩ := am_fin hres
        exact am_iret cx dX8_read_56
set_option maxRecDepth 20000 in
theorem sn8_read_b33 {l : Launch} {G : am_G} {v : Int32} {M' : am_Mem} {N : Nat}  (cx : am_Ctx l rm8_read yX8_read cX8_read 4 (some .int) (some (.inl v)) M' 0 0 G)  (i : Nat) : ∀ (r0 : Nat) (x2 : Int32) (M : am_Mem), fn8_read_b33 N  i r0 x2 M = some (v, M') → G 33 [(0, .inr (.inr (.inl r0))), (2, .inl x2)] [] M 0 0 := by
  induction i with
  | zero => intro r0 x2 M hres; exact am_no hres
  | succ i ih => intro r0 x2 M hres; exact sn8_read_b33B cx ih hres
set_option maxRecDepth 20000 in
theorem sn8_read_b0 {l : Launch} {G : am_G} {v : Int32} {M' : am_Mem} {N : Nat}  (cx : am_Ctx l rm8_read yX8_read cX8_read 4 (some .int) (some (.inl v)) M' 0 0 G)  {r0 : Nat} {x1 : Int32} {M : am_Mem} (hres : fn8_read_b0 N  r0 x1 M = some (v, M')) : G 0 [(0, .inr (.inr (.inl r0))), (1, .inl x1)] [] M 0 0 := by
  unfold fn8_read_b0 at hres
  refine am_aload_n cx 0 dX8_read_0 rfl ?_
  refine am_iload_n cx 1 dX8_read_1 rfl ?_
  refine am_aload_n cx 0 dX8_read_2 rfl ?_
  obtain ⟨q1, hres⟩ := am_ck_some hres
  refine am_getI cx dX8_read_3 flX8_35 (am_ke q1) ?_
  refine am_mmin cx dX8_read_6 aw_2_82 aw_2_83 aw_1_12 aw_2_84 (Nat.le_of_ble_eq_true rfl) (Nat.le_of_ble_eq_true rfl) (Nat.le_of_ble_eq_true rfl) (Nat.le_of_ble_eq_true rfl) ?_
  refine am_putI cx dX8_read_9 fpX8_45 (fun h => by cases h) (am_ke q1) ?_
  refine am_aload_n cx 0 dX8_read_12 rfl ?_
  refine am_iconst cx (v := (0 : Int32)) dX8_read_13 (by decide) ?_
  refine am_putI cx dX8_read_14 fpX8_35 (fun h => by cases h) (am_ke q1) ?_
  refine am_aload_n cx 0 dX8_read_17 rfl ?_
  refine am_iconst cx (v := (0 : Int32)) dX8_read_18 (by decide) ?_
  refine am_putI cx dX8_read_19 fpX8_48 (fun h => by cases h) (am_ke q1) ?_
  refine am_aload_n cx 0 dX8_read_22 rfl ?_
  refine am_iconst cx (v := (0 : Int32)) dX8_read_23 (by decide) ?_
  refine am_putI cx dX8_read_24 fpX8_51 (fun h => by cases h) (am_ke q1) ?_
  refine am_aload_n cx 0 dX8_read_27 rfl ?_
  obtain ⟨v2, M3, q4, hres⟩ := am_bd_some hres
  refine am_callV0 cx [] dX8_read_28 cvX8_54 (mt8_nextToken q4) (am_ke q1) ⟨rfl, rfl, Nat.le_of_ble_eq_true rfl, Nat.le_of_ble_eq_true rfl⟩ rfl (Nat.le_of_ble_eq_true rfl) ⟨Nat.le_of_ble_eq_true rfl, Nat.le_of_ble_eq_true rfl⟩ ?_
  refine am_iconst cx (v := (0 : Int32)) dX8_read_31 (by decide) ?_
  refine am_istore_n cx (lv' := [(0, .inr (.inr (.inl r0))), (1, .inl x1), (2, .inl (0 : Int32))]) dX8_read_32 (Nat.le_of_ble_eq_true rfl) rfl ?_
  refine am_sub cx [0, 2] rfl ?_
  exact sn8_read_b33 cx  N _ _ _ hres
set_option maxRecDepth 20000 in
theorem mt8_read {l : Launch} {v : Int32} {M M' : am_Mem} {N : Nat} {r0 : Nat} {x1 : Int32} (h : fn8_read N M r0 x1 = some (v, M')) : am_Met l yX8_read cX8_read 4 (some .int) rm8_read 0 0 [.inr (.inr (.inl r0)), .inl x1] M (some (.inl v)) M' := am_mk (by decide) (Nat.le_of_ble_eq_true rfl) (fun G cx => (sn8_read_b0 cx h))
-- SquareCuts.text
def fn11_text_b15 (N : Nat)   (M : am_Mem) : Option (Int32 × am_Mem) :=
  some ((-1 : Int32), M)
def fn11_text_b103 (N : Nat) (k63 : Nat → Int32 → am_Mem → Option (Int32 × am_Mem)) (c0 : Nat) (c1 : Nat) (r0 : Nat) (x3 : Int32) (M : am_Mem) : Option (Int32 × am_Mem) :=
  am_ck (am_k M c0 9) (am_bd (fn9_put M c0 c1) (fun v2 M3 => k63 r0 (x3 + (1 : Int32)) M3))
def fn11_text_b63B (N : Nat) (k63 : Nat → Int32 → am_Mem → Option (Int32 × am_Mem)) (r0 : Nat) (x3 : Int32) (M : am_Mem) : Option (Int32 × am_Mem) :=
  am_ck (am_k M r0 11) (am_ck (am_k M (am_R M r0 0) 8) (if (am_I M (am_R M r0 0) 8) ≤ x3 then am_ck (am_k M (am_R M r0 8) 9) (some ((am_I M (am_R M r0 8) 1), M)) else am_ck (am_k M (am_R M (am_R M r0 0) 9) 16) (am_ck (am_in x3 (am_L M (am_R M (am_R M r0 0) 9))) (if (am_I M (am_R M (am_R M r0 0) 9) x3.toNatClampNeg) = 0 then am_bd (fn11_netTiling N M r0 x3) (fun v6 M7 => fn11_text_b103 N k63 (am_R M r0 8) v6 r0 x3 M7) else am_bd (fn11_drawnTiling N M r0 x3) (fun v9 M10 => fn11_text_b103 N k63 (am_R M r0 8) v9 r0 x3 M10)))))
def fn11_text_b63 (N : Nat)  : Nat → Nat → Int32 → am_Mem → Option (Int32 × am_Mem)
  | 0 => fun _ _ _ => none
  | i + 1 => fn11_text_b63B N (fn11_text_b63 N  i)
def fn11_text_b0 (N : Nat)  (r0 : Nat) (x1 : Int32) (M : am_Mem) : Option (Int32 × am_Mem) :=
  if x1 < 0 then fn11_text_b15 N   M else am_ck (am_k M r0 11) (am_ck (am_k M (am_R M r0 0) 8) (if x1 ≤ (am_I M (am_R M r0 0) 7) then am_bd (fn8_read N M (am_R M r0 0) x1) (fun v3 M4 => if v3 = 0 then am_ck (am_k M4 r0 11) (am_ck (am_k M4 (am_R M4 r0 8) 9) (am_bd (fn9_clear M4 (am_R M4 r0 8)) (fun v8 M9 => am_ck (am_k M9 r0 11) (am_ck (am_k M9 (am_R M9 r0 9) 9) (am_bd (fn9_clear M9 (am_R M9 r0 9)) (fun v13 M14 => am_ck (am_k M14 r0 11) (am_ck (am_k M14 (am_R M14 r0 10) 9) (am_bd (fn9_clear M14 (am_R M14 r0 10)) (fun v18 M19 => am_ck (am_k M19 r0 11) (fn11_text_b63 N  7 r0 (0 : Int32) (am_wI M19 r0 11 (0 : Int32)))))))))))) else some (((-2 : Int32) - v3), M4)) else fn11_text_b15 N   M))
def fn11_text (N : Nat) (M : am_Mem) (r0 : Nat) (x1 : Int32) : Option (Int32 × am_Mem) := fn11_text_b0 N r0 x1 M
def rm11_text : Room := { frames := 6, cells := 49, slots := 1169, locals := 153 }
set_option maxRecDepth 20000 in
theorem sn11_text_b15 {l : Launch} {G : am_G} {v : Int32} {M' : am_Mem} {N : Nat}  (cx : am_Ctx l rm11_text yX11_text cX11_text 4 (some .int) (some (.inl v)) M' 49 1169 G)   {M : am_Mem} (hres : fn11_text_b15 N   M = some (v, M')) : G 15 [] [] M 0 0 := by
  unfold fn11_text_b15 at hres
  refine am_iconst cx (v := (-1 : Int32)) dX11_text_15 (by decide) ?_
  obtain ⟨rfl, rfl⟩ := am_fin hres
  refine am_widen cx (k' := 49) (n' := 1169) (Nat.le_of_ble_eq_true rfl) (Nat.le_of_ble_eq_true rfl) ?_
  exact am_iret cx dX11_text_16
set_option maxRecDepth 20000 in
theorem sn11_text_b103 {l : Launch} {G : am_G} {v : Int32} {M' : am_Mem} {N : Nat} {i : Nat} {k63 : Nat → Int32 → am_Mem → Option (Int32 × am_Mem)} (cx : am_Ctx l rm11_text yX11_text cX11_text 4 (some .int) (some (.inl v)) M' 49 1169 G) (hk63 : ∀ (r0 : Nat) (x3 : Int32) (M : am_Mem), k63 r0 x3 M = some (v, M') → G 63 [(0, .inr (.inr (.inl r0))), (3, .inl x3)] [] M (0 + (7 - i) * 7) (0 + (7 - i) * 167)) (hib : i + 1 ≤ 7) {c0 : Nat} {c1 : Nat} {r0 : Nat} {x3 : Int32} {M : am_Mem} (hres : fn11_text_b103 N k63 c0 c1 r0 x3 M = some (v, M')) : G 103 [(0, .inr (.inr (.inl r0))), (3, .inl x3)] [.inr (.inr (.inl c1)), .inr (.inr (.inl c0))] M (0 + (7 - (i + 1)) * 7 + 7) (0 + (7 - (i + 1)) * 167 + 167) := by
  unfold fn11_text_b103 at hres
  obtain ⟨q1, hres⟩ := am_ck_some hres
  obtain ⟨v2, M3, q4, hres⟩ := am_bd_some hres
  refine am_callV0 cx [.inr (.inr (.inl c1))] dX11_text_103 cvX11_108 (mt9_put q4) (am_ke q1) ⟨rfl, rfl, Nat.le_of_ble_eq_true rfl, Nat.le_of_ble_eq_true rfl⟩ rfl (Nat.le_of_ble_eq_true rfl) ⟨by show _ ≤ (49 : Nat); omega, by show _ ≤ (1169 : Nat); omega⟩ ?_
  refine am_iincw cx (lv' := [(0, .inr (.inr (.inl r0))), (3, .inl (x3 + (1 : Int32)))]) (w := (1 : Int32)) 1 dX11_text_106 (by decide) rfl (Nat.le_of_ble_eq_true rfl) rfl ?_
  refine am_goto cx (tgt := 63) dX11_text_109 (by decide) ?_
  refine am_widen cx (k' := (0 + (7 - i) * 7)) (n' := (0 + (7 - i) * 167)) (by omega) (by omega) ?_
  exact hk63 _ _ _ hres
set_option maxRecDepth 20000 in
theorem sn11_text_b63B {l : Launch} {G : am_G} {v : Int32} {M' : am_Mem} {N : Nat} {i : Nat} {k63 : Nat → Int32 → am_Mem → Option (Int32 × am_Mem)} (cx : am_Ctx l rm11_text yX11_text cX11_text 4 (some .int) (some (.inl v)) M' 49 1169 G) (hk63 : ∀ (r0 : Nat) (x3 : Int32) (M : am_Mem), k63 r0 x3 M = some (v, M') → G 63 [(0, .inr (.inr (.inl r0))), (3, .inl x3)] [] M (0 + (7 - i) * 7) (0 + (7 - i) * 167)) (hib : i + 1 ≤ 7) {r0 : Nat} {x3 : Int32} {M : am_Mem} (hres : fn11_text_b63B N k63 r0 x3 M = some (v, M')) : G 63 [(0, .inr (.inr (.inl r0))), (3, .inl x3)] [] M (0 + (7 - (i + 1)) * 7) (0 + (7 - (i + 1)) * 167) := by
  unfold fn11_text_b63B at hres
  refine am_iload_n cx 1 dX11_text_63 rfl ?_
  refine am_aload_n cx 0 dX11_text_64 rfl ?_
  obtain ⟨q1, hres⟩ := am_ck_some hres
  refine am_getR cx dX11_text_65 flX11_12 (am_ke q1) ?_
  obtain ⟨q2, hres⟩ := am_ck_some hres
  refine am_getI cx dX11_text_68 flX11_94 (am_ke q2) ?_
  refine am_icmp_ge cx (tgt := 112) dX11_text_71 (by decide) (fun h => ?_) (fun h => ?_)
  · have hres := am_ifp h hres
    refine am_aload_n cx 0 dX11_text_112 rfl ?_
    refine am_getR cx dX11_text_113 flX11_66 (am_ke q1) ?_
    obtain ⟨q3, hres⟩ := am_ck_some hres
    refine am_getI cx dX11_text_116 flX11_112 (am_ke q3) ?_
    obtain ⟨rfl, rfl⟩ := am_fin hres
    refine am_widen cx (k' := 49) (n' := 1169) (by omega) (by omega) ?_
    exact am_iret cx dX11_text_119
  · have hres := am_ifn h hres
    refine am_aload_n cx 0 dX11_text_74 rfl ?_
    refine am_getR cx dX11_text_75 flX11_66 (am_ke q1) ?_
    refine am_aload_n cx 0 dX11_text_78 rfl ?_
    refine am_getR cx dX11_text_79 flX11_12 (am_ke q1) ?_
    refine am_getR cx dX11_text_82 flX11_97 (am_ke q2) ?_
    refine am_iload_n cx 1 dX11_text_85 rfl ?_
    obtain ⟨q4, hres⟩ := am_ck_some hres
    obtain ⟨q5, hres⟩ := am_ck_some hres
    refine am_zald cx dX11_text_86 (am_ke q4) q5 ?_
    refine am_if_eq cx (tgt := 98) dX11_text_87 (by decide) (fun h => ?_) (fun h => ?_)
    · have hres := am_ifp h hres
      refine am_aload_n cx 0 dX11_text_98 rfl ?_
      refine am_iload_n cx 1 dX11_text_99 rfl ?_
      obtain ⟨v6, M7, q8, hres⟩ := am_bd_some hres
      refine am_callV1 cx [.inl x3] dX11_text_100 cvX11_105 (mt11_netTiling q8) (am_ke q1) ⟨rfl, rfl, Nat.le_of_ble_eq_true rfl, Nat.le_of_ble_eq_true rfl⟩ rfl (Nat.le_of_ble_eq_true rfl) ⟨by show _ ≤ (49 : Nat); omega, by show _ ≤ (1169 : Nat); omega⟩ ?_
      exact sn11_text_b103 cx hk63 hib hres
    · have hres := am_ifn h hres
      refine am_aload_n cx 0 dX11_text_90 rfl ?_
      refine am_iload_n cx 1 dX11_text_91 rfl ?_
      obtain ⟨v9, M10, q11, hres⟩ := am_bd_some hres
      refine am_callV1 cx [.inl x3] dX11_text_92 cvX11_101 (mt11_drawnTiling q11) (am_ke q1) ⟨rfl, rfl, Nat.le_of_ble_eq_true rfl, Nat.le_of_ble_eq_true rfl⟩ rfl (Nat.le_of_ble_eq_true rfl) ⟨by show _ ≤ (49 : Nat); omega, by show _ ≤ (1169 : Nat); omega⟩ ?_
      refine am_goto cx (tgt := 103) dX11_text_95 (by decide) ?_
      refine am_widen cx (k' := (0 + (7 - (i + 1)) * 7 + 7)) (n' := (0 + (7 - (i + 1)) * 167 + 167)) (by omega) (by omega) ?_
      exact sn11_text_b103 cx hk63 hib hres
set_option maxRecDepth 20000 in
theorem sn11_text_b63 {l : Launch} {G : am_G} {v : Int32} {M' : am_Mem} {N : Nat}  (cx : am_Ctx l rm11_text yX11_text cX11_text 4 (some .int) (some (.inl v)) M' 49 1169 G)  (i : Nat) : i ≤ 7 → ∀ (r0 : Nat) (x3 : Int32) (M : am_Mem), fn11_text_b63 N  i r0 x3 M = some (v, M') → G 63 [(0, .inr (.inr (.inl r0))), (3, .inl x3)] [] M (0 + (7 - i) * 7) (0 + (7 - i) * 167) := by
  induction i with
  | zero => intro hi r0 x3 M hres; exact am_no hres
  | succ i ih => intro hi r0 x3 M hres; exact sn11_text_b63B cx (ih (by omega)) hi hres
set_option maxRecDepth 20000 in
theorem sn11_text_b0 {l : Launch} {G : am_G} {v : Int32} {M' : am_Mem} {N : Nat}  (cx : am_Ctx l rm11_text yX11_text cX11_text 4 (some .int) (some (.inl v)) M' 49 1169 G)  {r0 : Nat} {x1 : Int32} {M : am_Mem} (hres : fn11_text_b0 N  r0 x1 M = some (v, M')) : G 0 [(0, .inr (.inr (.inl r0))), (1, .inl x1)] [] M 0 0 := by
  unfold fn11_text_b0 at hres
  refine am_iload_n cx 1 dX11_text_0 rfl ?_
  refine am_if_lt cx (tgt := 15) dX11_text_1 (by decide) (fun h => ?_) (fun h => ?_)
  · have hres := am_ifp h hres
    refine am_sub cx [] rfl ?_
    exact sn11_text_b15 cx  hres
  · have hres := am_ifn h hres
    refine am_iload_n cx 1 dX11_text_4 rfl ?_
    refine am_aload_n cx 0 dX11_text_5 rfl ?_
    obtain ⟨q1, hres⟩ := am_ck_some hres
    refine am_getR cx dX11_text_6 flX11_12 (am_ke q1) ?_
    obtain ⟨q2, hres⟩ := am_ck_some hres
    refine am_getI cx dX11_text_9 flX11_76 (am_ke q2) ?_
    refine am_icmp_le cx (tgt := 17) dX11_text_12 (by decide) (fun h => ?_) (fun h => ?_)
    · have hres := am_ifp h hres
      refine am_aload_n cx 0 dX11_text_17 rfl ?_
      refine am_getR cx dX11_text_18 flX11_12 (am_ke q1) ?_
      refine am_iload_n cx 1 dX11_text_21 rfl ?_
      obtain ⟨v3, M4, q5, hres⟩ := am_bd_some hres
      refine am_callV1 cx [.inl x1] dX11_text_22 cvX11_84 (mt8_read q5) (am_ke q2) ⟨rfl, rfl, Nat.le_of_ble_eq_true rfl, Nat.le_of_ble_eq_true rfl⟩ rfl (Nat.le_of_ble_eq_true rfl) ⟨Nat.le_of_ble_eq_true rfl, Nat.le_of_ble_eq_true rfl⟩ ?_
      refine am_istore_n cx (lv' := [(0, .inr (.inr (.inl r0))), (1, .inl x1), (2, .inl v3)]) dX11_text_25 (Nat.le_of_ble_eq_true rfl) rfl ?_
      refine am_iload_n cx 2 dX11_text_26 rfl ?_
      refine am_if_eq cx (tgt := 35) dX11_text_27 (by decide) (fun h => ?_) (fun h => ?_)
      · have hres := am_ifp h hres
        refine am_aload_n cx 0 dX11_text_35 rfl ?_
        obtain ⟨q6, hres⟩ := am_ck_some hres
        refine am_getR cx dX11_text_36 flX11_66 (am_ke q6) ?_
        obtain ⟨q7, hres⟩ := am_ck_some hres
        obtain ⟨v8, M9, q10, hres⟩ := am_bd_some hres
        refine am_callV0 cx [] dX11_text_39 cvX11_88 (mt9_clear q10) (am_ke q7) ⟨rfl, rfl, Nat.le_of_ble_eq_true rfl, Nat.le_of_ble_eq_true rfl⟩ rfl (Nat.le_of_ble_eq_true rfl) ⟨Nat.le_of_ble_eq_true rfl, Nat.le_of_ble_eq_true rfl⟩ ?_
        refine am_aload_n cx 0 dX11_text_42 rfl ?_
        obtain ⟨q11, hres⟩ := am_ck_some hres
        refine am_getR cx dX11_text_43 flX11_70 (am_ke q11) ?_
        obtain ⟨q12, hres⟩ := am_ck_some hres
        obtain ⟨v13, M14, q15, hres⟩ := am_bd_some hres
        refine am_callV0 cx [] dX11_text_46 cvX11_88 (mt9_clear q15) (am_ke q12) ⟨rfl, rfl, Nat.le_of_ble_eq_true rfl, Nat.le_of_ble_eq_true rfl⟩ rfl (Nat.le_of_ble_eq_true rfl) ⟨Nat.le_of_ble_eq_true rfl, Nat.le_of_ble_eq_true rfl⟩ ?_
        refine am_aload_n cx 0 dX11_text_49 rfl ?_
        obtain ⟨q16, hres⟩ := am_ck_some hres
        refine am_getR cx dX11_text_50 flX11_73 (am_ke q16) ?_
        obtain ⟨q17, hres⟩ := am_ck_some hres
        obtain ⟨v18, M19, q20, hres⟩ := am_bd_some hres
        refine am_callV0 cx [] dX11_text_53 cvX11_88 (mt9_clear q20) (am_ke q17) ⟨rfl, rfl, Nat.le_of_ble_eq_true rfl, Nat.le_of_ble_eq_true rfl⟩ rfl (Nat.le_of_ble_eq_true rfl) ⟨Nat.le_of_ble_eq_true rfl, Nat.le_of_ble_eq_true rfl⟩ ?_
        refine am_aload_n cx 0 dX11_text_56 rfl ?_
        refine am_iconst cx (v := (0 : Int32)) dX11_text_57 (by decide) ?_
        obtain ⟨q21, hres⟩ := am_ck_some hres
        refine am_putI cx dX11_text_58 fpX11_91 (fun h => by cases h) (am_ke q21) ?_
        refine am_iconst cx (v := (0 : Int32)) dX11_text_61 (by decide) ?_
        refine am_istore_n cx (lv' := [(0, .inr (.inr (.inl r0))), (1, .inl x1), (2, .inl v3), (3, .inl (0 : Int32))]) dX11_text_62 (Nat.le_of_ble_eq_true rfl) rfl ?_
        refine am_sub cx [0, 3] rfl ?_
        refine am_widen cx (k' := (0 + (7 - 7) * 7)) (n' := (0 + (7 - 7) * 167)) (by omega) (by omega) ?_
        exact sn11_text_b63 cx  7 (Nat.le_refl _) _ _ _ hres
      · have hres := am_ifn h hres
        refine am_bipush cx (v := (-2 : Int32)) dX11_text_30 (by decide) ?_
        refine am_iload_n cx 2 dX11_text_32 rfl ?_
        refine am_isub cx dX11_text_33 ?_
        obtain ⟨rfl, rfl⟩ := am_fin hres
        refine am_widen cx (k' := 49) (n' := 1169) (Nat.le_of_ble_eq_true rfl) (Nat.le_of_ble_eq_true rfl) ?_
        exact am_iret cx dX11_text_34
    · have hres := am_ifn h hres
      refine am_sub cx [] rfl ?_
      exact sn11_text_b15 cx  hres
set_option maxRecDepth 20000 in
theorem mt11_text {l : Launch} {v : Int32} {M M' : am_Mem} {N : Nat} {r0 : Nat} {x1 : Int32} (h : fn11_text N M r0 x1 = some (v, M')) : am_Met l yX11_text cX11_text 4 (some .int) rm11_text 49 1169 [.inr (.inr (.inl r0)), .inl x1] M (some (.inl v)) M' := am_mk (by decide) (Nat.le_of_ble_eq_true rfl) (fun G cx => (sn11_text_b0 cx h))
-- SquareCuts.square
def fnx11_square_b28   (M : am_Mem) : Option (Unit × am_Mem) :=
  some ((), M)
def fnx11_square_b0  (r0 : Nat) (x1 : Int32) (x2 : Int32) (x3 : Int32) (M : am_Mem) : Option (Unit × am_Mem) :=
  am_ck (am_k M r0 11) (am_ck (am_k M (am_R M r0 8) 9) (am_bd (fn9_find M (am_R M r0 8) x1) (fun v3 M4 => if v3 = 0 then fnx11_square_b28   M4 else if x2 < 0 then fnx11_square_b28   M4 else am_ck (am_k M4 v3 10) (if x2 < (am_I M4 v3 4) then if x3 = (0 : Int32) then (am_ck (am_k M4 (am_R M4 v3 7) 14) (am_ck (am_in x2 (am_L M4 (am_R M4 v3 7))) (none))) else (if x3 = (1 : Int32) then (am_ck (am_k M4 (am_R M4 v3 8) 14) (am_ck (am_in x2 (am_L M4 (am_R M4 v3 8))) (none))) else (if x3 = (2 : Int32) then (am_ck (am_k M4 (am_R M4 v3 9) 14) (am_ck (am_in x2 (am_L M4 (am_R M4 v3 9))) (none))) else (some ((), M4)))) else fnx11_square_b28   M4))))
def fnx11_square (M : am_Mem) (r0 : Nat) (x1 : Int32) (x2 : Int32) (x3 : Int32) : Option (Unit × am_Mem) := fnx11_square_b0  r0 x1 x2 x3 M
def rmx11_square : Room := { frames := 6, cells := 1, slots := 6, locals := 82 }
set_option maxRecDepth 20000 in
theorem snx11_square_b28 {l : Launch} {G : am_G} {M' : am_Mem}  (cx : am_Ctx l rmx11_square yX11_square cX11_square 5 (some .int) none am_bad 1 6 G) (th : am_Thr l rmx11_square yX11_square cX11_square 5 M' 1 6 G)   {M : am_Mem} (hres : fnx11_square_b28   M = some ((), M')) : G 28 [] [] M 0 0 := by
  unfold fnx11_square_b28 at hres
  obtain ⟨-, rfl⟩ := am_fin hres
  exact am_throw th rfl 0 (by decide) rfl rfl aw_4_153 aw_1_24 dX11_square_28 dX11_square_31 dX11_square_32 dX11_square_34 dX11_square_37 (Nat.le_of_ble_eq_true rfl) (Nat.le_of_ble_eq_true rfl) (Nat.le_of_ble_eq_true rfl) (Nat.le_of_ble_eq_true rfl) (Nat.le_of_ble_eq_true rfl) (Nat.le_of_ble_eq_true rfl)
set_option maxRecDepth 20000 in
theorem snx11_square_b0 {l : Launch} {G : am_G} {M' : am_Mem}  (cx : am_Ctx l rmx11_square yX11_square cX11_square 5 (some .int) none am_bad 1 6 G) (th : am_Thr l rmx11_square yX11_square cX11_square 5 M' 1 6 G)  {r0 : Nat} {x1 : Int32} {x2 : Int32} {x3 : Int32} {M : am_Mem} (hres : fnx11_square_b0  r0 x1 x2 x3 M = some ((), M')) : G 0 [(0, .inr (.inr (.inl r0))), (1, .inl x1), (2, .inl x2), (3, .inl x3)] [] M 0 0 := by
  unfold fnx11_square_b0 at hres
  refine am_aload_n cx 0 dX11_square_0 rfl ?_
  obtain ⟨q1, hres⟩ := am_ck_some hres
  refine am_getR cx dX11_square_1 flX11_66 (am_ke q1) ?_
  refine am_iload_n cx 1 dX11_square_4 rfl ?_
  obtain ⟨q2, hres⟩ := am_ck_some hres
  obtain ⟨v3, M4, q5, hres⟩ := am_bd_some hres
  refine am_callV1 cx [.inl x1] dX11_square_5 cvX11_115 (mt9_find q5) (am_ke q2) ⟨rfl, rfl, Nat.le_of_ble_eq_true rfl, Nat.le_of_ble_eq_true rfl⟩ rfl (Nat.le_of_ble_eq_true rfl) ⟨Nat.le_of_ble_eq_true rfl, Nat.le_of_ble_eq_true rfl⟩ ?_
  refine am_astore cx (lv' := [(0, .inr (.inr (.inl r0))), (1, .inl x1), (2, .inl x2), (3, .inl x3), (4, .inr (.inr (.inl v3)))]) dX11_square_8 (Nat.le_of_ble_eq_true rfl) rfl ?_
  refine am_aload cx 4 dX11_square_10 rfl ?_
  refine am_ifnull cx (tgt := 28) dX11_square_12 (by decide) (fun h => ?_) (fun h => ?_)
  · have hres := am_ifp h hres
    refine am_sub cx [] rfl ?_
    exact snx11_square_b28 cx th  hres
  · have hres := am_ifn h hres
    refine am_iload_n cx 2 dX11_square_15 rfl ?_
    refine am_if_lt cx (tgt := 28) dX11_square_16 (by decide) (fun h => ?_) (fun h => ?_)
    · have hres := am_ifp h hres
      refine am_sub cx [] rfl ?_
      exact snx11_square_b28 cx th  hres
    · have hres := am_ifn h hres
      refine am_iload_n cx 2 dX11_square_19 rfl ?_
      refine am_aload cx 4 dX11_square_20 rfl ?_
      obtain ⟨q6, hres⟩ := am_ck_some hres
      refine am_getI cx dX11_square_22 flX11_127 (am_ke q6) ?_
      refine am_icmp_lt cx (tgt := 38) dX11_square_25 (by decide) (fun h => ?_) (fun h => ?_)
      · have hres := am_ifp h hres
        refine am_iload_n cx 3 dX11_square_38 rfl ?_
        by_cases w7 : x3 = (0 : Int32)
        · refine am_tableIn cx (tgt := 64) (off := 25) dX11_square_39 (by rw [w7]; decide) (by rw [w7]; decide) (by rw [w7]; decide) (by decide) ?_
          have hres := am_ifp w7 hres
          refine am_aload cx 4 dX11_square_64 rfl ?_
          refine am_getR cx dX11_square_66 flX11_154 (am_ke q6) ?_
          refine am_iload_n cx 2 dX11_square_69 rfl ?_
          obtain ⟨q8, hres⟩ := am_ck_some hres
          obtain ⟨q9, hres⟩ := am_ck_some hres
          refine am_iald cx dX11_square_70 (am_ke q8) q9 ?_
          exact am_no hres
        have hres := am_ifn w7 hres
        by_cases w10 : x3 = (1 : Int32)
        · refine am_tableIn cx (tgt := 72) (off := 33) dX11_square_39 (by rw [w10]; decide) (by rw [w10]; decide) (by rw [w10]; decide) (by decide) ?_
          have hres := am_ifp w10 hres
          refine am_aload cx 4 dX11_square_72 rfl ?_
          refine am_getR cx dX11_square_74 flX11_158 (am_ke q6) ?_
          refine am_iload_n cx 2 dX11_square_77 rfl ?_
          obtain ⟨q11, hres⟩ := am_ck_some hres
          obtain ⟨q12, hres⟩ := am_ck_some hres
          refine am_iald cx dX11_square_78 (am_ke q11) q12 ?_
          exact am_no hres
        have hres := am_ifn w10 hres
        by_cases w13 : x3 = (2 : Int32)
        · refine am_tableIn cx (tgt := 80) (off := 41) dX11_square_39 (by rw [w13]; decide) (by rw [w13]; decide) (by rw [w13]; decide) (by decide) ?_
          have hres := am_ifp w13 hres
          refine am_aload cx 4 dX11_square_80 rfl ?_
          refine am_getR cx dX11_square_82 flX11_161 (am_ke q6) ?_
          refine am_iload_n cx 2 dX11_square_85 rfl ?_
          obtain ⟨q14, hres⟩ := am_ck_some hres
          obtain ⟨q15, hres⟩ := am_ck_some hres
          refine am_iald cx dX11_square_86 (am_ke q14) q15 ?_
          exact am_no hres
        have hres := am_ifn w13 hres
        refine am_tableOut cx (tgt := 88) dX11_square_39 (am_sw (fun cq h1 h2 => ?_)) (by decide) ?_
        · rcases (show cq = 0 ∨ cq = 1 ∨ cq = 2 by omega) with rfl | rfl | rfl
          · exact w7
          · exact w10
          · exact w13
        skip
        obtain ⟨-, rfl⟩ := am_fin hres
        exact am_throw th rfl 1 (by decide) rfl rfl aw_4_153 aw_1_24 dX11_square_88 dX11_square_91 dX11_square_92 dX11_square_94 dX11_square_97 (Nat.le_of_ble_eq_true rfl) (Nat.le_of_ble_eq_true rfl) (Nat.le_of_ble_eq_true rfl) (Nat.le_of_ble_eq_true rfl) (Nat.le_of_ble_eq_true rfl) (Nat.le_of_ble_eq_true rfl)
      · have hres := am_ifn h hres
        refine am_sub cx [] rfl ?_
        exact snx11_square_b28 cx th  hres
set_option maxRecDepth 20000 in
theorem mtx11_square {l : Launch} (hst : l.stackTraces = false) {M M' : am_Mem} {r0 : Nat} {x1 : Int32} {x2 : Int32} {x3 : Int32} (h : fnx11_square M r0 x1 x2 x3 = some ((), M')) : am_MetX l yX11_square cX11_square 5 (some .int) rmx11_square 1 6 [.inr (.inr (.inl r0)), .inl x1, .inl x2, .inl x3] M M' := am_mkX (by decide) (Nat.le_of_ble_eq_true rfl) hst (fun G cx th => (snx11_square_b0 cx th h))
-- SquareCuts.line
def fnx11_line_b23 (N : Nat)   (M : am_Mem) : Option (Unit × am_Mem) :=
  some ((), M)
def fnx11_line_b57 (N : Nat)   (M : am_Mem) : Option (Unit × am_Mem) :=
  some ((), M)
def fnx11_line_b0 (N : Nat)  (r0 : Nat) (x1 : Int32) (x2 : Int32) (x3 : Int32) (M : am_Mem) : Option (Unit × am_Mem) :=
  am_ck (am_k M r0 11) (am_ck (am_k M (am_R M r0 8) 9) (am_bd (fn9_find M (am_R M r0 8) x1) (fun v3 M4 => if v3 = 0 then fnx11_line_b23 N   M4 else am_ck (am_k M4 v3 10) (if (am_I M4 v3 1) = 0 then am_ck (am_k M4 r0 11) (am_ck (am_k M4 (am_R M4 r0 6) 2) (am_bd (fn2_build N M4 (am_R M4 r0 6) v3) (fun v9 M10 => if x2 < 0 then fnx11_line_b57 N   M10 else am_ck (am_k M10 r0 11) (am_ck (am_k M10 (am_R M10 r0 6) 2) (if x2 < (am_I M10 (am_R M10 r0 6) 4) then if x3 = (0 : Int32) then (am_ck (am_k M10 (am_R M10 (am_R M10 r0 6) 0) 14) (am_ck (am_in x2 (am_L M10 (am_R M10 (am_R M10 r0 6) 0))) (none))) else (if x3 = (1 : Int32) then (am_ck (am_k M10 (am_R M10 (am_R M10 r0 6) 1) 14) (am_ck (am_in x2 (am_L M10 (am_R M10 (am_R M10 r0 6) 1))) (none))) else (if x3 = (2 : Int32) then (am_ck (am_k M10 (am_R M10 (am_R M10 r0 6) 2) 14) (am_ck (am_in x2 (am_L M10 (am_R M10 (am_R M10 r0 6) 2))) (none))) else (if x3 = (3 : Int32) then (am_ck (am_k M10 (am_R M10 (am_R M10 r0 6) 3) 14) (am_ck (am_in x2 (am_L M10 (am_R M10 (am_R M10 r0 6) 3))) (none))) else (some ((), M10))))) else fnx11_line_b57 N   M10))))) else fnx11_line_b23 N   M4))))
def fnx11_line (N : Nat) (M : am_Mem) (r0 : Nat) (x1 : Int32) (x2 : Int32) (x3 : Int32) : Option (Unit × am_Mem) := fnx11_line_b0 N r0 x1 x2 x3 M
def rmx11_line : Room := { frames := 6, cells := 1, slots := 6, locals := 82 }
set_option maxRecDepth 20000 in
theorem snx11_line_b23 {l : Launch} {G : am_G} {M' : am_Mem} {N : Nat}  (cx : am_Ctx l rmx11_line yX11_line cX11_line 5 (some .int) none am_bad 1 6 G) (th : am_Thr l rmx11_line yX11_line cX11_line 5 M' 1 6 G)   {M : am_Mem} (hres : fnx11_line_b23 N   M = some ((), M')) : G 23 [] [] M 0 0 := by
  unfold fnx11_line_b23 at hres
  obtain ⟨-, rfl⟩ := am_fin hres
  exact am_throw th rfl 2 (by decide) rfl rfl aw_4_153 aw_1_24 dX11_line_23 dX11_line_26 dX11_line_27 dX11_line_29 dX11_line_32 (Nat.le_of_ble_eq_true rfl) (Nat.le_of_ble_eq_true rfl) (Nat.le_of_ble_eq_true rfl) (Nat.le_of_ble_eq_true rfl) (Nat.le_of_ble_eq_true rfl) (Nat.le_of_ble_eq_true rfl)
set_option maxRecDepth 20000 in
theorem snx11_line_b57 {l : Launch} {G : am_G} {M' : am_Mem} {N : Nat}  (cx : am_Ctx l rmx11_line yX11_line cX11_line 5 (some .int) none am_bad 1 6 G) (th : am_Thr l rmx11_line yX11_line cX11_line 5 M' 1 6 G)   {M : am_Mem} (hres : fnx11_line_b57 N   M = some ((), M')) : G 57 [] [] M 0 0 := by
  unfold fnx11_line_b57 at hres
  obtain ⟨-, rfl⟩ := am_fin hres
  exact am_throw th rfl 3 (by decide) rfl rfl aw_4_153 aw_1_24 dX11_line_57 dX11_line_60 dX11_line_61 dX11_line_63 dX11_line_66 (Nat.le_of_ble_eq_true rfl) (Nat.le_of_ble_eq_true rfl) (Nat.le_of_ble_eq_true rfl) (Nat.le_of_ble_eq_true rfl) (Nat.le_of_ble_eq_true rfl) (Nat.le_of_ble_eq_true rfl)
set_option maxRecDepth 20000 in
theorem snx11_line_b0 {l : Launch} {G : am_G} {M' : am_Mem} {N : Nat}  (cx : am_Ctx l rmx11_line yX11_line cX11_line 5 (some .int) none am_bad 1 6 G) (th : am_Thr l rmx11_line yX11_line cX11_line 5 M' 1 6 G)  {r0 : Nat} {x1 : Int32} {x2 : Int32} {x3 : Int32} {M : am_Mem} (hres : fnx11_line_b0 N  r0 x1 x2 x3 M = some ((), M')) : G 0 [(0, .inr (.inr (.inl r0))), (1, .inl x1), (2, .inl x2), (3, .inl x3)] [] M 0 0 := by
  unfold fnx11_line_b0 at hres
  refine am_aload_n cx 0 dX11_line_0 rfl ?_
  obtain ⟨q1, hres⟩ := am_ck_some hres
  refine am_getR cx dX11_line_1 flX11_66 (am_ke q1) ?_
  refine am_iload_n cx 1 dX11_line_4 rfl ?_
  obtain ⟨q2, hres⟩ := am_ck_some hres
  obtain ⟨v3, M4, q5, hres⟩ := am_bd_some hres
  refine am_callV1 cx [.inl x1] dX11_line_5 cvX11_115 (mt9_find q5) (am_ke q2) ⟨rfl, rfl, Nat.le_of_ble_eq_true rfl, Nat.le_of_ble_eq_true rfl⟩ rfl (Nat.le_of_ble_eq_true rfl) ⟨Nat.le_of_ble_eq_true rfl, Nat.le_of_ble_eq_true rfl⟩ ?_
  refine am_astore cx (lv' := [(0, .inr (.inr (.inl r0))), (1, .inl x1), (2, .inl x2), (3, .inl x3), (4, .inr (.inr (.inl v3)))]) dX11_line_8 (Nat.le_of_ble_eq_true rfl) rfl ?_
  refine am_aload cx 4 dX11_line_10 rfl ?_
  refine am_ifnull cx (tgt := 23) dX11_line_12 (by decide) (fun h => ?_) (fun h => ?_)
  · have hres := am_ifp h hres
    refine am_sub cx [] rfl ?_
    exact snx11_line_b23 cx th  hres
  · have hres := am_ifn h hres
    refine am_aload cx 4 dX11_line_15 rfl ?_
    obtain ⟨q6, hres⟩ := am_ck_some hres
    refine am_getI cx dX11_line_17 flX11_123 (am_ke q6) ?_
    refine am_if_eq cx (tgt := 33) dX11_line_20 (by decide) (fun h => ?_) (fun h => ?_)
    · have hres := am_ifp h hres
      refine am_aload_n cx 0 dX11_line_33 rfl ?_
      obtain ⟨q7, hres⟩ := am_ck_some hres
      refine am_getR cx dX11_line_34 flX11_52 (am_ke q7) ?_
      refine am_aload cx 4 dX11_line_37 rfl ?_
      obtain ⟨q8, hres⟩ := am_ck_some hres
      obtain ⟨v9, M10, q11, hres⟩ := am_bd_some hres
      refine am_callV0 cx [.inr (.inr (.inl v3))] dX11_line_39 cvX11_223 (mt2_build q11) (am_ke q8) ⟨rfl, rfl, Nat.le_of_ble_eq_true rfl, Nat.le_of_ble_eq_true rfl⟩ rfl (Nat.le_of_ble_eq_true rfl) ⟨Nat.le_of_ble_eq_true rfl, Nat.le_of_ble_eq_true rfl⟩ ?_
      refine am_iload_n cx 2 dX11_line_42 rfl ?_
      refine am_if_lt cx (tgt := 57) dX11_line_43 (by decide) (fun h => ?_) (fun h => ?_)
      · have hres := am_ifp h hres
        refine am_sub cx [] rfl ?_
        exact snx11_line_b57 cx th  hres
      · have hres := am_ifn h hres
        refine am_iload_n cx 2 dX11_line_46 rfl ?_
        refine am_aload_n cx 0 dX11_line_47 rfl ?_
        obtain ⟨q12, hres⟩ := am_ck_some hres
        refine am_getR cx dX11_line_48 flX11_52 (am_ke q12) ?_
        obtain ⟨q13, hres⟩ := am_ck_some hres
        refine am_getI cx dX11_line_51 flX11_226 (am_ke q13) ?_
        refine am_icmp_lt cx (tgt := 67) dX11_line_54 (by decide) (fun h => ?_) (fun h => ?_)
        · have hres := am_ifp h hres
          refine am_iload_n cx 3 dX11_line_67 rfl ?_
          by_cases w14 : x3 = (0 : Int32)
          · refine am_tableIn cx (tgt := 100) (off := 32) dX11_line_68 (by rw [w14]; decide) (by rw [w14]; decide) (by rw [w14]; decide) (by decide) ?_
            have hres := am_ifp w14 hres
            refine am_aload_n cx 0 dX11_line_100 rfl ?_
            refine am_getR cx dX11_line_101 flX11_52 (am_ke q12) ?_
            refine am_getR cx dX11_line_104 flX11_233 (am_ke q13) ?_
            refine am_iload_n cx 2 dX11_line_107 rfl ?_
            obtain ⟨q15, hres⟩ := am_ck_some hres
            obtain ⟨q16, hres⟩ := am_ck_some hres
            refine am_iald cx dX11_line_108 (am_ke q15) q16 ?_
            exact am_no hres
          have hres := am_ifn w14 hres
          by_cases w17 : x3 = (1 : Int32)
          · refine am_tableIn cx (tgt := 110) (off := 42) dX11_line_68 (by rw [w17]; decide) (by rw [w17]; decide) (by rw [w17]; decide) (by decide) ?_
            have hres := am_ifp w17 hres
            refine am_aload_n cx 0 dX11_line_110 rfl ?_
            refine am_getR cx dX11_line_111 flX11_52 (am_ke q12) ?_
            refine am_getR cx dX11_line_114 flX11_236 (am_ke q13) ?_
            refine am_iload_n cx 2 dX11_line_117 rfl ?_
            obtain ⟨q18, hres⟩ := am_ck_some hres
            obtain ⟨q19, hres⟩ := am_ck_some hres
            refine am_iald cx dX11_line_118 (am_ke q18) q19 ?_
            exact am_no hres
          have hres := am_ifn w17 hres
          by_cases w20 : x3 = (2 : Int32)
          · refine am_tableIn cx (tgt := 120) (off := 52) dX11_line_68 (by rw [w20]; decide) (by rw [w20]; decide) (by rw [w20]; decide) (by decide) ?_
            have hres := am_ifp w20 hres
            refine am_aload_n cx 0 dX11_line_120 rfl ?_
            refine am_getR cx dX11_line_121 flX11_52 (am_ke q12) ?_
            refine am_getR cx dX11_line_124 flX11_237 (am_ke q13) ?_
            refine am_iload_n cx 2 dX11_line_127 rfl ?_
            obtain ⟨q21, hres⟩ := am_ck_some hres
            obtain ⟨q22, hres⟩ := am_ck_some hres
            refine am_iald cx dX11_line_128 (am_ke q21) q22 ?_
            exact am_no hres
          have hres := am_ifn w20 hres
          by_cases w23 : x3 = (3 : Int32)
          · refine am_tableIn cx (tgt := 130) (off := 62) dX11_line_68 (by rw [w23]; decide) (by rw [w23]; decide) (by rw [w23]; decide) (by decide) ?_
            have hres := am_ifp w23 hres
            refine am_aload_n cx 0 dX11_line_130 rfl ?_
            refine am_getR cx dX11_line_131 flX11_52 (am_ke q12) ?_
            refine am_getR cx dX11_line_134 flX11_240 (am_ke q13) ?_
            refine am_iload_n cx 2 dX11_line_137 rfl ?_
            obtain ⟨q24, hres⟩ := am_ck_some hres
            obtain ⟨q25, hres⟩ := am_ck_some hres
            refine am_iald cx dX11_line_138 (am_ke q24) q25 ?_
            exact am_no hres
          have hres := am_ifn w23 hres
          refine am_tableOut cx (tgt := 140) dX11_line_68 (am_sw (fun cq h1 h2 => ?_)) (by decide) ?_
          · rcases (show cq = 0 ∨ cq = 1 ∨ cq = 2 ∨ cq = 3 by omega) with rfl | rfl | rfl | rfl
            · exact w14
            · exact w17
            · exact w20
            · exact w23
          skip
          obtain ⟨-, rfl⟩ := am_fin hres
          exact am_throw th rfl 4 (by decide) rfl rfl aw_4_153 aw_1_24 dX11_line_140 dX11_line_143 dX11_line_144 dX11_line_146 dX11_line_149 (Nat.le_of_ble_eq_true rfl) (Nat.le_of_ble_eq_true rfl) (Nat.le_of_ble_eq_true rfl) (Nat.le_of_ble_eq_true rfl) (Nat.le_of_ble_eq_true rfl) (Nat.le_of_ble_eq_true rfl)
        · have hres := am_ifn h hres
          refine am_sub cx [] rfl ?_
          exact snx11_line_b57 cx th  hres
    · have hres := am_ifn h hres
      refine am_sub cx [] rfl ?_
      exact snx11_line_b23 cx th  hres
set_option maxRecDepth 20000 in
theorem mtx11_line {l : Launch} (hst : l.stackTraces = false) {M M' : am_Mem} {N : Nat} {r0 : Nat} {x1 : Int32} {x2 : Int32} {x3 : Int32} (h : fnx11_line N M r0 x1 x2 x3 = some ((), M')) : am_MetX l yX11_line cX11_line 5 (some .int) rmx11_line 1 6 [.inr (.inr (.inl r0)), .inl x1, .inl x2, .inl x3] M M' := am_mkX (by decide) (Nat.le_of_ble_eq_true rfl) hst (fun G cx th => (snx11_line_b0 cx th h))
