-- SquareCuts$GroupLayer.<init>
def fn1_init_b17   (M : am_Mem) : Option (Unit × am_Mem) :=
  some ((), M)
def fn1_init_b0  (r0 : Nat) (M : am_Mem) : Option (Unit × am_Mem) :=
  am_ck (am_k M r0 1) (am_ck (am_k (am_new M 6 0) (am_n M + 1) 6) (am_bd (fn6_init (am_new M 6 0) (am_n M + 1) (24 : Int32)) (fun v3 M4 => am_ck (am_k M4 r0 1) (fn1_init_b17   (am_wR M4 r0 0 (am_n M + 1))))))
def fn1_init (M : am_Mem) (r0 : Nat) : Option (Unit × am_Mem) := fn1_init_b0  r0 M
def rm1_init : Room := { frames := 2, cells := 3, slots := 54, locals := 41 }
set_option maxRecDepth 20000 in
theorem sn1_init_b17 {l : Launch} {G : am_G} {M' : am_Mem}  (cx : am_Ctx l rm1_init yX1_init cX1_init 1 none none M' 3 54 G)   {M : am_Mem} (hres : fn1_init_b17   M = some ((), M')) : G 17 [] [] M 3 54 := by
  unfold fn1_init_b17 at hres
  obtain ⟨-, rfl⟩ := am_fin hres
  exact am_vret cx dX1_init_17
set_option maxRecDepth 20000 in
theorem sn1_init_b0 {l : Launch} {G : am_G} {M' : am_Mem}  (cx : am_Ctx l rm1_init yX1_init cX1_init 1 none none M' 3 54 G)  {r0 : Nat} {M : am_Mem} (hres : fn1_init_b0  r0 M = some ((), M')) : G 0 [(0, .inr (.inr (.inl r0)))] [] M 0 0 := by
  unfold fn1_init_b0 at hres
  refine am_aload_n cx 0 dX1_init_0 rfl ?_
  obtain ⟨q1, hres⟩ := am_ck_some hres
  refine am_objInit cx dX1_init_1 aw_1_96 aw_1_31 aw_1_32 (by rw [show am_K _ _ = 1 from (am_ke q1)]; decide) (Nat.le_of_ble_eq_true rfl) (Nat.le_of_ble_eq_true rfl) ?_
  refine am_aload_n cx 0 dX1_init_4 rfl ?_
  refine am_newO cx dX1_init_5 nwX1_9 (Nat.le_of_ble_eq_true rfl) (Nat.le_of_ble_eq_true rfl) ?_
  refine am_dup cx dX1_init_8 rfl ?_
  refine am_bipush cx (v := (24 : Int32)) dX1_init_9 (by decide) ?_
  obtain ⟨q2, hres⟩ := am_ck_some hres
  obtain ⟨v3, M4, q5, hres⟩ := am_bd_some hres
  refine am_callI0 cx [.inl (24 : Int32)] dX1_init_11 ciX1_11 (mt6_init q5) (by rw [show am_K _ _ = 6 from (am_ke q2)]; decide) ⟨rfl, rfl, Nat.le_of_ble_eq_true rfl, Nat.le_of_ble_eq_true rfl⟩ rfl (Nat.le_of_ble_eq_true rfl) ⟨Nat.le_of_ble_eq_true rfl, Nat.le_of_ble_eq_true rfl⟩ ?_
  obtain ⟨q6, hres⟩ := am_ck_some hres
  refine am_putR cx dX1_init_14 fpX1_14 (fun _ => rfl) (Or.inl ⟨_, rfl⟩) (am_ke q6) ?_
  refine am_sub cx [] rfl ?_
  exact sn1_init_b17 cx  hres
set_option maxRecDepth 20000 in
theorem mt1_init {l : Launch} {M M' : am_Mem} {r0 : Nat} (h : fn1_init M r0 = some ((), M')) : am_Met l yX1_init cX1_init 1 none rm1_init 3 54 [.inr (.inr (.inl r0))] M none M' := am_mk (by decide) (Nat.le_of_ble_eq_true rfl) (fun G cx => (sn1_init_b0 cx h))
-- SquareCuts$LineTable.insertSide
def fn2_insertSide_b76 (N : Nat)  (r0 : Nat) (x1 : Int32) (x2 : Int32) (x3 : Int32) (x4 : Int32) (x5 : Int32) (M : am_Mem) : Option (Unit × am_Mem) :=
  am_ck (am_k M r0 2) (am_ck (am_k M (am_R M r0 0) 14) (am_ck (am_in x5 (am_L M (am_R M r0 0))) (am_ck (am_k M (am_R M r0 1) 14) (am_ck (am_in x5 (am_L M (am_R M r0 1))) (am_ck (am_k M (am_R M r0 2) 14) (am_ck (am_in x5 (am_L M (am_R M r0 2))) (am_ck (am_k M (am_R M r0 3) 14) (am_ck (am_in x5 (am_L M (am_R M r0 3))) (some ((), (am_wI (am_wI (am_wI (am_wI (am_wI M (am_R M r0 0) x5.toNatClampNeg x1) (am_R M r0 1) x5.toNatClampNeg x2) (am_R M r0 2) x5.toNatClampNeg x3) (am_R M r0 3) x5.toNatClampNeg x4) r0 4 ((am_I (am_wI (am_wI (am_wI (am_wI M (am_R M r0 0) x5.toNatClampNeg x1) (am_R M r0 1) x5.toNatClampNeg x2) (am_R M r0 2) x5.toNatClampNeg x3) (am_R M r0 3) x5.toNatClampNeg x4) r0 4) + (1 : Int32)))))))))))))
def fn2_insertSide_b60 (N : Nat) (k16 : Nat → Int32 → Int32 → Int32 → Int32 → Int32 → am_Mem → Option (Unit × am_Mem)) (r0 : Nat) (x1 : Int32) (x2 : Int32) (x3 : Int32) (x4 : Int32) (x5 : Int32) (M : am_Mem) : Option (Unit × am_Mem) :=
  am_ck (am_k M r0 2) (am_bd (fn2_copyRow M r0 (x5 - (1 : Int32)) x5) (fun v2 M3 => k16 r0 x1 x2 x3 x4 (x5 + (-1 : Int32)) M3))
def fn2_insertSide_b16B (N : Nat) (k16 : Nat → Int32 → Int32 → Int32 → Int32 → Int32 → am_Mem → Option (Unit × am_Mem)) (r0 : Nat) (x1 : Int32) (x2 : Int32) (x3 : Int32) (x4 : Int32) (x5 : Int32) (M : am_Mem) : Option (Unit × am_Mem) :=
  if x5 ≤ 0 then fn2_insertSide_b76 N  r0 x1 x2 x3 x4 x5 M else am_ck (am_k M r0 2) (am_ck (am_k M (am_R M r0 0) 14) (am_ck (am_in (x5 - (1 : Int32)) (am_L M (am_R M r0 0))) (if x1 < (am_I M (am_R M r0 0) (x5 - (1 : Int32)).toNatClampNeg) then fn2_insertSide_b60 N k16 r0 x1 x2 x3 x4 x5 M else am_ck (am_in (x5 - (1 : Int32)) (am_L M (am_R M r0 0))) (if (am_I M (am_R M r0 0) (x5 - (1 : Int32)).toNatClampNeg) = x1 then am_ck (am_k M (am_R M r0 1) 14) (am_ck (am_in (x5 - (1 : Int32)) (am_L M (am_R M r0 1))) (if (am_I M (am_R M r0 1) (x5 - (1 : Int32)).toNatClampNeg) ≤ x2 then fn2_insertSide_b76 N  r0 x1 x2 x3 x4 x5 M else fn2_insertSide_b60 N k16 r0 x1 x2 x3 x4 x5 M)) else fn2_insertSide_b76 N  r0 x1 x2 x3 x4 x5 M))))
def fn2_insertSide_b16 (N : Nat)  : Nat → Nat → Int32 → Int32 → Int32 → Int32 → Int32 → am_Mem → Option (Unit × am_Mem)
  | 0 => fun _ _ _ _ _ _ _ => none
  | i + 1 => fn2_insertSide_b16B N (fn2_insertSide_b16 N  i)
def fn2_insertSide_b0 (N : Nat)  (r0 : Nat) (x1 : Int32) (x2 : Int32) (x3 : Int32) (x4 : Int32) (M : am_Mem) : Option (Unit × am_Mem) :=
  am_ck (am_k M r0 2) (if (am_I M r0 4) < (80 : Int32) then fn2_insertSide_b16 N  N r0 x1 x2 x3 x4 (am_I M r0 4) M else some ((), M))
def fn2_insertSide (N : Nat) (M : am_Mem) (r0 : Nat) (x1 : Int32) (x2 : Int32) (x3 : Int32) (x4 : Int32) : Option (Unit × am_Mem) := fn2_insertSide_b0 N r0 x1 x2 x3 x4 M
def rm2_insertSide : Room := { frames := 1, cells := 0, slots := 0, locals := 22 }
set_option maxRecDepth 20000 in
theorem sn2_insertSide_b76 {l : Launch} {G : am_G} {M' : am_Mem} {N : Nat}  (cx : am_Ctx l rm2_insertSide yX2_insertSide cX2_insertSide 6 none none M' 0 0 G)  {r0 : Nat} {x1 : Int32} {x2 : Int32} {x3 : Int32} {x4 : Int32} {x5 : Int32} {M : am_Mem} (hres : fn2_insertSide_b76 N  r0 x1 x2 x3 x4 x5 M = some ((), M')) : G 76 [(0, .inr (.inr (.inl r0))), (1, .inl x1), (2, .inl x2), (3, .inl x3), (4, .inl x4), (5, .inl x5)] [] M 0 0 := by
  unfold fn2_insertSide_b76 at hres
  refine am_aload_n cx 0 dX2_insertSide_76 rfl ?_
  obtain ⟨q1, hres⟩ := am_ck_some hres
  refine am_getR cx dX2_insertSide_77 flX2_11 (am_ke q1) ?_
  refine am_iload cx 5 dX2_insertSide_80 rfl ?_
  refine am_iload_n cx 1 dX2_insertSide_82 rfl ?_
  obtain ⟨q2, hres⟩ := am_ck_some hres
  obtain ⟨q3, hres⟩ := am_ck_some hres
  refine am_iast cx dX2_insertSide_83 (am_ke q2) q3  ?_
  refine am_aload_n cx 0 dX2_insertSide_84 rfl ?_
  refine am_getR cx dX2_insertSide_85 flX2_15 (am_ke q1) ?_
  refine am_iload cx 5 dX2_insertSide_88 rfl ?_
  refine am_iload_n cx 2 dX2_insertSide_90 rfl ?_
  obtain ⟨q4, hres⟩ := am_ck_some hres
  obtain ⟨q5, hres⟩ := am_ck_some hres
  refine am_iast cx dX2_insertSide_91 (am_ke q4) q5  ?_
  refine am_aload_n cx 0 dX2_insertSide_92 rfl ?_
  refine am_getR cx dX2_insertSide_93 flX2_18 (am_ke q1) ?_
  refine am_iload cx 5 dX2_insertSide_96 rfl ?_
  refine am_iload_n cx 3 dX2_insertSide_98 rfl ?_
  obtain ⟨q6, hres⟩ := am_ck_some hres
  obtain ⟨q7, hres⟩ := am_ck_some hres
  refine am_iast cx dX2_insertSide_99 (am_ke q6) q7  ?_
  refine am_aload_n cx 0 dX2_insertSide_100 rfl ?_
  refine am_getR cx dX2_insertSide_101 flX2_21 (am_ke q1) ?_
  refine am_iload cx 5 dX2_insertSide_104 rfl ?_
  refine am_iload cx 4 dX2_insertSide_106 rfl ?_
  obtain ⟨q8, hres⟩ := am_ck_some hres
  obtain ⟨q9, hres⟩ := am_ck_some hres
  refine am_iast cx dX2_insertSide_108 (am_ke q8) q9  ?_
  refine am_aload_n cx 0 dX2_insertSide_109 rfl ?_
  refine am_dup cx dX2_insertSide_110 rfl ?_
  refine am_getI cx dX2_insertSide_111 flX2_28 (am_ke q1) ?_
  refine am_iconst cx (v := (1 : Int32)) dX2_insertSide_114 (by decide) ?_
  refine am_iadd cx dX2_insertSide_115 ?_
  refine am_putI cx dX2_insertSide_116 fpX2_28 (fun h => by cases h) (am_ke q1) ?_
  obtain ⟨-, rfl⟩ := am_fin hres
  exact am_vret cx dX2_insertSide_119
set_option maxRecDepth 20000 in
theorem sn2_insertSide_b60 {l : Launch} {G : am_G} {M' : am_Mem} {N : Nat} {k16 : Nat → Int32 → Int32 → Int32 → Int32 → Int32 → am_Mem → Option (Unit × am_Mem)} (cx : am_Ctx l rm2_insertSide yX2_insertSide cX2_insertSide 6 none none M' 0 0 G) (hk16 : ∀ (r0 : Nat) (x1 : Int32) (x2 : Int32) (x3 : Int32) (x4 : Int32) (x5 : Int32) (M : am_Mem), k16 r0 x1 x2 x3 x4 x5 M = some ((), M') → G 16 [(0, .inr (.inr (.inl r0))), (1, .inl x1), (2, .inl x2), (3, .inl x3), (4, .inl x4), (5, .inl x5)] [] M 0 0) {r0 : Nat} {x1 : Int32} {x2 : Int32} {x3 : Int32} {x4 : Int32} {x5 : Int32} {M : am_Mem} (hres : fn2_insertSide_b60 N k16 r0 x1 x2 x3 x4 x5 M = some ((), M')) : G 60 [(0, .inr (.inr (.inl r0))), (1, .inl x1), (2, .inl x2), (3, .inl x3), (4, .inl x4), (5, .inl x5)] [] M 0 0 := by
  unfold fn2_insertSide_b60 at hres
  refine am_aload_n cx 0 dX2_insertSide_60 rfl ?_
  refine am_iload cx 5 dX2_insertSide_61 rfl ?_
  refine am_iconst cx (v := (1 : Int32)) dX2_insertSide_63 (by decide) ?_
  refine am_isub cx dX2_insertSide_64 ?_
  refine am_iload cx 5 dX2_insertSide_65 rfl ?_
  obtain ⟨q1, hres⟩ := am_ck_some hres
  obtain ⟨v2, M3, q4, hres⟩ := am_bd_some hres
  refine am_callV0 cx [.inl (x5 - (1 : Int32)), .inl x5] dX2_insertSide_67 cvX2_57 (mt2_copyRow q4) (am_ke q1) ⟨rfl, rfl, Nat.le_of_ble_eq_true rfl, Nat.le_of_ble_eq_true rfl⟩ rfl (Nat.le_of_ble_eq_true rfl) ⟨Nat.le_of_ble_eq_true rfl, Nat.le_of_ble_eq_true rfl⟩ ?_
  refine am_iincw cx (lv' := [(0, .inr (.inr (.inl r0))), (1, .inl x1), (2, .inl x2), (3, .inl x3), (4, .inl x4), (5, .inl (x5 + (-1 : Int32)))]) (w := (-1 : Int32)) 5 dX2_insertSide_70 (by decide) rfl (Nat.le_of_ble_eq_true rfl) rfl ?_
  refine am_goto cx (tgt := 16) dX2_insertSide_73 (by decide) ?_
  exact hk16 _ _ _ _ _ _ _ hres
set_option maxRecDepth 20000 in
theorem sn2_insertSide_b16B {l : Launch} {G : am_G} {M' : am_Mem} {N : Nat} {k16 : Nat → Int32 → Int32 → Int32 → Int32 → Int32 → am_Mem → Option (Unit × am_Mem)} (cx : am_Ctx l rm2_insertSide yX2_insertSide cX2_insertSide 6 none none M' 0 0 G) (hk16 : ∀ (r0 : Nat) (x1 : Int32) (x2 : Int32) (x3 : Int32) (x4 : Int32) (x5 : Int32) (M : am_Mem), k16 r0 x1 x2 x3 x4 x5 M = some ((), M') → G 16 [(0, .inr (.inr (.inl r0))), (1, .inl x1), (2, .inl x2), (3, .inl x3), (4, .inl x4), (5, .inl x5)] [] M 0 0) {r0 : Nat} {x1 : Int32} {x2 : Int32} {x3 : Int32} {x4 : Int32} {x5 : Int32} {M : am_Mem} (hres : fn2_insertSide_b16B N k16 r0 x1 x2 x3 x4 x5 M = some ((), M')) : G 16 [(0, .inr (.inr (.inl r0))), (1, .inl x1), (2, .inl x2), (3, .inl x3), (4, .inl x4), (5, .inl x5)] [] M 0 0 := by
  unfold fn2_insertSide_b16B at hres
  refine am_iload cx 5 dX2_insertSide_16 rfl ?_
  refine am_if_le cx (tgt := 76) dX2_insertSide_18 (by decide) (fun h => ?_) (fun h => ?_)
  · have hres := am_ifp h hres
    exact sn2_insertSide_b76 cx  hres
  · have hres := am_ifn h hres
    refine am_aload_n cx 0 dX2_insertSide_21 rfl ?_
    obtain ⟨q1, hres⟩ := am_ck_some hres
    refine am_getR cx dX2_insertSide_22 flX2_11 (am_ke q1) ?_
    refine am_iload cx 5 dX2_insertSide_25 rfl ?_
    refine am_iconst cx (v := (1 : Int32)) dX2_insertSide_27 (by decide) ?_
    refine am_isub cx dX2_insertSide_28 ?_
    obtain ⟨q2, hres⟩ := am_ck_some hres
    obtain ⟨q3, hres⟩ := am_ck_some hres
    refine am_iald cx dX2_insertSide_29 (am_ke q2) q3 ?_
    refine am_iload_n cx 1 dX2_insertSide_30 rfl ?_
    refine am_icmp_gt cx (tgt := 60) dX2_insertSide_31 (by decide) (fun h => ?_) (fun h => ?_)
    · have hres := am_ifp h hres
      exact sn2_insertSide_b60 cx hk16 hres
    · have hres := am_ifn h hres
      refine am_aload_n cx 0 dX2_insertSide_34 rfl ?_
      refine am_getR cx dX2_insertSide_35 flX2_11 (am_ke q1) ?_
      refine am_iload cx 5 dX2_insertSide_38 rfl ?_
      refine am_iconst cx (v := (1 : Int32)) dX2_insertSide_40 (by decide) ?_
      refine am_isub cx dX2_insertSide_41 ?_
      obtain ⟨q4, hres⟩ := am_ck_some hres
      refine am_iald cx dX2_insertSide_42 (am_ke q2) q4 ?_
      refine am_iload_n cx 1 dX2_insertSide_43 rfl ?_
      refine am_icmp_ne cx (tgt := 76) dX2_insertSide_44 (by decide) (fun h => ?_) (fun h => ?_)
      · have hres := am_ifn h hres
        exact sn2_insertSide_b76 cx  hres
      · have hres := am_ifp h hres
        refine am_aload_n cx 0 dX2_insertSide_47 rfl ?_
        refine am_getR cx dX2_insertSide_48 flX2_15 (am_ke q1) ?_
        refine am_iload cx 5 dX2_insertSide_51 rfl ?_
        refine am_iconst cx (v := (1 : Int32)) dX2_insertSide_53 (by decide) ?_
        refine am_isub cx dX2_insertSide_54 ?_
        obtain ⟨q5, hres⟩ := am_ck_some hres
        obtain ⟨q6, hres⟩ := am_ck_some hres
        refine am_iald cx dX2_insertSide_55 (am_ke q5) q6 ?_
        refine am_iload_n cx 2 dX2_insertSide_56 rfl ?_
        refine am_icmp_le cx (tgt := 76) dX2_insertSide_57 (by decide) (fun h => ?_) (fun h => ?_)
        · have hres := am_ifp h hres
          exact sn2_insertSide_b76 cx  hres
        · have hres := am_ifn h hres
          exact sn2_insertSide_b60 cx hk16 hres
set_option maxRecDepth 20000 in
theorem sn2_insertSide_b16 {l : Launch} {G : am_G} {M' : am_Mem} {N : Nat}  (cx : am_Ctx l rm2_insertSide yX2_insertSide cX2_insertSide 6 none none M' 0 0 G)  (i : Nat) : ∀ (r0 : Nat) (x1 : Int32) (x2 : Int32) (x3 : Int32) (x4 : Int32) (x5 : Int32) (M : am_Mem), fn2_insertSide_b16 N  i r0 x1 x2 x3 x4 x5 M = some ((), M') → G 16 [(0, .inr (.inr (.inl r0))), (1, .inl x1), (2, .inl x2), (3, .inl x3), (4, .inl x4), (5, .inl x5)] [] M 0 0 := by
  induction i with
  | zero => intro r0 x1 x2 x3 x4 x5 M hres; exact am_no hres
  | succ i ih => intro r0 x1 x2 x3 x4 x5 M hres; exact sn2_insertSide_b16B cx ih hres
set_option maxRecDepth 20000 in
theorem sn2_insertSide_b0 {l : Launch} {G : am_G} {M' : am_Mem} {N : Nat}  (cx : am_Ctx l rm2_insertSide yX2_insertSide cX2_insertSide 6 none none M' 0 0 G)  {r0 : Nat} {x1 : Int32} {x2 : Int32} {x3 : Int32} {x4 : Int32} {M : am_Mem} (hres : fn2_insertSide_b0 N  r0 x1 x2 x3 x4 M = some ((), M')) : G 0 [(0, .inr (.inr (.inl r0))), (1, .inl x1), (2, .inl x2), (3, .inl x3), (4, .inl x4)] [] M 0 0 := by
  unfold fn2_insertSide_b0 at hres
  refine am_aload_n cx 0 dX2_insertSide_0 rfl ?_
  obtain ⟨q1, hres⟩ := am_ck_some hres
  refine am_getI cx dX2_insertSide_1 flX2_28 (am_ke q1) ?_
  refine am_bipush cx (v := (80 : Int32)) dX2_insertSide_4 (by decide) ?_
  refine am_icmp_lt cx (tgt := 10) dX2_insertSide_6 (by decide) (fun h => ?_) (fun h => ?_)
  · have hres := am_ifp h hres
    refine am_aload_n cx 0 dX2_insertSide_10 rfl ?_
    refine am_getI cx dX2_insertSide_11 flX2_28 (am_ke q1) ?_
    refine am_istore cx (lv' := [(0, .inr (.inr (.inl r0))), (1, .inl x1), (2, .inl x2), (3, .inl x3), (4, .inl x4), (5, .inl (am_I M r0 4))]) dX2_insertSide_14 (Nat.le_of_ble_eq_true rfl) rfl ?_
    exact sn2_insertSide_b16 cx  N _ _ _ _ _ _ _ hres
  · have hres := am_ifn h hres
    obtain ⟨-, rfl⟩ := am_fin hres
    exact am_vret cx dX2_insertSide_9
set_option maxRecDepth 20000 in
theorem mt2_insertSide {l : Launch} {M M' : am_Mem} {N : Nat} {r0 : Nat} {x1 : Int32} {x2 : Int32} {x3 : Int32} {x4 : Int32} (h : fn2_insertSide N M r0 x1 x2 x3 x4 = some ((), M')) : am_Met l yX2_insertSide cX2_insertSide 6 none rm2_insertSide 0 0 [.inr (.inr (.inl r0)), .inl x1, .inl x2, .inl x3, .inl x4] M none M' := am_mk (by decide) (Nat.le_of_ble_eq_true rfl) (fun G cx => (sn2_insertSide_b0 cx h))
-- SquareCuts$NetLayer.<init>
def fn4_init_b39B (N : Nat) (k39 : Nat → Int32 → am_Mem → Option (Unit × am_Mem)) (r0 : Nat) (x1 : Int32) (M : am_Mem) : Option (Unit × am_Mem) :=
  am_ck (am_k M r0 4) (am_ck (am_k M (am_R M r0 0) 17) (if (Int32.ofNat (am_L M (am_R M r0 0))) ≤ x1 then some ((), M) else am_ck (am_k (am_new M 6 0) (am_n M + 1) 6) (am_bd (fn6_init (am_new M 6 0) (am_n M + 1) (14 : Int32)) (fun v4 M5 => am_ck (am_k M5 (am_R M r0 0) 17) (am_ck (am_in x1 (am_L M5 (am_R M r0 0))) (am_ck (am_k M5 (am_n M + 1) 6) (k39 r0 (x1 + (1 : Int32)) (am_wR M5 (am_R M r0 0) x1.toNatClampNeg (am_n M + 1)))))))))
def fn4_init_b39 (N : Nat)  : Nat → Nat → Int32 → am_Mem → Option (Unit × am_Mem)
  | 0 => fun _ _ _ => none
  | i + 1 => fn4_init_b39B N (fn4_init_b39 N  i)
def fn4_init_b37 (N : Nat)  (r0 : Nat) (M : am_Mem) : Option (Unit × am_Mem) :=
  fn4_init_b39 N  16 r0 (0 : Int32) M
def fn4_init_b29 (N : Nat)  (r0 : Nat) (M : am_Mem) : Option (Unit × am_Mem) :=
  am_ck (am_k (am_new M 16 (14 : Int32).toNatClampNeg) r0 4) (fn4_init_b37 N  r0 (am_wR (am_new M 16 (14 : Int32).toNatClampNeg) r0 3 (am_n M + 1)))
def fn4_init_b21 (N : Nat)  (r0 : Nat) (M : am_Mem) : Option (Unit × am_Mem) :=
  am_ck (am_k (am_new M 14 (14 : Int32).toNatClampNeg) r0 4) (fn4_init_b29 N  r0 (am_wR (am_new M 14 (14 : Int32).toNatClampNeg) r0 2 (am_n M + 1)))
def fn4_init_b13 (N : Nat)  (r0 : Nat) (M : am_Mem) : Option (Unit × am_Mem) :=
  am_ck (am_k (am_new M 14 (14 : Int32).toNatClampNeg) r0 4) (fn4_init_b21 N  r0 (am_wR (am_new M 14 (14 : Int32).toNatClampNeg) r0 1 (am_n M + 1)))
def fn4_init_b0 (N : Nat)  (r0 : Nat) (M : am_Mem) : Option (Unit × am_Mem) :=
  am_ck (am_k M r0 4) (am_ck (am_k (am_new M 17 (15 : Int32).toNatClampNeg) r0 4) (fn4_init_b13 N  r0 (am_wR (am_new M 17 (15 : Int32).toNatClampNeg) r0 0 (am_n M + 1))))
def fn4_init (N : Nat) (M : am_Mem) (r0 : Nat) : Option (Unit × am_Mem) := fn4_init_b0 N r0 M
def rm4_init : Room := { frames := 2, cells := 52, slots := 921, locals := 41 }
set_option maxRecDepth 20000 in
theorem sn4_init_b39B {l : Launch} {G : am_G} {M' : am_Mem} {N : Nat} {i : Nat} {k39 : Nat → Int32 → am_Mem → Option (Unit × am_Mem)} (cx : am_Ctx l rm4_init yX4_init cX4_init 2 none none M' 52 921 G) (hk39 : ∀ (r0 : Nat) (x1 : Int32) (M : am_Mem), k39 r0 x1 M = some ((), M') → G 39 [(0, .inr (.inr (.inl r0))), (1, .inl x1)] [] M (4 + (16 - i) * 3) (57 + (16 - i) * 54)) (hib : i + 1 ≤ 16) {r0 : Nat} {x1 : Int32} {M : am_Mem} (hres : fn4_init_b39B N k39 r0 x1 M = some ((), M')) : G 39 [(0, .inr (.inr (.inl r0))), (1, .inl x1)] [] M (4 + (16 - (i + 1)) * 3) (57 + (16 - (i + 1)) * 54) := by
  unfold fn4_init_b39B at hres
  refine am_iload_n cx 1 dX4_init_39 rfl ?_
  refine am_aload_n cx 0 dX4_init_40 rfl ?_
  obtain ⟨q1, hres⟩ := am_ck_some hres
  refine am_getR cx dX4_init_41 flX4_11 (am_ke q1) ?_
  obtain ⟨q2, hres⟩ := am_ck_some hres
  refine am_alen17 cx dX4_init_44 (am_ke q2) ?_
  refine am_icmp_ge cx (tgt := 69) dX4_init_45 (by decide) (fun h => ?_) (fun h => ?_)
  · have hres := am_ifp h hres
    obtain ⟨-, rfl⟩ := am_fin hres
    refine am_widen cx (k' := 52) (n' := 921) (by omega) (by omega) ?_
    exact am_vret cx dX4_init_69
  · have hres := am_ifn h hres
    refine am_aload_n cx 0 dX4_init_48 rfl ?_
    refine am_getR cx dX4_init_49 flX4_11 (am_ke q1) ?_
    refine am_iload_n cx 1 dX4_init_52 rfl ?_
    refine am_newO cx dX4_init_53 nwX4_9 (by show _ ≤ (52 : Nat); omega) (by show _ ≤ (921 : Nat); omega) ?_
    refine am_dup cx dX4_init_56 rfl ?_
    refine am_bipush cx (v := (14 : Int32)) dX4_init_57 (by decide) ?_
    obtain ⟨q3, hres⟩ := am_ck_some hres
    obtain ⟨v4, M5, q6, hres⟩ := am_bd_some hres
    refine am_callI0 cx [.inl (14 : Int32)] dX4_init_59 ciX4_28 (mt6_init q6) (by rw [show am_K _ _ = 6 from (am_ke q3)]; decide) ⟨rfl, rfl, Nat.le_of_ble_eq_true rfl, Nat.le_of_ble_eq_true rfl⟩ rfl (Nat.le_of_ble_eq_true rfl) ⟨by show _ ≤ (52 : Nat); omega, by show _ ≤ (921 : Nat); omega⟩ ?_
    obtain ⟨q7, hres⟩ := am_ck_some hres
    obtain ⟨q8, hres⟩ := am_ck_some hres
    obtain ⟨q9, hres⟩ := am_ck_some hres
    refine am_aast17 cx dX4_init_62 (am_ke q7) q8 (am_ke q9) ?_
    refine am_iincw cx (lv' := [(0, .inr (.inr (.inl r0))), (1, .inl (x1 + (1 : Int32)))]) (w := (1 : Int32)) 1 dX4_init_63 (by decide) rfl (Nat.le_of_ble_eq_true rfl) rfl ?_
    refine am_goto cx (tgt := 39) dX4_init_66 (by decide) ?_
    refine am_widen cx (k' := (4 + (16 - i) * 3)) (n' := (57 + (16 - i) * 54)) (by omega) (by omega) ?_
    exact hk39 _ _ _ hres
set_option maxRecDepth 20000 in
theorem sn4_init_b39 {l : Launch} {G : am_G} {M' : am_Mem} {N : Nat}  (cx : am_Ctx l rm4_init yX4_init cX4_init 2 none none M' 52 921 G)  (i : Nat) : i ≤ 16 → ∀ (r0 : Nat) (x1 : Int32) (M : am_Mem), fn4_init_b39 N  i r0 x1 M = some ((), M') → G 39 [(0, .inr (.inr (.inl r0))), (1, .inl x1)] [] M (4 + (16 - i) * 3) (57 + (16 - i) * 54) := by
  induction i with
  | zero => intro hi r0 x1 M hres; exact am_no hres
  | succ i ih => intro hi r0 x1 M hres; exact sn4_init_b39B cx (ih (by omega)) hi hres
set_option maxRecDepth 20000 in
theorem sn4_init_b37 {l : Launch} {G : am_G} {M' : am_Mem} {N : Nat}  (cx : am_Ctx l rm4_init yX4_init cX4_init 2 none none M' 52 921 G)  {r0 : Nat} {M : am_Mem} (hres : fn4_init_b37 N  r0 M = some ((), M')) : G 37 [(0, .inr (.inr (.inl r0)))] [] M 4 57 := by
  unfold fn4_init_b37 at hres
  refine am_iconst cx (v := (0 : Int32)) dX4_init_37 (by decide) ?_
  refine am_istore_n cx (lv' := [(0, .inr (.inr (.inl r0))), (1, .inl (0 : Int32))]) dX4_init_38 (Nat.le_of_ble_eq_true rfl) rfl ?_
  refine am_widen cx (k' := (4 + (16 - 16) * 3)) (n' := (57 + (16 - 16) * 54)) (by omega) (by omega) ?_
  exact sn4_init_b39 cx  16 (Nat.le_refl _) _ _ _ hres
set_option maxRecDepth 20000 in
theorem sn4_init_b29 {l : Launch} {G : am_G} {M' : am_Mem} {N : Nat}  (cx : am_Ctx l rm4_init yX4_init cX4_init 2 none none M' 52 921 G)  {r0 : Nat} {M : am_Mem} (hres : fn4_init_b29 N  r0 M = some ((), M')) : G 29 [(0, .inr (.inr (.inl r0)))] [] M 3 43 := by
  unfold fn4_init_b29 at hres
  refine am_aload_n cx 0 dX4_init_29 rfl ?_
  refine am_bipush cx (v := (14 : Int32)) dX4_init_30 (by decide) ?_
  refine am_newZ cx 14 dX4_init_32 aw_1_89 (by decide) (Nat.le_of_ble_eq_true rfl) (Nat.le_of_ble_eq_true rfl) (Nat.le_of_ble_eq_true rfl) ?_
  obtain ⟨q1, hres⟩ := am_ck_some hres
  refine am_putR cx dX4_init_34 fpX4_24 (fun _ => rfl) (Or.inr ⟨_, rfl⟩) (am_ke q1) ?_
  exact sn4_init_b37 cx  hres
set_option maxRecDepth 20000 in
theorem sn4_init_b21 {l : Launch} {G : am_G} {M' : am_Mem} {N : Nat}  (cx : am_Ctx l rm4_init yX4_init cX4_init 2 none none M' 52 921 G)  {r0 : Nat} {M : am_Mem} (hres : fn4_init_b21 N  r0 M = some ((), M')) : G 21 [(0, .inr (.inr (.inl r0)))] [] M 2 29 := by
  unfold fn4_init_b21 at hres
  refine am_aload_n cx 0 dX4_init_21 rfl ?_
  refine am_bipush cx (v := (14 : Int32)) dX4_init_22 (by decide) ?_
  refine am_newI cx 14 dX4_init_24 aw_1_90 (by decide) (Nat.le_of_ble_eq_true rfl) (Nat.le_of_ble_eq_true rfl) (Nat.le_of_ble_eq_true rfl) ?_
  obtain ⟨q1, hres⟩ := am_ck_some hres
  refine am_putR cx dX4_init_26 fpX4_21 (fun _ => rfl) (Or.inr ⟨_, rfl⟩) (am_ke q1) ?_
  exact sn4_init_b29 cx  hres
set_option maxRecDepth 20000 in
theorem sn4_init_b13 {l : Launch} {G : am_G} {M' : am_Mem} {N : Nat}  (cx : am_Ctx l rm4_init yX4_init cX4_init 2 none none M' 52 921 G)  {r0 : Nat} {M : am_Mem} (hres : fn4_init_b13 N  r0 M = some ((), M')) : G 13 [(0, .inr (.inr (.inl r0)))] [] M 1 15 := by
  unfold fn4_init_b13 at hres
  refine am_aload_n cx 0 dX4_init_13 rfl ?_
  refine am_bipush cx (v := (14 : Int32)) dX4_init_14 (by decide) ?_
  refine am_newI cx 14 dX4_init_16 aw_1_90 (by decide) (Nat.le_of_ble_eq_true rfl) (Nat.le_of_ble_eq_true rfl) (Nat.le_of_ble_eq_true rfl) ?_
  obtain ⟨q1, hres⟩ := am_ck_some hres
  refine am_putR cx dX4_init_18 fpX4_17 (fun _ => rfl) (Or.inr ⟨_, rfl⟩) (am_ke q1) ?_
  exact sn4_init_b21 cx  hres
set_option maxRecDepth 20000 in
theorem sn4_init_b0 {l : Launch} {G : am_G} {M' : am_Mem} {N : Nat}  (cx : am_Ctx l rm4_init yX4_init cX4_init 2 none none M' 52 921 G)  {r0 : Nat} {M : am_Mem} (hres : fn4_init_b0 N  r0 M = some ((), M')) : G 0 [(0, .inr (.inr (.inl r0)))] [] M 0 0 := by
  unfold fn4_init_b0 at hres
  refine am_aload_n cx 0 dX4_init_0 rfl ?_
  obtain ⟨q1, hres⟩ := am_ck_some hres
  refine am_objInit cx dX4_init_1 aw_1_152 aw_1_31 aw_1_32 (by rw [show am_K _ _ = 4 from (am_ke q1)]; decide) (Nat.le_of_ble_eq_true rfl) (Nat.le_of_ble_eq_true rfl) ?_
  refine am_aload_n cx 0 dX4_init_4 rfl ?_
  refine am_bipush cx (v := (15 : Int32)) dX4_init_5 (by decide) ?_
  refine am_anew17 cx 15 dX4_init_7 aw_1_153 an_1_154 (by decide) (Nat.le_of_ble_eq_true rfl) (Nat.le_of_ble_eq_true rfl) (Nat.le_of_ble_eq_true rfl) ?_
  obtain ⟨q2, hres⟩ := am_ck_some hres
  refine am_putR cx dX4_init_10 fpX4_11 (fun _ => rfl) (Or.inr ⟨_, rfl⟩) (am_ke q2) ?_
  exact sn4_init_b13 cx  hres
set_option maxRecDepth 20000 in
theorem mt4_init {l : Launch} {M M' : am_Mem} {N : Nat} {r0 : Nat} (h : fn4_init N M r0 = some ((), M')) : am_Met l yX4_init cX4_init 2 none rm4_init 52 921 [.inr (.inr (.inl r0))] M none M' := am_mk (by decide) (Nat.le_of_ble_eq_true rfl) (fun G cx => (sn4_init_b0 cx h))
-- SquareCuts$NetLayer.nextFitting
def fn4_nextFitting_b84 (N : Nat) (k31 : Nat → Nat → Nat → Int32 → Int32 → Int32 → am_Mem → Option (Int32 × am_Mem)) (r0 : Nat) (r1 : Nat) (r2 : Nat) (x6 : Int32) (x7 : Int32) (x8 : Int32) (M : am_Mem) : Option (Int32 × am_Mem) :=
  k31 r0 r1 r2 x6 x7 (x8 + (1 : Int32)) M
def fn4_nextFitting_b31B (N : Nat) (k31 : Nat → Nat → Nat → Int32 → Int32 → Int32 → am_Mem → Option (Int32 × am_Mem)) (r0 : Nat) (r1 : Nat) (r2 : Nat) (x6 : Int32) (x7 : Int32) (x8 : Int32) (M : am_Mem) : Option (Int32 × am_Mem) :=
  am_ck (am_k M r1 3) (if (am_I M r1 1) ≤ x8 then some ((-1 : Int32), M) else am_ck (am_k M r0 4) (am_ck (am_k M (am_R M r0 3) 16) (am_ck (am_in x8 (am_L M (am_R M r0 3))) (if (am_I M (am_R M r0 3) x8.toNatClampNeg) = 0 then am_ck (am_k M (am_R M r0 1) 14) (am_ck (am_in x8 (am_L M (am_R M r0 1))) (if (am_I M (am_R M r0 1) x8.toNatClampNeg) ≤ 0 then fn4_nextFitting_b84 N k31 r0 r1 r2 x6 x7 x8 M else am_ck (am_in x8 (am_L M (am_R M r0 1))) (if x7 < (am_I M (am_R M r0 1) x8.toNatClampNeg) then fn4_nextFitting_b84 N k31 r0 r1 r2 x6 x7 x8 M else am_ck (am_k M r2 14) (am_ck (am_in x8 (am_L M r2)) (if (am_I M r2 x8.toNatClampNeg) = x6 then some (x8, M) else fn4_nextFitting_b84 N k31 r0 r1 r2 x6 x7 x8 M))))) else fn4_nextFitting_b84 N k31 r0 r1 r2 x6 x7 x8 M))))
def fn4_nextFitting_b31 (N : Nat)  : Nat → Nat → Nat → Nat → Int32 → Int32 → Int32 → am_Mem → Option (Int32 × am_Mem)
  | 0 => fun _ _ _ _ _ _ _ => none
  | i + 1 => fn4_nextFitting_b31B N (fn4_nextFitting_b31 N  i)
def fn4_nextFitting_b20 (N : Nat)  (r0 : Nat) (r1 : Nat) (r2 : Nat) (x4 : Int32) (r5 : Nat) (x6 : Int32) (M : am_Mem) : Option (Int32 × am_Mem) :=
  am_ck (am_k M r5 6) (am_bd (fn6_notchWidth M r5) (fun v2 M3 => fn4_nextFitting_b31 N  N r0 r1 r2 x6 v2 x4 M3))
def fn4_nextFitting_b8 (N : Nat)  (r0 : Nat) (r1 : Nat) (r2 : Nat) (x4 : Int32) (r5 : Nat) (M : am_Mem) : Option (Int32 × am_Mem) :=
  am_ck (am_k M r1 3) (am_ck (am_k M r5 6) (am_bd (fn6_notchDepth M r5) (fun v3 M4 => fn4_nextFitting_b20 N  r0 r1 r2 x4 r5 ((am_I M r1 6) - v3) M4)))
def fn4_nextFitting_b0 (N : Nat)  (r0 : Nat) (r1 : Nat) (r2 : Nat) (x3 : Int32) (x4 : Int32) (M : am_Mem) : Option (Int32 × am_Mem) :=
  am_ck (am_k M r0 4) (am_ck (am_k M (am_R M r0 0) 17) (am_ck (am_in x3 (am_L M (am_R M r0 0))) (fn4_nextFitting_b8 N  r0 r1 r2 x4 (am_R M (am_R M r0 0) x3.toNatClampNeg) M)))
def fn4_nextFitting (N : Nat) (M : am_Mem) (r0 : Nat) (r1 : Nat) (r2 : Nat) (x3 : Int32) (x4 : Int32) : Option (Int32 × am_Mem) := fn4_nextFitting_b0 N r0 r1 r2 x3 x4 M
def rm4_nextFitting : Room := { frames := 2, cells := 0, slots := 0, locals := 40 }
set_option maxRecDepth 20000 in
theorem sn4_nextFitting_b84 {l : Launch} {G : am_G} {v : Int32} {M' : am_Mem} {N : Nat} {k31 : Nat → Nat → Nat → Int32 → Int32 → Int32 → am_Mem → Option (Int32 × am_Mem)} (cx : am_Ctx l rm4_nextFitting yX4_nextFitting cX4_nextFitting 9 (some .int) (some (.inl v)) M' 0 0 G) (hk31 : ∀ (r0 : Nat) (r1 : Nat) (r2 : Nat) (x6 : Int32) (x7 : Int32) (x8 : Int32) (M : am_Mem), k31 r0 r1 r2 x6 x7 x8 M = some (v, M') → G 31 [(0, .inr (.inr (.inl r0))), (1, .inr (.inr (.inl r1))), (2, .inr (.inr (.inl r2))), (6, .inl x6), (7, .inl x7), (8, .inl x8)] [] M 0 0) {r0 : Nat} {r1 : Nat} {r2 : Nat} {x6 : Int32} {x7 : Int32} {x8 : Int32} {M : am_Mem} (hres : fn4_nextFitting_b84 N k31 r0 r1 r2 x6 x7 x8 M = some (v, M')) : G 84 [(0, .inr (.inr (.inl r0))), (1, .inr (.inr (.inl r1))), (2, .inr (.inr (.inl r2))), (6, .inl x6), (7, .inl x7), (8, .inl x8)] [] M 0 0 := by
  unfold fn4_nextFitting_b84 at hres
  refine am_iincw cx (lv' := [(0, .inr (.inr (.inl r0))), (1, .inr (.inr (.inl r1))), (2, .inr (.inr (.inl r2))), (6, .inl x6), (7, .inl x7), (8, .inl (x8 + (1 : Int32)))]) (w := (1 : Int32)) 5 dX4_nextFitting_84 (by decide) rfl (Nat.le_of_ble_eq_true rfl) rfl ?_
  refine am_goto cx (tgt := 31) dX4_nextFitting_87 (by decide) ?_
  exact hk31 _ _ _ _ _ _ _ hres
set_option maxRecDepth 20000 in
theorem sn4_nextFitting_b31B {l : Launch} {G : am_G} {v : Int32} {M' : am_Mem} {N : Nat} {k31 : Nat → Nat → Nat → Int32 → Int32 → Int32 → am_Mem → Option (Int32 × am_Mem)} (cx : am_Ctx l rm4_nextFitting yX4_nextFitting cX4_nextFitting 9 (some .int) (some (.inl v)) M' 0 0 G) (hk31 : ∀ (r0 : Nat) (r1 : Nat) (r2 : Nat) (x6 : Int32) (x7 : Int32) (x8 : Int32) (M : am_Mem), k31 r0 r1 r2 x6 x7 x8 M = some (v, M') → G 31 [(0, .inr (.inr (.inl r0))), (1, .inr (.inr (.inl r1))), (2, .inr (.inr (.inl r2))), (6, .inl x6), (7, .inl x7), (8, .inl x8)] [] M 0 0) {r0 : Nat} {r1 : Nat} {r2 : Nat} {x6 : Int32} {x7 : Int32} {x8 : Int32} {M : am_Mem} (hres : fn4_nextFitting_b31B N k31 r0 r1 r2 x6 x7 x8 M = some (v, M')) : G 31 [(0, .inr (.inr (.inl r0))), (1, .inr (.inr (.inl r1))), (2, .inr (.inr (.inl r2))), (6, .inl x6), (7, .inl x7), (8, .inl x8)] [] M 0 0 := by
  unfold fn4_nextFitting_b31B at hres
  refine am_iload cx 5 dX4_nextFitting_31 rfl ?_
  refine am_aload_n cx 1 dX4_nextFitting_33 rfl ?_
  obtain ⟨q1, hres⟩ := am_ck_some hres
  refine am_getI cx dX4_nextFitting_34 flX4_63 (am_ke q1) ?_
  refine am_icmp_ge cx (tgt := 90) dX4_nextFitting_37 (by decide) (fun h => ?_) (fun h => ?_)
  · have hres := am_ifp h hres
    refine am_iconst cx (v := (-1 : Int32)) dX4_nextFitting_90 (by decide) ?_
    obtain ⟨rfl, rfl⟩ := am_fin hres
    exact am_iret cx dX4_nextFitting_91
  · have hres := am_ifn h hres
    refine am_aload_n cx 0 dX4_nextFitting_40 rfl ?_
    obtain ⟨q2, hres⟩ := am_ck_some hres
    refine am_getR cx dX4_nextFitting_41 flX4_24 (am_ke q2) ?_
    refine am_iload cx 5 dX4_nextFitting_44 rfl ?_
    obtain ⟨q3, hres⟩ := am_ck_some hres
    obtain ⟨q4, hres⟩ := am_ck_some hres
    refine am_zald cx dX4_nextFitting_46 (am_ke q3) q4 ?_
    refine am_if_ne cx (tgt := 84) dX4_nextFitting_47 (by decide) (fun h => ?_) (fun h => ?_)
    · have hres := am_ifn h hres
      exact sn4_nextFitting_b84 cx hk31 hres
    · have hres := am_ifp h hres
      refine am_aload_n cx 0 dX4_nextFitting_50 rfl ?_
      refine am_getR cx dX4_nextFitting_51 flX4_17 (am_ke q2) ?_
      refine am_iload cx 5 dX4_nextFitting_54 rfl ?_
      obtain ⟨q5, hres⟩ := am_ck_some hres
      obtain ⟨q6, hres⟩ := am_ck_some hres
      refine am_iald cx dX4_nextFitting_56 (am_ke q5) q6 ?_
      refine am_if_le cx (tgt := 84) dX4_nextFitting_57 (by decide) (fun h => ?_) (fun h => ?_)
      · have hres := am_ifp h hres
        exact sn4_nextFitting_b84 cx hk31 hres
      · have hres := am_ifn h hres
        refine am_aload_n cx 0 dX4_nextFitting_60 rfl ?_
        refine am_getR cx dX4_nextFitting_61 flX4_17 (am_ke q2) ?_
        refine am_iload cx 5 dX4_nextFitting_64 rfl ?_
        obtain ⟨q7, hres⟩ := am_ck_some hres
        refine am_iald cx dX4_nextFitting_66 (am_ke q5) q7 ?_
        refine am_iload cx 4 dX4_nextFitting_67 rfl ?_
        refine am_icmp_gt cx (tgt := 84) dX4_nextFitting_69 (by decide) (fun h => ?_) (fun h => ?_)
        · have hres := am_ifp h hres
          exact sn4_nextFitting_b84 cx hk31 hres
        · have hres := am_ifn h hres
          refine am_aload_n cx 2 dX4_nextFitting_72 rfl ?_
          refine am_iload cx 5 dX4_nextFitting_73 rfl ?_
          obtain ⟨q8, hres⟩ := am_ck_some hres
          obtain ⟨q9, hres⟩ := am_ck_some hres
          refine am_iald cx dX4_nextFitting_75 (am_ke q8) q9 ?_
          refine am_iload cx 3 dX4_nextFitting_76 rfl ?_
          refine am_icmp_ne cx (tgt := 84) dX4_nextFitting_78 (by decide) (fun h => ?_) (fun h => ?_)
          · have hres := am_ifn h hres
            exact sn4_nextFitting_b84 cx hk31 hres
          · have hres := am_ifp h hres
            refine am_iload cx 5 dX4_nextFitting_81 rfl ?_
            obtain ⟨rfl, rfl⟩ := am_fin hres
            exact am_iret cx dX4_nextFitting_83
set_option maxRecDepth 20000 in
theorem sn4_nextFitting_b31 {l : Launch} {G : am_G} {v : Int32} {M' : am_Mem} {N : Nat}  (cx : am_Ctx l rm4_nextFitting yX4_nextFitting cX4_nextFitting 9 (some .int) (some (.inl v)) M' 0 0 G)  (i : Nat) : ∀ (r0 : Nat) (r1 : Nat) (r2 : Nat) (x6 : Int32) (x7 : Int32) (x8 : Int32) (M : am_Mem), fn4_nextFitting_b31 N  i r0 r1 r2 x6 x7 x8 M = some (v, M') → G 31 [(0, .inr (.inr (.inl r0))), (1, .inr (.inr (.inl r1))), (2, .inr (.inr (.inl r2))), (6, .inl x6), (7, .inl x7), (8, .inl x8)] [] M 0 0 := by
  induction i with
  | zero => intro r0 r1 r2 x6 x7 x8 M hres; exact am_no hres
  | succ i ih => intro r0 r1 r2 x6 x7 x8 M hres; exact sn4_nextFitting_b31B cx ih hres
set_option maxRecDepth 20000 in
theorem sn4_nextFitting_b20 {l : Launch} {G : am_G} {v : Int32} {M' : am_Mem} {N : Nat}  (cx : am_Ctx l rm4_nextFitting yX4_nextFitting cX4_nextFitting 9 (some .int) (some (.inl v)) M' 0 0 G)  {r0 : Nat} {r1 : Nat} {r2 : Nat} {x4 : Int32} {r5 : Nat} {x6 : Int32} {M : am_Mem} (hres : fn4_nextFitting_b20 N  r0 r1 r2 x4 r5 x6 M = some (v, M')) : G 20 [(0, .inr (.inr (.inl r0))), (1, .inr (.inr (.inl r1))), (2, .inr (.inr (.inl r2))), (4, .inl x4), (5, .inr (.inr (.inl r5))), (6, .inl x6)] [] M 0 0 := by
  unfold fn4_nextFitting_b20 at hres
  refine am_aload cx 4 dX4_nextFitting_20 rfl ?_
  obtain ⟨q1, hres⟩ := am_ck_some hres
  obtain ⟨v2, M3, q4, hres⟩ := am_bd_some hres
  refine am_callV1 cx [] dX4_nextFitting_22 cvX4_82 (mt6_notchWidth q4) (am_ke q1) ⟨rfl, rfl, Nat.le_of_ble_eq_true rfl, Nat.le_of_ble_eq_true rfl⟩ rfl (Nat.le_of_ble_eq_true rfl) ⟨Nat.le_of_ble_eq_true rfl, Nat.le_of_ble_eq_true rfl⟩ ?_
  refine am_istore cx (lv' := [(0, .inr (.inr (.inl r0))), (1, .inr (.inr (.inl r1))), (2, .inr (.inr (.inl r2))), (4, .inl x4), (5, .inr (.inr (.inl r5))), (6, .inl x6), (7, .inl v2)]) dX4_nextFitting_25 (Nat.le_of_ble_eq_true rfl) rfl ?_
  refine am_iload cx 3 dX4_nextFitting_27 rfl ?_
  refine am_istore cx (lv' := [(0, .inr (.inr (.inl r0))), (1, .inr (.inr (.inl r1))), (2, .inr (.inr (.inl r2))), (4, .inl x4), (5, .inr (.inr (.inl r5))), (6, .inl x6), (7, .inl v2), (8, .inl x4)]) dX4_nextFitting_29 (Nat.le_of_ble_eq_true rfl) rfl ?_
  refine am_sub cx [0, 1, 2, 5, 6, 7] rfl ?_
  exact sn4_nextFitting_b31 cx  N _ _ _ _ _ _ _ hres
set_option maxRecDepth 20000 in
theorem sn4_nextFitting_b8 {l : Launch} {G : am_G} {v : Int32} {M' : am_Mem} {N : Nat}  (cx : am_Ctx l rm4_nextFitting yX4_nextFitting cX4_nextFitting 9 (some .int) (some (.inl v)) M' 0 0 G)  {r0 : Nat} {r1 : Nat} {r2 : Nat} {x4 : Int32} {r5 : Nat} {M : am_Mem} (hres : fn4_nextFitting_b8 N  r0 r1 r2 x4 r5 M = some (v, M')) : G 8 [(0, .inr (.inr (.inl r0))), (1, .inr (.inr (.inl r1))), (2, .inr (.inr (.inl r2))), (4, .inl x4), (5, .inr (.inr (.inl r5)))] [] M 0 0 := by
  unfold fn4_nextFitting_b8 at hres
  refine am_aload_n cx 1 dX4_nextFitting_8 rfl ?_
  obtain ⟨q1, hres⟩ := am_ck_some hres
  refine am_getI cx dX4_nextFitting_9 flX4_75 (am_ke q1) ?_
  refine am_aload cx 4 dX4_nextFitting_12 rfl ?_
  obtain ⟨q2, hres⟩ := am_ck_some hres
  obtain ⟨v3, M4, q5, hres⟩ := am_bd_some hres
  refine am_callV1 cx [] dX4_nextFitting_14 cvX4_78 (mt6_notchDepth q5) (am_ke q2) ⟨rfl, rfl, Nat.le_of_ble_eq_true rfl, Nat.le_of_ble_eq_true rfl⟩ rfl (Nat.le_of_ble_eq_true rfl) ⟨Nat.le_of_ble_eq_true rfl, Nat.le_of_ble_eq_true rfl⟩ ?_
  refine am_isub cx dX4_nextFitting_17 ?_
  refine am_istore cx (lv' := [(0, .inr (.inr (.inl r0))), (1, .inr (.inr (.inl r1))), (2, .inr (.inr (.inl r2))), (4, .inl x4), (5, .inr (.inr (.inl r5))), (6, .inl ((am_I M r1 6) - v3))]) dX4_nextFitting_18 (Nat.le_of_ble_eq_true rfl) rfl ?_
  exact sn4_nextFitting_b20 cx  hres
set_option maxRecDepth 20000 in
theorem sn4_nextFitting_b0 {l : Launch} {G : am_G} {v : Int32} {M' : am_Mem} {N : Nat}  (cx : am_Ctx l rm4_nextFitting yX4_nextFitting cX4_nextFitting 9 (some .int) (some (.inl v)) M' 0 0 G)  {r0 : Nat} {r1 : Nat} {r2 : Nat} {x3 : Int32} {x4 : Int32} {M : am_Mem} (hres : fn4_nextFitting_b0 N  r0 r1 r2 x3 x4 M = some (v, M')) : G 0 [(0, .inr (.inr (.inl r0))), (1, .inr (.inr (.inl r1))), (2, .inr (.inr (.inl r2))), (3, .inl x3), (4, .inl x4)] [] M 0 0 := by
  unfold fn4_nextFitting_b0 at hres
  refine am_aload_n cx 0 dX4_nextFitting_0 rfl ?_
  obtain ⟨q1, hres⟩ := am_ck_some hres
  refine am_getR cx dX4_nextFitting_1 flX4_11 (am_ke q1) ?_
  refine am_iload_n cx 3 dX4_nextFitting_4 rfl ?_
  obtain ⟨q2, hres⟩ := am_ck_some hres
  obtain ⟨q3, hres⟩ := am_ck_some hres
  refine am_aald17 cx dX4_nextFitting_5 (am_ke q2) q3 ?_
  refine am_astore cx (lv' := [(0, .inr (.inr (.inl r0))), (1, .inr (.inr (.inl r1))), (2, .inr (.inr (.inl r2))), (3, .inl x3), (4, .inl x4), (5, .inr (.inr (.inl (am_R M (am_R M r0 0) x3.toNatClampNeg))))]) dX4_nextFitting_6 (Nat.le_of_ble_eq_true rfl) rfl ?_
  refine am_sub cx [0, 1, 2, 4, 5] rfl ?_
  exact sn4_nextFitting_b8 cx  hres
set_option maxRecDepth 20000 in
theorem mt4_nextFitting {l : Launch} {v : Int32} {M M' : am_Mem} {N : Nat} {r0 : Nat} {r1 : Nat} {r2 : Nat} {x3 : Int32} {x4 : Int32} (h : fn4_nextFitting N M r0 r1 r2 x3 x4 = some (v, M')) : am_Met l yX4_nextFitting cX4_nextFitting 9 (some .int) rm4_nextFitting 0 0 [.inr (.inr (.inl r0)), .inr (.inr (.inl r1)), .inr (.inr (.inl r2)), .inl x3, .inl x4] M (some (.inl v)) M' := am_mk (by decide) (Nat.le_of_ble_eq_true rfl) (fun G cx => (sn4_nextFitting_b0 cx h))
-- SquareCuts$NetLayer.fillDraft
def fn4_fillDraft_b14B (N : Nat) (k14 : Nat → Nat → Int32 → am_Mem → Option (Unit × am_Mem)) (r0 : Nat) (r2 : Nat) (x3 : Int32) (M : am_Mem) : Option (Unit × am_Mem) :=
  am_ck (am_k M r0 4) (if (am_I M r0 4) ≤ x3 then some ((), M) else am_ck (am_k M (am_R M r0 0) 17) (am_ck (am_in x3 (am_L M (am_R M r0 0))) (am_ck (am_k M (am_R M (am_R M r0 0) x3.toNatClampNeg) 6) (am_bd (fn6_notchLeft M (am_R M (am_R M r0 0) x3.toNatClampNeg)) (fun v5 M6 => am_ck (am_k M6 r0 4) (am_ck (am_k M6 (am_R M6 r0 0) 17) (am_ck (am_in x3 (am_L M6 (am_R M6 r0 0))) (am_ck (am_k M6 (am_R M6 (am_R M6 r0 0) x3.toNatClampNeg) 6) (am_bd (fn6_notchDepth M6 (am_R M6 (am_R M6 r0 0) x3.toNatClampNeg)) (fun v12 M13 => am_ck (am_k M13 r0 4) (am_ck (am_k M13 (am_R M13 r0 2) 14) (am_ck (am_in x3 (am_L M13 (am_R M13 r0 2))) (am_ck (am_k M13 (am_R M13 r0 1) 14) (am_ck (am_in (am_I M13 (am_R M13 r0 2) x3.toNatClampNeg) (am_L M13 (am_R M13 r0 1))) (am_ck (am_k M13 r2 0) (am_bd (fn0_add M13 r2 v5 v12 (am_I M13 (am_R M13 r0 1) (am_I M13 (am_R M13 r0 2) x3.toNatClampNeg).toNatClampNeg)) (fun v21 M22 => k14 r0 r2 (x3 + (1 : Int32)) M22)))))))))))))))))
def fn4_fillDraft_b14 (N : Nat)  : Nat → Nat → Nat → Int32 → am_Mem → Option (Unit × am_Mem)
  | 0 => fun _ _ _ _ => none
  | i + 1 => fn4_fillDraft_b14B N (fn4_fillDraft_b14 N  i)
def fn4_fillDraft_b0 (N : Nat)  (r0 : Nat) (r1 : Nat) (r2 : Nat) (M : am_Mem) : Option (Unit × am_Mem) :=
  am_ck (am_k M r1 3) (am_ck (am_k M r2 0) (am_bd (fn0_begin M r2 (am_I M r1 5) (am_I M r1 6)) (fun v3 M4 => fn4_fillDraft_b14 N  N r0 r2 (0 : Int32) M4)))
def fn4_fillDraft (N : Nat) (M : am_Mem) (r0 : Nat) (r1 : Nat) (r2 : Nat) : Option (Unit × am_Mem) := fn4_fillDraft_b0 N r0 r1 r2 M
def rm4_fillDraft : Room := { frames := 1, cells := 0, slots := 0, locals := 23 }
set_option maxRecDepth 20000 in
theorem sn4_fillDraft_b14B {l : Launch} {G : am_G} {M' : am_Mem} {N : Nat} {k14 : Nat → Nat → Int32 → am_Mem → Option (Unit × am_Mem)} (cx : am_Ctx l rm4_fillDraft yX4_fillDraft cX4_fillDraft 4 none none M' 0 0 G) (hk14 : ∀ (r0 : Nat) (r2 : Nat) (x3 : Int32) (M : am_Mem), k14 r0 r2 x3 M = some ((), M') → G 14 [(0, .inr (.inr (.inl r0))), (2, .inr (.inr (.inl r2))), (3, .inl x3)] [] M 0 0) {r0 : Nat} {r2 : Nat} {x3 : Int32} {M : am_Mem} (hres : fn4_fillDraft_b14B N k14 r0 r2 x3 M = some ((), M')) : G 14 [(0, .inr (.inr (.inl r0))), (2, .inr (.inr (.inl r2))), (3, .inl x3)] [] M 0 0 := by
  unfold fn4_fillDraft_b14B at hres
  refine am_iload_n cx 2 dX4_fillDraft_14 rfl ?_
  refine am_aload_n cx 0 dX4_fillDraft_15 rfl ?_
  obtain ⟨q1, hres⟩ := am_ck_some hres
  refine am_getI cx dX4_fillDraft_16 flX4_45 (am_ke q1) ?_
  refine am_icmp_ge cx (tgt := 61) dX4_fillDraft_19 (by decide) (fun h => ?_) (fun h => ?_)
  · have hres := am_ifp h hres
    obtain ⟨-, rfl⟩ := am_fin hres
    exact am_vret cx dX4_fillDraft_61
  · have hres := am_ifn h hres
    refine am_aload_n cx 1 dX4_fillDraft_22 rfl ?_
    refine am_aload_n cx 0 dX4_fillDraft_23 rfl ?_
    refine am_getR cx dX4_fillDraft_24 flX4_11 (am_ke q1) ?_
    refine am_iload_n cx 2 dX4_fillDraft_27 rfl ?_
    obtain ⟨q2, hres⟩ := am_ck_some hres
    obtain ⟨q3, hres⟩ := am_ck_some hres
    refine am_aald17 cx dX4_fillDraft_28 (am_ke q2) q3 ?_
    obtain ⟨q4, hres⟩ := am_ck_some hres
    obtain ⟨v5, M6, q7, hres⟩ := am_bd_some hres
    refine am_callV1 cx [] dX4_fillDraft_29 cvX4_97 (mt6_notchLeft q7) (am_ke q4) ⟨rfl, rfl, Nat.le_of_ble_eq_true rfl, Nat.le_of_ble_eq_true rfl⟩ rfl (Nat.le_of_ble_eq_true rfl) ⟨Nat.le_of_ble_eq_true rfl, Nat.le_of_ble_eq_true rfl⟩ ?_
    refine am_aload_n cx 0 dX4_fillDraft_32 rfl ?_
    obtain ⟨q8, hres⟩ := am_ck_some hres
    refine am_getR cx dX4_fillDraft_33 flX4_11 (am_ke q8) ?_
    refine am_iload_n cx 2 dX4_fillDraft_36 rfl ?_
    obtain ⟨q9, hres⟩ := am_ck_some hres
    obtain ⟨q10, hres⟩ := am_ck_some hres
    refine am_aald17 cx dX4_fillDraft_37 (am_ke q9) q10 ?_
    obtain ⟨q11, hres⟩ := am_ck_some hres
    obtain ⟨v12, M13, q14, hres⟩ := am_bd_some hres
    refine am_callV1 cx [] dX4_fillDraft_38 cvX4_78 (mt6_notchDepth q14) (am_ke q11) ⟨rfl, rfl, Nat.le_of_ble_eq_true rfl, Nat.le_of_ble_eq_true rfl⟩ rfl (Nat.le_of_ble_eq_true rfl) ⟨Nat.le_of_ble_eq_true rfl, Nat.le_of_ble_eq_true rfl⟩ ?_
    refine am_aload_n cx 0 dX4_fillDraft_41 rfl ?_
    obtain ⟨q15, hres⟩ := am_ck_some hres
    refine am_getR cx dX4_fillDraft_42 flX4_17 (am_ke q15) ?_
    refine am_aload_n cx 0 dX4_fillDraft_45 rfl ?_
    refine am_getR cx dX4_fillDraft_46 flX4_21 (am_ke q15) ?_
    refine am_iload_n cx 2 dX4_fillDraft_49 rfl ?_
    obtain ⟨q16, hres⟩ := am_ck_some hres
    obtain ⟨q17, hres⟩ := am_ck_some hres
    refine am_iald cx dX4_fillDraft_50 (am_ke q16) q17 ?_
    obtain ⟨q18, hres⟩ := am_ck_some hres
    obtain ⟨q19, hres⟩ := am_ck_some hres
    refine am_iald cx dX4_fillDraft_51 (am_ke q18) q19 ?_
    obtain ⟨q20, hres⟩ := am_ck_some hres
    obtain ⟨v21, M22, q23, hres⟩ := am_bd_some hres
    refine am_callV0 cx [.inl v5, .inl v12, .inl (am_I M13 (am_R M13 r0 1) (am_I M13 (am_R M13 r0 2) x3.toNatClampNeg).toNatClampNeg)] dX4_fillDraft_52 cvX4_100 (mt0_add q23) (am_ke q20) ⟨rfl, rfl, Nat.le_of_ble_eq_true rfl, Nat.le_of_ble_eq_true rfl⟩ rfl (Nat.le_of_ble_eq_true rfl) ⟨Nat.le_of_ble_eq_true rfl, Nat.le_of_ble_eq_true rfl⟩ ?_
    refine am_iincw cx (lv' := [(0, .inr (.inr (.inl r0))), (2, .inr (.inr (.inl r2))), (3, .inl (x3 + (1 : Int32)))]) (w := (1 : Int32)) 2 dX4_fillDraft_55 (by decide) rfl (Nat.le_of_ble_eq_true rfl) rfl ?_
    refine am_goto cx (tgt := 14) dX4_fillDraft_58 (by decide) ?_
    exact hk14 _ _ _ _ hres
set_option maxRecDepth 20000 in
theorem sn4_fillDraft_b14 {l : Launch} {G : am_G} {M' : am_Mem} {N : Nat}  (cx : am_Ctx l rm4_fillDraft yX4_fillDraft cX4_fillDraft 4 none none M' 0 0 G)  (i : Nat) : ∀ (r0 : Nat) (r2 : Nat) (x3 : Int32) (M : am_Mem), fn4_fillDraft_b14 N  i r0 r2 x3 M = some ((), M') → G 14 [(0, .inr (.inr (.inl r0))), (2, .inr (.inr (.inl r2))), (3, .inl x3)] [] M 0 0 := by
  induction i with
  | zero => intro r0 r2 x3 M hres; exact am_no hres
  | succ i ih => intro r0 r2 x3 M hres; exact sn4_fillDraft_b14B cx ih hres
set_option maxRecDepth 20000 in
theorem sn4_fillDraft_b0 {l : Launch} {G : am_G} {M' : am_Mem} {N : Nat}  (cx : am_Ctx l rm4_fillDraft yX4_fillDraft cX4_fillDraft 4 none none M' 0 0 G)  {r0 : Nat} {r1 : Nat} {r2 : Nat} {M : am_Mem} (hres : fn4_fillDraft_b0 N  r0 r1 r2 M = some ((), M')) : G 0 [(0, .inr (.inr (.inl r0))), (1, .inr (.inr (.inl r1))), (2, .inr (.inr (.inl r2)))] [] M 0 0 := by
  unfold fn4_fillDraft_b0 at hres
  refine am_aload_n cx 2 dX4_fillDraft_0 rfl ?_
  refine am_aload_n cx 1 dX4_fillDraft_1 rfl ?_
  obtain ⟨q1, hres⟩ := am_ck_some hres
  refine am_getI cx dX4_fillDraft_2 flX4_35 (am_ke q1) ?_
  refine am_aload_n cx 1 dX4_fillDraft_5 rfl ?_
  refine am_getI cx dX4_fillDraft_6 flX4_75 (am_ke q1) ?_
  obtain ⟨q2, hres⟩ := am_ck_some hres
  obtain ⟨v3, M4, q5, hres⟩ := am_bd_some hres
  refine am_callV0 cx [.inl (am_I M r1 5), .inl (am_I M r1 6)] dX4_fillDraft_9 cvX4_92 (mt0_begin q5) (am_ke q2) ⟨rfl, rfl, Nat.le_of_ble_eq_true rfl, Nat.le_of_ble_eq_true rfl⟩ rfl (Nat.le_of_ble_eq_true rfl) ⟨Nat.le_of_ble_eq_true rfl, Nat.le_of_ble_eq_true rfl⟩ ?_
  refine am_iconst cx (v := (0 : Int32)) dX4_fillDraft_12 (by decide) ?_
  refine am_istore_n cx (lv' := [(0, .inr (.inr (.inl r0))), (1, .inr (.inr (.inl r1))), (2, .inr (.inr (.inl r2))), (3, .inl (0 : Int32))]) dX4_fillDraft_13 (Nat.le_of_ble_eq_true rfl) rfl ?_
  refine am_sub cx [0, 2, 3] rfl ?_
  exact sn4_fillDraft_b14 cx  N _ _ _ _ hres
set_option maxRecDepth 20000 in
theorem mt4_fillDraft {l : Launch} {M M' : am_Mem} {N : Nat} {r0 : Nat} {r1 : Nat} {r2 : Nat} (h : fn4_fillDraft N M r0 r1 r2 = some ((), M')) : am_Met l yX4_fillDraft cX4_fillDraft 4 none rm4_fillDraft 0 0 [.inr (.inr (.inl r0)), .inr (.inr (.inl r1)), .inr (.inr (.inl r2))] M none M' := am_mk (by decide) (Nat.le_of_ble_eq_true rfl) (fun G cx => (sn4_fillDraft_b0 cx h))
-- SquareCuts$NetSolver.fillMatrix
def fn5_fillMatrix_b139 (N : Nat) (k115 : Nat → Int32 → Int32 → am_Mem → Option (Unit × am_Mem)) (c0 : Nat) (a1 : Int32) (b2 : Int64) (r0 : Nat) (x3 : Int32) (x4 : Int32) (M : am_Mem) : Option (Unit × am_Mem) :=
  am_ck (am_k M c0 15) (am_ck (am_in a1 (am_L M c0)) (k115 r0 x3 (x4 + (1 : Int32)) (am_wJ M c0 a1.toNatClampNeg b2)))
def fn5_fillMatrix_b115B (N : Nat) (k115 : Nat → Int32 → Int32 → am_Mem → Option (Unit × am_Mem)) (r0 : Nat) (x3 : Int32) (x4 : Int32) (M : am_Mem) : Option (Unit × am_Mem) :=
  if x3 ≤ x4 then some ((), M) else am_ck (am_k M r0 5) (am_ck (am_k M (am_R M r0 0) 20) (am_ck (am_in x4 (am_L M (am_R M r0 0))) (if x4 = 0 then fn5_fillMatrix_b139 N k115 (am_R M (am_R M r0 0) x4.toNatClampNeg) x3 (1 : Int64) r0 x3 x4 M else fn5_fillMatrix_b139 N k115 (am_R M (am_R M r0 0) x4.toNatClampNeg) x3 (0 : Int64) r0 x3 x4 M)))
def fn5_fillMatrix_b115 (N : Nat)  : Nat → Nat → Int32 → Int32 → am_Mem → Option (Unit × am_Mem)
  | 0 => fun _ _ _ _ => none
  | i + 1 => fn5_fillMatrix_b115B N (fn5_fillMatrix_b115 N  i)
def fn5_fillMatrix_b112 (N : Nat)  (r0 : Nat) (x3 : Int32) (M : am_Mem) : Option (Unit × am_Mem) :=
  fn5_fillMatrix_b115 N  N r0 x3 (0 : Int32) M
def fn5_fillMatrix_b46 (N : Nat) (k25 : Nat → Int32 → Int32 → Int32 → am_Mem → Option (Unit × am_Mem)) (r0 : Nat) (x1 : Int32) (x2 : Int32) (x3 : Int32) (x4 : Int32) (x5 : Int32) (M : am_Mem) : Option (Unit × am_Mem) :=
  am_ck (am_k M r0 5) (am_ck (am_k M (am_R M r0 0) 20) (am_ck (am_in x4 (am_L M (am_R M r0 0))) (am_ck (am_k M (am_R M (am_R M r0 0) x4.toNatClampNeg) 15) (am_ck (am_in x4 (am_L M (am_R M (am_R M r0 0) x4.toNatClampNeg))) (am_ck (am_in x4 (am_L M (am_R M (am_R M r0 0) x4.toNatClampNeg))) (am_ck (am_in x5 (am_L M (am_R M r0 0))) (am_ck (am_k M (am_R M (am_R M r0 0) x5.toNatClampNeg) 15) (am_ck (am_in x5 (am_L M (am_R M (am_R M r0 0) x5.toNatClampNeg))) (am_ck (am_in x5 (am_L M (am_R M (am_R M r0 0) x5.toNatClampNeg))) (am_ck (am_in x4 (am_L M (am_R M r0 0))) (am_ck (am_in x5 (am_L M (am_R M (am_R M r0 0) x4.toNatClampNeg))) (am_ck (am_in x5 (am_L M (am_R M (am_R M r0 0) x4.toNatClampNeg))) (am_ck (am_in x5 (am_L M (am_R M r0 0))) (am_ck (am_in x4 (am_L M (am_R M (am_R M r0 0) x5.toNatClampNeg))) (am_ck (am_in x4 (am_L M (am_R M (am_R M r0 0) x5.toNatClampNeg))) (k25 r0 x1 x2 (x3 + (1 : Int32)) (am_wJ (am_wJ (am_wJ (am_wJ M (am_R M (am_R M r0 0) x4.toNatClampNeg) x4.toNatClampNeg ((am_J M (am_R M (am_R M r0 0) x4.toNatClampNeg) x4.toNatClampNeg) + (1 : Int64))) (am_R M (am_R M r0 0) x5.toNatClampNeg) x5.toNatClampNeg ((am_J (am_wJ M (am_R M (am_R M r0 0) x4.toNatClampNeg) x4.toNatClampNeg ((am_J M (am_R M (am_R M r0 0) x4.toNatClampNeg) x4.toNatClampNeg) + (1 : Int64))) (am_R M (am_R M r0 0) x5.toNatClampNeg) x5.toNatClampNeg) + (1 : Int64))) (am_R M (am_R M r0 0) x4.toNatClampNeg) x5.toNatClampNeg ((am_J (am_wJ (am_wJ M (am_R M (am_R M r0 0) x4.toNatClampNeg) x4.toNatClampNeg ((am_J M (am_R M (am_R M r0 0) x4.toNatClampNeg) x4.toNatClampNeg) + (1 : Int64))) (am_R M (am_R M r0 0) x5.toNatClampNeg) x5.toNatClampNeg ((am_J (am_wJ M (am_R M (am_R M r0 0) x4.toNatClampNeg) x4.toNatClampNeg ((am_J M (am_R M (am_R M r0 0) x4.toNatClampNeg) x4.toNatClampNeg) + (1 : Int64))) (am_R M (am_R M r0 0) x5.toNatClampNeg) x5.toNatClampNeg) + (1 : Int64))) (am_R M (am_R M r0 0) x4.toNatClampNeg) x5.toNatClampNeg) - (1 : Int64))) (am_R M (am_R M r0 0) x5.toNatClampNeg) x4.toNatClampNeg ((am_J (am_wJ (am_wJ (am_wJ M (am_R M (am_R M r0 0) x4.toNatClampNeg) x4.toNatClampNeg ((am_J M (am_R M (am_R M r0 0) x4.toNatClampNeg) x4.toNatClampNeg) + (1 : Int64))) (am_R M (am_R M r0 0) x5.toNatClampNeg) x5.toNatClampNeg ((am_J (am_wJ M (am_R M (am_R M r0 0) x4.toNatClampNeg) x4.toNatClampNeg ((am_J M (am_R M (am_R M r0 0) x4.toNatClampNeg) x4.toNatClampNeg) + (1 : Int64))) (am_R M (am_R M r0 0) x5.toNatClampNeg) x5.toNatClampNeg) + (1 : Int64))) (am_R M (am_R M r0 0) x4.toNatClampNeg) x5.toNatClampNeg ((am_J (am_wJ (am_wJ M (am_R M (am_R M r0 0) x4.toNatClampNeg) x4.toNatClampNeg ((am_J M (am_R M (am_R M r0 0) x4.toNatClampNeg) x4.toNatClampNeg) + (1 : Int64))) (am_R M (am_R M r0 0) x5.toNatClampNeg) x5.toNatClampNeg ((am_J (am_wJ M (am_R M (am_R M r0 0) x4.toNatClampNeg) x4.toNatClampNeg ((am_J M (am_R M (am_R M r0 0) x4.toNatClampNeg) x4.toNatClampNeg) + (1 : Int64))) (am_R M (am_R M r0 0) x5.toNatClampNeg) x5.toNatClampNeg) + (1 : Int64))) (am_R M (am_R M r0 0) x4.toNatClampNeg) x5.toNatClampNeg) - (1 : Int64))) (am_R M (am_R M r0 0) x5.toNatClampNeg) x4.toNatClampNeg) - (1 : Int64)))))))))))))))))))
def fn5_fillMatrix_b38 (N : Nat) (k25 : Nat → Int32 → Int32 → Int32 → am_Mem → Option (Unit × am_Mem)) (r0 : Nat) (x1 : Int32) (x2 : Int32) (x3 : Int32) (x4 : Int32) (M : am_Mem) : Option (Unit × am_Mem) :=
  am_ck (am_k M r0 5) (am_ck (am_k M (am_R M r0 2) 14) (am_ck (am_in x3 (am_L M (am_R M r0 2))) (fn5_fillMatrix_b46 N k25 r0 x1 x2 x3 x4 (am_I M (am_R M r0 2) x3.toNatClampNeg) M)))
def fn5_fillMatrix_b25B (N : Nat) (k25 : Nat → Int32 → Int32 → Int32 → am_Mem → Option (Unit × am_Mem)) (r0 : Nat) (x1 : Int32) (x2 : Int32) (x3 : Int32) (M : am_Mem) : Option (Unit × am_Mem) :=
  if x2 ≤ x3 then fn5_fillMatrix_b112 N  r0 (x1 - (1 : Int32)) M else am_ck (am_k M r0 5) (am_ck (am_k M (am_R M r0 1) 14) (am_ck (am_in x3 (am_L M (am_R M r0 1))) (fn5_fillMatrix_b38 N k25 r0 x1 x2 x3 (am_I M (am_R M r0 1) x3.toNatClampNeg) M)))
def fn5_fillMatrix_b25 (N : Nat)  : Nat → Nat → Int32 → Int32 → Int32 → am_Mem → Option (Unit × am_Mem)
  | 0 => fun _ _ _ _ _ => none
  | i + 1 => fn5_fillMatrix_b25B N (fn5_fillMatrix_b25 N  i)
def fn5_fillMatrix_b2B (N : Nat) (k2 : Nat → Int32 → Int32 → Int32 → am_Mem → Option (Unit × am_Mem)) (r0 : Nat) (x1 : Int32) (x2 : Int32) (x3 : Int32) (M : am_Mem) : Option (Unit × am_Mem) :=
  if x1 ≤ x3 then fn5_fillMatrix_b25 N  N r0 x1 x2 (0 : Int32) M else am_ck (am_k M r0 5) (am_ck (am_k M (am_R M r0 0) 20) (am_ck (am_in x3 (am_L M (am_R M r0 0))) (am_bd (fnJ7_fill_d0a16 N M (am_R M (am_R M r0 0) x3.toNatClampNeg) (0 : Int64)) (fun v4 M5 => k2 r0 x1 x2 (x3 + (1 : Int32)) M5))))
def fn5_fillMatrix_b2 (N : Nat)  : Nat → Nat → Int32 → Int32 → Int32 → am_Mem → Option (Unit × am_Mem)
  | 0 => fun _ _ _ _ _ => none
  | i + 1 => fn5_fillMatrix_b2B N (fn5_fillMatrix_b2 N  i)
def fn5_fillMatrix_b0 (N : Nat)  (r0 : Nat) (x1 : Int32) (x2 : Int32) (M : am_Mem) : Option (Unit × am_Mem) :=
  fn5_fillMatrix_b2 N  N r0 x1 x2 (0 : Int32) M
def fn5_fillMatrix (N : Nat) (M : am_Mem) (r0 : Nat) (x1 : Int32) (x2 : Int32) : Option (Unit × am_Mem) := fn5_fillMatrix_b0 N r0 x1 x2 M
def rm5_fillMatrix : Room := { frames := 1, cells := 0, slots := 0, locals := 24 }
set_option maxRecDepth 20000 in
theorem sn5_fillMatrix_b139 {l : Launch} {G : am_G} {M' : am_Mem} {N : Nat} {k115 : Nat → Int32 → Int32 → am_Mem → Option (Unit × am_Mem)} (cx : am_Ctx l rm5_fillMatrix yX5_fillMatrix cX5_fillMatrix 6 none none M' 0 0 G) (hk115 : ∀ (r0 : Nat) (x3 : Int32) (x4 : Int32) (M : am_Mem), k115 r0 x3 x4 M = some ((), M') → G 115 [(0, .inr (.inr (.inl r0))), (3, .inl x3), (4, .inl x4)] [] M 0 0) {c0 : Nat} {a1 : Int32} {b2 : Int64} {r0 : Nat} {x3 : Int32} {x4 : Int32} {M : am_Mem} (hres : fn5_fillMatrix_b139 N k115 c0 a1 b2 r0 x3 x4 M = some ((), M')) : G 139 [(0, .inr (.inr (.inl r0))), (3, .inl x3), (4, .inl x4)] [.inr (.inl b2), .inl a1, .inr (.inr (.inl c0))] M 0 0 := by
  unfold fn5_fillMatrix_b139 at hres
  obtain ⟨q1, hres⟩ := am_ck_some hres
  obtain ⟨q2, hres⟩ := am_ck_some hres
  refine am_last cx dX5_fillMatrix_139 (am_ke q1) q2  ?_
  refine am_iincw cx (lv' := [(0, .inr (.inr (.inl r0))), (3, .inl x3), (4, .inl (x4 + (1 : Int32)))]) (w := (1 : Int32)) 2 dX5_fillMatrix_140 (by decide) rfl (Nat.le_of_ble_eq_true rfl) rfl ?_
  refine am_goto cx (tgt := 115) dX5_fillMatrix_143 (by decide) ?_
  exact hk115 _ _ _ _ hres
set_option maxRecDepth 20000 in
theorem sn5_fillMatrix_b115B {l : Launch} {G : am_G} {M' : am_Mem} {N : Nat} {k115 : Nat → Int32 → Int32 → am_Mem → Option (Unit × am_Mem)} (cx : am_Ctx l rm5_fillMatrix yX5_fillMatrix cX5_fillMatrix 6 none none M' 0 0 G) (hk115 : ∀ (r0 : Nat) (x3 : Int32) (x4 : Int32) (M : am_Mem), k115 r0 x3 x4 M = some ((), M') → G 115 [(0, .inr (.inr (.inl r0))), (3, .inl x3), (4, .inl x4)] [] M 0 0) {r0 : Nat} {x3 : Int32} {x4 : Int32} {M : am_Mem} (hres : fn5_fillMatrix_b115B N k115 r0 x3 x4 M = some ((), M')) : G 115 [(0, .inr (.inr (.inl r0))), (3, .inl x3), (4, .inl x4)] [] M 0 0 := by
  unfold fn5_fillMatrix_b115B at hres
  refine am_iload cx 2 dX5_fillMatrix_115 rfl ?_
  refine am_iload_n cx 1 dX5_fillMatrix_117 rfl ?_
  refine am_icmp_ge cx (tgt := 146) dX5_fillMatrix_118 (by decide) (fun h => ?_) (fun h => ?_)
  · have hres := am_ifp h hres
    obtain ⟨-, rfl⟩ := am_fin hres
    exact am_vret cx dX5_fillMatrix_146
  · have hres := am_ifn h hres
    refine am_aload_n cx 0 dX5_fillMatrix_121 rfl ?_
    obtain ⟨q1, hres⟩ := am_ck_some hres
    refine am_getR cx dX5_fillMatrix_122 flX5_11 (am_ke q1) ?_
    refine am_iload cx 2 dX5_fillMatrix_125 rfl ?_
    obtain ⟨q2, hres⟩ := am_ck_some hres
    obtain ⟨q3, hres⟩ := am_ck_some hres
    refine am_aald20 cx dX5_fillMatrix_127 (am_ke q2) q3 ?_
    refine am_iload_n cx 1 dX5_fillMatrix_128 rfl ?_
    refine am_iload cx 2 dX5_fillMatrix_129 rfl ?_
    refine am_if_ne cx (tgt := 138) dX5_fillMatrix_131 (by decide) (fun h => ?_) (fun h => ?_)
    · have hres := am_ifn h hres
      refine am_lconst cx (v := (0 : Int64)) dX5_fillMatrix_138 (by decide) ?_
      exact sn5_fillMatrix_b139 cx hk115 hres
    · have hres := am_ifp h hres
      refine am_lconst cx (v := (1 : Int64)) dX5_fillMatrix_134 (by decide) ?_
      refine am_goto cx (tgt := 139) dX5_fillMatrix_135 (by decide) ?_
      exact sn5_fillMatrix_b139 cx hk115 hres
set_option maxRecDepth 20000 in
theorem sn5_fillMatrix_b115 {l : Launch} {G : am_G} {M' : am_Mem} {N : Nat}  (cx : am_Ctx l rm5_fillMatrix yX5_fillMatrix cX5_fillMatrix 6 none none M' 0 0 G)  (i : Nat) : ∀ (r0 : Nat) (x3 : Int32) (x4 : Int32) (M : am_Mem), fn5_fillMatrix_b115 N  i r0 x3 x4 M = some ((), M') → G 115 [(0, .inr (.inr (.inl r0))), (3, .inl x3), (4, .inl x4)] [] M 0 0 := by
  induction i with
  | zero => intro r0 x3 x4 M hres; exact am_no hres
  | succ i ih => intro r0 x3 x4 M hres; exact sn5_fillMatrix_b115B cx ih hres
set_option maxRecDepth 20000 in
theorem sn5_fillMatrix_b112 {l : Launch} {G : am_G} {M' : am_Mem} {N : Nat}  (cx : am_Ctx l rm5_fillMatrix yX5_fillMatrix cX5_fillMatrix 6 none none M' 0 0 G)  {r0 : Nat} {x3 : Int32} {M : am_Mem} (hres : fn5_fillMatrix_b112 N  r0 x3 M = some ((), M')) : G 112 [(0, .inr (.inr (.inl r0))), (3, .inl x3)] [] M 0 0 := by
  unfold fn5_fillMatrix_b112 at hres
  refine am_iconst cx (v := (0 : Int32)) dX5_fillMatrix_112 (by decide) ?_
  refine am_istore cx (lv' := [(0, .inr (.inr (.inl r0))), (3, .inl x3), (4, .inl (0 : Int32))]) dX5_fillMatrix_113 (Nat.le_of_ble_eq_true rfl) rfl ?_
  exact sn5_fillMatrix_b115 cx  N _ _ _ _ hres
set_option maxRecDepth 20000 in
theorem sn5_fillMatrix_b46 {l : Launch} {G : am_G} {M' : am_Mem} {N : Nat} {k25 : Nat → Int32 → Int32 → Int32 → am_Mem → Option (Unit × am_Mem)} (cx : am_Ctx l rm5_fillMatrix yX5_fillMatrix cX5_fillMatrix 6 none none M' 0 0 G) (hk25 : ∀ (r0 : Nat) (x1 : Int32) (x2 : Int32) (x3 : Int32) (M : am_Mem), k25 r0 x1 x2 x3 M = some ((), M') → G 25 [(0, .inr (.inr (.inl r0))), (1, .inl x1), (2, .inl x2), (3, .inl x3)] [] M 0 0) {r0 : Nat} {x1 : Int32} {x2 : Int32} {x3 : Int32} {x4 : Int32} {x5 : Int32} {M : am_Mem} (hres : fn5_fillMatrix_b46 N k25 r0 x1 x2 x3 x4 x5 M = some ((), M')) : G 46 [(0, .inr (.inr (.inl r0))), (1, .inl x1), (2, .inl x2), (3, .inl x3), (4, .inl x4), (5, .inl x5)] [] M 0 0 := by
  unfold fn5_fillMatrix_b46 at hres
  refine am_aload_n cx 0 dX5_fillMatrix_46 rfl ?_
  obtain ⟨q1, hres⟩ := am_ck_some hres
  refine am_getR cx dX5_fillMatrix_47 flX5_11 (am_ke q1) ?_
  refine am_iload cx 4 dX5_fillMatrix_50 rfl ?_
  obtain ⟨q2, hres⟩ := am_ck_some hres
  obtain ⟨q3, hres⟩ := am_ck_some hres
  refine am_aald20 cx dX5_fillMatrix_52 (am_ke q2) q3 ?_
  refine am_iload cx 4 dX5_fillMatrix_53 rfl ?_
  refine am_dup2 cx dX5_fillMatrix_55 rfl rfl ?_
  obtain ⟨q4, hres⟩ := am_ck_some hres
  obtain ⟨q5, hres⟩ := am_ck_some hres
  refine am_lald cx dX5_fillMatrix_56 (am_ke q4) q5 ?_
  refine am_lconst cx (v := (1 : Int64)) dX5_fillMatrix_57 (by decide) ?_
  refine am_ladd cx dX5_fillMatrix_58 ?_
  obtain ⟨q6, hres⟩ := am_ck_some hres
  refine am_last cx dX5_fillMatrix_59 (am_ke q4) q6  ?_
  refine am_aload_n cx 0 dX5_fillMatrix_60 rfl ?_
  refine am_getR cx dX5_fillMatrix_61 flX5_11 (am_ke q1) ?_
  refine am_iload cx 5 dX5_fillMatrix_64 rfl ?_
  obtain ⟨q7, hres⟩ := am_ck_some hres
  refine am_aald20 cx dX5_fillMatrix_66 (am_ke q2) q7 ?_
  refine am_iload cx 5 dX5_fillMatrix_67 rfl ?_
  refine am_dup2 cx dX5_fillMatrix_69 rfl rfl ?_
  obtain ⟨q8, hres⟩ := am_ck_some hres
  obtain ⟨q9, hres⟩ := am_ck_some hres
  refine am_lald cx dX5_fillMatrix_70 (am_ke q8) q9 ?_
  refine am_lconst cx (v := (1 : Int64)) dX5_fillMatrix_71 (by decide) ?_
  refine am_ladd cx dX5_fillMatrix_72 ?_
  obtain ⟨q10, hres⟩ := am_ck_some hres
  refine am_last cx dX5_fillMatrix_73 (am_ke q8) q10  ?_
  refine am_aload_n cx 0 dX5_fillMatrix_74 rfl ?_
  refine am_getR cx dX5_fillMatrix_75 flX5_11 (am_ke q1) ?_
  refine am_iload cx 4 dX5_fillMatrix_78 rfl ?_
  obtain ⟨q11, hres⟩ := am_ck_some hres
  refine am_aald20 cx dX5_fillMatrix_80 (am_ke q2) q11 ?_
  refine am_iload cx 5 dX5_fillMatrix_81 rfl ?_
  refine am_dup2 cx dX5_fillMatrix_83 rfl rfl ?_
  obtain ⟨q12, hres⟩ := am_ck_some hres
  refine am_lald cx dX5_fillMatrix_84 (am_ke q4) q12 ?_
  refine am_lconst cx (v := (1 : Int64)) dX5_fillMatrix_85 (by decide) ?_
  refine am_lsub cx dX5_fillMatrix_86 ?_
  obtain ⟨q13, hres⟩ := am_ck_some hres
  refine am_last cx dX5_fillMatrix_87 (am_ke q4) q13  ?_
  refine am_aload_n cx 0 dX5_fillMatrix_88 rfl ?_
  refine am_getR cx dX5_fillMatrix_89 flX5_11 (am_ke q1) ?_
  refine am_iload cx 5 dX5_fillMatrix_92 rfl ?_
  obtain ⟨q14, hres⟩ := am_ck_some hres
  refine am_aald20 cx dX5_fillMatrix_94 (am_ke q2) q14 ?_
  refine am_iload cx 4 dX5_fillMatrix_95 rfl ?_
  refine am_dup2 cx dX5_fillMatrix_97 rfl rfl ?_
  obtain ⟨q15, hres⟩ := am_ck_some hres
  refine am_lald cx dX5_fillMatrix_98 (am_ke q8) q15 ?_
  refine am_lconst cx (v := (1 : Int64)) dX5_fillMatrix_99 (by decide) ?_
  refine am_lsub cx dX5_fillMatrix_100 ?_
  obtain ⟨q16, hres⟩ := am_ck_some hres
  refine am_last cx dX5_fillMatrix_101 (am_ke q8) q16  ?_
  refine am_iincw cx (lv' := [(0, .inr (.inr (.inl r0))), (1, .inl x1), (2, .inl x2), (3, .inl (x3 + (1 : Int32))), (4, .inl x4), (5, .inl x5)]) (w := (1 : Int32)) 3 dX5_fillMatrix_102 (by decide) rfl (Nat.le_of_ble_eq_true rfl) rfl ?_
  refine am_goto cx (tgt := 25) dX5_fillMatrix_105 (by decide) ?_
  refine am_sub cx [0, 1, 2, 3] rfl ?_
  exact hk25 _ _ _ _ _ hres
set_option maxRecDepth 20000 in
theorem sn5_fillMatrix_b38 {l : Launch} {G : am_G} {M' : am_Mem} {N : Nat} {k25 : Nat → Int32 → Int32 → Int32 → am_Mem → Option (Unit × am_Mem)} (cx : am_Ctx l rm5_fillMatrix yX5_fillMatrix cX5_fillMatrix 6 none none M' 0 0 G) (hk25 : ∀ (r0 : Nat) (x1 : Int32) (x2 : Int32) (x3 : Int32) (M : am_Mem), k25 r0 x1 x2 x3 M = some ((), M') → G 25 [(0, .inr (.inr (.inl r0))), (1, .inl x1), (2, .inl x2), (3, .inl x3)] [] M 0 0) {r0 : Nat} {x1 : Int32} {x2 : Int32} {x3 : Int32} {x4 : Int32} {M : am_Mem} (hres : fn5_fillMatrix_b38 N k25 r0 x1 x2 x3 x4 M = some ((), M')) : G 38 [(0, .inr (.inr (.inl r0))), (1, .inl x1), (2, .inl x2), (3, .inl x3), (4, .inl x4)] [] M 0 0 := by
  unfold fn5_fillMatrix_b38 at hres
  refine am_aload_n cx 0 dX5_fillMatrix_38 rfl ?_
  obtain ⟨q1, hres⟩ := am_ck_some hres
  refine am_getR cx dX5_fillMatrix_39 flX5_20 (am_ke q1) ?_
  refine am_iload_n cx 3 dX5_fillMatrix_42 rfl ?_
  obtain ⟨q2, hres⟩ := am_ck_some hres
  obtain ⟨q3, hres⟩ := am_ck_some hres
  refine am_iald cx dX5_fillMatrix_43 (am_ke q2) q3 ?_
  refine am_istore cx (lv' := [(0, .inr (.inr (.inl r0))), (1, .inl x1), (2, .inl x2), (3, .inl x3), (4, .inl x4), (5, .inl (am_I M (am_R M r0 2) x3.toNatClampNeg))]) dX5_fillMatrix_44 (Nat.le_of_ble_eq_true rfl) rfl ?_
  exact sn5_fillMatrix_b46 cx hk25 hres
set_option maxRecDepth 20000 in
theorem sn5_fillMatrix_b25B {l : Launch} {G : am_G} {M' : am_Mem} {N : Nat} {k25 : Nat → Int32 → Int32 → Int32 → am_Mem → Option (Unit × am_Mem)} (cx : am_Ctx l rm5_fillMatrix yX5_fillMatrix cX5_fillMatrix 6 none none M' 0 0 G) (hk25 : ∀ (r0 : Nat) (x1 : Int32) (x2 : Int32) (x3 : Int32) (M : am_Mem), k25 r0 x1 x2 x3 M = some ((), M') → G 25 [(0, .inr (.inr (.inl r0))), (1, .inl x1), (2, .inl x2), (3, .inl x3)] [] M 0 0) {r0 : Nat} {x1 : Int32} {x2 : Int32} {x3 : Int32} {M : am_Mem} (hres : fn5_fillMatrix_b25B N k25 r0 x1 x2 x3 M = some ((), M')) : G 25 [(0, .inr (.inr (.inl r0))), (1, .inl x1), (2, .inl x2), (3, .inl x3)] [] M 0 0 := by
  unfold fn5_fillMatrix_b25B at hres
  refine am_iload_n cx 3 dX5_fillMatrix_25 rfl ?_
  refine am_iload_n cx 2 dX5_fillMatrix_26 rfl ?_
  refine am_icmp_ge cx (tgt := 108) dX5_fillMatrix_27 (by decide) (fun h => ?_) (fun h => ?_)
  · have hres := am_ifp h hres
    refine am_iload_n cx 1 dX5_fillMatrix_108 rfl ?_
    refine am_iconst cx (v := (1 : Int32)) dX5_fillMatrix_109 (by decide) ?_
    refine am_isub cx dX5_fillMatrix_110 ?_
    refine am_istore_n cx (lv' := [(0, .inr (.inr (.inl r0))), (1, .inl x1), (2, .inl x2), (3, .inl (x1 - (1 : Int32)))]) dX5_fillMatrix_111 (Nat.le_of_ble_eq_true rfl) rfl ?_
    refine am_sub cx [0, 3] rfl ?_
    exact sn5_fillMatrix_b112 cx  hres
  · have hres := am_ifn h hres
    refine am_aload_n cx 0 dX5_fillMatrix_30 rfl ?_
    obtain ⟨q1, hres⟩ := am_ck_some hres
    refine am_getR cx dX5_fillMatrix_31 flX5_16 (am_ke q1) ?_
    refine am_iload_n cx 3 dX5_fillMatrix_34 rfl ?_
    obtain ⟨q2, hres⟩ := am_ck_some hres
    obtain ⟨q3, hres⟩ := am_ck_some hres
    refine am_iald cx dX5_fillMatrix_35 (am_ke q2) q3 ?_
    refine am_istore cx (lv' := [(0, .inr (.inr (.inl r0))), (1, .inl x1), (2, .inl x2), (3, .inl x3), (4, .inl (am_I M (am_R M r0 1) x3.toNatClampNeg))]) dX5_fillMatrix_36 (Nat.le_of_ble_eq_true rfl) rfl ?_
    exact sn5_fillMatrix_b38 cx hk25 hres
set_option maxRecDepth 20000 in
theorem sn5_fillMatrix_b25 {l : Launch} {G : am_G} {M' : am_Mem} {N : Nat}  (cx : am_Ctx l rm5_fillMatrix yX5_fillMatrix cX5_fillMatrix 6 none none M' 0 0 G)  (i : Nat) : ∀ (r0 : Nat) (x1 : Int32) (x2 : Int32) (x3 : Int32) (M : am_Mem), fn5_fillMatrix_b25 N  i r0 x1 x2 x3 M = some ((), M') → G 25 [(0, .inr (.inr (.inl r0))), (1, .inl x1), (2, .inl x2), (3, .inl x3)] [] M 0 0 := by
  induction i with
  | zero => intro r0 x1 x2 x3 M hres; exact am_no hres
  | succ i ih => intro r0 x1 x2 x3 M hres; exact sn5_fillMatrix_b25B cx ih hres
set_option maxRecDepth 20000 in
theorem sn5_fillMatrix_b2B {l : Launch} {G : am_G} {M' : am_Mem} {N : Nat} {k2 : Nat → Int32 → Int32 → Int32 → am_Mem → Option (Unit × am_Mem)} (cx : am_Ctx l rm5_fillMatrix yX5_fillMatrix cX5_fillMatrix 6 none none M' 0 0 G) (hk2 : ∀ (r0 : Nat) (x1 : Int32) (x2 : Int32) (x3 : Int32) (M : am_Mem), k2 r0 x1 x2 x3 M = some ((), M') → G 2 [(0, .inr (.inr (.inl r0))), (1, .inl x1), (2, .inl x2), (3, .inl x3)] [] M 0 0) {r0 : Nat} {x1 : Int32} {x2 : Int32} {x3 : Int32} {M : am_Mem} (hres : fn5_fillMatrix_b2B N k2 r0 x1 x2 x3 M = some ((), M')) : G 2 [(0, .inr (.inr (.inl r0))), (1, .inl x1), (2, .inl x2), (3, .inl x3)] [] M 0 0 := by
  unfold fn5_fillMatrix_b2B at hres
  refine am_iload_n cx 3 dX5_fillMatrix_2 rfl ?_
  refine am_iload_n cx 1 dX5_fillMatrix_3 rfl ?_
  refine am_icmp_ge cx (tgt := 23) dX5_fillMatrix_4 (by decide) (fun h => ?_) (fun h => ?_)
  · have hres := am_ifp h hres
    refine am_iconst cx (v := (0 : Int32)) dX5_fillMatrix_23 (by decide) ?_
    refine am_istore_n cx (lv' := [(0, .inr (.inr (.inl r0))), (1, .inl x1), (2, .inl x2), (3, .inl (0 : Int32))]) dX5_fillMatrix_24 (Nat.le_of_ble_eq_true rfl) rfl ?_
    exact sn5_fillMatrix_b25 cx  N _ _ _ _ _ hres
  · have hres := am_ifn h hres
    refine am_aload_n cx 0 dX5_fillMatrix_7 rfl ?_
    obtain ⟨q1, hres⟩ := am_ck_some hres
    refine am_getR cx dX5_fillMatrix_8 flX5_11 (am_ke q1) ?_
    refine am_iload_n cx 3 dX5_fillMatrix_11 rfl ?_
    obtain ⟨q2, hres⟩ := am_ck_some hres
    obtain ⟨q3, hres⟩ := am_ck_some hres
    refine am_aald20 cx dX5_fillMatrix_12 (am_ke q2) q3 ?_
    refine am_lconst cx (v := (0 : Int64)) dX5_fillMatrix_13 (by decide) ?_
    obtain ⟨v4, M5, q6, hres⟩ := am_bd_some hres
    refine am_callS0 cx [.inr (.inr (.inl (am_R M (am_R M r0 0) x3.toNatClampNeg))), .inr (.inl (0 : Int64))] dX5_fillMatrix_14 csX5_55 (mtJ7_fill_d0a16 q6)  ⟨rfl, rfl, Nat.le_of_ble_eq_true rfl, Nat.le_of_ble_eq_true rfl⟩ rfl (Nat.le_of_ble_eq_true rfl) ⟨Nat.le_of_ble_eq_true rfl, Nat.le_of_ble_eq_true rfl⟩ ?_
    refine am_iincw cx (lv' := [(0, .inr (.inr (.inl r0))), (1, .inl x1), (2, .inl x2), (3, .inl (x3 + (1 : Int32)))]) (w := (1 : Int32)) 3 dX5_fillMatrix_17 (by decide) rfl (Nat.le_of_ble_eq_true rfl) rfl ?_
    refine am_goto cx (tgt := 2) dX5_fillMatrix_20 (by decide) ?_
    exact hk2 _ _ _ _ _ hres
set_option maxRecDepth 20000 in
theorem sn5_fillMatrix_b2 {l : Launch} {G : am_G} {M' : am_Mem} {N : Nat}  (cx : am_Ctx l rm5_fillMatrix yX5_fillMatrix cX5_fillMatrix 6 none none M' 0 0 G)  (i : Nat) : ∀ (r0 : Nat) (x1 : Int32) (x2 : Int32) (x3 : Int32) (M : am_Mem), fn5_fillMatrix_b2 N  i r0 x1 x2 x3 M = some ((), M') → G 2 [(0, .inr (.inr (.inl r0))), (1, .inl x1), (2, .inl x2), (3, .inl x3)] [] M 0 0 := by
  induction i with
  | zero => intro r0 x1 x2 x3 M hres; exact am_no hres
  | succ i ih => intro r0 x1 x2 x3 M hres; exact sn5_fillMatrix_b2B cx ih hres
set_option maxRecDepth 20000 in
theorem sn5_fillMatrix_b0 {l : Launch} {G : am_G} {M' : am_Mem} {N : Nat}  (cx : am_Ctx l rm5_fillMatrix yX5_fillMatrix cX5_fillMatrix 6 none none M' 0 0 G)  {r0 : Nat} {x1 : Int32} {x2 : Int32} {M : am_Mem} (hres : fn5_fillMatrix_b0 N  r0 x1 x2 M = some ((), M')) : G 0 [(0, .inr (.inr (.inl r0))), (1, .inl x1), (2, .inl x2)] [] M 0 0 := by
  unfold fn5_fillMatrix_b0 at hres
  refine am_iconst cx (v := (0 : Int32)) dX5_fillMatrix_0 (by decide) ?_
  refine am_istore_n cx (lv' := [(0, .inr (.inr (.inl r0))), (1, .inl x1), (2, .inl x2), (3, .inl (0 : Int32))]) dX5_fillMatrix_1 (Nat.le_of_ble_eq_true rfl) rfl ?_
  exact sn5_fillMatrix_b2 cx  N _ _ _ _ _ hres
set_option maxRecDepth 20000 in
theorem mt5_fillMatrix {l : Launch} {M M' : am_Mem} {N : Nat} {r0 : Nat} {x1 : Int32} {x2 : Int32} (h : fn5_fillMatrix N M r0 x1 x2 = some ((), M')) : am_Met l yX5_fillMatrix cX5_fillMatrix 6 none rm5_fillMatrix 0 0 [.inr (.inr (.inl r0)), .inl x1, .inl x2] M none M' := am_mk (by decide) (Nat.le_of_ble_eq_true rfl) (fun G cx => (sn5_fillMatrix_b0 cx h))
-- SquareCuts$NetSolver.eliminate
def fn5_eliminate_b58 (N : Nat) (k5 : Nat → Int32 → Int64 → Int32 → am_Mem → Option (Int64 × am_Mem)) (k35 : Nat → Int32 → Int64 → Int32 → Int64 → Int32 → am_Mem → Option (Int64 × am_Mem)) (r0 : Nat) (x1 : Int32) (j2 : Int64) (x4 : Int32) (j5 : Int64) (x7 : Int32) (M : am_Mem) : Option (Int64 × am_Mem) :=
  k35 r0 x1 j2 x4 j5 (x7 + (1 : Int32)) M
def fn5_eliminate_b35B (N : Nat) (k5 : Nat → Int32 → Int64 → Int32 → am_Mem → Option (Int64 × am_Mem)) (k35 : Nat → Int32 → Int64 → Int32 → Int64 → Int32 → am_Mem → Option (Int64 × am_Mem)) (r0 : Nat) (x1 : Int32) (j2 : Int64) (x4 : Int32) (j5 : Int64) (x7 : Int32) (M : am_Mem) : Option (Int64 × am_Mem) :=
  if x1 ≤ x7 then k5 r0 x1 j5 (x4 + (1 : Int32)) M else if x7 = x4 then fn5_eliminate_b58 N k5 k35 r0 x1 j2 x4 j5 x7 M else am_ck (am_k M r0 5) (am_bd (fn5_reduceRow N M r0 x7 x4 x1 j2) (fun v2 M3 => fn5_eliminate_b58 N k5 k35 r0 x1 j2 x4 j5 x7 M3))
def fn5_eliminate_b35 (N : Nat) (k5 : Nat → Int32 → Int64 → Int32 → am_Mem → Option (Int64 × am_Mem)) : Nat → Nat → Int32 → Int64 → Int32 → Int64 → Int32 → am_Mem → Option (Int64 × am_Mem)
  | 0 => fun _ _ _ _ _ _ _ => none
  | i + 1 => fn5_eliminate_b35B N k5 (fn5_eliminate_b35 N k5 i)
def fn5_eliminate_b23 (N : Nat) (k5 : Nat → Int32 → Int64 → Int32 → am_Mem → Option (Int64 × am_Mem)) (r0 : Nat) (x1 : Int32) (j2 : Int64) (x4 : Int32) (j5 : Int64) (M : am_Mem) : Option (Int64 × am_Mem) :=
  if (lg_cmp j5 (0 : Int64)) = 0 then some ((0 : Int64), M) else fn5_eliminate_b35 N k5 N r0 x1 j2 x4 j5 (0 : Int32) M
def fn5_eliminate_b5B (N : Nat) (k5 : Nat → Int32 → Int64 → Int32 → am_Mem → Option (Int64 × am_Mem)) (r0 : Nat) (x1 : Int32) (j2 : Int64) (x4 : Int32) (M : am_Mem) : Option (Int64 × am_Mem) :=
  if x1 ≤ x4 then some (j2, M) else am_ck (am_k M r0 5) (am_ck (am_k M (am_R M r0 0) 20) (am_ck (am_in x4 (am_L M (am_R M r0 0))) (am_ck (am_k M (am_R M (am_R M r0 0) x4.toNatClampNeg) 15) (am_ck (am_in x4 (am_L M (am_R M (am_R M r0 0) x4.toNatClampNeg))) (fn5_eliminate_b23 N k5 r0 x1 j2 x4 (am_J M (am_R M (am_R M r0 0) x4.toNatClampNeg) x4.toNatClampNeg) M)))))
def fn5_eliminate_b5 (N : Nat)  : Nat → Nat → Int32 → Int64 → Int32 → am_Mem → Option (Int64 × am_Mem)
  | 0 => fun _ _ _ _ _ => none
  | i + 1 => fn5_eliminate_b5B N (fn5_eliminate_b5 N  i)
def fn5_eliminate_b0 (N : Nat)  (r0 : Nat) (x1 : Int32) (M : am_Mem) : Option (Int64 × am_Mem) :=
  fn5_eliminate_b5 N  N r0 x1 (1 : Int64) (0 : Int32) M
def fn5_eliminate (N : Nat) (M : am_Mem) (r0 : Nat) (x1 : Int32) : Option (Int64 × am_Mem) := fn5_eliminate_b0 N r0 x1 M
def rm5_eliminate : Room := { frames := 1, cells := 0, slots := 0, locals := 30 }
set_option maxRecDepth 20000 in
theorem sn5_eliminate_b58 {l : Launch} {G : am_G} {v : Int64} {M' : am_Mem} {N : Nat} {k5 : Nat → Int32 → Int64 → Int32 → am_Mem → Option (Int64 × am_Mem)} {k35 : Nat → Int32 → Int64 → Int32 → Int64 → Int32 → am_Mem → Option (Int64 × am_Mem)} (cx : am_Ctx l rm5_eliminate yX5_eliminate cX5_eliminate 8 (some .long) (some (.inr (.inl v))) M' 0 0 G) (hk5 : ∀ (r0 : Nat) (x1 : Int32) (j2 : Int64) (x4 : Int32) (M : am_Mem), k5 r0 x1 j2 x4 M = some (v, M') → G 5 [(0, .inr (.inr (.inl r0))), (1, .inl x1), (2, .inr (.inl j2)), (4, .inl x4)] [] M 0 0) (hk35 : ∀ (r0 : Nat) (x1 : Int32) (j2 : Int64) (x4 : Int32) (j5 : Int64) (x7 : Int32) (M : am_Mem), k35 r0 x1 j2 x4 j5 x7 M = some (v, M') → G 35 [(0, .inr (.inr (.inl r0))), (1, .inl x1), (2, .inr (.inl j2)), (4, .inl x4), (5, .inr (.inl j5)), (7, .inl x7)] [] M 0 0) {r0 : Nat} {x1 : Int32} {j2 : Int64} {x4 : Int32} {j5 : Int64} {x7 : Int32} {M : am_Mem} (hres : fn5_eliminate_b58 N k5 k35 r0 x1 j2 x4 j5 x7 M = some (v, M')) : G 58 [(0, .inr (.inr (.inl r0))), (1, .inl x1), (2, .inr (.inl j2)), (4, .inl x4), (5, .inr (.inl j5)), (7, .inl x7)] [] M 0 0 := by
  unfold fn5_eliminate_b58 at hres
  refine am_iincw cx (lv' := [(0, .inr (.inr (.inl r0))), (1, .inl x1), (2, .inr (.inl j2)), (4, .inl x4), (5, .inr (.inl j5)), (7, .inl (x7 + (1 : Int32)))]) (w := (1 : Int32)) 5 dX5_eliminate_58 (by decide) rfl (Nat.le_of_ble_eq_true rfl) rfl ?_
  refine am_goto cx (tgt := 35) dX5_eliminate_61 (by decide) ?_
  exact hk35 _ _ _ _ _ _ _ hres
set_option maxRecDepth 20000 in
theorem sn5_eliminate_b35B {l : Launch} {G : am_G} {v : Int64} {M' : am_Mem} {N : Nat} {k5 : Nat → Int32 → Int64 → Int32 → am_Mem → Option (Int64 × am_Mem)} {k35 : Nat → Int32 → Int64 → Int32 → Int64 → Int32 → am_Mem → Option (Int64 × am_Mem)} (cx : am_Ctx l rm5_eliminate yX5_eliminate cX5_eliminate 8 (some .long) (some (.inr (.inl v))) M' 0 0 G) (hk5 : ∀ (r0 : Nat) (x1 : Int32) (j2 : Int64) (x4 : Int32) (M : am_Mem), k5 r0 x1 j2 x4 M = some (v, M') → G 5 [(0, .inr (.inr (.inl r0))), (1, .inl x1), (2, .inr (.inl j2)), (4, .inl x4)] [] M 0 0) (hk35 : ∀ (r0 : Nat) (x1 : Int32) (j2 : Int64) (x4 : Int32) (j5 : Int64) (x7 : Int32) (M : am_Mem), k35 r0 x1 j2 x4 j5 x7 M = some (v, M') → G 35 [(0, .inr (.inr (.inl r0))), (1, .inl x1), (2, .inr (.inl j2)), (4, .inl x4), (5, .inr (.inl j5)), (7, .inl x7)] [] M 0 0) {r0 : Nat} {x1 : Int32} {j2 : Int64} {x4 : Int32} {j5 : Int64} {x7 : Int32} {M : am_Mem} (hres : fn5_eliminate_b35B N k5 k35 r0 x1 j2 x4 j5 x7 M = some (v, M')) : G 35 [(0, .inr (.inr (.inl r0))), (1, .inl x1), (2, .inr (.inl j2)), (4, .inl x4), (5, .inr (.inl j5)), (7, .inl x7)] [] M 0 0 := by
  unfold fn5_eliminate_b35B at hres
  refine am_iload cx 5 dX5_eliminate_35 rfl ?_
  refine am_iload_n cx 1 dX5_eliminate_37 rfl ?_
  refine am_icmp_ge cx (tgt := 64) dX5_eliminate_38 (by decide) (fun h => ?_) (fun h => ?_)
  · have hres := am_ifp h hres
    refine am_lload cx 4 dX5_eliminate_64 rfl ?_
    refine am_lstore_n cx (lv' := [(0, .inr (.inr (.inl r0))), (1, .inl x1), (2, .inr (.inl j5)), (4, .inl x4), (5, .inr (.inl j5)), (7, .inl x7)]) dX5_eliminate_66 (Nat.le_of_ble_eq_true rfl) rfl ?_
    refine am_iincw cx (lv' := [(0, .inr (.inr (.inl r0))), (1, .inl x1), (2, .inr (.inl j5)), (4, .inl (x4 + (1 : Int32))), (5, .inr (.inl j5)), (7, .inl x7)]) (w := (1 : Int32)) 3 dX5_eliminate_67 (by decide) rfl (Nat.le_of_ble_eq_true rfl) rfl ?_
    refine am_goto cx (tgt := 5) dX5_eliminate_70 (by decide) ?_
    refine am_sub cx [0, 1, 2, 3] rfl ?_
    exact hk5 _ _ _ _ _ hres
  · have hres := am_ifn h hres
    refine am_iload cx 5 dX5_eliminate_41 rfl ?_
    refine am_iload cx 3 dX5_eliminate_43 rfl ?_
    refine am_icmp_eq cx (tgt := 58) dX5_eliminate_45 (by decide) (fun h => ?_) (fun h => ?_)
    · have hres := am_ifp h hres
      exact sn5_eliminate_b58 cx hk5 hk35 hres
    · have hres := am_ifn h hres
      refine am_aload_n cx 0 dX5_eliminate_48 rfl ?_
      refine am_iload cx 5 dX5_eliminate_49 rfl ?_
      refine am_iload cx 3 dX5_eliminate_51 rfl ?_
      refine am_iload_n cx 1 dX5_eliminate_53 rfl ?_
      refine am_lload_n cx 2 dX5_eliminate_54 rfl ?_
      obtain ⟨q1, hres⟩ := am_ck_some hres
      obtain ⟨v2, M3, q4, hres⟩ := am_bd_some hres
      refine am_callV0 cx [.inl x7, .inl x4, .inl x1, .inr (.inl j2)] dX5_eliminate_55 cvX5_61 (mt5_reduceRow q4) (am_ke q1) ⟨rfl, rfl, Nat.le_of_ble_eq_true rfl, Nat.le_of_ble_eq_true rfl⟩ rfl (Nat.le_of_ble_eq_true rfl) ⟨Nat.le_of_ble_eq_true rfl, Nat.le_of_ble_eq_true rfl⟩ ?_
      exact sn5_eliminate_b58 cx hk5 hk35 hres
set_option maxRecDepth 20000 in
theorem sn5_eliminate_b35 {l : Launch} {G : am_G} {v : Int64} {M' : am_Mem} {N : Nat} {k5 : Nat → Int32 → Int64 → Int32 → am_Mem → Option (Int64 × am_Mem)} (cx : am_Ctx l rm5_eliminate yX5_eliminate cX5_eliminate 8 (some .long) (some (.inr (.inl v))) M' 0 0 G) (hk5 : ∀ (r0 : Nat) (x1 : Int32) (j2 : Int64) (x4 : Int32) (M : am_Mem), k5 r0 x1 j2 x4 M = some (v, M') → G 5 [(0, .inr (.inr (.inl r0))), (1, .inl x1), (2, .inr (.inl j2)), (4, .inl x4)] [] M 0 0) (i : Nat) : ∀ (r0 : Nat) (x1 : Int32) (j2 : Int64) (x4 : Int32) (j5 : Int64) (x7 : Int32) (M : am_Mem), fn5_eliminate_b35 N k5 i r0 x1 j2 x4 j5 x7 M = some (v, M') → G 35 [(0, .inr (.inr (.inl r0))), (1, .inl x1), (2, .inr (.inl j2)), (4, .inl x4), (5, .inr (.inl j5)), (7, .inl x7)] [] M 0 0 := by
  induction i with
  | zero => intro r0 x1 j2 x4 j5 x7 M hres; exact am_no hres
  | succ i ih => intro r0 x1 j2 x4 j5 x7 M hres; exact sn5_eliminate_b35B cx hk5 ih hres
set_option maxRecDepth 20000 in
theorem sn5_eliminate_b23 {l : Launch} {G : am_G} {v : Int64} {M' : am_Mem} {N : Nat} {k5 : Nat → Int32 → Int64 → Int32 → am_Mem → Option (Int64 × am_Mem)} (cx : am_Ctx l rm5_eliminate yX5_eliminate cX5_eliminate 8 (some .long) (some (.inr (.inl v))) M' 0 0 G) (hk5 : ∀ (r0 : Nat) (x1 : Int32) (j2 : Int64) (x4 : Int32) (M : am_Mem), k5 r0 x1 j2 x4 M = some (v, M') → G 5 [(0, .inr (.inr (.inl r0))), (1, .inl x1), (2, .inr (.inl j2)), (4, .inl x4)] [] M 0 0) {r0 : Nat} {x1 : Int32} {j2 : Int64} {x4 : Int32} {j5 : Int64} {M : am_Mem} (hres : fn5_eliminate_b23 N k5 r0 x1 j2 x4 j5 M = some (v, M')) : G 23 [(0, .inr (.inr (.inl r0))), (1, .inl x1), (2, .inr (.inl j2)), (4, .inl x4), (5, .inr (.inl j5))] [] M 0 0 := by
  unfold fn5_eliminate_b23 at hres
  refine am_lload cx 4 dX5_eliminate_23 rfl ?_
  refine am_lconst cx (v := (0 : Int64)) dX5_eliminate_25 (by decide) ?_
  refine am_lcmp cx dX5_eliminate_26 ?_
  refine am_if_ne cx (tgt := 32) dX5_eliminate_27 (by decide) (fun h => ?_) (fun h => ?_)
  · have hres := am_ifn h hres
    refine am_iconst cx (v := (0 : Int32)) dX5_eliminate_32 (by decide) ?_
    refine am_istore cx (lv' := [(0, .inr (.inr (.inl r0))), (1, .inl x1), (2, .inr (.inl j2)), (4, .inl x4), (5, .inr (.inl j5)), (7, .inl (0 : Int32))]) dX5_eliminate_33 (Nat.le_of_ble_eq_true rfl) rfl ?_
    exact sn5_eliminate_b35 cx hk5 N _ _ _ _ _ _ _ hres
  · have hres := am_ifp h hres
    refine am_lconst cx (v := (0 : Int64)) dX5_eliminate_30 (by decide) ?_
    obtain ⟨rfl, rfl⟩ := am_fin hres
    exact am_lret cx dX5_eliminate_31
set_option maxRecDepth 20000 in
theorem sn5_eliminate_b5B {l : Launch} {G : am_G} {v : Int64} {M' : am_Mem} {N : Nat} {k5 : Nat → Int32 → Int64 → Int32 → am_Mem → Option (Int64 × am_Mem)} (cx : am_Ctx l rm5_eliminate yX5_eliminate cX5_eliminate 8 (some .long) (some (.inr (.inl v))) M' 0 0 G) (hk5 : ∀ (r0 : Nat) (x1 : Int32) (j2 : Int64) (x4 : Int32) (M : am_Mem), k5 r0 x1 j2 x4 M = some (v, M') → G 5 [(0, .inr (.inr (.inl r0))), (1, .inl x1), (2, .inr (.inl j2)), (4, .inl x4)] [] M 0 0) {r0 : Nat} {x1 : Int32} {j2 : Int64} {x4 : Int32} {M : am_Mem} (hres : fn5_eliminate_b5B N k5 r0 x1 j2 x4 M = some (v, M')) : G 5 [(0, .inr (.inr (.inl r0))), (1, .inl x1), (2, .inr (.inl j2)), (4, .inl x4)] [] M 0 0 := by
  unfold fn5_eliminate_b5B at hres
  refine am_iload cx 3 dX5_eliminate_5 rfl ?_
  refine am_iload_n cx 1 dX5_eliminate_7 rfl ?_
  refine am_icmp_ge cx (tgt := 73) dX5_eliminate_8 (by decide) (fun h => ?_) (fun h => ?_)
  · have hres := am_ifp h hres
    refine am_lload_n cx 2 dX5_eliminate_73 rfl ?_
    obtain ⟨rfl, rfl⟩ := am_fin hres
    exact am_lret cx dX5_eliminate_74
  · have hres := am_ifn h hres
    refine am_aload_n cx 0 dX5_eliminate_11 rfl ?_
    obtain ⟨q1, hres⟩ := am_ck_some hres
    refine am_getR cx dX5_eliminate_12 flX5_11 (am_ke q1) ?_
    refine am_iload cx 3 dX5_eliminate_15 rfl ?_
    obtain ⟨q2, hres⟩ := am_ck_some hres
    obtain ⟨q3, hres⟩ := am_ck_some hres
    refine am_aald20 cx dX5_eliminate_17 (am_ke q2) q3 ?_
    refine am_iload cx 3 dX5_eliminate_18 rfl ?_
    obtain ⟨q4, hres⟩ := am_ck_some hres
    obtain ⟨q5, hres⟩ := am_ck_some hres
    refine am_lald cx dX5_eliminate_20 (am_ke q4) q5 ?_
    refine am_lstore cx (lv' := [(0, .inr (.inr (.inl r0))), (1, .inl x1), (2, .inr (.inl j2)), (4, .inl x4), (5, .inr (.inl (am_J M (am_R M (am_R M r0 0) x4.toNatClampNeg) x4.toNatClampNeg)))]) dX5_eliminate_21 (Nat.le_of_ble_eq_true rfl) rfl ?_
    exact sn5_eliminate_b23 cx hk5 hres
set_option maxRecDepth 20000 in
theorem sn5_eliminate_b5 {l : Launch} {G : am_G} {v : Int64} {M' : am_Mem} {N : Nat}  (cx : am_Ctx l rm5_eliminate yX5_eliminate cX5_eliminate 8 (some .long) (some (.inr (.inl v))) M' 0 0 G)  (i : Nat) : ∀ (r0 : Nat) (x1 : Int32) (j2 : Int64) (x4 : Int32) (M : am_Mem), fn5_eliminate_b5 N  i r0 x1 j2 x4 M = some (v, M') → G 5 [(0, .inr (.inr (.inl r0))), (1, .inl x1), (2, .inr (.inl j2)), (4, .inl x4)] [] M 0 0 := by
  induction i with
  | zero => intro r0 x1 j2 x4 M hres; exact am_no hres
  | succ i ih => intro r0 x1 j2 x4 M hres; exact sn5_eliminate_b5B cx ih hres
set_option maxRecDepth 20000 in
theorem sn5_eliminate_b0 {l : Launch} {G : am_G} {v : Int64} {M' : am_Mem} {N : Nat}  (cx : am_Ctx l rm5_eliminate yX5_eliminate cX5_eliminate 8 (some .long) (some (.inr (.inl v))) M' 0 0 G)  {r0 : Nat} {x1 : Int32} {M : am_Mem} (hres : fn5_eliminate_b0 N  r0 x1 M = some (v, M')) : G 0 [(0, .inr (.inr (.inl r0))), (1, .inl x1)] [] M 0 0 := by
  unfold fn5_eliminate_b0 at hres
  refine am_lconst cx (v := (1 : Int64)) dX5_eliminate_0 (by decide) ?_
  refine am_lstore_n cx (lv' := [(0, .inr (.inr (.inl r0))), (1, .inl x1), (2, .inr (.inl (1 : Int64)))]) dX5_eliminate_1 (Nat.le_of_ble_eq_true rfl) rfl ?_
  refine am_iconst cx (v := (0 : Int32)) dX5_eliminate_2 (by decide) ?_
  refine am_istore cx (lv' := [(0, .inr (.inr (.inl r0))), (1, .inl x1), (2, .inr (.inl (1 : Int64))), (4, .inl (0 : Int32))]) dX5_eliminate_3 (Nat.le_of_ble_eq_true rfl) rfl ?_
  exact sn5_eliminate_b5 cx  N _ _ _ _ _ hres
set_option maxRecDepth 20000 in
theorem mt5_eliminate {l : Launch} {v : Int64} {M M' : am_Mem} {N : Nat} {r0 : Nat} {x1 : Int32} (h : fn5_eliminate N M r0 x1 = some (v, M')) : am_Met l yX5_eliminate cX5_eliminate 8 (some .long) rm5_eliminate 0 0 [.inr (.inr (.inl r0)), .inl x1] M (some (.inr (.inl v))) M' := am_mk (by decide) (Nat.le_of_ble_eq_true rfl) (fun G cx => (sn5_eliminate_b0 cx h))
-- SquareCuts$NetSolver.setFlow
def fn5_setFlow_b139B (N : Nat) (k139 : Nat → Nat → Int32 → Int32 → am_Mem → Option (Unit × am_Mem)) (r0 : Nat) (r1 : Nat) (x3 : Int32) (x4 : Int32) (M : am_Mem) : Option (Unit × am_Mem) :=
  am_ck (am_k M r1 3) (if (am_I M r1 1) ≤ x4 then am_ck (decide (¬ x3.toInt64 = 0)) (am_ck (am_k M (am_R M r1 2) 14) (am_ck (am_in (0 : Int32) (am_L M (am_R M r1 2))) (some ((), (am_wI (am_wI M r1 5 (((am_J M r1 4) / x3.toInt64).toInt32)) r1 6 (am_I (am_wI M r1 5 (((am_J M r1 4) / x3.toInt64).toInt32)) (am_R M r1 2) (0 : Int32).toNatClampNeg)))))) else am_ck (am_k M (am_R M r1 3) 14) (am_ck (am_in x4 (am_L M (am_R M r1 3))) (am_ck (decide (¬ x3 = 0)) (am_ck (am_in x4 (am_L M (am_R M r1 3))) (am_ck (am_k M r0 5) (am_ck (am_k M (am_R M r0 1) 14) (am_ck (am_in x4 (am_L M (am_R M r0 1))) (am_ck (am_k M (am_R M r1 2) 14) (am_ck (am_in (am_I (am_wI M (am_R M r1 3) x4.toNatClampNeg ((am_I M (am_R M r1 3) x4.toNatClampNeg) / x3)) (am_R M r0 1) x4.toNatClampNeg) (am_L M (am_R M r1 2))) (am_ck (am_k M (am_R M r0 2) 14) (am_ck (am_in x4 (am_L M (am_R M r0 2))) (am_ck (am_in (am_I (am_wI M (am_R M r1 3) x4.toNatClampNeg ((am_I M (am_R M r1 3) x4.toNatClampNeg) / x3)) (am_R M r0 2) x4.toNatClampNeg) (am_L M (am_R M r1 2))) (am_ck (am_k M (am_R M r0 3) 14) (am_ck (am_in x4 (am_L M (am_R M r0 3))) (k139 r0 r1 x3 (x4 + (1 : Int32)) (am_wI (am_wI M (am_R M r1 3) x4.toNatClampNeg ((am_I M (am_R M r1 3) x4.toNatClampNeg) / x3)) (am_R M r0 3) x4.toNatClampNeg (if (am_I (am_wI M (am_R M r1 3) x4.toNatClampNeg ((am_I M (am_R M r1 3) x4.toNatClampNeg) / x3)) (am_R M r1 2) (am_I (am_wI M (am_R M r1 3) x4.toNatClampNeg ((am_I M (am_R M r1 3) x4.toNatClampNeg) / x3)) (am_R M r0 1) x4.toNatClampNeg).toNatClampNeg) < (am_I (am_wI M (am_R M r1 3) x4.toNatClampNeg ((am_I M (am_R M r1 3) x4.toNatClampNeg) / x3)) (am_R M r1 2) (am_I (am_wI M (am_R M r1 3) x4.toNatClampNeg ((am_I M (am_R M r1 3) x4.toNatClampNeg) / x3)) (am_R M r0 2) x4.toNatClampNeg).toNatClampNeg) then (am_I (am_wI M (am_R M r1 3) x4.toNatClampNeg ((am_I M (am_R M r1 3) x4.toNatClampNeg) / x3)) (am_R M r1 2) (am_I (am_wI M (am_R M r1 3) x4.toNatClampNeg ((am_I M (am_R M r1 3) x4.toNatClampNeg) / x3)) (am_R M r0 2) x4.toNatClampNeg).toNatClampNeg) else (am_I (am_wI M (am_R M r1 3) x4.toNatClampNeg ((am_I M (am_R M r1 3) x4.toNatClampNeg) / x3)) (am_R M r1 2) (am_I (am_wI M (am_R M r1 3) x4.toNatClampNeg ((am_I M (am_R M r1 3) x4.toNatClampNeg) / x3)) (am_R M r0 1) x4.toNatClampNeg).toNatClampNeg))))))))))))))))))
def fn5_setFlow_b139 (N : Nat)  : Nat → Nat → Nat → Int32 → Int32 → am_Mem → Option (Unit × am_Mem)
  | 0 => fun _ _ _ _ _ => none
  | i + 1 => fn5_setFlow_b139B N (fn5_setFlow_b139 N  i)
def fn5_setFlow_b110B (N : Nat) (k110 : Nat → Nat → Int32 → Int32 → am_Mem → Option (Unit × am_Mem)) (r0 : Nat) (r1 : Nat) (x3 : Int32) (x4 : Int32) (M : am_Mem) : Option (Unit × am_Mem) :=
  am_ck (am_k M r1 3) (if (am_I M r1 0) ≤ x4 then fn5_setFlow_b139 N  N r0 r1 x3 (0 : Int32) M else am_ck (am_k M (am_R M r1 2) 14) (am_ck (am_in x4 (am_L M (am_R M r1 2))) (am_ck (decide (¬ x3 = 0)) (am_ck (am_in x4 (am_L M (am_R M r1 2))) (k110 r0 r1 x3 (x4 + (1 : Int32)) (am_wI M (am_R M r1 2) x4.toNatClampNeg ((am_I M (am_R M r1 2) x4.toNatClampNeg) / x3)))))))
def fn5_setFlow_b110 (N : Nat)  : Nat → Nat → Nat → Int32 → Int32 → am_Mem → Option (Unit × am_Mem)
  | 0 => fun _ _ _ _ _ => none
  | i + 1 => fn5_setFlow_b110B N (fn5_setFlow_b110 N  i)
def fn5_setFlow_b40B (N : Nat) (k40 : Nat → Nat → Int32 → Int32 → am_Mem → Option (Unit × am_Mem)) (r0 : Nat) (r1 : Nat) (x3 : Int32) (x4 : Int32) (M : am_Mem) : Option (Unit × am_Mem) :=
  am_ck (am_k M r1 3) (if (am_I M r1 1) ≤ x4 then if x3 = 0 then some ((), M) else fn5_setFlow_b110 N  N r0 r1 x3 (0 : Int32) M else am_ck (am_k M r0 5) (am_ck (am_k M (am_R M r0 1) 14) (am_ck (am_in x4 (am_L M (am_R M r0 1))) (am_ck (am_k M (am_R M r1 2) 14) (am_ck (am_in (am_I M (am_R M r0 1) x4.toNatClampNeg) (am_L M (am_R M r1 2))) (am_ck (am_k M (am_R M r0 2) 14) (am_ck (am_in x4 (am_L M (am_R M r0 2))) (am_ck (am_in (am_I M (am_R M r0 2) x4.toNatClampNeg) (am_L M (am_R M r1 2))) (am_ck (am_k M (am_R M r1 3) 14) (am_ck (am_in x4 (am_L M (am_R M r1 3))) (am_ck (am_in x4 (am_L M (am_R M r1 3))) (am_bd (fn11_greatestDivisor N (am_wI M (am_R M r1 3) x4.toNatClampNeg ((am_I M (am_R M r1 2) (am_I M (am_R M r0 1) x4.toNatClampNeg).toNatClampNeg) - (am_I M (am_R M r1 2) (am_I M (am_R M r0 2) x4.toNatClampNeg).toNatClampNeg))) x3 (if 0 ≤ (am_I (am_wI M (am_R M r1 3) x4.toNatClampNeg ((am_I M (am_R M r1 2) (am_I M (am_R M r0 1) x4.toNatClampNeg).toNatClampNeg) - (am_I M (am_R M r1 2) (am_I M (am_R M r0 2) x4.toNatClampNeg).toNatClampNeg))) (am_R M r1 3) x4.toNatClampNeg) then (am_I (am_wI M (am_R M r1 3) x4.toNatClampNeg ((am_I M (am_R M r1 2) (am_I M (am_R M r0 1) x4.toNatClampNeg).toNatClampNeg) - (am_I M (am_R M r1 2) (am_I M (am_R M r0 2) x4.toNatClampNeg).toNatClampNeg))) (am_R M r1 3) x4.toNatClampNeg) else 0 - (am_I (am_wI M (am_R M r1 3) x4.toNatClampNeg ((am_I M (am_R M r1 2) (am_I M (am_R M r0 1) x4.toNatClampNeg).toNatClampNeg) - (am_I M (am_R M r1 2) (am_I M (am_R M r0 2) x4.toNatClampNeg).toNatClampNeg))) (am_R M r1 3) x4.toNatClampNeg))) (fun v13 M14 => k40 r0 r1 v13 (x4 + (1 : Int32)) M14)))))))))))))
def fn5_setFlow_b40 (N : Nat)  : Nat → Nat → Nat → Int32 → Int32 → am_Mem → Option (Unit × am_Mem)
  | 0 => fun _ _ _ _ _ => none
  | i + 1 => fn5_setFlow_b40B N (fn5_setFlow_b40 N  i)
def fn5_setFlow_b9B (N : Nat) (k9 : Nat → Nat → Int32 → Int32 → am_Mem → Option (Unit × am_Mem)) (r0 : Nat) (r1 : Nat) (x2 : Int32) (x3 : Int32) (M : am_Mem) : Option (Unit × am_Mem) :=
  if x2 ≤ x3 then fn5_setFlow_b40 N  N r0 r1 (0 : Int32) (0 : Int32) M else am_ck (am_k M r1 3) (am_ck (am_k M r0 5) (am_ck (am_k M (am_R M r0 0) 20) (am_ck (am_in x3 (am_L M (am_R M r0 0))) (am_ck (am_k M (am_R M (am_R M r0 0) x3.toNatClampNeg) 15) (am_ck (am_in x2 (am_L M (am_R M (am_R M r0 0) x3.toNatClampNeg))) (am_ck (am_k M (am_R M r1 2) 14) (am_ck (am_in x3 (am_L M (am_R M r1 2))) (k9 r0 r1 x2 (x3 + (1 : Int32)) (am_wI M (am_R M r1 2) x3.toNatClampNeg ((am_J M (am_R M (am_R M r0 0) x3.toNatClampNeg) x2.toNatClampNeg).toInt32))))))))))
def fn5_setFlow_b9 (N : Nat)  : Nat → Nat → Nat → Int32 → Int32 → am_Mem → Option (Unit × am_Mem)
  | 0 => fun _ _ _ _ _ => none
  | i + 1 => fn5_setFlow_b9B N (fn5_setFlow_b9 N  i)
def fn5_setFlow_b7 (N : Nat)  (r0 : Nat) (r1 : Nat) (x2 : Int32) (M : am_Mem) : Option (Unit × am_Mem) :=
  fn5_setFlow_b9 N  N r0 r1 x2 (0 : Int32) M
def fn5_setFlow_b0 (N : Nat)  (r0 : Nat) (r1 : Nat) (M : am_Mem) : Option (Unit × am_Mem) :=
  am_ck (am_k M r1 3) (fn5_setFlow_b7 N  r0 r1 ((am_I M r1 0) - (1 : Int32)) M)
def fn5_setFlow (N : Nat) (M : am_Mem) (r0 : Nat) (r1 : Nat) : Option (Unit × am_Mem) := fn5_setFlow_b0 N r0 r1 M
def rm5_setFlow : Room := { frames := 2, cells := 0, slots := 0, locals := 46 }
set_option maxRecDepth 20000 in
theorem sn5_setFlow_b139B {l : Launch} {G : am_G} {M' : am_Mem} {N : Nat} {k139 : Nat → Nat → Int32 → Int32 → am_Mem → Option (Unit × am_Mem)} (cx : am_Ctx l rm5_setFlow yX5_setFlow cX5_setFlow 5 none none M' 0 0 G) (hk139 : ∀ (r0 : Nat) (r1 : Nat) (x3 : Int32) (x4 : Int32) (M : am_Mem), k139 r0 r1 x3 x4 M = some ((), M') → G 139 [(0, .inr (.inr (.inl r0))), (1, .inr (.inr (.inl r1))), (3, .inl x3), (4, .inl x4)] [] M 0 0) {r0 : Nat} {r1 : Nat} {x3 : Int32} {x4 : Int32} {M : am_Mem} (hres : fn5_setFlow_b139B N k139 r0 r1 x3 x4 M = some ((), M')) : G 139 [(0, .inr (.inr (.inl r0))), (1, .inr (.inr (.inl r1))), (3, .inl x3), (4, .inl x4)] [] M 0 0 := by
  unfold fn5_setFlow_b139B at hres
  refine am_iload cx 3 dX5_setFlow_139 rfl ?_
  refine am_aload_n cx 1 dX5_setFlow_141 rfl ?_
  obtain ⟨q1, hres⟩ := am_ck_some hres
  refine am_getI cx dX5_setFlow_142 flX5_72 (am_ke q1) ?_
  refine am_icmp_ge cx (tgt := 199) dX5_setFlow_145 (by decide) (fun h => ?_) (fun h => ?_)
  · have hres := am_ifp h hres
    refine am_aload_n cx 1 dX5_setFlow_199 rfl ?_
    refine am_aload_n cx 1 dX5_setFlow_200 rfl ?_
    refine am_getJ cx dX5_setFlow_201 flX5_47 (am_ke q1) ?_
    refine am_iload_n cx 2 dX5_setFlow_204 rfl ?_
    refine am_i2l cx dX5_setFlow_205 ?_
    obtain ⟨q2, hres⟩ := am_ck_some hres
    refine am_ldiv cx dX5_setFlow_206 (of_decide_eq_true q2) ?_
    refine am_l2i cx dX5_setFlow_207 ?_
    refine am_putI cx dX5_setFlow_208 fpX5_85 (fun h => by cases h) (am_ke q1) ?_
    refine am_aload_n cx 1 dX5_setFlow_211 rfl ?_
    refine am_aload_n cx 1 dX5_setFlow_212 rfl ?_
    refine am_getR cx dX5_setFlow_213 flX5_69 (am_ke q1) ?_
    refine am_iconst cx (v := (0 : Int32)) dX5_setFlow_216 (by decide) ?_
    obtain ⟨q3, hres⟩ := am_ck_some hres
    obtain ⟨q4, hres⟩ := am_ck_some hres
    refine am_iald cx dX5_setFlow_217 (am_ke q3) q4 ?_
    refine am_putI cx dX5_setFlow_218 fpX5_88 (fun h => by cases h) (am_ke q1) ?_
    obtain ⟨-, rfl⟩ := am_fin hres
    exact am_vret cx dX5_setFlow_221
  · have hres := am_ifn h hres
    refine am_aload_n cx 1 dX5_setFlow_148 rfl ?_
    refine am_getR cx dX5_setFlow_149 flX5_75 (am_ke q1) ?_
    refine am_iload cx 3 dX5_setFlow_152 rfl ?_
    refine am_dup2 cx dX5_setFlow_154 rfl rfl ?_
    obtain ⟨q5, hres⟩ := am_ck_some hres
    obtain ⟨q6, hres⟩ := am_ck_some hres
    refine am_iald cx dX5_setFlow_155 (am_ke q5) q6 ?_
    refine am_iload_n cx 2 dX5_setFlow_156 rfl ?_
    obtain ⟨q7, hres⟩ := am_ck_some hres
    refine am_idiv cx dX5_setFlow_157 (of_decide_eq_true q7) ?_
    obtain ⟨q8, hres⟩ := am_ck_some hres
    refine am_iast cx dX5_setFlow_158 (am_ke q5) q8  ?_
    refine am_aload_n cx 0 dX5_setFlow_159 rfl ?_
    obtain ⟨q9, hres⟩ := am_ck_some hres
    refine am_getR cx dX5_setFlow_160 flX5_23 (am_ke q9) ?_
    refine am_iload cx 3 dX5_setFlow_163 rfl ?_
    refine am_aload_n cx 1 dX5_setFlow_165 rfl ?_
    refine am_getR cx dX5_setFlow_166 flX5_69 (am_ke q1) ?_
    refine am_aload_n cx 0 dX5_setFlow_169 rfl ?_
    refine am_getR cx dX5_setFlow_170 flX5_16 (am_ke q9) ?_
    refine am_iload cx 3 dX5_setFlow_173 rfl ?_
    obtain ⟨q10, hres⟩ := am_ck_some hres
    obtain ⟨q11, hres⟩ := am_ck_some hres
    refine am_iald cx dX5_setFlow_175 (am_ke q10) q11 ?_
    obtain ⟨q12, hres⟩ := am_ck_some hres
    obtain ⟨q13, hres⟩ := am_ck_some hres
    refine am_iald cx dX5_setFlow_176 (am_ke q12) q13 ?_
    refine am_aload_n cx 1 dX5_setFlow_177 rfl ?_
    refine am_getR cx dX5_setFlow_178 flX5_69 (am_ke q1) ?_
    refine am_aload_n cx 0 dX5_setFlow_181 rfl ?_
    refine am_getR cx dX5_setFlow_182 flX5_20 (am_ke q9) ?_
    refine am_iload cx 3 dX5_setFlow_185 rfl ?_
    obtain ⟨q14, hres⟩ := am_ck_some hres
    obtain ⟨q15, hres⟩ := am_ck_some hres
    refine am_iald cx dX5_setFlow_187 (am_ke q14) q15 ?_
    obtain ⟨q16, hres⟩ := am_ck_some hres
    refine am_iald cx dX5_setFlow_188 (am_ke q12) q16 ?_
    refine am_mmax cx dX5_setFlow_189 aw_3_27 aw_3_28 aw_1_12 aw_3_29 (Nat.le_of_ble_eq_true rfl) (Nat.le_of_ble_eq_true rfl) (Nat.le_of_ble_eq_true rfl) (Nat.le_of_ble_eq_true rfl) ?_
    obtain ⟨q17, hres⟩ := am_ck_some hres
    obtain ⟨q18, hres⟩ := am_ck_some hres
    refine am_iast cx dX5_setFlow_192 (am_ke q17) q18  ?_
    refine am_iincw cx (lv' := [(0, .inr (.inr (.inl r0))), (1, .inr (.inr (.inl r1))), (3, .inl x3), (4, .inl (x4 + (1 : Int32)))]) (w := (1 : Int32)) 3 dX5_setFlow_193 (by decide) rfl (Nat.le_of_ble_eq_true rfl) rfl ?_
    refine am_goto cx (tgt := 139) dX5_setFlow_196 (by decide) ?_
    exact hk139 _ _ _ _ _ hres
set_option maxRecDepth 20000 in
theorem sn5_setFlow_b139 {l : Launch} {G : am_G} {M' : am_Mem} {N : Nat}  (cx : am_Ctx l rm5_setFlow yX5_setFlow cX5_setFlow 5 none none M' 0 0 G)  (i : Nat) : ∀ (r0 : Nat) (r1 : Nat) (x3 : Int32) (x4 : Int32) (M : am_Mem), fn5_setFlow_b139 N  i r0 r1 x3 x4 M = some ((), M') → G 139 [(0, .inr (.inr (.inl r0))), (1, .inr (.inr (.inl r1))), (3, .inl x3), (4, .inl x4)] [] M 0 0 := by
  induction i with
  | zero => intro r0 r1 x3 x4 M hres; exact am_no hres
  | succ i ih => intro r0 r1 x3 x4 M hres; exact sn5_setFlow_b139B cx ih hres
set_option maxRecDepth 20000 in
theorem sn5_setFlow_b110B {l : Launch} {G : am_G} {M' : am_Mem} {N : Nat} {k110 : Nat → Nat → Int32 → Int32 → am_Mem → Option (Unit × am_Mem)} (cx : am_Ctx l rm5_setFlow yX5_setFlow cX5_setFlow 5 none none M' 0 0 G) (hk110 : ∀ (r0 : Nat) (r1 : Nat) (x3 : Int32) (x4 : Int32) (M : am_Mem), k110 r0 r1 x3 x4 M = some ((), M') → G 110 [(0, .inr (.inr (.inl r0))), (1, .inr (.inr (.inl r1))), (3, .inl x3), (4, .inl x4)] [] M 0 0) {r0 : Nat} {r1 : Nat} {x3 : Int32} {x4 : Int32} {M : am_Mem} (hres : fn5_setFlow_b110B N k110 r0 r1 x3 x4 M = some ((), M')) : G 110 [(0, .inr (.inr (.inl r0))), (1, .inr (.inr (.inl r1))), (3, .inl x3), (4, .inl x4)] [] M 0 0 := by
  unfold fn5_setFlow_b110B at hres
  refine am_iload cx 3 dX5_setFlow_110 rfl ?_
  refine am_aload_n cx 1 dX5_setFlow_112 rfl ?_
  obtain ⟨q1, hres⟩ := am_ck_some hres
  refine am_getI cx dX5_setFlow_113 flX5_65 (am_ke q1) ?_
  refine am_icmp_ge cx (tgt := 136) dX5_setFlow_116 (by decide) (fun h => ?_) (fun h => ?_)
  · have hres := am_ifp h hres
    refine am_iconst cx (v := (0 : Int32)) dX5_setFlow_136 (by decide) ?_
    refine am_istore cx (lv' := [(0, .inr (.inr (.inl r0))), (1, .inr (.inr (.inl r1))), (3, .inl x3), (4, .inl (0 : Int32))]) dX5_setFlow_137 (Nat.le_of_ble_eq_true rfl) rfl ?_
    exact sn5_setFlow_b139 cx  N _ _ _ _ _ hres
  · have hres := am_ifn h hres
    refine am_aload_n cx 1 dX5_setFlow_119 rfl ?_
    refine am_getR cx dX5_setFlow_120 flX5_69 (am_ke q1) ?_
    refine am_iload cx 3 dX5_setFlow_123 rfl ?_
    refine am_dup2 cx dX5_setFlow_125 rfl rfl ?_
    obtain ⟨q2, hres⟩ := am_ck_some hres
    obtain ⟨q3, hres⟩ := am_ck_some hres
    refine am_iald cx dX5_setFlow_126 (am_ke q2) q3 ?_
    refine am_iload_n cx 2 dX5_setFlow_127 rfl ?_
    obtain ⟨q4, hres⟩ := am_ck_some hres
    refine am_idiv cx dX5_setFlow_128 (of_decide_eq_true q4) ?_
    obtain ⟨q5, hres⟩ := am_ck_some hres
    refine am_iast cx dX5_setFlow_129 (am_ke q2) q5  ?_
    refine am_iincw cx (lv' := [(0, .inr (.inr (.inl r0))), (1, .inr (.inr (.inl r1))), (3, .inl x3), (4, .inl (x4 + (1 : Int32)))]) (w := (1 : Int32)) 3 dX5_setFlow_130 (by decide) rfl (Nat.le_of_ble_eq_true rfl) rfl ?_
    refine am_goto cx (tgt := 110) dX5_setFlow_133 (by decide) ?_
    exact hk110 _ _ _ _ _ hres
set_option maxRecDepth 20000 in
theorem sn5_setFlow_b110 {l : Launch} {G : am_G} {M' : am_Mem} {N : Nat}  (cx : am_Ctx l rm5_setFlow yX5_setFlow cX5_setFlow 5 none none M' 0 0 G)  (i : Nat) : ∀ (r0 : Nat) (r1 : Nat) (x3 : Int32) (x4 : Int32) (M : am_Mem), fn5_setFlow_b110 N  i r0 r1 x3 x4 M = some ((), M') → G 110 [(0, .inr (.inr (.inl r0))), (1, .inr (.inr (.inl r1))), (3, .inl x3), (4, .inl x4)] [] M 0 0 := by
  induction i with
  | zero => intro r0 r1 x3 x4 M hres; exact am_no hres
  | succ i ih => intro r0 r1 x3 x4 M hres; exact sn5_setFlow_b110B cx ih hres
set_option maxRecDepth 20000 in
theorem sn5_setFlow_b40B {l : Launch} {G : am_G} {M' : am_Mem} {N : Nat} {k40 : Nat → Nat → Int32 → Int32 → am_Mem → Option (Unit × am_Mem)} (cx : am_Ctx l rm5_setFlow yX5_setFlow cX5_setFlow 5 none none M' 0 0 G) (hk40 : ∀ (r0 : Nat) (r1 : Nat) (x3 : Int32) (x4 : Int32) (M : am_Mem), k40 r0 r1 x3 x4 M = some ((), M') → G 40 [(0, .inr (.inr (.inl r0))), (1, .inr (.inr (.inl r1))), (3, .inl x3), (4, .inl x4)] [] M 0 0) {r0 : Nat} {r1 : Nat} {x3 : Int32} {x4 : Int32} {M : am_Mem} (hres : fn5_setFlow_b40B N k40 r0 r1 x3 x4 M = some ((), M')) : G 40 [(0, .inr (.inr (.inl r0))), (1, .inr (.inr (.inl r1))), (3, .inl x3), (4, .inl x4)] [] M 0 0 := by
  unfold fn5_setFlow_b40B at hres
  refine am_iload cx 3 dX5_setFlow_40 rfl ?_
  refine am_aload_n cx 1 dX5_setFlow_42 rfl ?_
  obtain ⟨q1, hres⟩ := am_ck_some hres
  refine am_getI cx dX5_setFlow_43 flX5_72 (am_ke q1) ?_
  refine am_icmp_ge cx (tgt := 102) dX5_setFlow_46 (by decide) (fun h => ?_) (fun h => ?_)
  · have hres := am_ifp h hres
    refine am_iload_n cx 2 dX5_setFlow_102 rfl ?_
    refine am_if_ne cx (tgt := 107) dX5_setFlow_103 (by decide) (fun h => ?_) (fun h => ?_)
    · have hres := am_ifn h hres
      refine am_iconst cx (v := (0 : Int32)) dX5_setFlow_107 (by decide) ?_
      refine am_istore cx (lv' := [(0, .inr (.inr (.inl r0))), (1, .inr (.inr (.inl r1))), (3, .inl x3), (4, .inl (0 : Int32))]) dX5_setFlow_108 (Nat.le_of_ble_eq_true rfl) rfl ?_
      exact sn5_setFlow_b110 cx  N _ _ _ _ _ hres
    · have hres := am_ifp h hres
      obtain ⟨-, rfl⟩ := am_fin hres
      exact am_vret cx dX5_setFlow_106
  · have hres := am_ifn h hres
    refine am_aload_n cx 1 dX5_setFlow_49 rfl ?_
    refine am_getR cx dX5_setFlow_50 flX5_75 (am_ke q1) ?_
    refine am_iload cx 3 dX5_setFlow_53 rfl ?_
    refine am_aload_n cx 1 dX5_setFlow_55 rfl ?_
    refine am_getR cx dX5_setFlow_56 flX5_69 (am_ke q1) ?_
    refine am_aload_n cx 0 dX5_setFlow_59 rfl ?_
    obtain ⟨q2, hres⟩ := am_ck_some hres
    refine am_getR cx dX5_setFlow_60 flX5_16 (am_ke q2) ?_
    refine am_iload cx 3 dX5_setFlow_63 rfl ?_
    obtain ⟨q3, hres⟩ := am_ck_some hres
    obtain ⟨q4, hres⟩ := am_ck_some hres
    refine am_iald cx dX5_setFlow_65 (am_ke q3) q4 ?_
    obtain ⟨q5, hres⟩ := am_ck_some hres
    obtain ⟨q6, hres⟩ := am_ck_some hres
    refine am_iald cx dX5_setFlow_66 (am_ke q5) q6 ?_
    refine am_aload_n cx 1 dX5_setFlow_67 rfl ?_
    refine am_getR cx dX5_setFlow_68 flX5_69 (am_ke q1) ?_
    refine am_aload_n cx 0 dX5_setFlow_71 rfl ?_
    refine am_getR cx dX5_setFlow_72 flX5_20 (am_ke q2) ?_
    refine am_iload cx 3 dX5_setFlow_75 rfl ?_
    obtain ⟨q7, hres⟩ := am_ck_some hres
    obtain ⟨q8, hres⟩ := am_ck_some hres
    refine am_iald cx dX5_setFlow_77 (am_ke q7) q8 ?_
    obtain ⟨q9, hres⟩ := am_ck_some hres
    refine am_iald cx dX5_setFlow_78 (am_ke q5) q9 ?_
    refine am_isub cx dX5_setFlow_79 ?_
    obtain ⟨q10, hres⟩ := am_ck_some hres
    obtain ⟨q11, hres⟩ := am_ck_some hres
    refine am_iast cx dX5_setFlow_80 (am_ke q10) q11  ?_
    refine am_iload_n cx 2 dX5_setFlow_81 rfl ?_
    refine am_aload_n cx 1 dX5_setFlow_82 rfl ?_
    refine am_getR cx dX5_setFlow_83 flX5_75 (am_ke q1) ?_
    refine am_iload cx 3 dX5_setFlow_86 rfl ?_
    obtain ⟨q12, hres⟩ := am_ck_some hres
    refine am_iald cx dX5_setFlow_88 (am_ke q10) q12 ?_
    refine am_mabs cx dX5_setFlow_89 aw_3_94 aw_3_95 aw_1_12 aw_3_96 (Nat.le_of_ble_eq_true rfl) (Nat.le_of_ble_eq_true rfl) (Nat.le_of_ble_eq_true rfl) (Nat.le_of_ble_eq_true rfl) ?_
    obtain ⟨v13, M14, q15, hres⟩ := am_bd_some hres
    refine am_callSN1 cx [.inl x3, .inl (if 0 ≤ (am_I (am_wI M (am_R M r1 3) x4.toNatClampNeg ((am_I M (am_R M r1 2) (am_I M (am_R M r0 1) x4.toNatClampNeg).toNatClampNeg) - (am_I M (am_R M r1 2) (am_I M (am_R M r0 2) x4.toNatClampNeg).toNatClampNeg))) (am_R M r1 3) x4.toNatClampNeg) then (am_I (am_wI M (am_R M r1 3) x4.toNatClampNeg ((am_I M (am_R M r1 2) (am_I M (am_R M r0 1) x4.toNatClampNeg).toNatClampNeg) - (am_I M (am_R M r1 2) (am_I M (am_R M r0 2) x4.toNatClampNeg).toNatClampNeg))) (am_R M r1 3) x4.toNatClampNeg) else 0 - (am_I (am_wI M (am_R M r1 3) x4.toNatClampNeg ((am_I M (am_R M r1 2) (am_I M (am_R M r0 1) x4.toNatClampNeg).toNatClampNeg) - (am_I M (am_R M r1 2) (am_I M (am_R M r0 2) x4.toNatClampNeg).toNatClampNeg))) (am_R M r1 3) x4.toNatClampNeg))] dX5_setFlow_92 csX5_82 (mt11_greatestDivisor q15)  ⟨rfl, rfl, Nat.le_of_ble_eq_true rfl, Nat.le_of_ble_eq_true rfl⟩ rfl (Nat.le_of_ble_eq_true rfl) ⟨Nat.le_of_ble_eq_true rfl, Nat.le_of_ble_eq_true rfl⟩ ?_
    refine am_istore_n cx (lv' := [(0, .inr (.inr (.inl r0))), (1, .inr (.inr (.inl r1))), (3, .inl v13), (4, .inl x4)]) dX5_setFlow_95 (Nat.le_of_ble_eq_true rfl) rfl ?_
    refine am_iincw cx (lv' := [(0, .inr (.inr (.inl r0))), (1, .inr (.inr (.inl r1))), (3, .inl v13), (4, .inl (x4 + (1 : Int32)))]) (w := (1 : Int32)) 3 dX5_setFlow_96 (by decide) rfl (Nat.le_of_ble_eq_true rfl) rfl ?_
    refine am_goto cx (tgt := 40) dX5_setFlow_99 (by decide) ?_
    exact hk40 _ _ _ _ _ hres
set_option maxRecDepth 20000 in
theorem sn5_setFlow_b40 {l : Launch} {G : am_G} {M' : am_Mem} {N : Nat}  (cx : am_Ctx l rm5_setFlow yX5_setFlow cX5_setFlow 5 none none M' 0 0 G)  (i : Nat) : ∀ (r0 : Nat) (r1 : Nat) (x3 : Int32) (x4 : Int32) (M : am_Mem), fn5_setFlow_b40 N  i r0 r1 x3 x4 M = some ((), M') → G 40 [(0, .inr (.inr (.inl r0))), (1, .inr (.inr (.inl r1))), (3, .inl x3), (4, .inl x4)] [] M 0 0 := by
  induction i with
  | zero => intro r0 r1 x3 x4 M hres; exact am_no hres
  | succ i ih => intro r0 r1 x3 x4 M hres; exact sn5_setFlow_b40B cx ih hres
set_option maxRecDepth 20000 in
theorem sn5_setFlow_b9B {l : Launch} {G : am_G} {M' : am_Mem} {N : Nat} {k9 : Nat → Nat → Int32 → Int32 → am_Mem → Option (Unit × am_Mem)} (cx : am_Ctx l rm5_setFlow yX5_setFlow cX5_setFlow 5 none none M' 0 0 G) (hk9 : ∀ (r0 : Nat) (r1 : Nat) (x2 : Int32) (x3 : Int32) (M : am_Mem), k9 r0 r1 x2 x3 M = some ((), M') → G 9 [(0, .inr (.inr (.inl r0))), (1, .inr (.inr (.inl r1))), (2, .inl x2), (3, .inl x3)] [] M 0 0) {r0 : Nat} {r1 : Nat} {x2 : Int32} {x3 : Int32} {M : am_Mem} (hres : fn5_setFlow_b9B N k9 r0 r1 x2 x3 M = some ((), M')) : G 9 [(0, .inr (.inr (.inl r0))), (1, .inr (.inr (.inl r1))), (2, .inl x2), (3, .inl x3)] [] M 0 0 := by
  unfold fn5_setFlow_b9B at hres
  refine am_iload_n cx 3 dX5_setFlow_9 rfl ?_
  refine am_iload_n cx 2 dX5_setFlow_10 rfl ?_
  refine am_icmp_ge cx (tgt := 35) dX5_setFlow_11 (by decide) (fun h => ?_) (fun h => ?_)
  · have hres := am_ifp h hres
    refine am_iconst cx (v := (0 : Int32)) dX5_setFlow_35 (by decide) ?_
    refine am_istore_n cx (lv' := [(0, .inr (.inr (.inl r0))), (1, .inr (.inr (.inl r1))), (2, .inl x2), (3, .inl (0 : Int32))]) dX5_setFlow_36 (Nat.le_of_ble_eq_true rfl) rfl ?_
    refine am_iconst cx (v := (0 : Int32)) dX5_setFlow_37 (by decide) ?_
    refine am_istore cx (lv' := [(0, .inr (.inr (.inl r0))), (1, .inr (.inr (.inl r1))), (2, .inl x2), (3, .inl (0 : Int32)), (4, .inl (0 : Int32))]) dX5_setFlow_38 (Nat.le_of_ble_eq_true rfl) rfl ?_
    refine am_sub cx [0, 1, 3, 4] rfl ?_
    exact sn5_setFlow_b40 cx  N _ _ _ _ _ hres
  · have hres := am_ifn h hres
    refine am_aload_n cx 1 dX5_setFlow_14 rfl ?_
    obtain ⟨q1, hres⟩ := am_ck_some hres
    refine am_getR cx dX5_setFlow_15 flX5_69 (am_ke q1) ?_
    refine am_iload_n cx 3 dX5_setFlow_18 rfl ?_
    refine am_aload_n cx 0 dX5_setFlow_19 rfl ?_
    obtain ⟨q2, hres⟩ := am_ck_some hres
    refine am_getR cx dX5_setFlow_20 flX5_11 (am_ke q2) ?_
    refine am_iload_n cx 3 dX5_setFlow_23 rfl ?_
    obtain ⟨q3, hres⟩ := am_ck_some hres
    obtain ⟨q4, hres⟩ := am_ck_some hres
    refine am_aald20 cx dX5_setFlow_24 (am_ke q3) q4 ?_
    refine am_iload_n cx 2 dX5_setFlow_25 rfl ?_
    obtain ⟨q5, hres⟩ := am_ck_some hres
    obtain ⟨q6, hres⟩ := am_ck_some hres
    refine am_lald cx dX5_setFlow_26 (am_ke q5) q6 ?_
    refine am_l2i cx dX5_setFlow_27 ?_
    obtain ⟨q7, hres⟩ := am_ck_some hres
    obtain ⟨q8, hres⟩ := am_ck_some hres
    refine am_iast cx dX5_setFlow_28 (am_ke q7) q8  ?_
    refine am_iincw cx (lv' := [(0, .inr (.inr (.inl r0))), (1, .inr (.inr (.inl r1))), (2, .inl x2), (3, .inl (x3 + (1 : Int32)))]) (w := (1 : Int32)) 3 dX5_setFlow_29 (by decide) rfl (Nat.le_of_ble_eq_true rfl) rfl ?_
    refine am_goto cx (tgt := 9) dX5_setFlow_32 (by decide) ?_
    exact hk9 _ _ _ _ _ hres
set_option maxRecDepth 20000 in
theorem sn5_setFlow_b9 {l : Launch} {G : am_G} {M' : am_Mem} {N : Nat}  (cx : am_Ctx l rm5_setFlow yX5_setFlow cX5_setFlow 5 none none M' 0 0 G)  (i : Nat) : ∀ (r0 : Nat) (r1 : Nat) (x2 : Int32) (x3 : Int32) (M : am_Mem), fn5_setFlow_b9 N  i r0 r1 x2 x3 M = some ((), M') → G 9 [(0, .inr (.inr (.inl r0))), (1, .inr (.inr (.inl r1))), (2, .inl x2), (3, .inl x3)] [] M 0 0 := by
  induction i with
  | zero => intro r0 r1 x2 x3 M hres; exact am_no hres
  | succ i ih => intro r0 r1 x2 x3 M hres; exact sn5_setFlow_b9B cx ih hres
set_option maxRecDepth 20000 in
theorem sn5_setFlow_b7 {l : Launch} {G : am_G} {M' : am_Mem} {N : Nat}  (cx : am_Ctx l rm5_setFlow yX5_setFlow cX5_setFlow 5 none none M' 0 0 G)  {r0 : Nat} {r1 : Nat} {x2 : Int32} {M : am_Mem} (hres : fn5_setFlow_b7 N  r0 r1 x2 M = some ((), M')) : G 7 [(0, .inr (.inr (.inl r0))), (1, .inr (.inr (.inl r1))), (2, .inl x2)] [] M 0 0 := by
  unfold fn5_setFlow_b7 at hres
  refine am_iconst cx (v := (0 : Int32)) dX5_setFlow_7 (by decide) ?_
  refine am_istore_n cx (lv' := [(0, .inr (.inr (.inl r0))), (1, .inr (.inr (.inl r1))), (2, .inl x2), (3, .inl (0 : Int32))]) dX5_setFlow_8 (Nat.le_of_ble_eq_true rfl) rfl ?_
  exact sn5_setFlow_b9 cx  N _ _ _ _ _ hres
set_option maxRecDepth 20000 in
theorem sn5_setFlow_b0 {l : Launch} {G : am_G} {M' : am_Mem} {N : Nat}  (cx : am_Ctx l rm5_setFlow yX5_setFlow cX5_setFlow 5 none none M' 0 0 G)  {r0 : Nat} {r1 : Nat} {M : am_Mem} (hres : fn5_setFlow_b0 N  r0 r1 M = some ((), M')) : G 0 [(0, .inr (.inr (.inl r0))), (1, .inr (.inr (.inl r1)))] [] M 0 0 := by
  unfold fn5_setFlow_b0 at hres
  refine am_aload_n cx 1 dX5_setFlow_0 rfl ?_
  obtain ⟨q1, hres⟩ := am_ck_some hres
  refine am_getI cx dX5_setFlow_1 flX5_65 (am_ke q1) ?_
  refine am_iconst cx (v := (1 : Int32)) dX5_setFlow_4 (by decide) ?_
  refine am_isub cx dX5_setFlow_5 ?_
  refine am_istore_n cx (lv' := [(0, .inr (.inr (.inl r0))), (1, .inr (.inr (.inl r1))), (2, .inl ((am_I M r1 0) - (1 : Int32)))]) dX5_setFlow_6 (Nat.le_of_ble_eq_true rfl) rfl ?_
  exact sn5_setFlow_b7 cx  hres
set_option maxRecDepth 20000 in
theorem mt5_setFlow {l : Launch} {M M' : am_Mem} {N : Nat} {r0 : Nat} {r1 : Nat} (h : fn5_setFlow N M r0 r1 = some ((), M')) : am_Met l yX5_setFlow cX5_setFlow 5 none rm5_setFlow 0 0 [.inr (.inr (.inl r0)), .inr (.inr (.inl r1))] M none M' := am_mk (by decide) (Nat.le_of_ble_eq_true rfl) (fun G cx => (sn5_setFlow_b0 cx h))
-- SquareCuts$Outline.lay
def fn6_lay_b60 (N : Nat)   (M : am_Mem) : Option (Unit × am_Mem) :=
  some ((), M)
def fn6_lay_b7 (N : Nat)  (r0 : Nat) (x1 : Int32) (x2 : Int32) (M : am_Mem) : Option (Unit × am_Mem) :=
  am_ck (am_k M r0 6) (am_ck (am_k M (am_R M r0 0) 14) (am_ck (am_in (am_I M r0 2) (am_L M (am_R M r0 0))) (if (am_I M (am_R M r0 0) (am_I M r0 2).toNatClampNeg) ≤ x2 then am_ck (am_k M (am_R M r0 1) 14) (am_ck (am_in (am_I M r0 2) (am_L M (am_R M r0 1))) (am_ck (am_in (am_I M r0 2) (am_L M (am_R M r0 1))) (am_bd (fn6_mergePieces N (am_wI M (am_R M r0 1) (am_I M r0 2).toNatClampNeg ((am_I M (am_R M r0 1) (am_I M r0 2).toNatClampNeg) + x1)) r0) (fun v7 M8 => am_ck (am_k M8 r0 6) (am_bd (fn6_findNotch N M8 r0) (fun v11 M12 => fn6_lay_b60 N   M12)))))) else am_ck (am_k M (am_R M r0 1) 14) (am_ck (am_in (am_I M r0 2) (am_L M (am_R M r0 1))) (am_bd (fn6_splitNotch N M r0 x2 ((am_I M (am_R M r0 1) (am_I M r0 2).toNatClampNeg) + x1)) (fun v16 M17 => fn6_lay_b60 N   M17))))))
def fn6_lay_b0 (N : Nat)  (r0 : Nat) (x1 : Int32) (M : am_Mem) : Option (Unit × am_Mem) :=
  am_ck (am_k M r0 6) (am_bd (fn6_notchLeft M r0) (fun v2 M3 => fn6_lay_b7 N  r0 x1 (v2 + x1) M3))
def fn6_lay (N : Nat) (M : am_Mem) (r0 : Nat) (x1 : Int32) : Option (Unit × am_Mem) := fn6_lay_b0 N r0 x1 M
def rm6_lay : Room := { frames := 1, cells := 0, slots := 0, locals := 23 }
set_option maxRecDepth 20000 in
theorem sn6_lay_b60 {l : Launch} {G : am_G} {M' : am_Mem} {N : Nat}  (cx : am_Ctx l rm6_lay yX6_lay cX6_lay 3 none none M' 0 0 G)   {M : am_Mem} (hres : fn6_lay_b60 N   M = some ((), M')) : G 60 [] [] M 0 0 := by
  unfold fn6_lay_b60 at hres
  obtain ⟨-, rfl⟩ := am_fin hres
  exact am_vret cx dX6_lay_60
set_option maxRecDepth 20000 in
theorem sn6_lay_b7 {l : Launch} {G : am_G} {M' : am_Mem} {N : Nat}  (cx : am_Ctx l rm6_lay yX6_lay cX6_lay 3 none none M' 0 0 G)  {r0 : Nat} {x1 : Int32} {x2 : Int32} {M : am_Mem} (hres : fn6_lay_b7 N  r0 x1 x2 M = some ((), M')) : G 7 [(0, .inr (.inr (.inl r0))), (1, .inl x1), (2, .inl x2)] [] M 0 0 := by
  unfold fn6_lay_b7 at hres
  refine am_iload_n cx 2 dX6_lay_7 rfl ?_
  refine am_aload_n cx 0 dX6_lay_8 rfl ?_
  obtain ⟨q1, hres⟩ := am_ck_some hres
  refine am_getR cx dX6_lay_9 flX6_7 (am_ke q1) ?_
  refine am_aload_n cx 0 dX6_lay_12 rfl ?_
  refine am_getI cx dX6_lay_13 flX6_20 (am_ke q1) ?_
  obtain ⟨q2, hres⟩ := am_ck_some hres
  obtain ⟨q3, hres⟩ := am_ck_some hres
  refine am_iald cx dX6_lay_16 (am_ke q2) q3 ?_
  refine am_icmp_ge cx (tgt := 39) dX6_lay_17 (by decide) (fun h => ?_) (fun h => ?_)
  · have hres := am_ifp h hres
    refine am_aload_n cx 0 dX6_lay_39 rfl ?_
    refine am_getR cx dX6_lay_40 flX6_13 (am_ke q1) ?_
    refine am_aload_n cx 0 dX6_lay_43 rfl ?_
    refine am_getI cx dX6_lay_44 flX6_20 (am_ke q1) ?_
    refine am_dup2 cx dX6_lay_47 rfl rfl ?_
    obtain ⟨q4, hres⟩ := am_ck_some hres
    obtain ⟨q5, hres⟩ := am_ck_some hres
    refine am_iald cx dX6_lay_48 (am_ke q4) q5 ?_
    refine am_iload_n cx 1 dX6_lay_49 rfl ?_
    refine am_iadd cx dX6_lay_50 ?_
    obtain ⟨q6, hres⟩ := am_ck_some hres
    refine am_iast cx dX6_lay_51 (am_ke q4) q6  ?_
    refine am_aload_n cx 0 dX6_lay_52 rfl ?_
    obtain ⟨v7, M8, q9, hres⟩ := am_bd_some hres
    refine am_callV0 cx [] dX6_lay_53 cvX6_43 (mt6_mergePieces q9) (am_ke q1) ⟨rfl, rfl, Nat.le_of_ble_eq_true rfl, Nat.le_of_ble_eq_true rfl⟩ rfl (Nat.le_of_ble_eq_true rfl) ⟨Nat.le_of_ble_eq_true rfl, Nat.le_of_ble_eq_true rfl⟩ ?_
    refine am_aload_n cx 0 dX6_lay_56 rfl ?_
    obtain ⟨q10, hres⟩ := am_ck_some hres
    obtain ⟨v11, M12, q13, hres⟩ := am_bd_some hres
    refine am_callV0 cx [] dX6_lay_57 cvX6_46 (mt6_findNotch q13) (am_ke q10) ⟨rfl, rfl, Nat.le_of_ble_eq_true rfl, Nat.le_of_ble_eq_true rfl⟩ rfl (Nat.le_of_ble_eq_true rfl) ⟨Nat.le_of_ble_eq_true rfl, Nat.le_of_ble_eq_true rfl⟩ ?_
    refine am_sub cx [] rfl ?_
    exact sn6_lay_b60 cx  hres
  · have hres := am_ifn h hres
    refine am_aload_n cx 0 dX6_lay_20 rfl ?_
    refine am_iload_n cx 2 dX6_lay_21 rfl ?_
    refine am_aload_n cx 0 dX6_lay_22 rfl ?_
    refine am_getR cx dX6_lay_23 flX6_13 (am_ke q1) ?_
    refine am_aload_n cx 0 dX6_lay_26 rfl ?_
    refine am_getI cx dX6_lay_27 flX6_20 (am_ke q1) ?_
    obtain ⟨q14, hres⟩ := am_ck_some hres
    obtain ⟨q15, hres⟩ := am_ck_some hres
    refine am_iald cx dX6_lay_30 (am_ke q14) q15 ?_
    refine am_iload_n cx 1 dX6_lay_31 rfl ?_
    refine am_iadd cx dX6_lay_32 ?_
    obtain ⟨v16, M17, q18, hres⟩ := am_bd_some hres
    refine am_callV0 cx [.inl x2, .inl ((am_I M (am_R M r0 1) (am_I M r0 2).toNatClampNeg) + x1)] dX6_lay_33 cvX6_39 (mt6_splitNotch q18) (am_ke q1) ⟨rfl, rfl, Nat.le_of_ble_eq_true rfl, Nat.le_of_ble_eq_true rfl⟩ rfl (Nat.le_of_ble_eq_true rfl) ⟨Nat.le_of_ble_eq_true rfl, Nat.le_of_ble_eq_true rfl⟩ ?_
    refine am_goto cx (tgt := 60) dX6_lay_36 (by decide) ?_
    refine am_sub cx [] rfl ?_
    exact sn6_lay_b60 cx  hres
set_option maxRecDepth 20000 in
theorem sn6_lay_b0 {l : Launch} {G : am_G} {M' : am_Mem} {N : Nat}  (cx : am_Ctx l rm6_lay yX6_lay cX6_lay 3 none none M' 0 0 G)  {r0 : Nat} {x1 : Int32} {M : am_Mem} (hres : fn6_lay_b0 N  r0 x1 M = some ((), M')) : G 0 [(0, .inr (.inr (.inl r0))), (1, .inl x1)] [] M 0 0 := by
  unfold fn6_lay_b0 at hres
  refine am_aload_n cx 0 dX6_lay_0 rfl ?_
  obtain ⟨q1, hres⟩ := am_ck_some hres
  obtain ⟨v2, M3, q4, hres⟩ := am_bd_some hres
  refine am_callV1 cx [] dX6_lay_1 cvX6_35 (mt6_notchLeft q4) (am_ke q1) ⟨rfl, rfl, Nat.le_of_ble_eq_true rfl, Nat.le_of_ble_eq_true rfl⟩ rfl (Nat.le_of_ble_eq_true rfl) ⟨Nat.le_of_ble_eq_true rfl, Nat.le_of_ble_eq_true rfl⟩ ?_
  refine am_iload_n cx 1 dX6_lay_4 rfl ?_
  refine am_iadd cx dX6_lay_5 ?_
  refine am_istore_n cx (lv' := [(0, .inr (.inr (.inl r0))), (1, .inl x1), (2, .inl (v2 + x1))]) dX6_lay_6 (Nat.le_of_ble_eq_true rfl) rfl ?_
  exact sn6_lay_b7 cx  hres
set_option maxRecDepth 20000 in
theorem mt6_lay {l : Launch} {M M' : am_Mem} {N : Nat} {r0 : Nat} {x1 : Int32} (h : fn6_lay N M r0 x1 = some ((), M')) : am_Met l yX6_lay cX6_lay 3 none rm6_lay 0 0 [.inr (.inr (.inl r0)), .inl x1] M none M' := am_mk (by decide) (Nat.le_of_ble_eq_true rfl) (fun G cx => (sn6_lay_b0 cx h))
