-- SquareCuts$NetLayer.search
def fn4_search_b140 (N : Nat)  (r0 : Nat) (r1 : Nat) (r3 : Nat) (x4 : Int32) (M : am_Mem) : Option (Int32 × am_Mem) :=
  am_ck (am_k M r0 4) (if (am_I M r0 4) ≤ x4 then am_bd (fn4_fillDraft N M r0 r1 r3) (fun v2 M3 => some ((1 : Int32), M3)) else some ((0 : Int32), M))
def fn4_search_b134 (N : Nat) (k27 : Nat → Nat → Nat → Nat → Int32 → Int32 → Int32 → am_Mem → Option (Int32 × am_Mem)) (r0 : Nat) (r1 : Nat) (r2 : Nat) (r3 : Nat) (x4 : Int32) (x5 : Int32) (x6 : Int32) (M : am_Mem) : Option (Int32 × am_Mem) :=
  k27 r0 r1 r2 r3 x4 x5 (x6 + (1 : Int32)) M
def fn4_search_b27B (N : Nat) (k27 : Nat → Nat → Nat → Nat → Int32 → Int32 → Int32 → am_Mem → Option (Int32 × am_Mem)) (r0 : Nat) (r1 : Nat) (r2 : Nat) (r3 : Nat) (x4 : Int32) (x5 : Int32) (x6 : Int32) (M : am_Mem) : Option (Int32 × am_Mem) :=
  if (40002 : Int32) ≤ x6 then fn4_search_b140 N  r0 r1 r3 x4 M else am_ck (am_k M r0 4) (if (am_I M r0 4) ≤ x4 then fn4_search_b140 N  r0 r1 r3 x4 M else am_bd (fn4_nextFitting N M r0 r1 r2 x4 x5) (fun v2 M3 => if v2 = (-1 : Int32) then if x4 = 0 then some ((0 : Int32), M3) else am_ck (am_k M3 r0 4) (am_ck (am_k M3 (am_R M3 r0 2) 14) (am_ck (am_in (x4 + (-1 : Int32)) (am_L M3 (am_R M3 r0 2))) (am_ck (am_k M3 (am_R M3 r0 3) 16) (am_ck (am_in (am_I M3 (am_R M3 r0 2) (x4 + (-1 : Int32)).toNatClampNeg) (am_L M3 (am_R M3 r0 3))) (am_ck (am_in (x4 + (-1 : Int32)) (am_L M3 (am_R M3 r0 2))) (fn4_search_b134 N k27 r0 r1 r2 r3 (x4 + (-1 : Int32)) ((am_I (am_wI M3 (am_R M3 r0 3) (am_I M3 (am_R M3 r0 2) (x4 + (-1 : Int32)).toNatClampNeg).toNatClampNeg ((0 : Int32) &&& 1)) (am_R M3 r0 2) (x4 + (-1 : Int32)).toNatClampNeg) + (1 : Int32)) x6 (am_wI M3 (am_R M3 r0 3) (am_I M3 (am_R M3 r0 2) (x4 + (-1 : Int32)).toNatClampNeg).toNatClampNeg ((0 : Int32) &&& 1)))))))) else am_ck (am_k M3 r1 3) (if (am_I M3 r1 7) < (20000 : Int32) then am_ck (am_k M3 r0 4) (am_bd (fn4_layWire N (am_wI M3 r1 7 ((am_I M3 r1 7) + (1 : Int32))) r0 v2 x4) (fun v13 M14 => fn4_search_b134 N k27 r0 r1 r2 r3 (x4 + (1 : Int32)) (0 : Int32) x6 M14)) else some ((0 : Int32), M3))))
def fn4_search_b27 (N : Nat)  : Nat → Nat → Nat → Nat → Nat → Int32 → Int32 → Int32 → am_Mem → Option (Int32 × am_Mem)
  | 0 => fun _ _ _ _ _ _ _ _ => none
  | i + 1 => fn4_search_b27B N (fn4_search_b27 N  i)
def fn4_search_b0 (N : Nat)  (r0 : Nat) (r1 : Nat) (r2 : Nat) (r3 : Nat) (M : am_Mem) : Option (Int32 × am_Mem) :=
  am_ck (am_k M r0 4) (am_bd (fn4_takeSizes N M r0 r1) (fun v2 M3 => am_ck (am_k M3 r0 4) (am_ck (am_k M3 (am_R M3 r0 0) 17) (am_ck (am_in (0 : Int32) (am_L M3 (am_R M3 r0 0))) (am_ck (am_k M3 r1 3) (am_ck (am_k M3 (am_R M3 (am_R M3 r0 0) (0 : Int32).toNatClampNeg) 6) (am_bd (fn6_open M3 (am_R M3 (am_R M3 r0 0) (0 : Int32).toNatClampNeg) (am_I M3 r1 5)) (fun v10 M11 => fn4_search_b27 N  N r0 r1 r2 r3 (0 : Int32) (0 : Int32) (0 : Int32) M11))))))))
def fn4_search (N : Nat) (M : am_Mem) (r0 : Nat) (r1 : Nat) (r2 : Nat) (r3 : Nat) : Option (Int32 × am_Mem) := fn4_search_b0 N r0 r1 r2 r3 M
def rm4_search : Room := { frames := 3, cells := 0, slots := 0, locals := 103 }
set_option maxRecDepth 20000 in
theorem sn4_search_b140 {l : Launch} {G : am_G} {v : Int32} {M' : am_Mem} {N : Nat}  (cx : am_Ctx l rm4_search yX4_search cX4_search 8 (some .boolean) (some (.inl v)) M' 0 0 G)  {r0 : Nat} {r1 : Nat} {r3 : Nat} {x4 : Int32} {M : am_Mem} (hres : fn4_search_b140 N  r0 r1 r3 x4 M = some (v, M')) : G 140 [(0, .inr (.inr (.inl r0))), (1, .inr (.inr (.inl r1))), (3, .inr (.inr (.inl r3))), (4, .inl x4)] [] M 0 0 := by
  unfold fn4_search_b140 at hres
  refine am_iload cx 3 dX4_search_140 rfl ?_
  refine am_aload_n cx 0 dX4_search_142 rfl ?_
  obtain ⟨q1, hres⟩ := am_ck_some hres
  refine am_getI cx dX4_search_143 flX4_45 (am_ke q1) ?_
  refine am_icmp_ge cx (tgt := 151) dX4_search_146 (by decide) (fun h => ?_) (fun h => ?_)
  · have hres := am_ifp h hres
    refine am_aload_n cx 0 dX4_search_151 rfl ?_
    refine am_aload_n cx 1 dX4_search_152 rfl ?_
    refine am_aload_n cx 2 dX4_search_153 rfl ?_
    obtain ⟨v2, M3, q4, hres⟩ := am_bd_some hres
    refine am_callV0 cx [.inr (.inr (.inl r1)), .inr (.inr (.inl r3))] dX4_search_154 cvX4_59 (mt4_fillDraft q4) (am_ke q1) ⟨rfl, rfl, Nat.le_of_ble_eq_true rfl, Nat.le_of_ble_eq_true rfl⟩ rfl (Nat.le_of_ble_eq_true rfl) ⟨Nat.le_of_ble_eq_true rfl, Nat.le_of_ble_eq_true rfl⟩ ?_
    refine am_iconst cx (v := (1 : Int32)) dX4_search_157 (by decide) ?_
    obtain ⟨rfl, rfl⟩ := am_fin hres
    exact am_zret cx rfl dX4_search_158
  · have hres := am_ifn h hres
    refine am_iconst cx (v := (0 : Int32)) dX4_search_149 (by decide) ?_
    obtain ⟨rfl, rfl⟩ := am_fin hres
    exact am_zret cx rfl dX4_search_150
set_option maxRecDepth 20000 in
theorem sn4_search_b134 {l : Launch} {G : am_G} {v : Int32} {M' : am_Mem} {N : Nat} {k27 : Nat → Nat → Nat → Nat → Int32 → Int32 → Int32 → am_Mem → Option (Int32 × am_Mem)} (cx : am_Ctx l rm4_search yX4_search cX4_search 8 (some .boolean) (some (.inl v)) M' 0 0 G) (hk27 : ∀ (r0 : Nat) (r1 : Nat) (r2 : Nat) (r3 : Nat) (x4 : Int32) (x5 : Int32) (x6 : Int32) (M : am_Mem), k27 r0 r1 r2 r3 x4 x5 x6 M = some (v, M') → G 27 [(0, .inr (.inr (.inl r0))), (1, .inr (.inr (.inl r1))), (2, .inr (.inr (.inl r2))), (3, .inr (.inr (.inl r3))), (4, .inl x4), (5, .inl x5), (6, .inl x6)] [] M 0 0) {r0 : Nat} {r1 : Nat} {r2 : Nat} {r3 : Nat} {x4 : Int32} {x5 : Int32} {x6 : Int32} {M : am_Mem} (hres : fn4_search_b134 N k27 r0 r1 r2 r3 x4 x5 x6 M = some (v, M')) : G 134 [(0, .inr (.inr (.inl r0))), (1, .inr (.inr (.inl r1))), (2, .inr (.inr (.inl r2))), (3, .inr (.inr (.inl r3))), (4, .inl x4), (5, .inl x5), (6, .inl x6)] [] M 0 0 := by
  unfold fn4_search_b134 at hres
  refine am_iincw cx (lv' := [(0, .inr (.inr (.inl r0))), (1, .inr (.inr (.inl r1))), (2, .inr (.inr (.inl r2))), (3, .inr (.inr (.inl r3))), (4, .inl x4), (5, .inl x5), (6, .inl (x6 + (1 : Int32)))]) (w := (1 : Int32)) 6 dX4_search_134 (by decide) rfl (Nat.le_of_ble_eq_true rfl) rfl ?_
  refine am_goto cx (tgt := 27) dX4_search_137 (by decide) ?_
  exact hk27 _ _ _ _ _ _ _ _ hres
set_option maxRecDepth 20000 in
theorem sn4_search_b27B {l : Launch} {G : am_G} {v : Int32} {M' : am_Mem} {N : Nat} {k27 : Nat → Nat → Nat → Nat → Int32 → Int32 → Int32 → am_Mem → Option (Int32 × am_Mem)} (cx : am_Ctx l rm4_search yX4_search cX4_search 8 (some .boolean) (some (.inl v)) M' 0 0 G) (hk27 : ∀ (r0 : Nat) (r1 : Nat) (r2 : Nat) (r3 : Nat) (x4 : Int32) (x5 : Int32) (x6 : Int32) (M : am_Mem), k27 r0 r1 r2 r3 x4 x5 x6 M = some (v, M') → G 27 [(0, .inr (.inr (.inl r0))), (1, .inr (.inr (.inl r1))), (2, .inr (.inr (.inl r2))), (3, .inr (.inr (.inl r3))), (4, .inl x4), (5, .inl x5), (6, .inl x6)] [] M 0 0) {r0 : Nat} {r1 : Nat} {r2 : Nat} {r3 : Nat} {x4 : Int32} {x5 : Int32} {x6 : Int32} {M : am_Mem} (hres : fn4_search_b27B N k27 r0 r1 r2 r3 x4 x5 x6 M = some (v, M')) : G 27 [(0, .inr (.inr (.inl r0))), (1, .inr (.inr (.inl r1))), (2, .inr (.inr (.inl r2))), (3, .inr (.inr (.inl r3))), (4, .inl x4), (5, .inl x5), (6, .inl x6)] [] M 0 0 := by
  unfold fn4_search_b27B at hres
  refine am_iload cx 6 dX4_search_27 rfl ?_
  refine am_ldc cx dX4_search_29 aw_3_112 ?_
  refine am_icmp_ge cx (tgt := 140) dX4_search_31 (by decide) (fun h => ?_) (fun h => ?_)
  · have hres := am_ifp h hres
    refine am_sub cx [0, 1, 3, 4] rfl ?_
    exact sn4_search_b140 cx  hres
  · have hres := am_ifn h hres
    refine am_iload cx 4 dX4_search_34 rfl ?_
    refine am_aload_n cx 0 dX4_search_36 rfl ?_
    obtain ⟨q1, hres⟩ := am_ck_some hres
    refine am_getI cx dX4_search_37 flX4_45 (am_ke q1) ?_
    refine am_icmp_ge cx (tgt := 140) dX4_search_40 (by decide) (fun h => ?_) (fun h => ?_)
    · have hres := am_ifp h hres
      refine am_sub cx [0, 1, 3, 4] rfl ?_
      exact sn4_search_b140 cx  hres
    · have hres := am_ifn h hres
      refine am_aload_n cx 0 dX4_search_43 rfl ?_
      refine am_aload_n cx 1 dX4_search_44 rfl ?_
      refine am_aload_n cx 2 dX4_search_45 rfl ?_
      refine am_iload cx 4 dX4_search_46 rfl ?_
      refine am_iload cx 5 dX4_search_48 rfl ?_
      obtain ⟨v2, M3, q4, hres⟩ := am_bd_some hres
      refine am_callV1 cx [.inr (.inr (.inl r1)), .inr (.inr (.inl r2)), .inl x4, .inl x5] dX4_search_50 cvX4_48 (mt4_nextFitting q4) (am_ke q1) ⟨rfl, rfl, Nat.le_of_ble_eq_true rfl, Nat.le_of_ble_eq_true rfl⟩ rfl (Nat.le_of_ble_eq_true rfl) ⟨Nat.le_of_ble_eq_true rfl, Nat.le_of_ble_eq_true rfl⟩ ?_
      refine am_istore cx (lv' := [(0, .inr (.inr (.inl r0))), (1, .inr (.inr (.inl r1))), (2, .inr (.inr (.inl r2))), (3, .inr (.inr (.inl r3))), (4, .inl x4), (5, .inl x5), (6, .inl x6), (7, .inl v2)]) dX4_search_53 (Nat.le_of_ble_eq_true rfl) rfl ?_
      refine am_iload cx 7 dX4_search_55 rfl ?_
      refine am_iconst cx (v := (-1 : Int32)) dX4_search_57 (by decide) ?_
      refine am_icmp_eq cx (tgt := 100) dX4_search_58 (by decide) (fun h => ?_) (fun h => ?_)
      · have hres := am_ifp h hres
        refine am_iload cx 4 dX4_search_100 rfl ?_
        refine am_if_ne cx (tgt := 107) dX4_search_102 (by decide) (fun h => ?_) (fun h => ?_)
        · have hres := am_ifn h hres
          refine am_iincw cx (lv' := [(0, .inr (.inr (.inl r0))), (1, .inr (.inr (.inl r1))), (2, .inr (.inr (.inl r2))), (3, .inr (.inr (.inl r3))), (4, .inl (x4 + (-1 : Int32))), (5, .inl x5), (6, .inl x6), (7, .inl v2)]) (w := (-1 : Int32)) 4 dX4_search_107 (by decide) rfl (Nat.le_of_ble_eq_true rfl) rfl ?_
          refine am_aload_n cx 0 dX4_search_110 rfl ?_
          obtain ⟨q5, hres⟩ := am_ck_some hres
          refine am_getR cx dX4_search_111 flX4_24 (am_ke q5) ?_
          refine am_aload_n cx 0 dX4_search_114 rfl ?_
          refine am_getR cx dX4_search_115 flX4_21 (am_ke q5) ?_
          refine am_iload cx 4 dX4_search_118 rfl ?_
          obtain ⟨q6, hres⟩ := am_ck_some hres
          obtain ⟨q7, hres⟩ := am_ck_some hres
          refine am_iald cx dX4_search_120 (am_ke q6) q7 ?_
          refine am_iconst cx (v := (0 : Int32)) dX4_search_121 (by decide) ?_
          obtain ⟨q8, hres⟩ := am_ck_some hres
          obtain ⟨q9, hres⟩ := am_ck_some hres
          refine am_zast cx dX4_search_122 (am_ke q8) q9  ?_
          refine am_aload_n cx 0 dX4_search_123 rfl ?_
          refine am_getR cx dX4_search_124 flX4_21 (am_ke q5) ?_
          refine am_iload cx 4 dX4_search_127 rfl ?_
          obtain ⟨q10, hres⟩ := am_ck_some hres
          refine am_iald cx dX4_search_129 (am_ke q6) q10 ?_
          refine am_iconst cx (v := (1 : Int32)) dX4_search_130 (by decide) ?_
          refine am_iadd cx dX4_search_131 ?_
          refine am_istore cx (lv' := [(0, .inr (.inr (.inl r0))), (1, .inr (.inr (.inl r1))), (2, .inr (.inr (.inl r2))), (3, .inr (.inr (.inl r3))), (4, .inl (x4 + (-1 : Int32))), (5, .inl ((am_I (am_wI M3 (am_R M3 r0 3) (am_I M3 (am_R M3 r0 2) (x4 + (-1 : Int32)).toNatClampNeg).toNatClampNeg ((0 : Int32) &&& 1)) (am_R M3 r0 2) (x4 + (-1 : Int32)).toNatClampNeg) + (1 : Int32))), (6, .inl x6), (7, .inl v2)]) dX4_search_132 (Nat.le_of_ble_eq_true rfl) rfl ?_
          refine am_sub cx [0, 1, 2, 3, 4, 5, 6] rfl ?_
          exact sn4_search_b134 cx hk27 hres
        · have hres := am_ifp h hres
          refine am_iconst cx (v := (0 : Int32)) dX4_search_105 (by decide) ?_
          obtain ⟨rfl, rfl⟩ := am_fin hres
          exact am_zret cx rfl dX4_search_106
      · have hres := am_ifn h hres
        refine am_aload_n cx 1 dX4_search_61 rfl ?_
        obtain ⟨q11, hres⟩ := am_ck_some hres
        refine am_getI cx dX4_search_62 flX4_52 (am_ke q11) ?_
        refine am_sipush cx (v := (20000 : Int32)) dX4_search_65 (by decide) ?_
        refine am_icmp_lt cx (tgt := 73) dX4_search_68 (by decide) (fun h => ?_) (fun h => ?_)
        · have hres := am_ifp h hres
          refine am_aload_n cx 1 dX4_search_73 rfl ?_
          refine am_dup cx dX4_search_74 rfl ?_
          refine am_getI cx dX4_search_75 flX4_52 (am_ke q11) ?_
          refine am_iconst cx (v := (1 : Int32)) dX4_search_78 (by decide) ?_
          refine am_iadd cx dX4_search_79 ?_
          refine am_putI cx dX4_search_80 fpX4_52 (fun h => by cases h) (am_ke q11) ?_
          refine am_aload_n cx 0 dX4_search_83 rfl ?_
          refine am_iload cx 7 dX4_search_84 rfl ?_
          refine am_iload cx 4 dX4_search_86 rfl ?_
          obtain ⟨q12, hres⟩ := am_ck_some hres
          obtain ⟨v13, M14, q15, hres⟩ := am_bd_some hres
          refine am_callV0 cx [.inl v2, .inl x4] dX4_search_88 cvX4_55 (mt4_layWire q15) (am_ke q12) ⟨rfl, rfl, Nat.le_of_ble_eq_true rfl, Nat.le_of_ble_eq_true rfl⟩ rfl (Nat.le_of_ble_eq_true rfl) ⟨Nat.le_of_ble_eq_true rfl, Nat.le_of_ble_eq_true rfl⟩ ?_
          refine am_iincw cx (lv' := [(0, .inr (.inr (.inl r0))), (1, .inr (.inr (.inl r1))), (2, .inr (.inr (.inl r2))), (3, .inr (.inr (.inl r3))), (4, .inl (x4 + (1 : Int32))), (5, .inl x5), (6, .inl x6), (7, .inl v2)]) (w := (1 : Int32)) 4 dX4_search_91 (by decide) rfl (Nat.le_of_ble_eq_true rfl) rfl ?_
          refine am_iconst cx (v := (0 : Int32)) dX4_search_94 (by decide) ?_
          refine am_istore cx (lv' := [(0, .inr (.inr (.inl r0))), (1, .inr (.inr (.inl r1))), (2, .inr (.inr (.inl r2))), (3, .inr (.inr (.inl r3))), (4, .inl (x4 + (1 : Int32))), (5, .inl (0 : Int32)), (6, .inl x6), (7, .inl v2)]) dX4_search_95 (Nat.le_of_ble_eq_true rfl) rfl ?_
          refine am_goto cx (tgt := 134) dX4_search_97 (by decide) ?_
          refine am_sub cx [0, 1, 2, 3, 4, 5, 6] rfl ?_
          exact sn4_search_b134 cx hk27 hres
        · have hres := am_ifn h hres
          refine am_iconst cx (v := (0 : Int32)) dX4_search_71 (by decide) ?_
          obtain ⟨rfl, rfl⟩ := am_fin hres
          exact am_zret cx rfl dX4_search_72
set_option maxRecDepth 20000 in
theorem sn4_search_b27 {l : Launch} {G : am_G} {v : Int32} {M' : am_Mem} {N : Nat}  (cx : am_Ctx l rm4_search yX4_search cX4_search 8 (some .boolean) (some (.inl v)) M' 0 0 G)  (i : Nat) : ∀ (r0 : Nat) (r1 : Nat) (r2 : Nat) (r3 : Nat) (x4 : Int32) (x5 : Int32) (x6 : Int32) (M : am_Mem), fn4_search_b27 N  i r0 r1 r2 r3 x4 x5 x6 M = some (v, M') → G 27 [(0, .inr (.inr (.inl r0))), (1, .inr (.inr (.inl r1))), (2, .inr (.inr (.inl r2))), (3, .inr (.inr (.inl r3))), (4, .inl x4), (5, .inl x5), (6, .inl x6)] [] M 0 0 := by
  induction i with
  | zero => intro r0 r1 r2 r3 x4 x5 x6 M hres; exact am_no hres
  | succ i ih => intro r0 r1 r2 r3 x4 x5 x6 M hres; exact sn4_search_b27B cx ih hres
set_option maxRecDepth 20000 in
theorem sn4_search_b0 {l : Launch} {G : am_G} {v : Int32} {M' : am_Mem} {N : Nat}  (cx : am_Ctx l rm4_search yX4_search cX4_search 8 (some .boolean) (some (.inl v)) M' 0 0 G)  {r0 : Nat} {r1 : Nat} {r2 : Nat} {r3 : Nat} {M : am_Mem} (hres : fn4_search_b0 N  r0 r1 r2 r3 M = some (v, M')) : G 0 [(0, .inr (.inr (.inl r0))), (1, .inr (.inr (.inl r1))), (2, .inr (.inr (.inl r2))), (3, .inr (.inr (.inl r3)))] [] M 0 0 := by
  unfold fn4_search_b0 at hres
  refine am_aload_n cx 0 dX4_search_0 rfl ?_
  refine am_aload_n cx 1 dX4_search_1 rfl ?_
  obtain ⟨q1, hres⟩ := am_ck_some hres
  obtain ⟨v2, M3, q4, hres⟩ := am_bd_some hres
  refine am_callV0 cx [.inr (.inr (.inl r1))] dX4_search_2 cvX4_31 (mt4_takeSizes q4) (am_ke q1) ⟨rfl, rfl, Nat.le_of_ble_eq_true rfl, Nat.le_of_ble_eq_true rfl⟩ rfl (Nat.le_of_ble_eq_true rfl) ⟨Nat.le_of_ble_eq_true rfl, Nat.le_of_ble_eq_true rfl⟩ ?_
  refine am_aload_n cx 0 dX4_search_5 rfl ?_
  obtain ⟨q5, hres⟩ := am_ck_some hres
  refine am_getR cx dX4_search_6 flX4_11 (am_ke q5) ?_
  refine am_iconst cx (v := (0 : Int32)) dX4_search_9 (by decide) ?_
  obtain ⟨q6, hres⟩ := am_ck_some hres
  obtain ⟨q7, hres⟩ := am_ck_some hres
  refine am_aald17 cx dX4_search_10 (am_ke q6) q7 ?_
  refine am_aload_n cx 1 dX4_search_11 rfl ?_
  obtain ⟨q8, hres⟩ := am_ck_some hres
  refine am_getI cx dX4_search_12 flX4_35 (am_ke q8) ?_
  obtain ⟨q9, hres⟩ := am_ck_some hres
  obtain ⟨v10, M11, q12, hres⟩ := am_bd_some hres
  refine am_callV0 cx [.inl (am_I M3 r1 5)] dX4_search_15 cvX4_41 (mt6_open q12) (am_ke q9) ⟨rfl, rfl, Nat.le_of_ble_eq_true rfl, Nat.le_of_ble_eq_true rfl⟩ rfl (Nat.le_of_ble_eq_true rfl) ⟨Nat.le_of_ble_eq_true rfl, Nat.le_of_ble_eq_true rfl⟩ ?_
  refine am_iconst cx (v := (0 : Int32)) dX4_search_18 (by decide) ?_
  refine am_istore cx (lv' := [(0, .inr (.inr (.inl r0))), (1, .inr (.inr (.inl r1))), (2, .inr (.inr (.inl r2))), (3, .inr (.inr (.inl r3))), (4, .inl (0 : Int32))]) dX4_search_19 (Nat.le_of_ble_eq_true rfl) rfl ?_
  refine am_iconst cx (v := (0 : Int32)) dX4_search_21 (by decide) ?_
  refine am_istore cx (lv' := [(0, .inr (.inr (.inl r0))), (1, .inr (.inr (.inl r1))), (2, .inr (.inr (.inl r2))), (3, .inr (.inr (.inl r3))), (4, .inl (0 : Int32)), (5, .inl (0 : Int32))]) dX4_search_22 (Nat.le_of_ble_eq_true rfl) rfl ?_
  refine am_iconst cx (v := (0 : Int32)) dX4_search_24 (by decide) ?_
  refine am_istore cx (lv' := [(0, .inr (.inr (.inl r0))), (1, .inr (.inr (.inl r1))), (2, .inr (.inr (.inl r2))), (3, .inr (.inr (.inl r3))), (4, .inl (0 : Int32)), (5, .inl (0 : Int32)), (6, .inl (0 : Int32))]) dX4_search_25 (Nat.le_of_ble_eq_true rfl) rfl ?_
  exact sn4_search_b27 cx  N _ _ _ _ _ _ _ _ hres
set_option maxRecDepth 20000 in
theorem mt4_search {l : Launch} {v : Int32} {M M' : am_Mem} {N : Nat} {r0 : Nat} {r1 : Nat} {r2 : Nat} {r3 : Nat} (h : fn4_search N M r0 r1 r2 r3 = some (v, M')) : am_Met l yX4_search cX4_search 8 (some .boolean) rm4_search 0 0 [.inr (.inr (.inl r0)), .inr (.inr (.inl r1)), .inr (.inr (.inl r2)), .inr (.inr (.inl r3))] M (some (.inl v)) M' := am_mk (by decide) (Nat.le_of_ble_eq_true rfl) (fun G cx => (sn4_search_b0 cx h))
-- SquareCuts$Reader.readGroups
def fn8_readGroups_b48 (N : Nat)   (M : am_Mem) : Option (Int32 × am_Mem) :=
  some ((0 : Int32), M)
def fn8_readGroups_b16B (N : Nat) (k16 : Nat → Int32 → am_Mem → Option (Int32 × am_Mem)) (r0 : Nat) (x1 : Int32) (M : am_Mem) : Option (Int32 × am_Mem) :=
  if (24 : Int32) < x1 then fn8_readGroups_b48 N   M else am_ck (am_k M r0 8) (if (am_I M r0 3) = (3 : Int32) then am_bd (fn8_readGroup N M r0 x1) (fun v2 M3 => if v2 = 0 then k16 r0 (x1 + (1 : Int32)) M3 else some (v2, M3)) else fn8_readGroups_b48 N   M)
def fn8_readGroups_b16 (N : Nat)  : Nat → Nat → Int32 → am_Mem → Option (Int32 × am_Mem)
  | 0 => fun _ _ _ => none
  | i + 1 => fn8_readGroups_b16B N (fn8_readGroups_b16 N  i)
def fn8_readGroups_b0 (N : Nat)  (r0 : Nat) (M : am_Mem) : Option (Int32 × am_Mem) :=
  am_ck (am_k M r0 8) (if (am_I M r0 3) = (3 : Int32) then fn8_readGroups_b16 N  N r0 (0 : Int32) M else am_bd (fn8_faultOf M r0 (1 : Int32)) (fun v2 M3 => some (v2, M3)))
def fn8_readGroups (N : Nat) (M : am_Mem) (r0 : Nat) : Option (Int32 × am_Mem) := fn8_readGroups_b0 N r0 M
def rm8_readGroups : Room := { frames := 3, cells := 0, slots := 0, locals := 62 }
set_option maxRecDepth 20000 in
theorem sn8_readGroups_b48 {l : Launch} {G : am_G} {v : Int32} {M' : am_Mem} {N : Nat}  (cx : am_Ctx l rm8_readGroups yX8_readGroups cX8_readGroups 3 (some .int) (some (.inl v)) M' 0 0 G)   {M : am_Mem} (hres : fn8_readGroups_b48 N   M = some (v, M')) : G 48 [] [] M 0 0 := by
  unfold fn8_readGroups_b48 at hres
  refine am_iconst cx (v := (0 : Int32)) dX8_readGroups_48 (by decide) ?_
  obtain ⟨rfl, rfl⟩ := am_fin hres
  exact am_iret cx dX8_readGroups_49
set_option maxRecDepth 20000 in
theorem sn8_readGroups_b16B {l : Launch} {G : am_G} {v : Int32} {M' : am_Mem} {N : Nat} {k16 : Nat → Int32 → am_Mem → Option (Int32 × am_Mem)} (cx : am_Ctx l rm8_readGroups yX8_readGroups cX8_readGroups 3 (some .int) (some (.inl v)) M' 0 0 G) (hk16 : ∀ (r0 : Nat) (x1 : Int32) (M : am_Mem), k16 r0 x1 M = some (v, M') → G 16 [(0, .inr (.inr (.inl r0))), (1, .inl x1)] [] M 0 0) {r0 : Nat} {x1 : Int32} {M : am_Mem} (hres : fn8_readGroups_b16B N k16 r0 x1 M = some (v, M')) : G 16 [(0, .inr (.inr (.inl r0))), (1, .inl x1)] [] M 0 0 := by
  unfold fn8_readGroups_b16B at hres
  refine am_iload_n cx 1 dX8_readGroups_16 rfl ?_
  refine am_bipush cx (v := (24 : Int32)) dX8_readGroups_17 (by decide) ?_
  refine am_icmp_gt cx (tgt := 48) dX8_readGroups_19 (by decide) (fun h => ?_) (fun h => ?_)
  · have hres := am_ifp h hres
    refine am_sub cx [] rfl ?_
    exact sn8_readGroups_b48 cx  hres
  · have hres := am_ifn h hres
    refine am_aload_n cx 0 dX8_readGroups_22 rfl ?_
    obtain ⟨q1, hres⟩ := am_ck_some hres
    refine am_getI cx dX8_readGroups_23 flX8_57 (am_ke q1) ?_
    refine am_iconst cx (v := (3 : Int32)) dX8_readGroups_26 (by decide) ?_
    refine am_icmp_ne cx (tgt := 48) dX8_readGroups_27 (by decide) (fun h => ?_) (fun h => ?_)
    · have hres := am_ifn h hres
      refine am_sub cx [] rfl ?_
      exact sn8_readGroups_b48 cx  hres
    · have hres := am_ifp h hres
      refine am_aload_n cx 0 dX8_readGroups_30 rfl ?_
      refine am_iload_n cx 1 dX8_readGroups_31 rfl ?_
      obtain ⟨v2, M3, q4, hres⟩ := am_bd_some hres
      refine am_callV1 cx [.inl x1] dX8_readGroups_32 cvX8_90 (mt8_readGroup q4) (am_ke q1) ⟨rfl, rfl, Nat.le_of_ble_eq_true rfl, Nat.le_of_ble_eq_true rfl⟩ rfl (Nat.le_of_ble_eq_true rfl) ⟨Nat.le_of_ble_eq_true rfl, Nat.le_of_ble_eq_true rfl⟩ ?_
      refine am_istore_n cx (lv' := [(0, .inr (.inr (.inl r0))), (1, .inl x1), (2, .inl v2)]) dX8_readGroups_35 (Nat.le_of_ble_eq_true rfl) rfl ?_
      refine am_iload_n cx 2 dX8_readGroups_36 rfl ?_
      refine am_if_eq cx (tgt := 42) dX8_readGroups_37 (by decide) (fun h => ?_) (fun h => ?_)
      · have hres := am_ifp h hres
        refine am_iincw cx (lv' := [(0, .inr (.inr (.inl r0))), (1, .inl (x1 + (1 : Int32))), (2, .inl v2)]) (w := (1 : Int32)) 1 dX8_readGroups_42 (by decide) rfl (Nat.le_of_ble_eq_true rfl) rfl ?_
        refine am_goto cx (tgt := 16) dX8_readGroups_45 (by decide) ?_
        refine am_sub cx [0, 1] rfl ?_
        exact hk16 _ _ _ hres
      · have hres := am_ifn h hres
        refine am_iload_n cx 2 dX8_readGroups_40 rfl ?_
        obtain ⟨rfl, rfl⟩ := am_fin hres
        exact am_iret cx dX8_readGroups_41
set_option maxRecDepth 20000 in
theorem sn8_readGroups_b16 {l : Launch} {G : am_G} {v : Int32} {M' : am_Mem} {N : Nat}  (cx : am_Ctx l rm8_readGroups yX8_readGroups cX8_readGroups 3 (some .int) (some (.inl v)) M' 0 0 G)  (i : Nat) : ∀ (r0 : Nat) (x1 : Int32) (M : am_Mem), fn8_readGroups_b16 N  i r0 x1 M = some (v, M') → G 16 [(0, .inr (.inr (.inl r0))), (1, .inl x1)] [] M 0 0 := by
  induction i with
  | zero => intro r0 x1 M hres; exact am_no hres
  | succ i ih => intro r0 x1 M hres; exact sn8_readGroups_b16B cx ih hres
set_option maxRecDepth 20000 in
theorem sn8_readGroups_b0 {l : Launch} {G : am_G} {v : Int32} {M' : am_Mem} {N : Nat}  (cx : am_Ctx l rm8_readGroups yX8_readGroups cX8_readGroups 3 (some .int) (some (.inl v)) M' 0 0 G)  {r0 : Nat} {M : am_Mem} (hres : fn8_readGroups_b0 N  r0 M = some (v, M')) : G 0 [(0, .inr (.inr (.inl r0)))] [] M 0 0 := by
  unfold fn8_readGroups_b0 at hres
  refine am_aload_n cx 0 dX8_readGroups_0 rfl ?_
  obtain ⟨q1, hres⟩ := am_ck_some hres
  refine am_getI cx dX8_readGroups_1 flX8_57 (am_ke q1) ?_
  refine am_iconst cx (v := (3 : Int32)) dX8_readGroups_4 (by decide) ?_
  refine am_icmp_eq cx (tgt := 14) dX8_readGroups_5 (by decide) (fun h => ?_) (fun h => ?_)
  · have hres := am_ifp h hres
    refine am_iconst cx (v := (0 : Int32)) dX8_readGroups_14 (by decide) ?_
    refine am_istore_n cx (lv' := [(0, .inr (.inr (.inl r0))), (1, .inl (0 : Int32))]) dX8_readGroups_15 (Nat.le_of_ble_eq_true rfl) rfl ?_
    exact sn8_readGroups_b16 cx  N _ _ _ hres
  · have hres := am_ifn h hres
    refine am_aload_n cx 0 dX8_readGroups_8 rfl ?_
    refine am_iconst cx (v := (1 : Int32)) dX8_readGroups_9 (by decide) ?_
    obtain ⟨v2, M3, q4, hres⟩ := am_bd_some hres
    refine am_callV1 cx [.inl (1 : Int32)] dX8_readGroups_10 cvX8_72 (mt8_faultOf q4) (am_ke q1) ⟨rfl, rfl, Nat.le_of_ble_eq_true rfl, Nat.le_of_ble_eq_true rfl⟩ rfl (Nat.le_of_ble_eq_true rfl) ⟨Nat.le_of_ble_eq_true rfl, Nat.le_of_ble_eq_true rfl⟩ ?_
    obtain ⟨rfl, rfl⟩ := am_fin hres
    exact am_iret cx dX8_readGroups_13
set_option maxRecDepth 20000 in
theorem mt8_readGroups {l : Launch} {v : Int32} {M M' : am_Mem} {N : Nat} {r0 : Nat} (h : fn8_readGroups N M r0 = some (v, M')) : am_Met l yX8_readGroups cX8_readGroups 3 (some .int) rm8_readGroups 0 0 [.inr (.inr (.inl r0))] M (some (.inl v)) M' := am_mk (by decide) (Nat.le_of_ble_eq_true rfl) (fun G cx => (sn8_readGroups_b0 cx h))
-- SquareCuts$Reader.readNet
def fn8_readNet_b36 (N : Nat)  (r0 : Nat) (M : am_Mem) : Option (Int32 × am_Mem) :=
  am_ck (am_k M r0 8) (am_bd (fn8_faultOf M r0 (3 : Int32)) (fun v2 M3 => some (v2, M3)))
def fn8_readNet_b93 (N : Nat)   (M : am_Mem) : Option (Int32 × am_Mem) :=
  some ((0 : Int32), M)
def fn8_readNet_b57B (N : Nat) (k57 : Nat → Int64 → Int32 → am_Mem → Option (Int32 × am_Mem)) (r0 : Nat) (j1 : Int64) (x3 : Int32) (M : am_Mem) : Option (Int32 × am_Mem) :=
  if (14 : Int32) < x3 then fn8_readNet_b93 N   M else am_ck (am_k M r0 8) (if (am_I M r0 3) = (2 : Int32) then am_bd (fn8_readWire N M r0 x3 j1) (fun v2 M3 => if v2 = 0 then k57 r0 j1 (x3 + (1 : Int32)) M3 else some (v2, M3)) else fn8_readNet_b93 N   M)
def fn8_readNet_b57 (N : Nat)  : Nat → Nat → Int64 → Int32 → am_Mem → Option (Int32 × am_Mem)
  | 0 => fun _ _ _ _ => none
  | i + 1 => fn8_readNet_b57B N (fn8_readNet_b57 N  i)
def fn8_readNet_b47 (N : Nat)  (r0 : Nat) (j1 : Int64) (M : am_Mem) : Option (Int32 × am_Mem) :=
  am_ck (am_k M r0 8) (am_bd (fn8_holdValue M r0) (fun v2 M3 => am_ck (am_k M3 r0 8) (am_bd (fn8_nextToken N M3 r0) (fun v6 M7 => fn8_readNet_b57 N  N r0 j1 (0 : Int32) M7))))
def fn8_readNet_b0 (N : Nat)  (r0 : Nat) (M : am_Mem) : Option (Int32 × am_Mem) :=
  am_ck (am_k M r0 8) (if (am_I M r0 3) = (2 : Int32) then if (lg_cmp (am_J M r0 5) (2 : Int64)) < 0 then fn8_readNet_b36 N  r0 M else if (lg_cmp (am_J M r0 5) (9 : Int64)) ≤ 0 then fn8_readNet_b47 N  r0 (am_J M r0 5) M else fn8_readNet_b36 N  r0 M else am_bd (fn8_faultOf M r0 (1 : Int32)) (fun v2 M3 => some (v2, M3)))
def fn8_readNet (N : Nat) (M : am_Mem) (r0 : Nat) : Option (Int32 × am_Mem) := fn8_readNet_b0 N r0 M
def rm8_readNet : Room := { frames := 3, cells := 0, slots := 0, locals := 65 }
set_option maxRecDepth 20000 in
theorem sn8_readNet_b36 {l : Launch} {G : am_G} {v : Int32} {M' : am_Mem} {N : Nat}  (cx : am_Ctx l rm8_readNet yX8_readNet cX8_readNet 5 (some .int) (some (.inl v)) M' 0 0 G)  {r0 : Nat} {M : am_Mem} (hres : fn8_readNet_b36 N  r0 M = some (v, M')) : G 36 [(0, .inr (.inr (.inl r0)))] [] M 0 0 := by
  unfold fn8_readNet_b36 at hres
  refine am_aload_n cx 0 dX8_readNet_36 rfl ?_
  refine am_iconst cx (v := (3 : Int32)) dX8_readNet_37 (by decide) ?_
  obtain ⟨q1, hres⟩ := am_ck_some hres
  obtain ⟨v2, M3, q4, hres⟩ := am_bd_some hres
  refine am_callV1 cx [.inl (3 : Int32)] dX8_readNet_38 cvX8_72 (mt8_faultOf q4) (am_ke q1) ⟨rfl, rfl, Nat.le_of_ble_eq_true rfl, Nat.le_of_ble_eq_true rfl⟩ rfl (Nat.le_of_ble_eq_true rfl) ⟨Nat.le_of_ble_eq_true rfl, Nat.le_of_ble_eq_true rfl⟩ ?_
  obtain ⟨rfl, rfl⟩ := am_fin hres
  exact am_iret cx dX8_readNet_41
set_option maxRecDepth 20000 in
theorem sn8_readNet_b93 {l : Launch} {G : am_G} {v : Int32} {M' : am_Mem} {N : Nat}  (cx : am_Ctx l rm8_readNet yX8_readNet cX8_readNet 5 (some .int) (some (.inl v)) M' 0 0 G)   {M : am_Mem} (hres : fn8_readNet_b93 N   M = some (v, M')) : G 93 [] [] M 0 0 := by
  unfold fn8_readNet_b93 at hres
  refine am_iconst cx (v := (0 : Int32)) dX8_readNet_93 (by decide) ?_
  obtain ⟨rfl, rfl⟩ := am_fin hres
  exact am_iret cx dX8_readNet_94
set_option maxRecDepth 20000 in
theorem sn8_readNet_b57B {l : Launch} {G : am_G} {v : Int32} {M' : am_Mem} {N : Nat} {k57 : Nat → Int64 → Int32 → am_Mem → Option (Int32 × am_Mem)} (cx : am_Ctx l rm8_readNet yX8_readNet cX8_readNet 5 (some .int) (some (.inl v)) M' 0 0 G) (hk57 : ∀ (r0 : Nat) (j1 : Int64) (x3 : Int32) (M : am_Mem), k57 r0 j1 x3 M = some (v, M') → G 57 [(0, .inr (.inr (.inl r0))), (1, .inr (.inl j1)), (3, .inl x3)] [] M 0 0) {r0 : Nat} {j1 : Int64} {x3 : Int32} {M : am_Mem} (hres : fn8_readNet_b57B N k57 r0 j1 x3 M = some (v, M')) : G 57 [(0, .inr (.inr (.inl r0))), (1, .inr (.inl j1)), (3, .inl x3)] [] M 0 0 := by
  unfold fn8_readNet_b57B at hres
  refine am_iload_n cx 2 dX8_readNet_57 rfl ?_
  refine am_bipush cx (v := (14 : Int32)) dX8_readNet_58 (by decide) ?_
  refine am_icmp_gt cx (tgt := 93) dX8_readNet_60 (by decide) (fun h => ?_) (fun h => ?_)
  · have hres := am_ifp h hres
    refine am_sub cx [] rfl ?_
    exact sn8_readNet_b93 cx  hres
  · have hres := am_ifn h hres
    refine am_aload_n cx 0 dX8_readNet_63 rfl ?_
    obtain ⟨q1, hres⟩ := am_ck_some hres
    refine am_getI cx dX8_readNet_64 flX8_57 (am_ke q1) ?_
    refine am_iconst cx (v := (2 : Int32)) dX8_readNet_67 (by decide) ?_
    refine am_icmp_ne cx (tgt := 93) dX8_readNet_68 (by decide) (fun h => ?_) (fun h => ?_)
    · have hres := am_ifn h hres
      refine am_sub cx [] rfl ?_
      exact sn8_readNet_b93 cx  hres
    · have hres := am_ifp h hres
      refine am_aload_n cx 0 dX8_readNet_71 rfl ?_
      refine am_iload_n cx 2 dX8_readNet_72 rfl ?_
      refine am_lload_n cx 1 dX8_readNet_73 rfl ?_
      obtain ⟨v2, M3, q4, hres⟩ := am_bd_some hres
      refine am_callV1 cx [.inl x3, .inr (.inl j1)] dX8_readNet_74 cvX8_100 (mt8_readWire q4) (am_ke q1) ⟨rfl, rfl, Nat.le_of_ble_eq_true rfl, Nat.le_of_ble_eq_true rfl⟩ rfl (Nat.le_of_ble_eq_true rfl) ⟨Nat.le_of_ble_eq_true rfl, Nat.le_of_ble_eq_true rfl⟩ ?_
      refine am_istore cx (lv' := [(0, .inr (.inr (.inl r0))), (1, .inr (.inl j1)), (3, .inl x3), (4, .inl v2)]) dX8_readNet_77 (Nat.le_of_ble_eq_true rfl) rfl ?_
      refine am_iload cx 3 dX8_readNet_79 rfl ?_
      refine am_if_eq cx (tgt := 87) dX8_readNet_81 (by decide) (fun h => ?_) (fun h => ?_)
      · have hres := am_ifp h hres
        refine am_iincw cx (lv' := [(0, .inr (.inr (.inl r0))), (1, .inr (.inl j1)), (3, .inl (x3 + (1 : Int32))), (4, .inl v2)]) (w := (1 : Int32)) 2 dX8_readNet_87 (by decide) rfl (Nat.le_of_ble_eq_true rfl) rfl ?_
        refine am_goto cx (tgt := 57) dX8_readNet_90 (by decide) ?_
        refine am_sub cx [0, 1, 2] rfl ?_
        exact hk57 _ _ _ _ hres
      · have hres := am_ifn h hres
        refine am_iload cx 3 dX8_readNet_84 rfl ?_
        obtain ⟨rfl, rfl⟩ := am_fin hres
        exact am_iret cx dX8_readNet_86
set_option maxRecDepth 20000 in
theorem sn8_readNet_b57 {l : Launch} {G : am_G} {v : Int32} {M' : am_Mem} {N : Nat}  (cx : am_Ctx l rm8_readNet yX8_readNet cX8_readNet 5 (some .int) (some (.inl v)) M' 0 0 G)  (i : Nat) : ∀ (r0 : Nat) (j1 : Int64) (x3 : Int32) (M : am_Mem), fn8_readNet_b57 N  i r0 j1 x3 M = some (v, M') → G 57 [(0, .inr (.inr (.inl r0))), (1, .inr (.inl j1)), (3, .inl x3)] [] M 0 0 := by
  induction i with
  | zero => intro r0 j1 x3 M hres; exact am_no hres
  | succ i ih => intro r0 j1 x3 M hres; exact sn8_readNet_b57B cx ih hres
set_option maxRecDepth 20000 in
theorem sn8_readNet_b47 {l : Launch} {G : am_G} {v : Int32} {M' : am_Mem} {N : Nat}  (cx : am_Ctx l rm8_readNet yX8_readNet cX8_readNet 5 (some .int) (some (.inl v)) M' 0 0 G)  {r0 : Nat} {j1 : Int64} {M : am_Mem} (hres : fn8_readNet_b47 N  r0 j1 M = some (v, M')) : G 47 [(0, .inr (.inr (.inl r0))), (1, .inr (.inl j1))] [] M 0 0 := by
  unfold fn8_readNet_b47 at hres
  refine am_aload_n cx 0 dX8_readNet_47 rfl ?_
  obtain ⟨q1, hres⟩ := am_ck_some hres
  obtain ⟨v2, M3, q4, hres⟩ := am_bd_some hres
  refine am_callV0 cx [] dX8_readNet_48 cvX8_93 (mt8_holdValue q4) (am_ke q1) ⟨rfl, rfl, Nat.le_of_ble_eq_true rfl, Nat.le_of_ble_eq_true rfl⟩ rfl (Nat.le_of_ble_eq_true rfl) ⟨Nat.le_of_ble_eq_true rfl, Nat.le_of_ble_eq_true rfl⟩ ?_
  refine am_aload_n cx 0 dX8_readNet_51 rfl ?_
  obtain ⟨q5, hres⟩ := am_ck_some hres
  obtain ⟨v6, M7, q8, hres⟩ := am_bd_some hres
  refine am_callV0 cx [] dX8_readNet_52 cvX8_54 (mt8_nextToken q8) (am_ke q5) ⟨rfl, rfl, Nat.le_of_ble_eq_true rfl, Nat.le_of_ble_eq_true rfl⟩ rfl (Nat.le_of_ble_eq_true rfl) ⟨Nat.le_of_ble_eq_true rfl, Nat.le_of_ble_eq_true rfl⟩ ?_
  refine am_iconst cx (v := (0 : Int32)) dX8_readNet_55 (by decide) ?_
  refine am_istore_n cx (lv' := [(0, .inr (.inr (.inl r0))), (1, .inr (.inl j1)), (3, .inl (0 : Int32))]) dX8_readNet_56 (Nat.le_of_ble_eq_true rfl) rfl ?_
  exact sn8_readNet_b57 cx  N _ _ _ _ hres
set_option maxRecDepth 20000 in
theorem sn8_readNet_b0 {l : Launch} {G : am_G} {v : Int32} {M' : am_Mem} {N : Nat}  (cx : am_Ctx l rm8_readNet yX8_readNet cX8_readNet 5 (some .int) (some (.inl v)) M' 0 0 G)  {r0 : Nat} {M : am_Mem} (hres : fn8_readNet_b0 N  r0 M = some (v, M')) : G 0 [(0, .inr (.inr (.inl r0)))] [] M 0 0 := by
  unfold fn8_readNet_b0 at hres
  refine am_aload_n cx 0 dX8_readNet_0 rfl ?_
  obtain ⟨q1, hres⟩ := am_ck_some hres
  refine am_getI cx dX8_readNet_1 flX8_57 (am_ke q1) ?_
  refine am_iconst cx (v := (2 : Int32)) dX8_readNet_4 (by decide) ?_
  refine am_icmp_eq cx (tgt := 14) dX8_readNet_5 (by decide) (fun h => ?_) (fun h => ?_)
  · have hres := am_ifp h hres
    refine am_aload_n cx 0 dX8_readNet_14 rfl ?_
    refine am_getJ cx dX8_readNet_15 flX8_80 (am_ke q1) ?_
    refine am_ldc2 cx dX8_readNet_18 aw_2_128 ?_
    refine am_lcmp cx dX8_readNet_21 ?_
    refine am_if_lt cx (tgt := 36) dX8_readNet_22 (by decide) (fun h => ?_) (fun h => ?_)
    · have hres := am_ifp h hres
      exact sn8_readNet_b36 cx  hres
    · have hres := am_ifn h hres
      refine am_aload_n cx 0 dX8_readNet_25 rfl ?_
      refine am_getJ cx dX8_readNet_26 flX8_80 (am_ke q1) ?_
      refine am_ldc2 cx dX8_readNet_29 aw_2_129 ?_
      refine am_lcmp cx dX8_readNet_32 ?_
      refine am_if_le cx (tgt := 42) dX8_readNet_33 (by decide) (fun h => ?_) (fun h => ?_)
      · have hres := am_ifp h hres
        refine am_aload_n cx 0 dX8_readNet_42 rfl ?_
        refine am_getJ cx dX8_readNet_43 flX8_80 (am_ke q1) ?_
        refine am_lstore_n cx (lv' := [(0, .inr (.inr (.inl r0))), (1, .inr (.inl (am_J M r0 5)))]) dX8_readNet_46 (Nat.le_of_ble_eq_true rfl) rfl ?_
        exact sn8_readNet_b47 cx  hres
      · have hres := am_ifn h hres
        exact sn8_readNet_b36 cx  hres
  · have hres := am_ifn h hres
    refine am_aload_n cx 0 dX8_readNet_8 rfl ?_
    refine am_iconst cx (v := (1 : Int32)) dX8_readNet_9 (by decide) ?_
    obtain ⟨v2, M3, q4, hres⟩ := am_bd_some hres
    refine am_callV1 cx [.inl (1 : Int32)] dX8_readNet_10 cvX8_72 (mt8_faultOf q4) (am_ke q1) ⟨rfl, rfl, Nat.le_of_ble_eq_true rfl, Nat.le_of_ble_eq_true rfl⟩ rfl (Nat.le_of_ble_eq_true rfl) ⟨Nat.le_of_ble_eq_true rfl, Nat.le_of_ble_eq_true rfl⟩ ?_
    obtain ⟨rfl, rfl⟩ := am_fin hres
    exact am_iret cx dX8_readNet_13
set_option maxRecDepth 20000 in
theorem mt8_readNet {l : Launch} {v : Int32} {M M' : am_Mem} {N : Nat} {r0 : Nat} (h : fn8_readNet N M r0 = some (v, M')) : am_Met l yX8_readNet cX8_readNet 5 (some .int) rm8_readNet 0 0 [.inr (.inr (.inl r0))] M (some (.inl v)) M' := am_mk (by decide) (Nat.le_of_ble_eq_true rfl) (fun G cx => (sn8_readNet_b0 cx h))
-- SquareCuts.drawnTiling
def fn11_drawnTiling_b56 (N : Nat)  (c0 : Nat) (c1 : Nat) (a2 : Int32) (c3 : Nat) (r0 : Nat) (M : am_Mem) : Option (Nat × am_Mem) :=
  am_ck (am_k M r0 11) (am_ck (am_k M (am_R M r0 1) 1) (am_ck (am_k M c1 10) (am_bd (fn10_init N M c1 a2 c3 (am_I M (am_R M r0 1) 1) 0) (fun v4 M5 => some (c0, M5)))))
def fn11_drawnTiling_b0 (N : Nat)  (r0 : Nat) (x1 : Int32) (M : am_Mem) : Option (Nat × am_Mem) :=
  am_ck (am_k M r0 11) (am_ck (am_k M (am_R M r0 0) 8) (am_ck (am_k M (am_R M (am_R M r0 0) 11) 19) (am_ck (am_in x1 (am_L M (am_R M (am_R M r0 0) 11))) (am_ck (am_k M (am_R M (am_R M r0 0) 12) 19) (am_ck (am_in x1 (am_L M (am_R M (am_R M r0 0) 12))) (am_ck (am_k M (am_R M (am_R M r0 0) 10) 14) (am_ck (am_in x1 (am_L M (am_R M (am_R M r0 0) 10))) (am_ck (am_k M (am_R M r0 1) 1) (am_bd (fn1_layGroups N M (am_R M r0 1) (am_R M (am_R M (am_R M r0 0) 11) x1.toNatClampNeg) (am_R M (am_R M (am_R M r0 0) 12) x1.toNatClampNeg) (am_I M (am_R M (am_R M r0 0) 10) x1.toNatClampNeg) (am_R M r0 4)) (fun v10 M11 => if v10 = 0 then fn11_drawnTiling_b56 N  (am_n M11 + 1) (am_n M11 + 1) (0 : Int32) 0 r0 (am_new M11 10 0) else am_ck (am_k (am_new M11 10 0) r0 11) (fn11_drawnTiling_b56 N  (am_n M11 + 1) (am_n M11 + 1) (0 : Int32) (am_R (am_new M11 10 0) r0 4) r0 (am_new M11 10 0))))))))))))
def fn11_drawnTiling (N : Nat) (M : am_Mem) (r0 : Nat) (x1 : Int32) : Option (Nat × am_Mem) := fn11_drawnTiling_b0 N r0 x1 M
def rm11_drawnTiling : Room := { frames := 4, cells := 4, slots := 131, locals := 97 }
set_option maxRecDepth 20000 in
theorem sn11_drawnTiling_b56 {l : Launch} {G : am_G} {v : Nat} {M' : am_Mem} {N : Nat}  (cx : am_Ctx l rm11_drawnTiling yX11_drawnTiling cX11_drawnTiling 3 (some (.object "SquareCuts$Tiling")) (some (.inr (.inr (.inl v)))) M' 4 131 G)  {c0 : Nat} {c1 : Nat} {a2 : Int32} {c3 : Nat} {r0 : Nat} {M : am_Mem} (hres : fn11_drawnTiling_b56 N  c0 c1 a2 c3 r0 M = some (v, M')) : G 56 [(0, .inr (.inr (.inl r0)))] [.inr (.inr (.inl c3)), .inl a2, .inr (.inr (.inl c1)), .inr (.inr (.inl c0))] M 1 11 := by
  unfold fn11_drawnTiling_b56 at hres
  refine am_aload_n cx 0 dX11_drawnTiling_56 rfl ?_
  obtain ⟨q1, hres⟩ := am_ck_some hres
  refine am_getR cx dX11_drawnTiling_57 flX11_21 (am_ke q1) ?_
  obtain ⟨q2, hres⟩ := am_ck_some hres
  refine am_getI cx dX11_drawnTiling_60 flX11_318 (am_ke q2) ?_
  refine am_null cx dX11_drawnTiling_63 ?_
  obtain ⟨q3, hres⟩ := am_ck_some hres
  obtain ⟨v4, M5, q6, hres⟩ := am_bd_some hres
  refine am_callI0 cx [.inl a2, .inr (.inr (.inl c3)), .inl (am_I M (am_R M r0 1) 1), .inr (.inr (.inl 0))] dX11_drawnTiling_64 ciX11_321 (mt10_init q6) (by rw [show am_K _ _ = 10 from (am_ke q3)]; decide) ⟨rfl, rfl, Nat.le_of_ble_eq_true rfl, Nat.le_of_ble_eq_true rfl⟩ rfl (Nat.le_of_ble_eq_true rfl) ⟨Nat.le_of_ble_eq_true rfl, Nat.le_of_ble_eq_true rfl⟩ ?_
  obtain ⟨rfl, rfl⟩ := am_fin hres
  exact am_aret cx dX11_drawnTiling_67
set_option maxRecDepth 20000 in
theorem sn11_drawnTiling_b0 {l : Launch} {G : am_G} {v : Nat} {M' : am_Mem} {N : Nat}  (cx : am_Ctx l rm11_drawnTiling yX11_drawnTiling cX11_drawnTiling 3 (some (.object "SquareCuts$Tiling")) (some (.inr (.inr (.inl v)))) M' 4 131 G)  {r0 : Nat} {x1 : Int32} {M : am_Mem} (hres : fn11_drawnTiling_b0 N  r0 x1 M = some (v, M')) : G 0 [(0, .inr (.inr (.inl r0))), (1, .inl x1)] [] M 0 0 := by
  unfold fn11_drawnTiling_b0 at hres
  refine am_aload_n cx 0 dX11_drawnTiling_0 rfl ?_
  obtain ⟨q1, hres⟩ := am_ck_some hres
  refine am_getR cx dX11_drawnTiling_1 flX11_21 (am_ke q1) ?_
  refine am_aload_n cx 0 dX11_drawnTiling_4 rfl ?_
  refine am_getR cx dX11_drawnTiling_5 flX11_12 (am_ke q1) ?_
  obtain ⟨q2, hres⟩ := am_ck_some hres
  refine am_getR cx dX11_drawnTiling_8 flX11_304 (am_ke q2) ?_
  refine am_iload_n cx 1 dX11_drawnTiling_11 rfl ?_
  obtain ⟨q3, hres⟩ := am_ck_some hres
  obtain ⟨q4, hres⟩ := am_ck_some hres
  refine am_aald19 cx dX11_drawnTiling_12 (am_ke q3) q4 ?_
  refine am_aload_n cx 0 dX11_drawnTiling_13 rfl ?_
  refine am_getR cx dX11_drawnTiling_14 flX11_12 (am_ke q1) ?_
  refine am_getR cx dX11_drawnTiling_17 flX11_308 (am_ke q2) ?_
  refine am_iload_n cx 1 dX11_drawnTiling_20 rfl ?_
  obtain ⟨q5, hres⟩ := am_ck_some hres
  obtain ⟨q6, hres⟩ := am_ck_some hres
  refine am_aald19 cx dX11_drawnTiling_21 (am_ke q5) q6 ?_
  refine am_aload_n cx 0 dX11_drawnTiling_22 rfl ?_
  refine am_getR cx dX11_drawnTiling_23 flX11_12 (am_ke q1) ?_
  refine am_getR cx dX11_drawnTiling_26 flX11_311 (am_ke q2) ?_
  refine am_iload_n cx 1 dX11_drawnTiling_29 rfl ?_
  obtain ⟨q7, hres⟩ := am_ck_some hres
  obtain ⟨q8, hres⟩ := am_ck_some hres
  refine am_iald cx dX11_drawnTiling_30 (am_ke q7) q8 ?_
  refine am_aload_n cx 0 dX11_drawnTiling_31 rfl ?_
  refine am_getR cx dX11_drawnTiling_32 flX11_42 (am_ke q1) ?_
  obtain ⟨q9, hres⟩ := am_ck_some hres
  obtain ⟨v10, M11, q12, hres⟩ := am_bd_some hres
  refine am_callV1 cx [.inr (.inr (.inl (am_R M (am_R M (am_R M r0 0) 11) x1.toNatClampNeg))), .inr (.inr (.inl (am_R M (am_R M (am_R M r0 0) 12) x1.toNatClampNeg))), .inl (am_I M (am_R M (am_R M r0 0) 10) x1.toNatClampNeg), .inr (.inr (.inl (am_R M r0 4)))] dX11_drawnTiling_35 cvX11_314 (mt1_layGroups q12) (am_ke q9) ⟨rfl, rfl, Nat.le_of_ble_eq_true rfl, Nat.le_of_ble_eq_true rfl⟩ rfl (Nat.le_of_ble_eq_true rfl) ⟨Nat.le_of_ble_eq_true rfl, Nat.le_of_ble_eq_true rfl⟩ ?_
  refine am_istore_n cx (lv' := [(0, .inr (.inr (.inl r0))), (1, .inl x1), (2, .inl v10)]) dX11_drawnTiling_38 (Nat.le_of_ble_eq_true rfl) rfl ?_
  refine am_newO cx dX11_drawnTiling_39 nwX11_119 (Nat.le_of_ble_eq_true rfl) (Nat.le_of_ble_eq_true rfl) ?_
  refine am_dup cx dX11_drawnTiling_42 rfl ?_
  refine am_iconst cx (v := (0 : Int32)) dX11_drawnTiling_43 (by decide) ?_
  refine am_iload_n cx 2 dX11_drawnTiling_44 rfl ?_
  refine am_if_eq cx (tgt := 55) dX11_drawnTiling_45 (by decide) (fun h => ?_) (fun h => ?_)
  · have hres := am_ifp h hres
    refine am_null cx dX11_drawnTiling_55 ?_
    refine am_sub cx [0] rfl ?_
    exact sn11_drawnTiling_b56 cx  hres
  · have hres := am_ifn h hres
    refine am_aload_n cx 0 dX11_drawnTiling_48 rfl ?_
    obtain ⟨q13, hres⟩ := am_ck_some hres
    refine am_getR cx dX11_drawnTiling_49 flX11_42 (am_ke q13) ?_
    refine am_goto cx (tgt := 56) dX11_drawnTiling_52 (by decide) ?_
    refine am_sub cx [0] rfl ?_
    exact sn11_drawnTiling_b56 cx  hres
set_option maxRecDepth 20000 in
theorem mt11_drawnTiling {l : Launch} {v : Nat} {M M' : am_Mem} {N : Nat} {r0 : Nat} {x1 : Int32} (h : fn11_drawnTiling N M r0 x1 = some (v, M')) : am_Met l yX11_drawnTiling cX11_drawnTiling 3 (some (.object "SquareCuts$Tiling")) rm11_drawnTiling 4 131 [.inr (.inr (.inl r0)), .inl x1] M (some (.inr (.inr (.inl v)))) M' := am_mk (by decide) (Nat.le_of_ble_eq_true rfl) (fun G cx => (sn11_drawnTiling_b0 cx h))
-- SquareCuts.netTiling
def fn11_netTiling_b80 (N : Nat)  (c0 : Nat) (c1 : Nat) (a2 : Int32) (c3 : Nat) (r2 : Nat) (M : am_Mem) : Option (Nat × am_Mem) :=
  am_ck (am_k M c1 10) (am_bd (fn10_init N M c1 a2 c3 (0 : Int32) r2) (fun v2 M3 => some (c0, M3)))
def fn11_netTiling_b62 (N : Nat)  (a0 : Int32) (r0 : Nat) (r2 : Nat) (M : am_Mem) : Option (Nat × am_Mem) :=
  if a0 = 0 then fn11_netTiling_b80 N  (am_n M + 1) (am_n M + 1) (1 : Int32) 0 r2 (am_new M 10 0) else am_ck (am_k (am_new M 10 0) r0 11) (fn11_netTiling_b80 N  (am_n M + 1) (am_n M + 1) (1 : Int32) (am_R (am_new M 10 0) r0 4) r2 (am_new M 10 0))
def fn11_netTiling_b61 (N : Nat)  (r0 : Nat) (r2 : Nat) (M : am_Mem) : Option (Nat × am_Mem) :=
  fn11_netTiling_b62 N  (0 : Int32) r0 r2 M
def fn11_netTiling_b0 (N : Nat)  (r0 : Nat) (x1 : Int32) (M : am_Mem) : Option (Nat × am_Mem) :=
  am_ck (am_k M r0 11) (am_ck (am_k M (am_R M r0 0) 8) (am_ck (am_k M (am_R M (am_R M r0 0) 11) 19) (am_ck (am_in x1 (am_L M (am_R M (am_R M r0 0) 11))) (am_ck (am_k M (am_R M (am_R M r0 0) 10) 14) (am_ck (am_in x1 (am_L M (am_R M (am_R M r0 0) 10))) (am_ck (am_k M (am_R M r0 2) 5) (am_bd (fn5_solve N M (am_R M r0 2) (am_R M (am_R M (am_R M r0 0) 11) x1.toNatClampNeg) (am_I M (am_R M (am_R M r0 0) 10) x1.toNatClampNeg)) (fun v8 M9 => am_ck (am_k M9 v8 3) (if (lg_cmp (am_J M9 v8 4) (0 : Int64)) ≤ 0 then fn11_netTiling_b61 N  r0 v8 M9 else am_ck (am_k M9 r0 11) (am_ck (am_k M9 (am_R M9 r0 2) 5) (am_ck (am_k M9 (am_R M9 r0 3) 4) (am_bd (fn4_search N M9 (am_R M9 r0 3) v8 (am_R M9 (am_R M9 r0 2) 3) (am_R M9 r0 4)) (fun v15 M16 => if v15 = 0 then fn11_netTiling_b61 N  r0 v8 M16 else fn11_netTiling_b62 N  (1 : Int32) r0 v8 M16)))))))))))))
def fn11_netTiling (N : Nat) (M : am_Mem) (r0 : Nat) (x1 : Int32) : Option (Nat × am_Mem) := fn11_netTiling_b0 N r0 x1 M
def rm11_netTiling : Room := { frames := 4, cells := 7, slots := 167, locals := 130 }
set_option maxRecDepth 20000 in
theorem sn11_netTiling_b80 {l : Launch} {G : am_G} {v : Nat} {M' : am_Mem} {N : Nat}  (cx : am_Ctx l rm11_netTiling yX11_netTiling cX11_netTiling 4 (some (.object "SquareCuts$Tiling")) (some (.inr (.inr (.inl v)))) M' 7 167 G)  {c0 : Nat} {c1 : Nat} {a2 : Int32} {c3 : Nat} {r2 : Nat} {M : am_Mem} (hres : fn11_netTiling_b80 N  c0 c1 a2 c3 r2 M = some (v, M')) : G 80 [(2, .inr (.inr (.inl r2)))] [.inr (.inr (.inl c3)), .inl a2, .inr (.inr (.inl c1)), .inr (.inr (.inl c0))] M 4 47 := by
  unfold fn11_netTiling_b80 at hres
  refine am_iconst cx (v := (0 : Int32)) dX11_netTiling_80 (by decide) ?_
  refine am_aload_n cx 0 dX11_netTiling_81 rfl ?_
  obtain ⟨q1, hres⟩ := am_ck_some hres
  obtain ⟨v2, M3, q4, hres⟩ := am_bd_some hres
  refine am_callI0 cx [.inl a2, .inr (.inr (.inl c3)), .inl (0 : Int32), .inr (.inr (.inl r2))] dX11_netTiling_82 ciX11_321 (mt10_init q4) (by rw [show am_K _ _ = 10 from (am_ke q1)]; decide) ⟨rfl, rfl, Nat.le_of_ble_eq_true rfl, Nat.le_of_ble_eq_true rfl⟩ rfl (Nat.le_of_ble_eq_true rfl) ⟨Nat.le_of_ble_eq_true rfl, Nat.le_of_ble_eq_true rfl⟩ ?_
  obtain ⟨rfl, rfl⟩ := am_fin hres
  exact am_aret cx dX11_netTiling_85
set_option maxRecDepth 20000 in
theorem sn11_netTiling_b62 {l : Launch} {G : am_G} {v : Nat} {M' : am_Mem} {N : Nat}  (cx : am_Ctx l rm11_netTiling yX11_netTiling cX11_netTiling 4 (some (.object "SquareCuts$Tiling")) (some (.inr (.inr (.inl v)))) M' 7 167 G)  {a0 : Int32} {r0 : Nat} {r2 : Nat} {M : am_Mem} (hres : fn11_netTiling_b62 N  a0 r0 r2 M = some (v, M')) : G 62 [(0, .inr (.inr (.inl r0))), (2, .inr (.inr (.inl r2)))] [.inl a0] M 3 36 := by
  unfold fn11_netTiling_b62 at hres
  refine am_istore_n cx (lv' := [(0, .inr (.inr (.inl r0))), (2, .inr (.inr (.inl r2))), (3, .inl a0)]) dX11_netTiling_62 (Nat.le_of_ble_eq_true rfl) rfl ?_
  refine am_newO cx dX11_netTiling_63 nwX11_119 (Nat.le_of_ble_eq_true rfl) (Nat.le_of_ble_eq_true rfl) ?_
  refine am_dup cx dX11_netTiling_66 rfl ?_
  refine am_iconst cx (v := (1 : Int32)) dX11_netTiling_67 (by decide) ?_
  refine am_iload_n cx 2 dX11_netTiling_68 rfl ?_
  refine am_if_eq cx (tgt := 79) dX11_netTiling_69 (by decide) (fun h => ?_) (fun h => ?_)
  · have hres := am_ifp h hres
    refine am_null cx dX11_netTiling_79 ?_
    refine am_sub cx [1] rfl ?_
    exact sn11_netTiling_b80 cx  hres
  · have hres := am_ifn h hres
    refine am_aload_n cx 0 dX11_netTiling_72 rfl ?_
    obtain ⟨q1, hres⟩ := am_ck_some hres
    refine am_getR cx dX11_netTiling_73 flX11_42 (am_ke q1) ?_
    refine am_goto cx (tgt := 80) dX11_netTiling_76 (by decide) ?_
    refine am_sub cx [1] rfl ?_
    exact sn11_netTiling_b80 cx  hres
set_option maxRecDepth 20000 in
theorem sn11_netTiling_b61 {l : Launch} {G : am_G} {v : Nat} {M' : am_Mem} {N : Nat}  (cx : am_Ctx l rm11_netTiling yX11_netTiling cX11_netTiling 4 (some (.object "SquareCuts$Tiling")) (some (.inr (.inr (.inl v)))) M' 7 167 G)  {r0 : Nat} {r2 : Nat} {M : am_Mem} (hres : fn11_netTiling_b61 N  r0 r2 M = some (v, M')) : G 61 [(0, .inr (.inr (.inl r0))), (2, .inr (.inr (.inl r2)))] [] M 3 36 := by
  unfold fn11_netTiling_b61 at hres
  refine am_iconst cx (v := (0 : Int32)) dX11_netTiling_61 (by decide) ?_
  exact sn11_netTiling_b62 cx  hres
set_option maxRecDepth 20000 in
theorem sn11_netTiling_b0 {l : Launch} {G : am_G} {v : Nat} {M' : am_Mem} {N : Nat}  (cx : am_Ctx l rm11_netTiling yX11_netTiling cX11_netTiling 4 (some (.object "SquareCuts$Tiling")) (some (.inr (.inr (.inl v)))) M' 7 167 G)  {r0 : Nat} {x1 : Int32} {M : am_Mem} (hres : fn11_netTiling_b0 N  r0 x1 M = some (v, M')) : G 0 [(0, .inr (.inr (.inl r0))), (1, .inl x1)] [] M 0 0 := by
  unfold fn11_netTiling_b0 at hres
  refine am_aload_n cx 0 dX11_netTiling_0 rfl ?_
  obtain ⟨q1, hres⟩ := am_ck_some hres
  refine am_getR cx dX11_netTiling_1 flX11_28 (am_ke q1) ?_
  refine am_aload_n cx 0 dX11_netTiling_4 rfl ?_
  refine am_getR cx dX11_netTiling_5 flX11_12 (am_ke q1) ?_
  obtain ⟨q2, hres⟩ := am_ck_some hres
  refine am_getR cx dX11_netTiling_8 flX11_304 (am_ke q2) ?_
  refine am_iload_n cx 1 dX11_netTiling_11 rfl ?_
  obtain ⟨q3, hres⟩ := am_ck_some hres
  obtain ⟨q4, hres⟩ := am_ck_some hres
  refine am_aald19 cx dX11_netTiling_12 (am_ke q3) q4 ?_
  refine am_aload_n cx 0 dX11_netTiling_13 rfl ?_
  refine am_getR cx dX11_netTiling_14 flX11_12 (am_ke q1) ?_
  refine am_getR cx dX11_netTiling_17 flX11_311 (am_ke q2) ?_
  refine am_iload_n cx 1 dX11_netTiling_20 rfl ?_
  obtain ⟨q5, hres⟩ := am_ck_some hres
  obtain ⟨q6, hres⟩ := am_ck_some hres
  refine am_iald cx dX11_netTiling_21 (am_ke q5) q6 ?_
  obtain ⟨q7, hres⟩ := am_ck_some hres
  obtain ⟨v8, M9, q10, hres⟩ := am_bd_some hres
  refine am_callV1 cx [.inr (.inr (.inl (am_R M (am_R M (am_R M r0 0) 11) x1.toNatClampNeg))), .inl (am_I M (am_R M (am_R M r0 0) 10) x1.toNatClampNeg)] dX11_netTiling_22 cvX11_324 (mt5_solve q10) (am_ke q7) ⟨rfl, rfl, Nat.le_of_ble_eq_true rfl, Nat.le_of_ble_eq_true rfl⟩ rfl (Nat.le_of_ble_eq_true rfl) ⟨Nat.le_of_ble_eq_true rfl, Nat.le_of_ble_eq_true rfl⟩ ?_
  refine am_astore_n cx (lv' := [(0, .inr (.inr (.inl r0))), (1, .inl x1), (2, .inr (.inr (.inl v8)))]) dX11_netTiling_25 (Nat.le_of_ble_eq_true rfl) rfl ?_
  refine am_aload_n cx 2 dX11_netTiling_26 rfl ?_
  obtain ⟨q11, hres⟩ := am_ck_some hres
  refine am_getJ cx dX11_netTiling_27 flX11_197 (am_ke q11) ?_
  refine am_lconst cx (v := (0 : Int64)) dX11_netTiling_30 (by decide) ?_
  refine am_lcmp cx dX11_netTiling_31 ?_
  refine am_if_le cx (tgt := 61) dX11_netTiling_32 (by decide) (fun h => ?_) (fun h => ?_)
  · have hres := am_ifp h hres
    refine am_sub cx [0, 2] rfl ?_
    exact sn11_netTiling_b61 cx  hres
  · have hres := am_ifn h hres
    refine am_aload_n cx 0 dX11_netTiling_35 rfl ?_
    obtain ⟨q12, hres⟩ := am_ck_some hres
    refine am_getR cx dX11_netTiling_36 flX11_35 (am_ke q12) ?_
    refine am_aload_n cx 2 dX11_netTiling_39 rfl ?_
    refine am_aload_n cx 0 dX11_netTiling_40 rfl ?_
    refine am_getR cx dX11_netTiling_41 flX11_28 (am_ke q12) ?_
    obtain ⟨q13, hres⟩ := am_ck_some hres
    refine am_getR cx dX11_netTiling_44 flX11_328 (am_ke q13) ?_
    refine am_aload_n cx 0 dX11_netTiling_47 rfl ?_
    refine am_getR cx dX11_netTiling_48 flX11_42 (am_ke q12) ?_
    obtain ⟨q14, hres⟩ := am_ck_some hres
    obtain ⟨v15, M16, q17, hres⟩ := am_bd_some hres
    refine am_callV1 cx [.inr (.inr (.inl v8)), .inr (.inr (.inl (am_R M9 (am_R M9 r0 2) 3))), .inr (.inr (.inl (am_R M9 r0 4)))] dX11_netTiling_51 cvX11_331 (mt4_search q17) (am_ke q14) ⟨rfl, rfl, Nat.le_of_ble_eq_true rfl, Nat.le_of_ble_eq_true rfl⟩ rfl (Nat.le_of_ble_eq_true rfl) ⟨Nat.le_of_ble_eq_true rfl, Nat.le_of_ble_eq_true rfl⟩ ?_
    refine am_if_eq cx (tgt := 61) dX11_netTiling_54 (by decide) (fun h => ?_) (fun h => ?_)
    · have hres := am_ifp h hres
      refine am_sub cx [0, 2] rfl ?_
      exact sn11_netTiling_b61 cx  hres
    · have hres := am_ifn h hres
      refine am_iconst cx (v := (1 : Int32)) dX11_netTiling_57 (by decide) ?_
      refine am_goto cx (tgt := 62) dX11_netTiling_58 (by decide) ?_
      refine am_sub cx [0, 2] rfl ?_
      exact sn11_netTiling_b62 cx  hres
set_option maxRecDepth 20000 in
theorem mt11_netTiling {l : Launch} {v : Nat} {M M' : am_Mem} {N : Nat} {r0 : Nat} {x1 : Int32} (h : fn11_netTiling N M r0 x1 = some (v, M')) : am_Met l yX11_netTiling cX11_netTiling 4 (some (.object "SquareCuts$Tiling")) rm11_netTiling 7 167 [.inr (.inr (.inl r0)), .inl x1] M (some (.inr (.inr (.inl v)))) M' := am_mk (by decide) (Nat.le_of_ble_eq_true rfl) (fun G cx => (sn11_netTiling_b0 cx h))
-- SquareCutsModel.spelled
def fn12_spelled_b27 (N : Nat) (k4 : Nat → Int64 → Int32 → am_Mem → Option (Int64 × am_Mem)) (w0 : Nat) (j1 : Int64) (x3 : Int32) (M : am_Mem) : Option (Int64 × am_Mem) :=
  k4 w0 j1 (x3 + (1 : Int32)) M
def fn12_spelled_b4B (N : Nat) (k4 : Nat → Int64 → Int32 → am_Mem → Option (Int64 × am_Mem)) (w0 : Nat) (j1 : Int64) (x3 : Int32) (M : am_Mem) : Option (Int64 × am_Mem) :=
  am_ck (am_isS w0) (am_bd (fnJ0_length_8abf5 M w0) (fun v2 M3 => if v2 ≤ x3 then some (j1, M3) else am_ck (am_isS w0) (am_bd (fnJ0_charAt_5068e M3 w0 x3) (fun v6 M7 => fn12_spelled_b27 N k4 w0 ((j1 <<< ((5 : Int32).toInt64 &&& 63)) ||| (v6.toInt64 - (96 : Int64))) x3 M7))))
def fn12_spelled_b4 (N : Nat)  : Nat → Nat → Int64 → Int32 → am_Mem → Option (Int64 × am_Mem)
  | 0 => fun _ _ _ _ => none
  | i + 1 => fn12_spelled_b4B N (fn12_spelled_b4 N  i)
def fn12_spelled_b0 (N : Nat)  (w0 : Nat) (M : am_Mem) : Option (Int64 × am_Mem) :=
  fn12_spelled_b4 N  N w0 (0 : Int64) (0 : Int32) M
def fn12_spelled (N : Nat) (M : am_Mem) (w0 : Nat) : Option (Int64 × am_Mem) := fn12_spelled_b0 N w0 M
def rm12_spelled : Room := { frames := 4, cells := 0, slots := 0, locals := 85 }
set_option maxRecDepth 20000 in
theorem sn12_spelled_b27 {l : Launch} {G : am_G} {v : Int64} {M' : am_Mem} {N : Nat} {k4 : Nat → Int64 → Int32 → am_Mem → Option (Int64 × am_Mem)} (cx : am_Ctx l rm12_spelled yX12_spelled cX12_spelled 4 (some .long) (some (.inr (.inl v))) M' 0 0 G) (hk4 : ∀ (w0 : Nat) (j1 : Int64) (x3 : Int32) (M : am_Mem), k4 w0 j1 x3 M = some (v, M') → G 4 [(0, .inr (.inr (.inr w0))), (1, .inr (.inl j1)), (3, .inl x3)] [] M 0 0) {w0 : Nat} {j1 : Int64} {x3 : Int32} {M : am_Mem} (hres : fn12_spelled_b27 N k4 w0 j1 x3 M = some (v, M')) : G 27 [(0, .inr (.inr (.inr w0))), (1, .inr (.inl j1)), (3, .inl x3)] [] M 0 0 := by
  unfold fn12_spelled_b27 at hres
  refine am_iincw cx (lv' := [(0, .inr (.inr (.inr w0))), (1, .inr (.inl j1)), (3, .inl (x3 + (1 : Int32)))]) (w := (1 : Int32)) 2 dX12_spelled_27 (by decide) rfl (Nat.le_of_ble_eq_true rfl) rfl ?_
  refine am_goto cx (tgt := 4) dX12_spelled_30 (by decide) ?_
  exact hk4 _ _ _ _ hres
set_option maxRecDepth 20000 in
theorem sn12_spelled_b4B {l : Launch} {G : am_G} {v : Int64} {M' : am_Mem} {N : Nat} {k4 : Nat → Int64 → Int32 → am_Mem → Option (Int64 × am_Mem)} (cx : am_Ctx l rm12_spelled yX12_spelled cX12_spelled 4 (some .long) (some (.inr (.inl v))) M' 0 0 G) (hk4 : ∀ (w0 : Nat) (j1 : Int64) (x3 : Int32) (M : am_Mem), k4 w0 j1 x3 M = some (v, M') → G 4 [(0, .inr (.inr (.inr w0))), (1, .inr (.inl j1)), (3, .inl x3)] [] M 0 0) {w0 : Nat} {j1 : Int64} {x3 : Int32} {M : am_Mem} (hres : fn12_spelled_b4B N k4 w0 j1 x3 M = some (v, M')) : G 4 [(0, .inr (.inr (.inr w0))), (1, .inr (.inl j1)), (3, .inl x3)] [] M 0 0 := by
  unfold fn12_spelled_b4B at hres
  refine am_iload_n cx 2 dX12_spelled_4 rfl ?_
  refine am_aload_nS cx 0 dX12_spelled_5 rfl ?_
  obtain ⟨q1, hres⟩ := am_ck_some hres
  obtain ⟨v2, M3, q4, hres⟩ := am_bd_some hres
  refine am_callVT1 cx [] dX12_spelled_6 cvX12_157 (mtJ0_length_8abf5 q4) q1 ⟨rfl, rfl, Nat.le_of_ble_eq_true rfl, Nat.le_of_ble_eq_true rfl⟩ rfl (Nat.le_of_ble_eq_true rfl) ⟨Nat.le_of_ble_eq_true rfl, Nat.le_of_ble_eq_true rfl⟩ ?_
  refine am_icmp_ge cx (tgt := 33) dX12_spelled_9 (by decide) (fun h => ?_) (fun h => ?_)
  · have hres := am_ifp h hres
    refine am_lload_n cx 1 dX12_spelled_33 rfl ?_
    obtain ⟨rfl, rfl⟩ := am_fin hres
    exact am_lret cx dX12_spelled_34
  · have hres := am_ifn h hres
    refine am_lload_n cx 1 dX12_spelled_12 rfl ?_
    refine am_iconst cx (v := (5 : Int32)) dX12_spelled_13 (by decide) ?_
    refine am_lshl cx dX12_spelled_14 ?_
    refine am_aload_nS cx 0 dX12_spelled_15 rfl ?_
    refine am_iload_n cx 2 dX12_spelled_16 rfl ?_
    obtain ⟨q5, hres⟩ := am_ck_some hres
    obtain ⟨v6, M7, q8, hres⟩ := am_bd_some hres
    refine am_callVT1 cx [.inl x3] dX12_spelled_17 cvX12_163 (mtJ0_charAt_5068e q8) q5 ⟨rfl, rfl, Nat.le_of_ble_eq_true rfl, Nat.le_of_ble_eq_true rfl⟩ rfl (Nat.le_of_ble_eq_true rfl) ⟨Nat.le_of_ble_eq_true rfl, Nat.le_of_ble_eq_true rfl⟩ ?_
    refine am_i2l cx dX12_spelled_20 ?_
    refine am_ldc2 cx dX12_spelled_21 aw_5_172 ?_
    refine am_lsub cx dX12_spelled_24 ?_
    refine am_lor cx dX12_spelled_25 ?_
    refine am_lstore_n cx (lv' := [(0, .inr (.inr (.inr w0))), (1, .inr (.inl ((j1 <<< ((5 : Int32).toInt64 &&& 63)) ||| (v6.toInt64 - (96 : Int64))))), (3, .inl x3)]) dX12_spelled_26 (Nat.le_of_ble_eq_true rfl) rfl ?_
    exact sn12_spelled_b27 cx hk4 hres
set_option maxRecDepth 20000 in
theorem sn12_spelled_b4 {l : Launch} {G : am_G} {v : Int64} {M' : am_Mem} {N : Nat}  (cx : am_Ctx l rm12_spelled yX12_spelled cX12_spelled 4 (some .long) (some (.inr (.inl v))) M' 0 0 G)  (i : Nat) : ∀ (w0 : Nat) (j1 : Int64) (x3 : Int32) (M : am_Mem), fn12_spelled_b4 N  i w0 j1 x3 M = some (v, M') → G 4 [(0, .inr (.inr (.inr w0))), (1, .inr (.inl j1)), (3, .inl x3)] [] M 0 0 := by
  induction i with
  | zero => intro w0 j1 x3 M hres; exact am_no hres
  | succ i ih => intro w0 j1 x3 M hres; exact sn12_spelled_b4B cx ih hres
set_option maxRecDepth 20000 in
theorem sn12_spelled_b0 {l : Launch} {G : am_G} {v : Int64} {M' : am_Mem} {N : Nat}  (cx : am_Ctx l rm12_spelled yX12_spelled cX12_spelled 4 (some .long) (some (.inr (.inl v))) M' 0 0 G)  {w0 : Nat} {M : am_Mem} (hres : fn12_spelled_b0 N  w0 M = some (v, M')) : G 0 [(0, .inr (.inr (.inr w0)))] [] M 0 0 := by
  unfold fn12_spelled_b0 at hres
  refine am_lconst cx (v := (0 : Int64)) dX12_spelled_0 (by decide) ?_
  refine am_lstore_n cx (lv' := [(0, .inr (.inr (.inr w0))), (1, .inr (.inl (0 : Int64)))]) dX12_spelled_1 (Nat.le_of_ble_eq_true rfl) rfl ?_
  refine am_iconst cx (v := (0 : Int32)) dX12_spelled_2 (by decide) ?_
  refine am_istore_n cx (lv' := [(0, .inr (.inr (.inr w0))), (1, .inr (.inl (0 : Int64))), (3, .inl (0 : Int32))]) dX12_spelled_3 (Nat.le_of_ble_eq_true rfl) rfl ?_
  exact sn12_spelled_b4 cx  N _ _ _ _ hres
set_option maxRecDepth 20000 in
theorem mt12_spelled {l : Launch} {v : Int64} {M M' : am_Mem} {N : Nat} {w0 : Nat} (h : fn12_spelled N M w0 = some (v, M')) : am_Met l yX12_spelled cX12_spelled 4 (some .long) rm12_spelled 0 0 [.inr (.inr (.inr w0))] M (some (.inr (.inl v))) M' := am_mk (by decide) (Nat.le_of_ble_eq_true rfl) (fun G cx => (sn12_spelled_b0 cx h))
-- SquareCutsModel.is
def fn12_is_b25 (N : Nat)  (a0 : Int32) (M : am_Mem) : Option (Int32 × am_Mem) :=
  am_ck (a0 == 0 || a0 == 1) (some (a0, M))
def fn12_is_b24 (N : Nat)   (M : am_Mem) : Option (Int32 × am_Mem) :=
  fn12_is_b25 N  (0 : Int32) M
def fn12_is_b0 (N : Nat)  (r0 : Nat) (w1 : Nat) (M : am_Mem) : Option (Int32 × am_Mem) :=
  am_ck (am_k M r0 12) (if (am_I M r0 6) = (1 : Int32) then am_bd (fn12_spelled N M w1) (fun v2 M3 => if (lg_cmp (am_J M r0 8) v2) = 0 then fn12_is_b25 N  (1 : Int32) M3 else fn12_is_b24 N   M3) else fn12_is_b24 N   M)
def fn12_is (N : Nat) (M : am_Mem) (r0 : Nat) (w1 : Nat) : Option (Int32 × am_Mem) := fn12_is_b0 N r0 w1 M
def rm12_is : Room := { frames := 5, cells := 0, slots := 0, locals := 108 }
set_option maxRecDepth 20000 in
theorem sn12_is_b25 {l : Launch} {G : am_G} {v : Int32} {M' : am_Mem} {N : Nat}  (cx : am_Ctx l rm12_is yX12_is cX12_is 2 (some .boolean) (some (.inl v)) M' 0 0 G)  {a0 : Int32} {M : am_Mem} (hres : fn12_is_b25 N  a0 M = some (v, M')) : G 25 [] [.inl a0] M 0 0 := by
  unfold fn12_is_b25 at hres
  obtain ⟨q1, hres⟩ := am_ck_some hres
  obtain ⟨rfl, rfl⟩ := am_fin hres
  exact am_zret cx q1 dX12_is_25
set_option maxRecDepth 20000 in
theorem sn12_is_b24 {l : Launch} {G : am_G} {v : Int32} {M' : am_Mem} {N : Nat}  (cx : am_Ctx l rm12_is yX12_is cX12_is 2 (some .boolean) (some (.inl v)) M' 0 0 G)   {M : am_Mem} (hres : fn12_is_b24 N   M = some (v, M')) : G 24 [] [] M 0 0 := by
  unfold fn12_is_b24 at hres
  refine am_iconst cx (v := (0 : Int32)) dX12_is_24 (by decide) ?_
  exact sn12_is_b25 cx  hres
set_option maxRecDepth 20000 in
theorem sn12_is_b0 {l : Launch} {G : am_G} {v : Int32} {M' : am_Mem} {N : Nat}  (cx : am_Ctx l rm12_is yX12_is cX12_is 2 (some .boolean) (some (.inl v)) M' 0 0 G)  {r0 : Nat} {w1 : Nat} {M : am_Mem} (hres : fn12_is_b0 N  r0 w1 M = some (v, M')) : G 0 [(0, .inr (.inr (.inl r0))), (1, .inr (.inr (.inr w1)))] [] M 0 0 := by
  unfold fn12_is_b0 at hres
  refine am_aload_n cx 0 dX12_is_0 rfl ?_
  obtain ⟨q1, hres⟩ := am_ck_some hres
  refine am_getI cx dX12_is_1 flX12_127 (am_ke q1) ?_
  refine am_iconst cx (v := (1 : Int32)) dX12_is_4 (by decide) ?_
  refine am_icmp_ne cx (tgt := 24) dX12_is_5 (by decide) (fun h => ?_) (fun h => ?_)
  · have hres := am_ifn h hres
    refine am_sub cx [] rfl ?_
    exact sn12_is_b24 cx  hres
  · have hres := am_ifp h hres
    refine am_aload_n cx 0 dX12_is_8 rfl ?_
    refine am_getJ cx dX12_is_9 flX12_133 (am_ke q1) ?_
    refine am_aload_nS cx 1 dX12_is_12 rfl ?_
    obtain ⟨v2, M3, q4, hres⟩ := am_bd_some hres
    refine am_callS1 cx [.inr (.inr (.inr w1))] dX12_is_13 csX12_167 (mt12_spelled q4)  ⟨rfl, rfl, Nat.le_of_ble_eq_true rfl, Nat.le_of_ble_eq_true rfl⟩ rfl (Nat.le_of_ble_eq_true rfl) ⟨Nat.le_of_ble_eq_true rfl, Nat.le_of_ble_eq_true rfl⟩ ?_
    refine am_lcmp cx dX12_is_16 ?_
    refine am_if_ne cx (tgt := 24) dX12_is_17 (by decide) (fun h => ?_) (fun h => ?_)
    · have hres := am_ifn h hres
      refine am_sub cx [] rfl ?_
      exact sn12_is_b24 cx  hres
    · have hres := am_ifp h hres
      refine am_iconst cx (v := (1 : Int32)) dX12_is_20 (by decide) ?_
      refine am_goto cx (tgt := 25) dX12_is_21 (by decide) ?_
      refine am_sub cx [] rfl ?_
      exact sn12_is_b25 cx  hres
set_option maxRecDepth 20000 in
theorem mt12_is {l : Launch} {v : Int32} {M M' : am_Mem} {N : Nat} {r0 : Nat} {w1 : Nat} (h : fn12_is N M r0 w1 = some (v, M')) : am_Met l yX12_is cX12_is 2 (some .boolean) rm12_is 0 0 [.inr (.inr (.inl r0)), .inr (.inr (.inr w1))] M (some (.inl v)) M' := am_mk (by decide) (Nat.le_of_ble_eq_true rfl) (fun G cx => (sn12_is_b0 cx h))
-- SquareCutsModel.isName
def fn12_isName_b31 (N : Nat)  (a0 : Int32) (M : am_Mem) : Option (Int32 × am_Mem) :=
  am_ck (a0 == 0 || a0 == 1) (some (a0, M))
def fn12_isName_b30 (N : Nat)   (M : am_Mem) : Option (Int32 × am_Mem) :=
  fn12_isName_b31 N  (0 : Int32) M
def fn12_isName_b0 (N : Nat)  (r0 : Nat) (M : am_Mem) : Option (Int32 × am_Mem) :=
  am_ck (am_k M r0 12) (if (am_I M r0 6) = (1 : Int32) then am_bd (fn12_is N M r0 5) (fun v2 M3 => if v2 = 0 then am_ck (am_k M3 r0 12) (am_bd (fn12_is N M3 r0 6) (fun v6 M7 => if v6 = 0 then fn12_isName_b31 N  (1 : Int32) M7 else fn12_isName_b30 N   M7)) else fn12_isName_b30 N   M3) else fn12_isName_b30 N   M)
def fn12_isName (N : Nat) (M : am_Mem) (r0 : Nat) : Option (Int32 × am_Mem) := fn12_isName_b0 N r0 M
def rm12_isName : Room := { frames := 6, cells := 0, slots := 0, locals := 129 }
set_option maxRecDepth 20000 in
theorem sn12_isName_b31 {l : Launch} {G : am_G} {v : Int32} {M' : am_Mem} {N : Nat}  (cx : am_Ctx l rm12_isName yX12_isName cX12_isName 1 (some .boolean) (some (.inl v)) M' 0 0 G)  {a0 : Int32} {M : am_Mem} (hres : fn12_isName_b31 N  a0 M = some (v, M')) : G 31 [] [.inl a0] M 0 0 := by
  unfold fn12_isName_b31 at hres
  obtain ⟨q1, hres⟩ := am_ck_some hres
  obtain ⟨rfl, rfl⟩ := am_fin hres
  exact am_zret cx q1 dX12_isName_31
set_option maxRecDepth 20000 in
theorem sn12_isName_b30 {l : Launch} {G : am_G} {v : Int32} {M' : am_Mem} {N : Nat}  (cx : am_Ctx l rm12_isName yX12_isName cX12_isName 1 (some .boolean) (some (.inl v)) M' 0 0 G)   {M : am_Mem} (hres : fn12_isName_b30 N   M = some (v, M')) : G 30 [] [] M 0 0 := by
  unfold fn12_isName_b30 at hres
  refine am_iconst cx (v := (0 : Int32)) dX12_isName_30 (by decide) ?_
  exact sn12_isName_b31 cx  hres
set_option maxRecDepth 20000 in
theorem sn12_isName_b0 {l : Launch} {G : am_G} {v : Int32} {M' : am_Mem} {N : Nat}  (cx : am_Ctx l rm12_isName yX12_isName cX12_isName 1 (some .boolean) (some (.inl v)) M' 0 0 G)  {r0 : Nat} {M : am_Mem} (hres : fn12_isName_b0 N  r0 M = some (v, M')) : G 0 [(0, .inr (.inr (.inl r0)))] [] M 0 0 := by
  unfold fn12_isName_b0 at hres
  refine am_aload_n cx 0 dX12_isName_0 rfl ?_
  obtain ⟨q1, hres⟩ := am_ck_some hres
  refine am_getI cx dX12_isName_1 flX12_127 (am_ke q1) ?_
  refine am_iconst cx (v := (1 : Int32)) dX12_isName_4 (by decide) ?_
  refine am_icmp_ne cx (tgt := 30) dX12_isName_5 (by decide) (fun h => ?_) (fun h => ?_)
  · have hres := am_ifn h hres
    refine am_sub cx [] rfl ?_
    exact sn12_isName_b30 cx  hres
  · have hres := am_ifp h hres
    refine am_aload_n cx 0 dX12_isName_8 rfl ?_
    refine am_ldcS cx 5 dX12_isName_9 (by decide) rfl rfl ?_
    obtain ⟨v2, M3, q4, hres⟩ := am_bd_some hres
    refine am_callV1 cx [.inr (.inr (.inr 5))] dX12_isName_11 cvX12_173 (mt12_is q4) (am_ke q1) ⟨rfl, rfl, Nat.le_of_ble_eq_true rfl, Nat.le_of_ble_eq_true rfl⟩ rfl (Nat.le_of_ble_eq_true rfl) ⟨Nat.le_of_ble_eq_true rfl, Nat.le_of_ble_eq_true rfl⟩ ?_
    refine am_if_ne cx (tgt := 30) dX12_isName_14 (by decide) (fun h => ?_) (fun h => ?_)
    · have hres := am_ifn h hres
      refine am_sub cx [] rfl ?_
      exact sn12_isName_b30 cx  hres
    · have hres := am_ifp h hres
      refine am_aload_n cx 0 dX12_isName_17 rfl ?_
      refine am_ldcS cx 6 dX12_isName_18 (by decide) rfl rfl ?_
      obtain ⟨q5, hres⟩ := am_ck_some hres
      obtain ⟨v6, M7, q8, hres⟩ := am_bd_some hres
      refine am_callV1 cx [.inr (.inr (.inr 6))] dX12_isName_20 cvX12_173 (mt12_is q8) (am_ke q5) ⟨rfl, rfl, Nat.le_of_ble_eq_true rfl, Nat.le_of_ble_eq_true rfl⟩ rfl (Nat.le_of_ble_eq_true rfl) ⟨Nat.le_of_ble_eq_true rfl, Nat.le_of_ble_eq_true rfl⟩ ?_
      refine am_if_ne cx (tgt := 30) dX12_isName_23 (by decide) (fun h => ?_) (fun h => ?_)
      · have hres := am_ifn h hres
        refine am_sub cx [] rfl ?_
        exact sn12_isName_b30 cx  hres
      · have hres := am_ifp h hres
        refine am_iconst cx (v := (1 : Int32)) dX12_isName_26 (by decide) ?_
        refine am_goto cx (tgt := 31) dX12_isName_27 (by decide) ?_
        refine am_sub cx [] rfl ?_
        exact sn12_isName_b31 cx  hres
set_option maxRecDepth 20000 in
theorem mt12_isName {l : Launch} {v : Int32} {M M' : am_Mem} {N : Nat} {r0 : Nat} (h : fn12_isName N M r0 = some (v, M')) : am_Met l yX12_isName cX12_isName 1 (some .boolean) rm12_isName 0 0 [.inr (.inr (.inl r0))] M (some (.inl v)) M' := am_mk (by decide) (Nat.le_of_ble_eq_true rfl) (fun G cx => (sn12_isName_b0 cx h))
-- SquareCutsModel.newName
def fn12_newName_b69 (N : Nat)   (M : am_Mem) : Option (Int32 × am_Mem) :=
  some ((0 : Int32), M)
def fn12_newName_b62 (N : Nat)  (c0 : Nat) (a1 : Int32) (r0 : Nat) (M : am_Mem) : Option (Int32 × am_Mem) :=
  am_ck (am_k M c0 12) (am_bd (fn12_must M c0 a1 (2 : Int32)) (fun v2 M3 => if v2 = 0 then fn12_newName_b69 N   M3 else am_ck (am_k M3 r0 12) (am_ck (am_k M3 (am_R M3 r0 12) 15) (am_ck (am_in (am_I M3 r0 11) (am_L M3 (am_R M3 r0 12))) (am_bd (fn12_steps N (am_wJ M3 (am_R M3 r0 12) (am_I M3 r0 11).toNatClampNeg (am_J M3 r0 8)) r0) (fun v8 M9 => some ((1 : Int32), M9)))))))
def fn12_newName_b34 (N : Nat) (k4 : Nat → Int32 → Int32 → am_Mem → Option (Int32 × am_Mem)) (r0 : Nat) (x1 : Int32) (x2 : Int32) (M : am_Mem) : Option (Int32 × am_Mem) :=
  k4 r0 x1 (x2 + (1 : Int32)) M
def fn12_newName_b32 (N : Nat) (k4 : Nat → Int32 → Int32 → am_Mem → Option (Int32 × am_Mem)) (a0 : Int32) (a1 : Int32) (r0 : Nat) (x2 : Int32) (M : am_Mem) : Option (Int32 × am_Mem) :=
  fn12_newName_b34 N k4 r0 (a0 ||| a1) x2 M
def fn12_newName_b4B (N : Nat) (k4 : Nat → Int32 → Int32 → am_Mem → Option (Int32 × am_Mem)) (r0 : Nat) (x1 : Int32) (x2 : Int32) (M : am_Mem) : Option (Int32 × am_Mem) :=
  am_ck (am_k M r0 12) (if (am_I M r0 11) ≤ x2 then am_bd (fn12_isName N M r0) (fun v2 M3 => am_ck (am_k M3 r0 12) (am_bd (fn12_must M3 r0 v2 (1 : Int32)) (fun v6 M7 => if v6 = 0 then fn12_newName_b69 N   M7 else if x1 = 0 then fn12_newName_b62 N  r0 (1 : Int32) r0 M7 else fn12_newName_b62 N  r0 (0 : Int32) r0 M7))) else am_ck (am_k M (am_R M r0 12) 15) (am_ck (am_in x2 (am_L M (am_R M r0 12))) (if (lg_cmp (am_J M (am_R M r0 12) x2.toNatClampNeg) (am_J M r0 8)) = 0 then fn12_newName_b32 N k4 x1 (1 : Int32) r0 x2 M else fn12_newName_b32 N k4 x1 (0 : Int32) r0 x2 M)))
def fn12_newName_b4 (N : Nat)  : Nat → Nat → Int32 → Int32 → am_Mem → Option (Int32 × am_Mem)
  | 0 => fun _ _ _ _ => none
  | i + 1 => fn12_newName_b4B N (fn12_newName_b4 N  i)
def fn12_newName_b0 (N : Nat)  (r0 : Nat) (M : am_Mem) : Option (Int32 × am_Mem) :=
  fn12_newName_b4 N  N r0 (0 : Int32) (0 : Int32) M
def fn12_newName (N : Nat) (M : am_Mem) (r0 : Nat) : Option (Int32 × am_Mem) := fn12_newName_b0 N r0 M
def rm12_newName : Room := { frames := 7, cells := 0, slots := 0, locals := 149 }
set_option maxRecDepth 20000 in
theorem sn12_newName_b69 {l : Launch} {G : am_G} {v : Int32} {M' : am_Mem} {N : Nat}  (cx : am_Ctx l rm12_newName yX12_newName cX12_newName 3 (some .boolean) (some (.inl v)) M' 0 0 G)   {M : am_Mem} (hres : fn12_newName_b69 N   M = some (v, M')) : G 69 [] [] M 0 0 := by
  unfold fn12_newName_b69 at hres
  refine am_iconst cx (v := (0 : Int32)) dX12_newName_69 (by decide) ?_
  obtain ⟨rfl, rfl⟩ := am_fin hres
  exact am_zret cx rfl dX12_newName_70
set_option maxRecDepth 20000 in
theorem sn12_newName_b62 {l : Launch} {G : am_G} {v : Int32} {M' : am_Mem} {N : Nat}  (cx : am_Ctx l rm12_newName yX12_newName cX12_newName 3 (some .boolean) (some (.inl v)) M' 0 0 G)  {c0 : Nat} {a1 : Int32} {r0 : Nat} {M : am_Mem} (hres : fn12_newName_b62 N  c0 a1 r0 M = some (v, M')) : G 62 [(0, .inr (.inr (.inl r0)))] [.inl a1, .inr (.inr (.inl c0))] M 0 0 := by
  unfold fn12_newName_b62 at hres
  refine am_iconst cx (v := (2 : Int32)) dX12_newName_62 (by decide) ?_
  obtain ⟨q1, hres⟩ := am_ck_some hres
  obtain ⟨v2, M3, q4, hres⟩ := am_bd_some hres
  refine am_callV1 cx [.inl a1, .inl (2 : Int32)] dX12_newName_63 cvX12_186 (mt12_must q4) (am_ke q1) ⟨rfl, rfl, Nat.le_of_ble_eq_true rfl, Nat.le_of_ble_eq_true rfl⟩ rfl (Nat.le_of_ble_eq_true rfl) ⟨Nat.le_of_ble_eq_true rfl, Nat.le_of_ble_eq_true rfl⟩ ?_
  refine am_if_ne cx (tgt := 71) dX12_newName_66 (by decide) (fun h => ?_) (fun h => ?_)
  · have hres := am_ifn h hres
    refine am_aload_n cx 0 dX12_newName_71 rfl ?_
    obtain ⟨q5, hres⟩ := am_ck_some hres
    refine am_getR cx dX12_newName_72 flX12_13 (am_ke q5) ?_
    refine am_aload_n cx 0 dX12_newName_75 rfl ?_
    refine am_getI cx dX12_newName_76 flX12_179 (am_ke q5) ?_
    refine am_aload_n cx 0 dX12_newName_79 rfl ?_
    refine am_getJ cx dX12_newName_80 flX12_133 (am_ke q5) ?_
    obtain ⟨q6, hres⟩ := am_ck_some hres
    obtain ⟨q7, hres⟩ := am_ck_some hres
    refine am_last cx dX12_newName_83 (am_ke q6) q7  ?_
    refine am_aload_n cx 0 dX12_newName_84 rfl ?_
    obtain ⟨v8, M9, q10, hres⟩ := am_bd_some hres
    refine am_callV0 cx [] dX12_newName_85 cvX12_190 (mt12_steps q10) (am_ke q5) ⟨rfl, rfl, Nat.le_of_ble_eq_true rfl, Nat.le_of_ble_eq_true rfl⟩ rfl (Nat.le_of_ble_eq_true rfl) ⟨Nat.le_of_ble_eq_true rfl, Nat.le_of_ble_eq_true rfl⟩ ?_
    refine am_iconst cx (v := (1 : Int32)) dX12_newName_88 (by decide) ?_
    obtain ⟨rfl, rfl⟩ := am_fin hres
    exact am_zret cx rfl dX12_newName_89
  · have hres := am_ifp h hres
    refine am_sub cx [] rfl ?_
    exact sn12_newName_b69 cx  hres
set_option maxRecDepth 20000 in
theorem sn12_newName_b34 {l : Launch} {G : am_G} {v : Int32} {M' : am_Mem} {N : Nat} {k4 : Nat → Int32 → Int32 → am_Mem → Option (Int32 × am_Mem)} (cx : am_Ctx l rm12_newName yX12_newName cX12_newName 3 (some .boolean) (some (.inl v)) M' 0 0 G) (hk4 : ∀ (r0 : Nat) (x1 : Int32) (x2 : Int32) (M : am_Mem), k4 r0 x1 x2 M = some (v, M') → G 4 [(0, .inr (.inr (.inl r0))), (1, .inl x1), (2, .inl x2)] [] M 0 0) {r0 : Nat} {x1 : Int32} {x2 : Int32} {M : am_Mem} (hres : fn12_newName_b34 N k4 r0 x1 x2 M = some (v, M')) : G 34 [(0, .inr (.inr (.inl r0))), (1, .inl x1), (2, .inl x2)] [] M 0 0 := by
  unfold fn12_newName_b34 at hres
  refine am_iincw cx (lv' := [(0, .inr (.inr (.inl r0))), (1, .inl x1), (2, .inl (x2 + (1 : Int32)))]) (w := (1 : Int32)) 2 dX12_newName_34 (by decide) rfl (Nat.le_of_ble_eq_true rfl) rfl ?_
  refine am_goto cx (tgt := 4) dX12_newName_37 (by decide) ?_
  exact hk4 _ _ _ _ hres
set_option maxRecDepth 20000 in
theorem sn12_newName_b32 {l : Launch} {G : am_G} {v : Int32} {M' : am_Mem} {N : Nat} {k4 : Nat → Int32 → Int32 → am_Mem → Option (Int32 × am_Mem)} (cx : am_Ctx l rm12_newName yX12_newName cX12_newName 3 (some .boolean) (some (.inl v)) M' 0 0 G) (hk4 : ∀ (r0 : Nat) (x1 : Int32) (x2 : Int32) (M : am_Mem), k4 r0 x1 x2 M = some (v, M') → G 4 [(0, .inr (.inr (.inl r0))), (1, .inl x1), (2, .inl x2)] [] M 0 0) {a0 : Int32} {a1 : Int32} {r0 : Nat} {x2 : Int32} {M : am_Mem} (hres : fn12_newName_b32 N k4 a0 a1 r0 x2 M = some (v, M')) : G 32 [(0, .inr (.inr (.inl r0))), (2, .inl x2)] [.inl a1, .inl a0] M 0 0 := by
  unfold fn12_newName_b32 at hres
  refine am_ior cx dX12_newName_32 ?_
  refine am_istore_n cx (lv' := [(0, .inr (.inr (.inl r0))), (1, .inl (a0 ||| a1)), (2, .inl x2)]) dX12_newName_33 (Nat.le_of_ble_eq_true rfl) rfl ?_
  exact sn12_newName_b34 cx hk4 hres
set_option maxRecDepth 20000 in
theorem sn12_newName_b4B {l : Launch} {G : am_G} {v : Int32} {M' : am_Mem} {N : Nat} {k4 : Nat → Int32 → Int32 → am_Mem → Option (Int32 × am_Mem)} (cx : am_Ctx l rm12_newName yX12_newName cX12_newName 3 (some .boolean) (some (.inl v)) M' 0 0 G) (hk4 : ∀ (r0 : Nat) (x1 : Int32) (x2 : Int32) (M : am_Mem), k4 r0 x1 x2 M = some (v, M') → G 4 [(0, .inr (.inr (.inl r0))), (1, .inl x1), (2, .inl x2)] [] M 0 0) {r0 : Nat} {x1 : Int32} {x2 : Int32} {M : am_Mem} (hres : fn12_newName_b4B N k4 r0 x1 x2 M = some (v, M')) : G 4 [(0, .inr (.inr (.inl r0))), (1, .inl x1), (2, .inl x2)] [] M 0 0 := by
  unfold fn12_newName_b4B at hres
  refine am_iload_n cx 2 dX12_newName_4 rfl ?_
  refine am_aload_n cx 0 dX12_newName_5 rfl ?_
  obtain ⟨q1, hres⟩ := am_ck_some hres
  refine am_getI cx dX12_newName_6 flX12_179 (am_ke q1) ?_
  refine am_icmp_ge cx (tgt := 40) dX12_newName_9 (by decide) (fun h => ?_) (fun h => ?_)
  · have hres := am_ifp h hres
    refine am_aload_n cx 0 dX12_newName_40 rfl ?_
    refine am_aload_n cx 0 dX12_newName_41 rfl ?_
    obtain ⟨v2, M3, q4, hres⟩ := am_bd_some hres
    refine am_callV1 cx [] dX12_newName_42 cvX12_182 (mt12_isName q4) (am_ke q1) ⟨rfl, rfl, Nat.le_of_ble_eq_true rfl, Nat.le_of_ble_eq_true rfl⟩ rfl (Nat.le_of_ble_eq_true rfl) ⟨Nat.le_of_ble_eq_true rfl, Nat.le_of_ble_eq_true rfl⟩ ?_
    refine am_iconst cx (v := (1 : Int32)) dX12_newName_45 (by decide) ?_
    obtain ⟨q5, hres⟩ := am_ck_some hres
    obtain ⟨v6, M7, q8, hres⟩ := am_bd_some hres
    refine am_callV1 cx [.inl v2, .inl (1 : Int32)] dX12_newName_46 cvX12_186 (mt12_must q8) (am_ke q5) ⟨rfl, rfl, Nat.le_of_ble_eq_true rfl, Nat.le_of_ble_eq_true rfl⟩ rfl (Nat.le_of_ble_eq_true rfl) ⟨Nat.le_of_ble_eq_true rfl, Nat.le_of_ble_eq_true rfl⟩ ?_
    refine am_if_eq cx (tgt := 69) dX12_newName_49 (by decide) (fun h => ?_) (fun h => ?_)
    · have hres := am_ifp h hres
      refine am_sub cx [] rfl ?_
      exact sn12_newName_b69 cx  hres
    · have hres := am_ifn h hres
      refine am_aload_n cx 0 dX12_newName_52 rfl ?_
      refine am_iload_n cx 1 dX12_newName_53 rfl ?_
      refine am_if_ne cx (tgt := 61) dX12_newName_54 (by decide) (fun h => ?_) (fun h => ?_)
      · have hres := am_ifn h hres
        refine am_iconst cx (v := (0 : Int32)) dX12_newName_61 (by decide) ?_
        refine am_sub cx [0] rfl ?_
        exact sn12_newName_b62 cx  hres
      · have hres := am_ifp h hres
        refine am_iconst cx (v := (1 : Int32)) dX12_newName_57 (by decide) ?_
        refine am_goto cx (tgt := 62) dX12_newName_58 (by decide) ?_
        refine am_sub cx [0] rfl ?_
        exact sn12_newName_b62 cx  hres
  · have hres := am_ifn h hres
    refine am_iload_n cx 1 dX12_newName_12 rfl ?_
    refine am_aload_n cx 0 dX12_newName_13 rfl ?_
    refine am_getR cx dX12_newName_14 flX12_13 (am_ke q1) ?_
    refine am_iload_n cx 2 dX12_newName_17 rfl ?_
    obtain ⟨q9, hres⟩ := am_ck_some hres
    obtain ⟨q10, hres⟩ := am_ck_some hres
    refine am_lald cx dX12_newName_18 (am_ke q9) q10 ?_
    refine am_aload_n cx 0 dX12_newName_19 rfl ?_
    refine am_getJ cx dX12_newName_20 flX12_133 (am_ke q1) ?_
    refine am_lcmp cx dX12_newName_23 ?_
    refine am_if_ne cx (tgt := 31) dX12_newName_24 (by decide) (fun h => ?_) (fun h => ?_)
    · have hres := am_ifn h hres
      refine am_iconst cx (v := (0 : Int32)) dX12_newName_31 (by decide) ?_
      refine am_sub cx [0, 2] rfl ?_
      exact sn12_newName_b32 cx hk4 hres
    · have hres := am_ifp h hres
      refine am_iconst cx (v := (1 : Int32)) dX12_newName_27 (by decide) ?_
      refine am_goto cx (tgt := 32) dX12_newName_28 (by decide) ?_
      refine am_sub cx [0, 2] rfl ?_
      exact sn12_newName_b32 cx hk4 hres
set_option maxRecDepth 20000 in
theorem sn12_newName_b4 {l : Launch} {G : am_G} {v : Int32} {M' : am_Mem} {N : Nat}  (cx : am_Ctx l rm12_newName yX12_newName cX12_newName 3 (some .boolean) (some (.inl v)) M' 0 0 G)  (i : Nat) : ∀ (r0 : Nat) (x1 : Int32) (x2 : Int32) (M : am_Mem), fn12_newName_b4 N  i r0 x1 x2 M = some (v, M') → G 4 [(0, .inr (.inr (.inl r0))), (1, .inl x1), (2, .inl x2)] [] M 0 0 := by
  induction i with
  | zero => intro r0 x1 x2 M hres; exact am_no hres
  | succ i ih => intro r0 x1 x2 M hres; exact sn12_newName_b4B cx ih hres
set_option maxRecDepth 20000 in
theorem sn12_newName_b0 {l : Launch} {G : am_G} {v : Int32} {M' : am_Mem} {N : Nat}  (cx : am_Ctx l rm12_newName yX12_newName cX12_newName 3 (some .boolean) (some (.inl v)) M' 0 0 G)  {r0 : Nat} {M : am_Mem} (hres : fn12_newName_b0 N  r0 M = some (v, M')) : G 0 [(0, .inr (.inr (.inl r0)))] [] M 0 0 := by
  unfold fn12_newName_b0 at hres
  refine am_iconst cx (v := (0 : Int32)) dX12_newName_0 (by decide) ?_
  refine am_istore_n cx (lv' := [(0, .inr (.inr (.inl r0))), (1, .inl (0 : Int32))]) dX12_newName_1 (Nat.le_of_ble_eq_true rfl) rfl ?_
  refine am_iconst cx (v := (0 : Int32)) dX12_newName_2 (by decide) ?_
  refine am_istore_n cx (lv' := [(0, .inr (.inr (.inl r0))), (1, .inl (0 : Int32)), (2, .inl (0 : Int32))]) dX12_newName_3 (Nat.le_of_ble_eq_true rfl) rfl ?_
  exact sn12_newName_b4 cx  N _ _ _ _ hres
set_option maxRecDepth 20000 in
theorem mt12_newName {l : Launch} {v : Int32} {M M' : am_Mem} {N : Nat} {r0 : Nat} (h : fn12_newName N M r0 = some (v, M')) : am_Met l yX12_newName cX12_newName 3 (some .boolean) rm12_newName 0 0 [.inr (.inr (.inl r0))] M (some (.inl v)) M' := am_mk (by decide) (Nat.le_of_ble_eq_true rfl) (fun G cx => (sn12_newName_b0 cx h))
-- SquareCutsModel.drawnLine
def fn12_drawnLine_b9B (N : Nat) (k9 : Nat → am_Mem → Option (Int32 × am_Mem)) (r0 : Nat) (M : am_Mem) : Option (Int32 × am_Mem) :=
  am_ck (am_k M r0 12) (am_bd (fn12_groupHere N M r0) (fun v2 M3 => if v2 = 0 then some ((0 : Int32), M3) else am_ck (am_k M3 r0 12) (if (am_I M3 r0 6) = (5 : Int32) then k9 r0 M3 else some ((1 : Int32), M3))))
def fn12_drawnLine_b9 (N : Nat)  : Nat → Nat → am_Mem → Option (Int32 × am_Mem)
  | 0 => fun _ _ => none
  | i + 1 => fn12_drawnLine_b9B N (fn12_drawnLine_b9 N  i)
def fn12_drawnLine_b0 (N : Nat)  (r0 : Nat) (M : am_Mem) : Option (Int32 × am_Mem) :=
  am_ck (am_k M r0 12) (am_bd (fn12_newName N M r0) (fun v2 M3 => if v2 = 0 then some ((0 : Int32), M3) else fn12_drawnLine_b9 N  N r0 M3))
def fn12_drawnLine (N : Nat) (M : am_Mem) (r0 : Nat) : Option (Int32 × am_Mem) := fn12_drawnLine_b0 N r0 M
def rm12_drawnLine : Room := { frames := 8, cells := 0, slots := 0, locals := 171 }
set_option maxRecDepth 20000 in
theorem sn12_drawnLine_b9B {l : Launch} {G : am_G} {v : Int32} {M' : am_Mem} {N : Nat} {k9 : Nat → am_Mem → Option (Int32 × am_Mem)} (cx : am_Ctx l rm12_drawnLine yX12_drawnLine cX12_drawnLine 1 (some .boolean) (some (.inl v)) M' 0 0 G) (hk9 : ∀ (r0 : Nat) (M : am_Mem), k9 r0 M = some (v, M') → G 9 [(0, .inr (.inr (.inl r0)))] [] M 0 0) {r0 : Nat} {M : am_Mem} (hres : fn12_drawnLine_b9B N k9 r0 M = some (v, M')) : G 9 [(0, .inr (.inr (.inl r0)))] [] M 0 0 := by
  unfold fn12_drawnLine_b9B at hres
  refine am_aload_n cx 0 dX12_drawnLine_9 rfl ?_
  obtain ⟨q1, hres⟩ := am_ck_some hres
  obtain ⟨v2, M3, q4, hres⟩ := am_bd_some hres
  refine am_callV1 cx [] dX12_drawnLine_10 cvX12_196 (mt12_groupHere q4) (am_ke q1) ⟨rfl, rfl, Nat.le_of_ble_eq_true rfl, Nat.le_of_ble_eq_true rfl⟩ rfl (Nat.le_of_ble_eq_true rfl) ⟨Nat.le_of_ble_eq_true rfl, Nat.le_of_ble_eq_true rfl⟩ ?_
  refine am_if_ne cx (tgt := 18) dX12_drawnLine_13 (by decide) (fun h => ?_) (fun h => ?_)
  · have hres := am_ifn h hres
    refine am_aload_n cx 0 dX12_drawnLine_18 rfl ?_
    obtain ⟨q5, hres⟩ := am_ck_some hres
    refine am_getI cx dX12_drawnLine_19 flX12_127 (am_ke q5) ?_
    refine am_iconst cx (v := (5 : Int32)) dX12_drawnLine_22 (by decide) ?_
    refine am_icmp_eq cx (tgt := 9) dX12_drawnLine_23 (by decide) (fun h => ?_) (fun h => ?_)
    · have hres := am_ifp h hres
      exact hk9 _ _ hres
    · have hres := am_ifn h hres
      refine am_iconst cx (v := (1 : Int32)) dX12_drawnLine_26 (by decide) ?_
      obtain ⟨rfl, rfl⟩ := am_fin hres
      exact am_zret cx rfl dX12_drawnLine_27
  · have hres := am_ifp h hres
    refine am_iconst cx (v := (0 : Int32)) dX12_drawnLine_16 (by decide) ?_
    obtain ⟨rfl, rfl⟩ := am_fin hres
    exact am_zret cx rfl dX12_drawnLine_17
set_option maxRecDepth 20000 in
theorem sn12_drawnLine_b9 {l : Launch} {G : am_G} {v : Int32} {M' : am_Mem} {N : Nat}  (cx : am_Ctx l rm12_drawnLine yX12_drawnLine cX12_drawnLine 1 (some .boolean) (some (.inl v)) M' 0 0 G)  (i : Nat) : ∀ (r0 : Nat) (M : am_Mem), fn12_drawnLine_b9 N  i r0 M = some (v, M') → G 9 [(0, .inr (.inr (.inl r0)))] [] M 0 0 := by
  induction i with
  | zero => intro r0 M hres; exact am_no hres
  | succ i ih => intro r0 M hres; exact sn12_drawnLine_b9B cx ih hres
set_option maxRecDepth 20000 in
theorem sn12_drawnLine_b0 {l : Launch} {G : am_G} {v : Int32} {M' : am_Mem} {N : Nat}  (cx : am_Ctx l rm12_drawnLine yX12_drawnLine cX12_drawnLine 1 (some .boolean) (some (.inl v)) M' 0 0 G)  {r0 : Nat} {M : am_Mem} (hres : fn12_drawnLine_b0 N  r0 M = some (v, M')) : G 0 [(0, .inr (.inr (.inl r0)))] [] M 0 0 := by
  unfold fn12_drawnLine_b0 at hres
  refine am_aload_n cx 0 dX12_drawnLine_0 rfl ?_
  obtain ⟨q1, hres⟩ := am_ck_some hres
  obtain ⟨v2, M3, q4, hres⟩ := am_bd_some hres
  refine am_callV1 cx [] dX12_drawnLine_1 cvX12_193 (mt12_newName q4) (am_ke q1) ⟨rfl, rfl, Nat.le_of_ble_eq_true rfl, Nat.le_of_ble_eq_true rfl⟩ rfl (Nat.le_of_ble_eq_true rfl) ⟨Nat.le_of_ble_eq_true rfl, Nat.le_of_ble_eq_true rfl⟩ ?_
  refine am_if_ne cx (tgt := 9) dX12_drawnLine_4 (by decide) (fun h => ?_) (fun h => ?_)
  · have hres := am_ifn h hres
    exact sn12_drawnLine_b9 cx  N _ _ hres
  · have hres := am_ifp h hres
    refine am_iconst cx (v := (0 : Int32)) dX12_drawnLine_7 (by decide) ?_
    obtain ⟨rfl, rfl⟩ := am_fin hres
    exact am_zret cx rfl dX12_drawnLine_8
set_option maxRecDepth 20000 in
theorem mt12_drawnLine {l : Launch} {v : Int32} {M M' : am_Mem} {N : Nat} {r0 : Nat} (h : fn12_drawnLine N M r0 = some (v, M')) : am_Met l yX12_drawnLine cX12_drawnLine 1 (some .boolean) rm12_drawnLine 0 0 [.inr (.inr (.inl r0))] M (some (.inl v)) M' := am_mk (by decide) (Nat.le_of_ble_eq_true rfl) (fun G cx => (sn12_drawnLine_b0 cx h))
-- SquareCutsModel.netLine
def fn12_netLine_b52 (N : Nat)   (M : am_Mem) : Option (Int32 × am_Mem) :=
  some ((0 : Int32), M)
def fn12_netLine_b135 (N : Nat)   (M : am_Mem) : Option (Int32 × am_Mem) :=
  some ((0 : Int32), M)
def fn12_netLine_b204 (N : Nat)   (M : am_Mem) : Option (Int32 × am_Mem) :=
  some ((0 : Int32), M)
def fn12_netLine_b197 (N : Nat) (k71 : Nat → am_Mem → Option (Int32 × am_Mem)) (c0 : Nat) (a1 : Int32) (r0 : Nat) (x1 : Int32) (M : am_Mem) : Option (Int32 × am_Mem) :=
  am_ck (am_k M c0 12) (am_bd (fn12_must M c0 a1 (3 : Int32)) (fun v2 M3 => if v2 = 0 then fn12_netLine_b204 N   M3 else am_ck (am_k M3 r0 12) (am_ck (am_k M3 (am_R M3 r0 14) 14) (am_ck (am_in (am_I M3 r0 11) (am_L M3 (am_R M3 r0 14))) (am_ck (am_k M3 (am_R M3 r0 16) 14) (am_ck (am_in (((29 : Int32) * (am_I M3 r0 11)) + (am_I M3 (am_R M3 r0 14) (am_I M3 r0 11).toNatClampNeg)) (am_L M3 (am_R M3 r0 16))) (am_ck (am_in (am_I (am_wI M3 (am_R M3 r0 16) (((29 : Int32) * (am_I M3 r0 11)) + (am_I M3 (am_R M3 r0 14) (am_I M3 r0 11).toNatClampNeg)).toNatClampNeg x1) r0 11) (am_L M3 (am_R M3 r0 14))) (am_ck (am_in ((((29 : Int32) * (am_I (am_wI M3 (am_R M3 r0 16) (((29 : Int32) * (am_I M3 r0 11)) + (am_I M3 (am_R M3 r0 14) (am_I M3 r0 11).toNatClampNeg)).toNatClampNeg x1) r0 11)) + (am_I (am_wI M3 (am_R M3 r0 16) (((29 : Int32) * (am_I M3 r0 11)) + (am_I M3 (am_R M3 r0 14) (am_I M3 r0 11).toNatClampNeg)).toNatClampNeg x1) (am_R M3 r0 14) (am_I (am_wI M3 (am_R M3 r0 16) (((29 : Int32) * (am_I M3 r0 11)) + (am_I M3 (am_R M3 r0 14) (am_I M3 r0 11).toNatClampNeg)).toNatClampNeg x1) r0 11).toNatClampNeg)) + (1 : Int32)) (am_L M3 (am_R M3 r0 16))) (am_ck (am_in (am_I (am_wI (am_wI M3 (am_R M3 r0 16) (((29 : Int32) * (am_I M3 r0 11)) + (am_I M3 (am_R M3 r0 14) (am_I M3 r0 11).toNatClampNeg)).toNatClampNeg x1) (am_R M3 r0 16) ((((29 : Int32) * (am_I (am_wI M3 (am_R M3 r0 16) (((29 : Int32) * (am_I M3 r0 11)) + (am_I M3 (am_R M3 r0 14) (am_I M3 r0 11).toNatClampNeg)).toNatClampNeg x1) r0 11)) + (am_I (am_wI M3 (am_R M3 r0 16) (((29 : Int32) * (am_I M3 r0 11)) + (am_I M3 (am_R M3 r0 14) (am_I M3 r0 11).toNatClampNeg)).toNatClampNeg x1) (am_R M3 r0 14) (am_I (am_wI M3 (am_R M3 r0 16) (((29 : Int32) * (am_I M3 r0 11)) + (am_I M3 (am_R M3 r0 14) (am_I M3 r0 11).toNatClampNeg)).toNatClampNeg x1) r0 11).toNatClampNeg)) + (1 : Int32)).toNatClampNeg (am_I (am_wI M3 (am_R M3 r0 16) (((29 : Int32) * (am_I M3 r0 11)) + (am_I M3 (am_R M3 r0 14) (am_I M3 r0 11).toNatClampNeg)).toNatClampNeg x1) r0 7)) r0 11) (am_L M3 (am_R M3 r0 14))) (am_ck (am_in (am_I (am_wI (am_wI M3 (am_R M3 r0 16) (((29 : Int32) * (am_I M3 r0 11)) + (am_I M3 (am_R M3 r0 14) (am_I M3 r0 11).toNatClampNeg)).toNatClampNeg x1) (am_R M3 r0 16) ((((29 : Int32) * (am_I (am_wI M3 (am_R M3 r0 16) (((29 : Int32) * (am_I M3 r0 11)) + (am_I M3 (am_R M3 r0 14) (am_I M3 r0 11).toNatClampNeg)).toNatClampNeg x1) r0 11)) + (am_I (am_wI M3 (am_R M3 r0 16) (((29 : Int32) * (am_I M3 r0 11)) + (am_I M3 (am_R M3 r0 14) (am_I M3 r0 11).toNatClampNeg)).toNatClampNeg x1) (am_R M3 r0 14) (am_I (am_wI M3 (am_R M3 r0 16) (((29 : Int32) * (am_I M3 r0 11)) + (am_I M3 (am_R M3 r0 14) (am_I M3 r0 11).toNatClampNeg)).toNatClampNeg x1) r0 11).toNatClampNeg)) + (1 : Int32)).toNatClampNeg (am_I (am_wI M3 (am_R M3 r0 16) (((29 : Int32) * (am_I M3 r0 11)) + (am_I M3 (am_R M3 r0 14) (am_I M3 r0 11).toNatClampNeg)).toNatClampNeg x1) r0 7)) r0 11) (am_L M3 (am_R M3 r0 14))) (am_bd (fn12_steps N (am_wI (am_wI (am_wI M3 (am_R M3 r0 16) (((29 : Int32) * (am_I M3 r0 11)) + (am_I M3 (am_R M3 r0 14) (am_I M3 r0 11).toNatClampNeg)).toNatClampNeg x1) (am_R M3 r0 16) ((((29 : Int32) * (am_I (am_wI M3 (am_R M3 r0 16) (((29 : Int32) * (am_I M3 r0 11)) + (am_I M3 (am_R M3 r0 14) (am_I M3 r0 11).toNatClampNeg)).toNatClampNeg x1) r0 11)) + (am_I (am_wI M3 (am_R M3 r0 16) (((29 : Int32) * (am_I M3 r0 11)) + (am_I M3 (am_R M3 r0 14) (am_I M3 r0 11).toNatClampNeg)).toNatClampNeg x1) (am_R M3 r0 14) (am_I (am_wI M3 (am_R M3 r0 16) (((29 : Int32) * (am_I M3 r0 11)) + (am_I M3 (am_R M3 r0 14) (am_I M3 r0 11).toNatClampNeg)).toNatClampNeg x1) r0 11).toNatClampNeg)) + (1 : Int32)).toNatClampNeg (am_I (am_wI M3 (am_R M3 r0 16) (((29 : Int32) * (am_I M3 r0 11)) + (am_I M3 (am_R M3 r0 14) (am_I M3 r0 11).toNatClampNeg)).toNatClampNeg x1) r0 7)) (am_R M3 r0 14) (am_I (am_wI (am_wI M3 (am_R M3 r0 16) (((29 : Int32) * (am_I M3 r0 11)) + (am_I M3 (am_R M3 r0 14) (am_I M3 r0 11).toNatClampNeg)).toNatClampNeg x1) (am_R M3 r0 16) ((((29 : Int32) * (am_I (am_wI M3 (am_R M3 r0 16) (((29 : Int32) * (am_I M3 r0 11)) + (am_I M3 (am_R M3 r0 14) (am_I M3 r0 11).toNatClampNeg)).toNatClampNeg x1) r0 11)) + (am_I (am_wI M3 (am_R M3 r0 16) (((29 : Int32) * (am_I M3 r0 11)) + (am_I M3 (am_R M3 r0 14) (am_I M3 r0 11).toNatClampNeg)).toNatClampNeg x1) (am_R M3 r0 14) (am_I (am_wI M3 (am_R M3 r0 16) (((29 : Int32) * (am_I M3 r0 11)) + (am_I M3 (am_R M3 r0 14) (am_I M3 r0 11).toNatClampNeg)).toNatClampNeg x1) r0 11).toNatClampNeg)) + (1 : Int32)).toNatClampNeg (am_I (am_wI M3 (am_R M3 r0 16) (((29 : Int32) * (am_I M3 r0 11)) + (am_I M3 (am_R M3 r0 14) (am_I M3 r0 11).toNatClampNeg)).toNatClampNeg x1) r0 7)) r0 11).toNatClampNeg ((am_I (am_wI (am_wI M3 (am_R M3 r0 16) (((29 : Int32) * (am_I M3 r0 11)) + (am_I M3 (am_R M3 r0 14) (am_I M3 r0 11).toNatClampNeg)).toNatClampNeg x1) (am_R M3 r0 16) ((((29 : Int32) * (am_I (am_wI M3 (am_R M3 r0 16) (((29 : Int32) * (am_I M3 r0 11)) + (am_I M3 (am_R M3 r0 14) (am_I M3 r0 11).toNatClampNeg)).toNatClampNeg x1) r0 11)) + (am_I (am_wI M3 (am_R M3 r0 16) (((29 : Int32) * (am_I M3 r0 11)) + (am_I M3 (am_R M3 r0 14) (am_I M3 r0 11).toNatClampNeg)).toNatClampNeg x1) (am_R M3 r0 14) (am_I (am_wI M3 (am_R M3 r0 16) (((29 : Int32) * (am_I M3 r0 11)) + (am_I M3 (am_R M3 r0 14) (am_I M3 r0 11).toNatClampNeg)).toNatClampNeg x1) r0 11).toNatClampNeg)) + (1 : Int32)).toNatClampNeg (am_I (am_wI M3 (am_R M3 r0 16) (((29 : Int32) * (am_I M3 r0 11)) + (am_I M3 (am_R M3 r0 14) (am_I M3 r0 11).toNatClampNeg)).toNatClampNeg x1) r0 7)) (am_R M3 r0 14) (am_I (am_wI (am_wI M3 (am_R M3 r0 16) (((29 : Int32) * (am_I M3 r0 11)) + (am_I M3 (am_R M3 r0 14) (am_I M3 r0 11).toNatClampNeg)).toNatClampNeg x1) (am_R M3 r0 16) ((((29 : Int32) * (am_I (am_wI M3 (am_R M3 r0 16) (((29 : Int32) * (am_I M3 r0 11)) + (am_I M3 (am_R M3 r0 14) (am_I M3 r0 11).toNatClampNeg)).toNatClampNeg x1) r0 11)) + (am_I (am_wI M3 (am_R M3 r0 16) (((29 : Int32) * (am_I M3 r0 11)) + (am_I M3 (am_R M3 r0 14) (am_I M3 r0 11).toNatClampNeg)).toNatClampNeg x1) (am_R M3 r0 14) (am_I (am_wI M3 (am_R M3 r0 16) (((29 : Int32) * (am_I M3 r0 11)) + (am_I M3 (am_R M3 r0 14) (am_I M3 r0 11).toNatClampNeg)).toNatClampNeg x1) r0 11).toNatClampNeg)) + (1 : Int32)).toNatClampNeg (am_I (am_wI M3 (am_R M3 r0 16) (((29 : Int32) * (am_I M3 r0 11)) + (am_I M3 (am_R M3 r0 14) (am_I M3 r0 11).toNatClampNeg)).toNatClampNeg x1) r0 7)) r0 11).toNatClampNeg) + (2 : Int32))) r0) (fun v14 M15 => k71 r0 M15))))))))))))
def fn12_netLine_b196 (N : Nat) (k71 : Nat → am_Mem → Option (Int32 × am_Mem)) (c0 : Nat) (r0 : Nat) (x1 : Int32) (M : am_Mem) : Option (Int32 × am_Mem) :=
  fn12_netLine_b197 N k71 c0 (0 : Int32) r0 x1 M
def fn12_netLine_b160 (N : Nat) (k71 : Nat → am_Mem → Option (Int32 × am_Mem)) (c0 : Nat) (a1 : Int32) (r0 : Nat) (x1 : Int32) (M : am_Mem) : Option (Int32 × am_Mem) :=
  am_ck (am_k M c0 12) (am_bd (fn12_must M c0 a1 (1 : Int32)) (fun v2 M3 => if v2 = 0 then fn12_netLine_b204 N   M3 else am_ck (am_k M3 r0 12) (am_ck (am_k M3 (am_R M3 r0 15) 14) (am_ck (am_in (am_I M3 r0 11) (am_L M3 (am_R M3 r0 15))) (if (am_I M3 (am_R M3 r0 15) (am_I M3 r0 11).toNatClampNeg) ≤ (am_I M3 r0 7) then fn12_netLine_b196 N k71 r0 r0 x1 M3 else if (am_I M3 r0 7) = x1 then fn12_netLine_b196 N k71 r0 r0 x1 M3 else fn12_netLine_b197 N k71 r0 (1 : Int32) r0 x1 M3)))))
def fn12_netLine_b142 (N : Nat) (k71 : Nat → am_Mem → Option (Int32 × am_Mem)) (r0 : Nat) (x1 : Int32) (M : am_Mem) : Option (Int32 × am_Mem) :=
  am_ck (am_k M r0 12) (am_bd (fn12_steps N M r0) (fun v2 M3 => am_ck (am_k M3 r0 12) (if (am_I M3 r0 6) = (2 : Int32) then fn12_netLine_b160 N k71 r0 (1 : Int32) r0 x1 M3 else fn12_netLine_b160 N k71 r0 (0 : Int32) r0 x1 M3)))
def fn12_netLine_b128 (N : Nat) (k71 : Nat → am_Mem → Option (Int32 × am_Mem)) (c0 : Nat) (a1 : Int32) (r0 : Nat) (M : am_Mem) : Option (Int32 × am_Mem) :=
  am_ck (am_k M c0 12) (am_bd (fn12_must M c0 a1 (4 : Int32)) (fun v2 M3 => if v2 = 0 then fn12_netLine_b135 N   M3 else am_ck (am_k M3 r0 12) (fn12_netLine_b142 N k71 r0 (am_I M3 r0 7) M3)))
def fn12_netLine_b101 (N : Nat) (k71 : Nat → am_Mem → Option (Int32 × am_Mem)) (c0 : Nat) (a1 : Int32) (r0 : Nat) (M : am_Mem) : Option (Int32 × am_Mem) :=
  am_ck (am_k M c0 12) (am_bd (fn12_must M c0 a1 (3 : Int32)) (fun v2 M3 => if v2 = 0 then fn12_netLine_b135 N   M3 else am_ck (am_k M3 r0 12) (am_ck (am_k M3 (am_R M3 r0 14) 14) (am_ck (am_in (am_I M3 r0 11) (am_L M3 (am_R M3 r0 14))) (if (28 : Int32) ≤ (am_I M3 (am_R M3 r0 14) (am_I M3 r0 11).toNatClampNeg) then fn12_netLine_b128 N k71 r0 (0 : Int32) r0 M3 else fn12_netLine_b128 N k71 r0 (1 : Int32) r0 M3)))))
def fn12_netLine_b71B (N : Nat) (k71 : Nat → am_Mem → Option (Int32 × am_Mem)) (r0 : Nat) (M : am_Mem) : Option (Int32 × am_Mem) :=
  am_ck (am_k M r0 12) (if (am_I M r0 6) = (2 : Int32) then am_ck (am_k M (am_R M r0 15) 14) (am_ck (am_in (am_I M r0 11) (am_L M (am_R M r0 15))) (if (am_I M (am_R M r0 15) (am_I M r0 11).toNatClampNeg) ≤ (am_I M r0 7) then fn12_netLine_b101 N k71 r0 (0 : Int32) r0 M else fn12_netLine_b101 N k71 r0 (1 : Int32) r0 M)) else some ((1 : Int32), M))
def fn12_netLine_b71 (N : Nat)  : Nat → Nat → am_Mem → Option (Int32 × am_Mem)
  | 0 => fun _ _ => none
  | i + 1 => fn12_netLine_b71B N (fn12_netLine_b71 N  i)
def fn12_netLine_b23 (N : Nat)  (c0 : Nat) (a1 : Int32) (r0 : Nat) (M : am_Mem) : Option (Int32 × am_Mem) :=
  am_ck (am_k M c0 12) (am_bd (fn12_must M c0 a1 (1 : Int32)) (fun v2 M3 => if v2 = 0 then fn12_netLine_b52 N   M3 else am_ck (am_k M3 r0 12) (am_bd (fn12_within M3 ((am_I M3 r0 7).toInt64) (2 : Int64) (9 : Int64)) (fun v6 M7 => am_ck (am_k M7 r0 12) (am_bd (fn12_must M7 r0 v6 (3 : Int32)) (fun v10 M11 => if v10 = 0 then fn12_netLine_b52 N   M11 else am_ck (am_k M11 r0 12) (am_ck (am_k M11 (am_R M11 r0 15) 14) (am_ck (am_in (am_I M11 r0 11) (am_L M11 (am_R M11 r0 15))) (am_bd (fn12_steps N (am_wI M11 (am_R M11 r0 15) (am_I M11 r0 11).toNatClampNeg (am_I M11 r0 7)) r0) (fun v16 M17 => fn12_netLine_b71 N  N r0 M17))))))))))
def fn12_netLine_b0 (N : Nat)  (r0 : Nat) (M : am_Mem) : Option (Int32 × am_Mem) :=
  am_ck (am_k M r0 12) (am_bd (fn12_newName N M r0) (fun v2 M3 => if v2 = 0 then some ((0 : Int32), M3) else am_ck (am_k M3 r0 12) (if (am_I M3 r0 6) = (2 : Int32) then fn12_netLine_b23 N  r0 (1 : Int32) r0 M3 else fn12_netLine_b23 N  r0 (0 : Int32) r0 M3)))
def fn12_netLine (N : Nat) (M : am_Mem) (r0 : Nat) : Option (Int32 × am_Mem) := fn12_netLine_b0 N r0 M
def rm12_netLine : Room := { frames := 8, cells := 0, slots := 0, locals := 171 }
set_option maxRecDepth 20000 in
theorem sn12_netLine_b52 {l : Launch} {G : am_G} {v : Int32} {M' : am_Mem} {N : Nat}  (cx : am_Ctx l rm12_netLine yX12_netLine cX12_netLine 2 (some .boolean) (some (.inl v)) M' 0 0 G)   {M : am_Mem} (hres : fn12_netLine_b52 N   M = some (v, M')) : G 52 [] [] M 0 0 := by
  unfold fn12_netLine_b52 at hres
  refine am_iconst cx (v := (0 : Int32)) dX12_netLine_52 (by decide) ?_
  obtain ⟨rfl, rfl⟩ := am_fin hres
  exact am_zret cx rfl dX12_netLine_53
set_option maxRecDepth 20000 in
theorem sn12_netLine_b135 {l : Launch} {G : am_G} {v : Int32} {M' : am_Mem} {N : Nat}  (cx : am_Ctx l rm12_netLine yX12_netLine cX12_netLine 2 (some .boolean) (some (.inl v)) M' 0 0 G)   {M : am_Mem} (hres : fn12_netLine_b135 N   M = some (v, M')) : G 135 [] [] M 0 0 := by
  unfold fn12_netLine_b135 at hres
  refine am_iconst cx (v := (0 : Int32)) dX12_netLine_135 (by decide) ?_
  obtain ⟨rfl, rfl⟩ := am_fin hres
  exact am_zret cx rfl dX12_netLine_136
set_option maxRecDepth 20000 in
theorem sn12_netLine_b204 {l : Launch} {G : am_G} {v : Int32} {M' : am_Mem} {N : Nat}  (cx : am_Ctx l rm12_netLine yX12_netLine cX12_netLine 2 (some .boolean) (some (.inl v)) M' 0 0 G)   {M : am_Mem} (hres : fn12_netLine_b204 N   M = some (v, M')) : G 204 [] [] M 0 0 := by
  unfold fn12_netLine_b204 at hres
  refine am_iconst cx (v := (0 : Int32)) dX12_netLine_204 (by decide) ?_
  obtain ⟨rfl, rfl⟩ := am_fin hres
  exact am_zret cx rfl dX12_netLine_205
set_option maxRecDepth 20000 in
theorem sn12_netLine_b197 {l : Launch} {G : am_G} {v : Int32} {M' : am_Mem} {N : Nat} {k71 : Nat → am_Mem → Option (Int32 × am_Mem)} (cx : am_Ctx l rm12_netLine yX12_netLine cX12_netLine 2 (some .boolean) (some (.inl v)) M' 0 0 G) (hk71 : ∀ (r0 : Nat) (M : am_Mem), k71 r0 M = some (v, M') → G 71 [(0, .inr (.inr (.inl r0)))] [] M 0 0) {c0 : Nat} {a1 : Int32} {r0 : Nat} {x1 : Int32} {M : am_Mem} (hres : fn12_netLine_b197 N k71 c0 a1 r0 x1 M = some (v, M')) : G 197 [(0, .inr (.inr (.inl r0))), (1, .inl x1)] [.inl a1, .inr (.inr (.inl c0))] M 0 0 := by
  unfold fn12_netLine_b197 at hres
  refine am_iconst cx (v := (3 : Int32)) dX12_netLine_197 (by decide) ?_
  obtain ⟨q1, hres⟩ := am_ck_some hres
  obtain ⟨v2, M3, q4, hres⟩ := am_bd_some hres
  refine am_callV1 cx [.inl a1, .inl (3 : Int32)] dX12_netLine_198 cvX12_186 (mt12_must q4) (am_ke q1) ⟨rfl, rfl, Nat.le_of_ble_eq_true rfl, Nat.le_of_ble_eq_true rfl⟩ rfl (Nat.le_of_ble_eq_true rfl) ⟨Nat.le_of_ble_eq_true rfl, Nat.le_of_ble_eq_true rfl⟩ ?_
  refine am_if_ne cx (tgt := 206) dX12_netLine_201 (by decide) (fun h => ?_) (fun h => ?_)
  · have hres := am_ifn h hres
    refine am_aload_n cx 0 dX12_netLine_206 rfl ?_
    obtain ⟨q5, hres⟩ := am_ck_some hres
    refine am_getR cx dX12_netLine_207 flX12_27 (am_ke q5) ?_
    refine am_bipush cx (v := (29 : Int32)) dX12_netLine_210 (by decide) ?_
    refine am_aload_n cx 0 dX12_netLine_212 rfl ?_
    refine am_getI cx dX12_netLine_213 flX12_179 (am_ke q5) ?_
    refine am_imul cx dX12_netLine_216 ?_
    refine am_aload_n cx 0 dX12_netLine_217 rfl ?_
    refine am_getR cx dX12_netLine_218 flX12_21 (am_ke q5) ?_
    refine am_aload_n cx 0 dX12_netLine_221 rfl ?_
    refine am_getI cx dX12_netLine_222 flX12_179 (am_ke q5) ?_
    obtain ⟨q6, hres⟩ := am_ck_some hres
    obtain ⟨q7, hres⟩ := am_ck_some hres
    refine am_iald cx dX12_netLine_225 (am_ke q6) q7 ?_
    refine am_iadd cx dX12_netLine_226 ?_
    refine am_iload_n cx 1 dX12_netLine_227 rfl ?_
    obtain ⟨q8, hres⟩ := am_ck_some hres
    obtain ⟨q9, hres⟩ := am_ck_some hres
    refine am_iast cx dX12_netLine_228 (am_ke q8) q9  ?_
    refine am_aload_n cx 0 dX12_netLine_229 rfl ?_
    refine am_getR cx dX12_netLine_230 flX12_27 (am_ke q5) ?_
    refine am_bipush cx (v := (29 : Int32)) dX12_netLine_233 (by decide) ?_
    refine am_aload_n cx 0 dX12_netLine_235 rfl ?_
    refine am_getI cx dX12_netLine_236 flX12_179 (am_ke q5) ?_
    refine am_imul cx dX12_netLine_239 ?_
    refine am_aload_n cx 0 dX12_netLine_240 rfl ?_
    refine am_getR cx dX12_netLine_241 flX12_21 (am_ke q5) ?_
    refine am_aload_n cx 0 dX12_netLine_244 rfl ?_
    refine am_getI cx dX12_netLine_245 flX12_179 (am_ke q5) ?_
    obtain ⟨q10, hres⟩ := am_ck_some hres
    refine am_iald cx dX12_netLine_248 (am_ke q6) q10 ?_
    refine am_iadd cx dX12_netLine_249 ?_
    refine am_iconst cx (v := (1 : Int32)) dX12_netLine_250 (by decide) ?_
    refine am_iadd cx dX12_netLine_251 ?_
    refine am_aload_n cx 0 dX12_netLine_252 rfl ?_
    refine am_getI cx dX12_netLine_253 flX12_130 (am_ke q5) ?_
    obtain ⟨q11, hres⟩ := am_ck_some hres
    refine am_iast cx dX12_netLine_256 (am_ke q8) q11  ?_
    refine am_aload_n cx 0 dX12_netLine_257 rfl ?_
    refine am_getR cx dX12_netLine_258 flX12_21 (am_ke q5) ?_
    refine am_aload_n cx 0 dX12_netLine_261 rfl ?_
    refine am_getI cx dX12_netLine_262 flX12_179 (am_ke q5) ?_
    refine am_dup2 cx dX12_netLine_265 rfl rfl ?_
    obtain ⟨q12, hres⟩ := am_ck_some hres
    refine am_iald cx dX12_netLine_266 (am_ke q6) q12 ?_
    refine am_iconst cx (v := (2 : Int32)) dX12_netLine_267 (by decide) ?_
    refine am_iadd cx dX12_netLine_268 ?_
    obtain ⟨q13, hres⟩ := am_ck_some hres
    refine am_iast cx dX12_netLine_269 (am_ke q6) q13  ?_
    refine am_aload_n cx 0 dX12_netLine_270 rfl ?_
    obtain ⟨v14, M15, q16, hres⟩ := am_bd_some hres
    refine am_callV0 cx [] dX12_netLine_271 cvX12_190 (mt12_steps q16) (am_ke q5) ⟨rfl, rfl, Nat.le_of_ble_eq_true rfl, Nat.le_of_ble_eq_true rfl⟩ rfl (Nat.le_of_ble_eq_true rfl) ⟨Nat.le_of_ble_eq_true rfl, Nat.le_of_ble_eq_true rfl⟩ ?_
    refine am_goto cx (tgt := 71) dX12_netLine_274 (by decide) ?_
    refine am_sub cx [0] rfl ?_
    exact hk71 _ _ hres
  · have hres := am_ifp h hres
    refine am_sub cx [] rfl ?_
    exact sn12_netLine_b204 cx  hres
set_option maxRecDepth 20000 in
theorem sn12_netLine_b196 {l : Launch} {G : am_G} {v : Int32} {M' : am_Mem} {N : Nat} {k71 : Nat → am_Mem → Option (Int32 × am_Mem)} (cx : am_Ctx l rm12_netLine yX12_netLine cX12_netLine 2 (some .boolean) (some (.inl v)) M' 0 0 G) (hk71 : ∀ (r0 : Nat) (M : am_Mem), k71 r0 M = some (v, M') → G 71 [(0, .inr (.inr (.inl r0)))] [] M 0 0) {c0 : Nat} {r0 : Nat} {x1 : Int32} {M : am_Mem} (hres : fn12_netLine_b196 N k71 c0 r0 x1 M = some (v, M')) : G 196 [(0, .inr (.inr (.inl r0))), (1, .inl x1)] [.inr (.inr (.inl c0))] M 0 0 := by
  unfold fn12_netLine_b196 at hres
  refine am_iconst cx (v := (0 : Int32)) dX12_netLine_196 (by decide) ?_
  exact sn12_netLine_b197 cx hk71 hres
set_option maxRecDepth 20000 in
theorem sn12_netLine_b160 {l : Launch} {G : am_G} {v : Int32} {M' : am_Mem} {N : Nat} {k71 : Nat → am_Mem → Option (Int32 × am_Mem)} (cx : am_Ctx l rm12_netLine yX12_netLine cX12_netLine 2 (some .boolean) (some (.inl v)) M' 0 0 G) (hk71 : ∀ (r0 : Nat) (M : am_Mem), k71 r0 M = some (v, M') → G 71 [(0, .inr (.inr (.inl r0)))] [] M 0 0) {c0 : Nat} {a1 : Int32} {r0 : Nat} {x1 : Int32} {M : am_Mem} (hres : fn12_netLine_b160 N k71 c0 a1 r0 x1 M = some (v, M')) : G 160 [(0, .inr (.inr (.inl r0))), (1, .inl x1)] [.inl a1, .inr (.inr (.inl c0))] M 0 0 := by
  unfold fn12_netLine_b160 at hres
  refine am_iconst cx (v := (1 : Int32)) dX12_netLine_160 (by decide) ?_
  obtain ⟨q1, hres⟩ := am_ck_some hres
  obtain ⟨v2, M3, q4, hres⟩ := am_bd_some hres
  refine am_callV1 cx [.inl a1, .inl (1 : Int32)] dX12_netLine_161 cvX12_186 (mt12_must q4) (am_ke q1) ⟨rfl, rfl, Nat.le_of_ble_eq_true rfl, Nat.le_of_ble_eq_true rfl⟩ rfl (Nat.le_of_ble_eq_true rfl) ⟨Nat.le_of_ble_eq_true rfl, Nat.le_of_ble_eq_true rfl⟩ ?_
  refine am_if_eq cx (tgt := 204) dX12_netLine_164 (by decide) (fun h => ?_) (fun h => ?_)
  · have hres := am_ifp h hres
    refine am_sub cx [] rfl ?_
    exact sn12_netLine_b204 cx  hres
  · have hres := am_ifn h hres
    refine am_aload_n cx 0 dX12_netLine_167 rfl ?_
    refine am_aload_n cx 0 dX12_netLine_168 rfl ?_
    obtain ⟨q5, hres⟩ := am_ck_some hres
    refine am_getI cx dX12_netLine_169 flX12_130 (am_ke q5) ?_
    refine am_aload_n cx 0 dX12_netLine_172 rfl ?_
    refine am_getR cx dX12_netLine_173 flX12_24 (am_ke q5) ?_
    refine am_aload_n cx 0 dX12_netLine_176 rfl ?_
    refine am_getI cx dX12_netLine_177 flX12_179 (am_ke q5) ?_
    obtain ⟨q6, hres⟩ := am_ck_some hres
    obtain ⟨q7, hres⟩ := am_ck_some hres
    refine am_iald cx dX12_netLine_180 (am_ke q6) q7 ?_
    refine am_icmp_ge cx (tgt := 196) dX12_netLine_181 (by decide) (fun h => ?_) (fun h => ?_)
    · have hres := am_ifp h hres
      exact sn12_netLine_b196 cx hk71 hres
    · have hres := am_ifn h hres
      refine am_aload_n cx 0 dX12_netLine_184 rfl ?_
      refine am_getI cx dX12_netLine_185 flX12_130 (am_ke q5) ?_
      refine am_iload_n cx 1 dX12_netLine_188 rfl ?_
      refine am_icmp_eq cx (tgt := 196) dX12_netLine_189 (by decide) (fun h => ?_) (fun h => ?_)
      · have hres := am_ifp h hres
        exact sn12_netLine_b196 cx hk71 hres
      · have hres := am_ifn h hres
        refine am_iconst cx (v := (1 : Int32)) dX12_netLine_192 (by decide) ?_
        refine am_goto cx (tgt := 197) dX12_netLine_193 (by decide) ?_
        exact sn12_netLine_b197 cx hk71 hres
set_option maxRecDepth 20000 in
theorem sn12_netLine_b142 {l : Launch} {G : am_G} {v : Int32} {M' : am_Mem} {N : Nat} {k71 : Nat → am_Mem → Option (Int32 × am_Mem)} (cx : am_Ctx l rm12_netLine yX12_netLine cX12_netLine 2 (some .boolean) (some (.inl v)) M' 0 0 G) (hk71 : ∀ (r0 : Nat) (M : am_Mem), k71 r0 M = some (v, M') → G 71 [(0, .inr (.inr (.inl r0)))] [] M 0 0) {r0 : Nat} {x1 : Int32} {M : am_Mem} (hres : fn12_netLine_b142 N k71 r0 x1 M = some (v, M')) : G 142 [(0, .inr (.inr (.inl r0))), (1, .inl x1)] [] M 0 0 := by
  unfold fn12_netLine_b142 at hres
  refine am_aload_n cx 0 dX12_netLine_142 rfl ?_
  obtain ⟨q1, hres⟩ := am_ck_some hres
  obtain ⟨v2, M3, q4, hres⟩ := am_bd_some hres
  refine am_callV0 cx [] dX12_netLine_143 cvX12_190 (mt12_steps q4) (am_ke q1) ⟨rfl, rfl, Nat.le_of_ble_eq_true rfl, Nat.le_of_ble_eq_true rfl⟩ rfl (Nat.le_of_ble_eq_true rfl) ⟨Nat.le_of_ble_eq_true rfl, Nat.le_of_ble_eq_true rfl⟩ ?_
  refine am_aload_n cx 0 dX12_netLine_146 rfl ?_
  refine am_aload_n cx 0 dX12_netLine_147 rfl ?_
  obtain ⟨q5, hres⟩ := am_ck_some hres
  refine am_getI cx dX12_netLine_148 flX12_127 (am_ke q5) ?_
  refine am_iconst cx (v := (2 : Int32)) dX12_netLine_151 (by decide) ?_
  refine am_icmp_ne cx (tgt := 159) dX12_netLine_152 (by decide) (fun h => ?_) (fun h => ?_)
  · have hres := am_ifn h hres
    refine am_iconst cx (v := (0 : Int32)) dX12_netLine_159 (by decide) ?_
    exact sn12_netLine_b160 cx hk71 hres
  · have hres := am_ifp h hres
    refine am_iconst cx (v := (1 : Int32)) dX12_netLine_155 (by decide) ?_
    refine am_goto cx (tgt := 160) dX12_netLine_156 (by decide) ?_
    exact sn12_netLine_b160 cx hk71 hres
set_option maxRecDepth 20000 in
theorem sn12_netLine_b128 {l : Launch} {G : am_G} {v : Int32} {M' : am_Mem} {N : Nat} {k71 : Nat → am_Mem → Option (Int32 × am_Mem)} (cx : am_Ctx l rm12_netLine yX12_netLine cX12_netLine 2 (some .boolean) (some (.inl v)) M' 0 0 G) (hk71 : ∀ (r0 : Nat) (M : am_Mem), k71 r0 M = some (v, M') → G 71 [(0, .inr (.inr (.inl r0)))] [] M 0 0) {c0 : Nat} {a1 : Int32} {r0 : Nat} {M : am_Mem} (hres : fn12_netLine_b128 N k71 c0 a1 r0 M = some (v, M')) : G 128 [(0, .inr (.inr (.inl r0)))] [.inl a1, .inr (.inr (.inl c0))] M 0 0 := by
  unfold fn12_netLine_b128 at hres
  refine am_iconst cx (v := (4 : Int32)) dX12_netLine_128 (by decide) ?_
  obtain ⟨q1, hres⟩ := am_ck_some hres
  obtain ⟨v2, M3, q4, hres⟩ := am_bd_some hres
  refine am_callV1 cx [.inl a1, .inl (4 : Int32)] dX12_netLine_129 cvX12_186 (mt12_must q4) (am_ke q1) ⟨rfl, rfl, Nat.le_of_ble_eq_true rfl, Nat.le_of_ble_eq_true rfl⟩ rfl (Nat.le_of_ble_eq_true rfl) ⟨Nat.le_of_ble_eq_true rfl, Nat.le_of_ble_eq_true rfl⟩ ?_
  refine am_if_ne cx (tgt := 137) dX12_netLine_132 (by decide) (fun h => ?_) (fun h => ?_)
  · have hres := am_ifn h hres
    refine am_aload_n cx 0 dX12_netLine_137 rfl ?_
    obtain ⟨q5, hres⟩ := am_ck_some hres
    refine am_getI cx dX12_netLine_138 flX12_130 (am_ke q5) ?_
    refine am_istore_n cx (lv' := [(0, .inr (.inr (.inl r0))), (1, .inl (am_I M3 r0 7))]) dX12_netLine_141 (Nat.le_of_ble_eq_true rfl) rfl ?_
    exact sn12_netLine_b142 cx hk71 hres
  · have hres := am_ifp h hres
    refine am_sub cx [] rfl ?_
    exact sn12_netLine_b135 cx  hres
set_option maxRecDepth 20000 in
theorem sn12_netLine_b101 {l : Launch} {G : am_G} {v : Int32} {M' : am_Mem} {N : Nat} {k71 : Nat → am_Mem → Option (Int32 × am_Mem)} (cx : am_Ctx l rm12_netLine yX12_netLine cX12_netLine 2 (some .boolean) (some (.inl v)) M' 0 0 G) (hk71 : ∀ (r0 : Nat) (M : am_Mem), k71 r0 M = some (v, M') → G 71 [(0, .inr (.inr (.inl r0)))] [] M 0 0) {c0 : Nat} {a1 : Int32} {r0 : Nat} {M : am_Mem} (hres : fn12_netLine_b101 N k71 c0 a1 r0 M = some (v, M')) : G 101 [(0, .inr (.inr (.inl r0)))] [.inl a1, .inr (.inr (.inl c0))] M 0 0 := by
  unfold fn12_netLine_b101 at hres
  refine am_iconst cx (v := (3 : Int32)) dX12_netLine_101 (by decide) ?_
  obtain ⟨q1, hres⟩ := am_ck_some hres
  obtain ⟨v2, M3, q4, hres⟩ := am_bd_some hres
  refine am_callV1 cx [.inl a1, .inl (3 : Int32)] dX12_netLine_102 cvX12_186 (mt12_must q4) (am_ke q1) ⟨rfl, rfl, Nat.le_of_ble_eq_true rfl, Nat.le_of_ble_eq_true rfl⟩ rfl (Nat.le_of_ble_eq_true rfl) ⟨Nat.le_of_ble_eq_true rfl, Nat.le_of_ble_eq_true rfl⟩ ?_
  refine am_if_eq cx (tgt := 135) dX12_netLine_105 (by decide) (fun h => ?_) (fun h => ?_)
  · have hres := am_ifp h hres
    refine am_sub cx [] rfl ?_
    exact sn12_netLine_b135 cx  hres
  · have hres := am_ifn h hres
    refine am_aload_n cx 0 dX12_netLine_108 rfl ?_
    refine am_aload_n cx 0 dX12_netLine_109 rfl ?_
    obtain ⟨q5, hres⟩ := am_ck_some hres
    refine am_getR cx dX12_netLine_110 flX12_21 (am_ke q5) ?_
    refine am_aload_n cx 0 dX12_netLine_113 rfl ?_
    refine am_getI cx dX12_netLine_114 flX12_179 (am_ke q5) ?_
    obtain ⟨q6, hres⟩ := am_ck_some hres
    obtain ⟨q7, hres⟩ := am_ck_some hres
    refine am_iald cx dX12_netLine_117 (am_ke q6) q7 ?_
    refine am_bipush cx (v := (28 : Int32)) dX12_netLine_118 (by decide) ?_
    refine am_icmp_ge cx (tgt := 127) dX12_netLine_120 (by decide) (fun h => ?_) (fun h => ?_)
    · have hres := am_ifp h hres
      refine am_iconst cx (v := (0 : Int32)) dX12_netLine_127 (by decide) ?_
      exact sn12_netLine_b128 cx hk71 hres
    · have hres := am_ifn h hres
      refine am_iconst cx (v := (1 : Int32)) dX12_netLine_123 (by decide) ?_
      refine am_goto cx (tgt := 128) dX12_netLine_124 (by decide) ?_
      exact sn12_netLine_b128 cx hk71 hres
set_option maxRecDepth 20000 in
theorem sn12_netLine_b71B {l : Launch} {G : am_G} {v : Int32} {M' : am_Mem} {N : Nat} {k71 : Nat → am_Mem → Option (Int32 × am_Mem)} (cx : am_Ctx l rm12_netLine yX12_netLine cX12_netLine 2 (some .boolean) (some (.inl v)) M' 0 0 G) (hk71 : ∀ (r0 : Nat) (M : am_Mem), k71 r0 M = some (v, M') → G 71 [(0, .inr (.inr (.inl r0)))] [] M 0 0) {r0 : Nat} {M : am_Mem} (hres : fn12_netLine_b71B N k71 r0 M = some (v, M')) : G 71 [(0, .inr (.inr (.inl r0)))] [] M 0 0 := by
  unfold fn12_netLine_b71B at hres
  refine am_aload_n cx 0 dX12_netLine_71 rfl ?_
  obtain ⟨q1, hres⟩ := am_ck_some hres
  refine am_getI cx dX12_netLine_72 flX12_127 (am_ke q1) ?_
  refine am_iconst cx (v := (2 : Int32)) dX12_netLine_75 (by decide) ?_
  refine am_icmp_ne cx (tgt := 277) dX12_netLine_76 (by decide) (fun h => ?_) (fun h => ?_)
  · have hres := am_ifn h hres
    refine am_iconst cx (v := (1 : Int32)) dX12_netLine_277 (by decide) ?_
    obtain ⟨rfl, rfl⟩ := am_fin hres
    exact am_zret cx rfl dX12_netLine_278
  · have hres := am_ifp h hres
    refine am_aload_n cx 0 dX12_netLine_79 rfl ?_
    refine am_aload_n cx 0 dX12_netLine_80 rfl ?_
    refine am_getI cx dX12_netLine_81 flX12_130 (am_ke q1) ?_
    refine am_aload_n cx 0 dX12_netLine_84 rfl ?_
    refine am_getR cx dX12_netLine_85 flX12_24 (am_ke q1) ?_
    refine am_aload_n cx 0 dX12_netLine_88 rfl ?_
    refine am_getI cx dX12_netLine_89 flX12_179 (am_ke q1) ?_
    obtain ⟨q2, hres⟩ := am_ck_some hres
    obtain ⟨q3, hres⟩ := am_ck_some hres
    refine am_iald cx dX12_netLine_92 (am_ke q2) q3 ?_
    refine am_icmp_ge cx (tgt := 100) dX12_netLine_93 (by decide) (fun h => ?_) (fun h => ?_)
    · have hres := am_ifp h hres
      refine am_iconst cx (v := (0 : Int32)) dX12_netLine_100 (by decide) ?_
      exact sn12_netLine_b101 cx hk71 hres
    · have hres := am_ifn h hres
      refine am_iconst cx (v := (1 : Int32)) dX12_netLine_96 (by decide) ?_
      refine am_goto cx (tgt := 101) dX12_netLine_97 (by decide) ?_
      exact sn12_netLine_b101 cx hk71 hres
set_option maxRecDepth 20000 in
theorem sn12_netLine_b71 {l : Launch} {G : am_G} {v : Int32} {M' : am_Mem} {N : Nat}  (cx : am_Ctx l rm12_netLine yX12_netLine cX12_netLine 2 (some .boolean) (some (.inl v)) M' 0 0 G)  (i : Nat) : ∀ (r0 : Nat) (M : am_Mem), fn12_netLine_b71 N  i r0 M = some (v, M') → G 71 [(0, .inr (.inr (.inl r0)))] [] M 0 0 := by
  induction i with
  | zero => intro r0 M hres; exact am_no hres
  | succ i ih => intro r0 M hres; exact sn12_netLine_b71B cx ih hres
set_option maxRecDepth 20000 in
theorem sn12_netLine_b23 {l : Launch} {G : am_G} {v : Int32} {M' : am_Mem} {N : Nat}  (cx : am_Ctx l rm12_netLine yX12_netLine cX12_netLine 2 (some .boolean) (some (.inl v)) M' 0 0 G)  {c0 : Nat} {a1 : Int32} {r0 : Nat} {M : am_Mem} (hres : fn12_netLine_b23 N  c0 a1 r0 M = some (v, M')) : G 23 [(0, .inr (.inr (.inl r0)))] [.inl a1, .inr (.inr (.inl c0))] M 0 0 := by
  unfold fn12_netLine_b23 at hres
  refine am_iconst cx (v := (1 : Int32)) dX12_netLine_23 (by decide) ?_
  obtain ⟨q1, hres⟩ := am_ck_some hres
  obtain ⟨v2, M3, q4, hres⟩ := am_bd_some hres
  refine am_callV1 cx [.inl a1, .inl (1 : Int32)] dX12_netLine_24 cvX12_186 (mt12_must q4) (am_ke q1) ⟨rfl, rfl, Nat.le_of_ble_eq_true rfl, Nat.le_of_ble_eq_true rfl⟩ rfl (Nat.le_of_ble_eq_true rfl) ⟨Nat.le_of_ble_eq_true rfl, Nat.le_of_ble_eq_true rfl⟩ ?_
  refine am_if_eq cx (tgt := 52) dX12_netLine_27 (by decide) (fun h => ?_) (fun h => ?_)
  · have hres := am_ifp h hres
    refine am_sub cx [] rfl ?_
    exact sn12_netLine_b52 cx  hres
  · have hres := am_ifn h hres
    refine am_aload_n cx 0 dX12_netLine_30 rfl ?_
    refine am_aload_n cx 0 dX12_netLine_31 rfl ?_
    obtain ⟨q5, hres⟩ := am_ck_some hres
    refine am_getI cx dX12_netLine_32 flX12_130 (am_ke q5) ?_
    refine am_i2l cx dX12_netLine_35 ?_
    refine am_ldc2 cx dX12_netLine_36 aw_6_20 ?_
    refine am_ldc2 cx dX12_netLine_39 aw_6_21 ?_
    obtain ⟨v6, M7, q8, hres⟩ := am_bd_some hres
    refine am_callS1 cx [.inr (.inl (am_I M3 r0 7).toInt64), .inr (.inl (2 : Int64)), .inr (.inl (9 : Int64))] dX12_netLine_42 csX12_141 (mt12_within q8)  ⟨rfl, rfl, Nat.le_of_ble_eq_true rfl, Nat.le_of_ble_eq_true rfl⟩ rfl (Nat.le_of_ble_eq_true rfl) ⟨Nat.le_of_ble_eq_true rfl, Nat.le_of_ble_eq_true rfl⟩ ?_
    refine am_iconst cx (v := (3 : Int32)) dX12_netLine_45 (by decide) ?_
    obtain ⟨q9, hres⟩ := am_ck_some hres
    obtain ⟨v10, M11, q12, hres⟩ := am_bd_some hres
    refine am_callV1 cx [.inl v6, .inl (3 : Int32)] dX12_netLine_46 cvX12_186 (mt12_must q12) (am_ke q9) ⟨rfl, rfl, Nat.le_of_ble_eq_true rfl, Nat.le_of_ble_eq_true rfl⟩ rfl (Nat.le_of_ble_eq_true rfl) ⟨Nat.le_of_ble_eq_true rfl, Nat.le_of_ble_eq_true rfl⟩ ?_
    refine am_if_ne cx (tgt := 54) dX12_netLine_49 (by decide) (fun h => ?_) (fun h => ?_)
    · have hres := am_ifn h hres
      refine am_aload_n cx 0 dX12_netLine_54 rfl ?_
      obtain ⟨q13, hres⟩ := am_ck_some hres
      refine am_getR cx dX12_netLine_55 flX12_24 (am_ke q13) ?_
      refine am_aload_n cx 0 dX12_netLine_58 rfl ?_
      refine am_getI cx dX12_netLine_59 flX12_179 (am_ke q13) ?_
      refine am_aload_n cx 0 dX12_netLine_62 rfl ?_
      refine am_getI cx dX12_netLine_63 flX12_130 (am_ke q13) ?_
      obtain ⟨q14, hres⟩ := am_ck_some hres
      obtain ⟨q15, hres⟩ := am_ck_some hres
      refine am_iast cx dX12_netLine_66 (am_ke q14) q15  ?_
      refine am_aload_n cx 0 dX12_netLine_67 rfl ?_
      obtain ⟨v16, M17, q18, hres⟩ := am_bd_some hres
      refine am_callV0 cx [] dX12_netLine_68 cvX12_190 (mt12_steps q18) (am_ke q13) ⟨rfl, rfl, Nat.le_of_ble_eq_true rfl, Nat.le_of_ble_eq_true rfl⟩ rfl (Nat.le_of_ble_eq_true rfl) ⟨Nat.le_of_ble_eq_true rfl, Nat.le_of_ble_eq_true rfl⟩ ?_
      exact sn12_netLine_b71 cx  N _ _ hres
    · have hres := am_ifp h hres
      refine am_sub cx [] rfl ?_
      exact sn12_netLine_b52 cx  hres
set_option maxRecDepth 20000 in
theorem sn12_netLine_b0 {l : Launch} {G : am_G} {v : Int32} {M' : am_Mem} {N : Nat}  (cx : am_Ctx l rm12_netLine yX12_netLine cX12_netLine 2 (some .boolean) (some (.inl v)) M' 0 0 G)  {r0 : Nat} {M : am_Mem} (hres : fn12_netLine_b0 N  r0 M = some (v, M')) : G 0 [(0, .inr (.inr (.inl r0)))] [] M 0 0 := by
  unfold fn12_netLine_b0 at hres
  refine am_aload_n cx 0 dX12_netLine_0 rfl ?_
  obtain ⟨q1, hres⟩ := am_ck_some hres
  obtain ⟨v2, M3, q4, hres⟩ := am_bd_some hres
  refine am_callV1 cx [] dX12_netLine_1 cvX12_193 (mt12_newName q4) (am_ke q1) ⟨rfl, rfl, Nat.le_of_ble_eq_true rfl, Nat.le_of_ble_eq_true rfl⟩ rfl (Nat.le_of_ble_eq_true rfl) ⟨Nat.le_of_ble_eq_true rfl, Nat.le_of_ble_eq_true rfl⟩ ?_
  refine am_if_ne cx (tgt := 9) dX12_netLine_4 (by decide) (fun h => ?_) (fun h => ?_)
  · have hres := am_ifn h hres
    refine am_aload_n cx 0 dX12_netLine_9 rfl ?_
    refine am_aload_n cx 0 dX12_netLine_10 rfl ?_
    obtain ⟨q5, hres⟩ := am_ck_some hres
    refine am_getI cx dX12_netLine_11 flX12_127 (am_ke q5) ?_
    refine am_iconst cx (v := (2 : Int32)) dX12_netLine_14 (by decide) ?_
    refine am_icmp_ne cx (tgt := 22) dX12_netLine_15 (by decide) (fun h => ?_) (fun h => ?_)
    · have hres := am_ifn h hres
      refine am_iconst cx (v := (0 : Int32)) dX12_netLine_22 (by decide) ?_
      exact sn12_netLine_b23 cx  hres
    · have hres := am_ifp h hres
      refine am_iconst cx (v := (1 : Int32)) dX12_netLine_18 (by decide) ?_
      refine am_goto cx (tgt := 23) dX12_netLine_19 (by decide) ?_
      exact sn12_netLine_b23 cx  hres
  · have hres := am_ifp h hres
    refine am_iconst cx (v := (0 : Int32)) dX12_netLine_7 (by decide) ?_
    obtain ⟨rfl, rfl⟩ := am_fin hres
    exact am_zret cx rfl dX12_netLine_8
set_option maxRecDepth 20000 in
theorem mt12_netLine {l : Launch} {v : Int32} {M M' : am_Mem} {N : Nat} {r0 : Nat} (h : fn12_netLine N M r0 = some (v, M')) : am_Met l yX12_netLine cX12_netLine 2 (some .boolean) rm12_netLine 0 0 [.inr (.inr (.inl r0))] M (some (.inl v)) M' := am_mk (by decide) (Nat.le_of_ble_eq_true rfl) (fun G cx => (sn12_netLine_b0 cx h))
