-- SquareCuts.current
def fn11_current_b33  (a0 : Int32) (M : am_Mem) : Option (Int32 × am_Mem) :=
  some (a0, M)
def fn11_current_b22   (M : am_Mem) : Option (Int32 × am_Mem) :=
  fn11_current_b33  (-2147483648 : Int32) M
def fn11_current_b0  (r0 : Nat) (x1 : Int32) (x2 : Int32) (M : am_Mem) : Option (Int32 × am_Mem) :=
  am_ck (am_k M r0 11) (am_bd (fn11_flowingNet M r0 x1) (fun v2 M3 => if v2 = 0 then fn11_current_b22   M3 else if x2 < 0 then fn11_current_b22   M3 else am_ck (am_k M3 v2 3) (if x2 < (am_I M3 v2 1) then am_ck (am_k M3 (am_R M3 v2 3) 14) (am_ck (am_in x2 (am_L M3 (am_R M3 v2 3))) (fn11_current_b33  (am_I M3 (am_R M3 v2 3) x2.toNatClampNeg) M3)) else fn11_current_b22   M3)))
def fn11_current (M : am_Mem) (r0 : Nat) (x1 : Int32) (x2 : Int32) : Option (Int32 × am_Mem) := fn11_current_b0  r0 x1 x2 M
def rm11_current : Room := { frames := 2, cells := 0, slots := 0, locals := 43 }
set_option maxRecDepth 20000 in
theorem sn11_current_b33 {l : Launch} {G : am_G} {v : Int32} {M' : am_Mem}  (cx : am_Ctx l rm11_current yX11_current cX11_current 4 (some .int) (some (.inl v)) M' 0 0 G)  {a0 : Int32} {M : am_Mem} (hres : fn11_current_b33  a0 M = some (v, M')) : G 33 [] [.inl a0] M 0 0 := by
  unfold fn11_current_b33 at hres
  obtain ⟨rfl, rfl⟩ := am_fin hres
  exact am_iret cx dX11_current_33
set_option maxRecDepth 20000 in
theorem sn11_current_b22 {l : Launch} {G : am_G} {v : Int32} {M' : am_Mem}  (cx : am_Ctx l rm11_current yX11_current cX11_current 4 (some .int) (some (.inl v)) M' 0 0 G)   {M : am_Mem} (hres : fn11_current_b22   M = some (v, M')) : G 22 [] [] M 0 0 := by
  unfold fn11_current_b22 at hres
  refine am_ldc cx dX11_current_22 aw_4_6 ?_
  refine am_goto cx (tgt := 33) dX11_current_24 (by decide) ?_
  exact sn11_current_b33 cx  hres
set_option maxRecDepth 20000 in
theorem sn11_current_b0 {l : Launch} {G : am_G} {v : Int32} {M' : am_Mem}  (cx : am_Ctx l rm11_current yX11_current cX11_current 4 (some .int) (some (.inl v)) M' 0 0 G)  {r0 : Nat} {x1 : Int32} {x2 : Int32} {M : am_Mem} (hres : fn11_current_b0  r0 x1 x2 M = some (v, M')) : G 0 [(0, .inr (.inr (.inl r0))), (1, .inl x1), (2, .inl x2)] [] M 0 0 := by
  unfold fn11_current_b0 at hres
  refine am_aload_n cx 0 dX11_current_0 rfl ?_
  refine am_iload_n cx 1 dX11_current_1 rfl ?_
  obtain ⟨q1, hres⟩ := am_ck_some hres
  obtain ⟨v2, M3, q4, hres⟩ := am_bd_some hres
  refine am_callV1 cx [.inl x1] dX11_current_2 cvX11_203 (mt11_flowingNet q4) (am_ke q1) ⟨rfl, rfl, Nat.le_of_ble_eq_true rfl, Nat.le_of_ble_eq_true rfl⟩ rfl (Nat.le_of_ble_eq_true rfl) ⟨Nat.le_of_ble_eq_true rfl, Nat.le_of_ble_eq_true rfl⟩ ?_
  refine am_astore_n cx (lv' := [(0, .inr (.inr (.inl r0))), (1, .inl x1), (2, .inl x2), (3, .inr (.inr (.inl v2)))]) dX11_current_5 (Nat.le_of_ble_eq_true rfl) rfl ?_
  refine am_aload_n cx 3 dX11_current_6 rfl ?_
  refine am_ifnull cx (tgt := 22) dX11_current_7 (by decide) (fun h => ?_) (fun h => ?_)
  · have hres := am_ifp h hres
    refine am_sub cx [] rfl ?_
    exact sn11_current_b22 cx  hres
  · have hres := am_ifn h hres
    refine am_iload_n cx 2 dX11_current_10 rfl ?_
    refine am_if_lt cx (tgt := 22) dX11_current_11 (by decide) (fun h => ?_) (fun h => ?_)
    · have hres := am_ifp h hres
      refine am_sub cx [] rfl ?_
      exact sn11_current_b22 cx  hres
    · have hres := am_ifn h hres
      refine am_iload_n cx 2 dX11_current_14 rfl ?_
      refine am_aload_n cx 3 dX11_current_15 rfl ?_
      obtain ⟨q5, hres⟩ := am_ck_some hres
      refine am_getI cx dX11_current_16 flX11_207 (am_ke q5) ?_
      refine am_icmp_lt cx (tgt := 27) dX11_current_19 (by decide) (fun h => ?_) (fun h => ?_)
      · have hres := am_ifp h hres
        refine am_aload_n cx 3 dX11_current_27 rfl ?_
        refine am_getR cx dX11_current_28 flX11_211 (am_ke q5) ?_
        refine am_iload_n cx 2 dX11_current_31 rfl ?_
        obtain ⟨q6, hres⟩ := am_ck_some hres
        obtain ⟨q7, hres⟩ := am_ck_some hres
        refine am_iald cx dX11_current_32 (am_ke q6) q7 ?_
        refine am_sub cx [] rfl ?_
        exact sn11_current_b33 cx  hres
      · have hres := am_ifn h hres
        refine am_sub cx [] rfl ?_
        exact sn11_current_b22 cx  hres
set_option maxRecDepth 20000 in
theorem mt11_current {l : Launch} {v : Int32} {M M' : am_Mem} {r0 : Nat} {x1 : Int32} {x2 : Int32} (h : fn11_current M r0 x1 x2 = some (v, M')) : am_Met l yX11_current cX11_current 4 (some .int) rm11_current 0 0 [.inr (.inr (.inl r0)), .inl x1, .inl x2] M (some (.inl v)) M' := am_mk (by decide) (Nat.le_of_ble_eq_true rfl) (fun G cx => (sn11_current_b0 cx h))
-- SquareCuts.level
def fn11_level_b33  (a0 : Int32) (M : am_Mem) : Option (Int32 × am_Mem) :=
  some (a0, M)
def fn11_level_b22   (M : am_Mem) : Option (Int32 × am_Mem) :=
  fn11_level_b33  (-2147483648 : Int32) M
def fn11_level_b0  (r0 : Nat) (x1 : Int32) (x2 : Int32) (M : am_Mem) : Option (Int32 × am_Mem) :=
  am_ck (am_k M r0 11) (am_bd (fn11_flowingNet M r0 x1) (fun v2 M3 => if v2 = 0 then fn11_level_b22   M3 else if x2 < 0 then fn11_level_b22   M3 else am_ck (am_k M3 v2 3) (if x2 < (am_I M3 v2 0) then am_ck (am_k M3 (am_R M3 v2 2) 14) (am_ck (am_in x2 (am_L M3 (am_R M3 v2 2))) (fn11_level_b33  (am_I M3 (am_R M3 v2 2) x2.toNatClampNeg) M3)) else fn11_level_b22   M3)))
def fn11_level (M : am_Mem) (r0 : Nat) (x1 : Int32) (x2 : Int32) : Option (Int32 × am_Mem) := fn11_level_b0  r0 x1 x2 M
def rm11_level : Room := { frames := 2, cells := 0, slots := 0, locals := 43 }
set_option maxRecDepth 20000 in
theorem sn11_level_b33 {l : Launch} {G : am_G} {v : Int32} {M' : am_Mem}  (cx : am_Ctx l rm11_level yX11_level cX11_level 4 (some .int) (some (.inl v)) M' 0 0 G)  {a0 : Int32} {M : am_Mem} (hres : fn11_level_b33  a0 M = some (v, M')) : G 33 [] [.inl a0] M 0 0 := by
  unfold fn11_level_b33 at hres
  obtain ⟨rfl, rfl⟩ := am_fin hres
  exact am_iret cx dX11_level_33
set_option maxRecDepth 20000 in
theorem sn11_level_b22 {l : Launch} {G : am_G} {v : Int32} {M' : am_Mem}  (cx : am_Ctx l rm11_level yX11_level cX11_level 4 (some .int) (some (.inl v)) M' 0 0 G)   {M : am_Mem} (hres : fn11_level_b22   M = some (v, M')) : G 22 [] [] M 0 0 := by
  unfold fn11_level_b22 at hres
  refine am_ldc cx dX11_level_22 aw_4_6 ?_
  refine am_goto cx (tgt := 33) dX11_level_24 (by decide) ?_
  exact sn11_level_b33 cx  hres
set_option maxRecDepth 20000 in
theorem sn11_level_b0 {l : Launch} {G : am_G} {v : Int32} {M' : am_Mem}  (cx : am_Ctx l rm11_level yX11_level cX11_level 4 (some .int) (some (.inl v)) M' 0 0 G)  {r0 : Nat} {x1 : Int32} {x2 : Int32} {M : am_Mem} (hres : fn11_level_b0  r0 x1 x2 M = some (v, M')) : G 0 [(0, .inr (.inr (.inl r0))), (1, .inl x1), (2, .inl x2)] [] M 0 0 := by
  unfold fn11_level_b0 at hres
  refine am_aload_n cx 0 dX11_level_0 rfl ?_
  refine am_iload_n cx 1 dX11_level_1 rfl ?_
  obtain ⟨q1, hres⟩ := am_ck_some hres
  obtain ⟨v2, M3, q4, hres⟩ := am_bd_some hres
  refine am_callV1 cx [.inl x1] dX11_level_2 cvX11_203 (mt11_flowingNet q4) (am_ke q1) ⟨rfl, rfl, Nat.le_of_ble_eq_true rfl, Nat.le_of_ble_eq_true rfl⟩ rfl (Nat.le_of_ble_eq_true rfl) ⟨Nat.le_of_ble_eq_true rfl, Nat.le_of_ble_eq_true rfl⟩ ?_
  refine am_astore_n cx (lv' := [(0, .inr (.inr (.inl r0))), (1, .inl x1), (2, .inl x2), (3, .inr (.inr (.inl v2)))]) dX11_level_5 (Nat.le_of_ble_eq_true rfl) rfl ?_
  refine am_aload_n cx 3 dX11_level_6 rfl ?_
  refine am_ifnull cx (tgt := 22) dX11_level_7 (by decide) (fun h => ?_) (fun h => ?_)
  · have hres := am_ifp h hres
    refine am_sub cx [] rfl ?_
    exact sn11_level_b22 cx  hres
  · have hres := am_ifn h hres
    refine am_iload_n cx 2 dX11_level_10 rfl ?_
    refine am_if_lt cx (tgt := 22) dX11_level_11 (by decide) (fun h => ?_) (fun h => ?_)
    · have hres := am_ifp h hres
      refine am_sub cx [] rfl ?_
      exact sn11_level_b22 cx  hres
    · have hres := am_ifn h hres
      refine am_iload_n cx 2 dX11_level_14 rfl ?_
      refine am_aload_n cx 3 dX11_level_15 rfl ?_
      obtain ⟨q5, hres⟩ := am_ck_some hres
      refine am_getI cx dX11_level_16 flX11_214 (am_ke q5) ?_
      refine am_icmp_lt cx (tgt := 27) dX11_level_19 (by decide) (fun h => ?_) (fun h => ?_)
      · have hres := am_ifp h hres
        refine am_aload_n cx 3 dX11_level_27 rfl ?_
        refine am_getR cx dX11_level_28 flX11_217 (am_ke q5) ?_
        refine am_iload_n cx 2 dX11_level_31 rfl ?_
        obtain ⟨q6, hres⟩ := am_ck_some hres
        obtain ⟨q7, hres⟩ := am_ck_some hres
        refine am_iald cx dX11_level_32 (am_ke q6) q7 ?_
        refine am_sub cx [] rfl ?_
        exact sn11_level_b33 cx  hres
      · have hres := am_ifn h hres
        refine am_sub cx [] rfl ?_
        exact sn11_level_b22 cx  hres
set_option maxRecDepth 20000 in
theorem mt11_level {l : Launch} {v : Int32} {M M' : am_Mem} {r0 : Nat} {x1 : Int32} {x2 : Int32} (h : fn11_level M r0 x1 x2 = some (v, M')) : am_Met l yX11_level cX11_level 4 (some .int) rm11_level 0 0 [.inr (.inr (.inl r0)), .inl x1, .inl x2] M (some (.inl v)) M' := am_mk (by decide) (Nat.le_of_ble_eq_true rfl) (fun G cx => (sn11_level_b0 cx h))
-- SquareCuts.count
def fn11_count_b0 (N : Nat)  (r0 : Nat) (x1 : Int32) (M : am_Mem) : Option (Int32 × am_Mem) :=
  if x1 = (0 : Int32) then (am_ck (am_k M r0 11) (am_ck (am_k M (am_R M r0 8) 9) (some ((am_I M (am_R M r0 8) 1), M)))) else (if x1 = (1 : Int32) then (am_ck (am_k M r0 11) (am_ck (am_k M (am_R M r0 8) 9) (am_bd (fn9_failing N M (am_R M r0 8)) (fun v7 M8 => some (v7, M8))))) else (if x1 = (2 : Int32) then (am_ck (am_k M r0 11) (am_ck (am_k M (am_R M r0 8) 9) (am_bd (fn9_perfectOnes N M (am_R M r0 8)) (fun v13 M14 => some (v13, M14))))) else (if x1 = (3 : Int32) then (am_ck (am_k M r0 11) (some ((am_I M r0 11), M))) else (if x1 = (4 : Int32) then (am_ck (am_k M r0 11) (am_ck (am_k M (am_R M r0 0) 8) (some ((am_I M (am_R M r0 0) 7), M)))) else (if x1 = (5 : Int32) then (am_ck (am_k M r0 11) (am_ck (am_k M (am_R M r0 7) 7) (some ((am_I M (am_R M r0 7) 1), M)))) else (some ((-1 : Int32), M)))))))
def fn11_count (N : Nat) (M : am_Mem) (r0 : Nat) (x1 : Int32) : Option (Int32 × am_Mem) := fn11_count_b0 N r0 x1 M
def rm11_count : Room := { frames := 2, cells := 0, slots := 0, locals := 45 }
set_option maxRecDepth 20000 in
theorem sn11_count_b0 {l : Launch} {G : am_G} {v : Int32} {M' : am_Mem} {N : Nat}  (cx : am_Ctx l rm11_count yX11_count cX11_count 2 (some .int) (some (.inl v)) M' 0 0 G)  {r0 : Nat} {x1 : Int32} {M : am_Mem} (hres : fn11_count_b0 N  r0 x1 M = some (v, M')) : G 0 [(0, .inr (.inr (.inl r0))), (1, .inl x1)] [] M 0 0 := by
  unfold fn11_count_b0 at hres
  refine am_iload_n cx 1 dX11_count_0 rfl ?_
  by_cases w1 : x1 = (0 : Int32)
  · refine am_tableIn cx (tgt := 40) (off := 39) dX11_count_1 (by rw [w1]; decide) (by rw [w1]; decide) (by rw [w1]; decide) (by decide) ?_
    have hres := am_ifp w1 hres
    refine am_aload_n cx 0 dX11_count_40 rfl ?_
    obtain ⟨q2, hres⟩ := am_ck_some hres
    refine am_getR cx dX11_count_41 flX11_66 (am_ke q2) ?_
    obtain ⟨q3, hres⟩ := am_ck_some hres
    refine am_getI cx dX11_count_44 flX11_112 (am_ke q3) ?_
    obtain ⟨rfl, rfl⟩ := am_fin hres
    exact am_iret cx dX11_count_47
  have hres := am_ifn w1 hres
  by_cases w4 : x1 = (1 : Int32)
  · refine am_tableIn cx (tgt := 48) (off := 47) dX11_count_1 (by rw [w4]; decide) (by rw [w4]; decide) (by rw [w4]; decide) (by decide) ?_
    have hres := am_ifp w4 hres
    refine am_aload_n cx 0 dX11_count_48 rfl ?_
    obtain ⟨q5, hres⟩ := am_ck_some hres
    refine am_getR cx dX11_count_49 flX11_66 (am_ke q5) ?_
    obtain ⟨q6, hres⟩ := am_ck_some hres
    obtain ⟨v7, M8, q9, hres⟩ := am_bd_some hres
    refine am_callV1 cx [] dX11_count_52 cvX11_298 (mt9_failing q9) (am_ke q6) ⟨rfl, rfl, Nat.le_of_ble_eq_true rfl, Nat.le_of_ble_eq_true rfl⟩ rfl (Nat.le_of_ble_eq_true rfl) ⟨Nat.le_of_ble_eq_true rfl, Nat.le_of_ble_eq_true rfl⟩ ?_
    obtain ⟨rfl, rfl⟩ := am_fin hres
    exact am_iret cx dX11_count_55
  have hres := am_ifn w4 hres
  by_cases w10 : x1 = (2 : Int32)
  · refine am_tableIn cx (tgt := 56) (off := 55) dX11_count_1 (by rw [w10]; decide) (by rw [w10]; decide) (by rw [w10]; decide) (by decide) ?_
    have hres := am_ifp w10 hres
    refine am_aload_n cx 0 dX11_count_56 rfl ?_
    obtain ⟨q11, hres⟩ := am_ck_some hres
    refine am_getR cx dX11_count_57 flX11_66 (am_ke q11) ?_
    obtain ⟨q12, hres⟩ := am_ck_some hres
    obtain ⟨v13, M14, q15, hres⟩ := am_bd_some hres
    refine am_callV1 cx [] dX11_count_60 cvX11_301 (mt9_perfectOnes q15) (am_ke q12) ⟨rfl, rfl, Nat.le_of_ble_eq_true rfl, Nat.le_of_ble_eq_true rfl⟩ rfl (Nat.le_of_ble_eq_true rfl) ⟨Nat.le_of_ble_eq_true rfl, Nat.le_of_ble_eq_true rfl⟩ ?_
    obtain ⟨rfl, rfl⟩ := am_fin hres
    exact am_iret cx dX11_count_63
  have hres := am_ifn w10 hres
  by_cases w16 : x1 = (3 : Int32)
  · refine am_tableIn cx (tgt := 64) (off := 63) dX11_count_1 (by rw [w16]; decide) (by rw [w16]; decide) (by rw [w16]; decide) (by decide) ?_
    have hres := am_ifp w16 hres
    refine am_aload_n cx 0 dX11_count_64 rfl ?_
    obtain ⟨q17, hres⟩ := am_ck_some hres
    refine am_getI cx dX11_count_65 flX11_91 (am_ke q17) ?_
    obtain ⟨rfl, rfl⟩ := am_fin hres
    exact am_iret cx dX11_count_68
  have hres := am_ifn w16 hres
  by_cases w18 : x1 = (4 : Int32)
  · refine am_tableIn cx (tgt := 69) (off := 68) dX11_count_1 (by rw [w18]; decide) (by rw [w18]; decide) (by rw [w18]; decide) (by decide) ?_
    have hres := am_ifp w18 hres
    refine am_aload_n cx 0 dX11_count_69 rfl ?_
    obtain ⟨q19, hres⟩ := am_ck_some hres
    refine am_getR cx dX11_count_70 flX11_12 (am_ke q19) ?_
    obtain ⟨q20, hres⟩ := am_ck_some hres
    refine am_getI cx dX11_count_73 flX11_76 (am_ke q20) ?_
    obtain ⟨rfl, rfl⟩ := am_fin hres
    exact am_iret cx dX11_count_76
  have hres := am_ifn w18 hres
  by_cases w21 : x1 = (5 : Int32)
  · refine am_tableIn cx (tgt := 77) (off := 76) dX11_count_1 (by rw [w21]; decide) (by rw [w21]; decide) (by rw [w21]; decide) (by decide) ?_
    have hres := am_ifp w21 hres
    refine am_aload_n cx 0 dX11_count_77 rfl ?_
    obtain ⟨q22, hres⟩ := am_ck_some hres
    refine am_getR cx dX11_count_78 flX11_59 (am_ke q22) ?_
    obtain ⟨q23, hres⟩ := am_ck_some hres
    refine am_getI cx dX11_count_81 flX11_179 (am_ke q23) ?_
    obtain ⟨rfl, rfl⟩ := am_fin hres
    exact am_iret cx dX11_count_84
  have hres := am_ifn w21 hres
  refine am_tableOut cx (tgt := 85) dX11_count_1 (am_sw (fun cq h1 h2 => ?_)) (by decide) ?_
  · rcases (show cq = 0 ∨ cq = 1 ∨ cq = 2 ∨ cq = 3 ∨ cq = 4 ∨ cq = 5 by omega) with rfl | rfl | rfl | rfl | rfl | rfl
    · exact w1
    · exact w4
    · exact w10
    · exact w16
    · exact w18
    · exact w21
  skip
  refine am_iconst cx (v := (-1 : Int32)) dX11_count_85 (by decide) ?_
  obtain ⟨rfl, rfl⟩ := am_fin hres
  exact am_iret cx dX11_count_86
set_option maxRecDepth 20000 in
theorem mt11_count {l : Launch} {v : Int32} {M M' : am_Mem} {N : Nat} {r0 : Nat} {x1 : Int32} (h : fn11_count N M r0 x1 = some (v, M')) : am_Met l yX11_count cX11_count 2 (some .int) rm11_count 0 0 [.inr (.inr (.inl r0)), .inl x1] M (some (.inl v)) M' := am_mk (by decide) (Nat.le_of_ble_eq_true rfl) (fun G cx => (sn11_count_b0 cx h))
-- SquareCuts.putMade
def fn11_putMade_b38 (N : Nat)  (r0 : Nat) (M : am_Mem) : Option (Int32 × am_Mem) :=
  am_ck (am_k M r0 11) (am_ck (am_k M (am_R M r0 8) 9) (some (((am_I M (am_R M r0 8) 1) - (1 : Int32)), M)))
def fn11_putMade_b0 (N : Nat)  (r0 : Nat) (M : am_Mem) : Option (Int32 × am_Mem) :=
  am_ck (am_k M r0 11) (am_ck (am_k M (am_R M r0 4) 0) (am_bd (fn0_sortAsCode N M (am_R M r0 4)) (fun v3 M4 => am_ck (am_k M4 r0 11) (am_ck (am_k (am_new M4 10 0) r0 11) (am_ck (am_k (am_new M4 10 0) (am_n M4 + 1) 10) (am_bd (fn10_init N (am_new M4 10 0) (am_n M4 + 1) (2 : Int32) (am_R (am_new M4 10 0) r0 4) (0 : Int32) 0) (fun v9 M10 => am_ck (am_k M10 (am_R M4 r0 8) 9) (am_bd (fn9_put M10 (am_R M4 r0 8) (am_n M4 + 1)) (fun v13 M14 => am_ck (am_k M14 r0 11) (fn11_putMade_b38 N  r0 (am_wI M14 r0 11 ((am_I M14 r0 11) + (1 : Int32)))))))))))))
def fn11_putMade (N : Nat) (M : am_Mem) (r0 : Nat) : Option (Int32 × am_Mem) := fn11_putMade_b0 N r0 M
def rm11_putMade : Room := { frames := 2, cells := 4, slots := 131, locals := 48 }
set_option maxRecDepth 20000 in
theorem sn11_putMade_b38 {l : Launch} {G : am_G} {v : Int32} {M' : am_Mem} {N : Nat}  (cx : am_Ctx l rm11_putMade yX11_putMade cX11_putMade 1 (some .int) (some (.inl v)) M' 4 131 G)  {r0 : Nat} {M : am_Mem} (hres : fn11_putMade_b38 N  r0 M = some (v, M')) : G 38 [(0, .inr (.inr (.inl r0)))] [] M 4 131 := by
  unfold fn11_putMade_b38 at hres
  refine am_aload_n cx 0 dX11_putMade_38 rfl ?_
  obtain ⟨q1, hres⟩ := am_ck_some hres
  refine am_getR cx dX11_putMade_39 flX11_66 (am_ke q1) ?_
  obtain ⟨q2, hres⟩ := am_ck_some hres
  refine am_getI cx dX11_putMade_42 flX11_112 (am_ke q2) ?_
  refine am_iconst cx (v := (1 : Int32)) dX11_putMade_45 (by decide) ?_
  refine am_isub cx dX11_putMade_46 ?_
  obtain ⟨rfl, rfl⟩ := am_fin hres
  exact am_iret cx dX11_putMade_47
set_option maxRecDepth 20000 in
theorem sn11_putMade_b0 {l : Launch} {G : am_G} {v : Int32} {M' : am_Mem} {N : Nat}  (cx : am_Ctx l rm11_putMade yX11_putMade cX11_putMade 1 (some .int) (some (.inl v)) M' 4 131 G)  {r0 : Nat} {M : am_Mem} (hres : fn11_putMade_b0 N  r0 M = some (v, M')) : G 0 [(0, .inr (.inr (.inl r0)))] [] M 0 0 := by
  unfold fn11_putMade_b0 at hres
  refine am_aload_n cx 0 dX11_putMade_0 rfl ?_
  obtain ⟨q1, hres⟩ := am_ck_some hres
  refine am_getR cx dX11_putMade_1 flX11_42 (am_ke q1) ?_
  obtain ⟨q2, hres⟩ := am_ck_some hres
  obtain ⟨v3, M4, q5, hres⟩ := am_bd_some hres
  refine am_callV0 cx [] dX11_putMade_4 cvX11_335 (mt0_sortAsCode q5) (am_ke q2) ⟨rfl, rfl, Nat.le_of_ble_eq_true rfl, Nat.le_of_ble_eq_true rfl⟩ rfl (Nat.le_of_ble_eq_true rfl) ⟨Nat.le_of_ble_eq_true rfl, Nat.le_of_ble_eq_true rfl⟩ ?_
  refine am_aload_n cx 0 dX11_putMade_7 rfl ?_
  obtain ⟨q6, hres⟩ := am_ck_some hres
  refine am_getR cx dX11_putMade_8 flX11_66 (am_ke q6) ?_
  refine am_newO cx dX11_putMade_11 nwX11_119 (Nat.le_of_ble_eq_true rfl) (Nat.le_of_ble_eq_true rfl) ?_
  refine am_dup cx dX11_putMade_14 rfl ?_
  refine am_iconst cx (v := (2 : Int32)) dX11_putMade_15 (by decide) ?_
  refine am_aload_n cx 0 dX11_putMade_16 rfl ?_
  obtain ⟨q7, hres⟩ := am_ck_some hres
  refine am_getR cx dX11_putMade_17 flX11_42 (am_ke q7) ?_
  refine am_iconst cx (v := (0 : Int32)) dX11_putMade_20 (by decide) ?_
  refine am_null cx dX11_putMade_21 ?_
  obtain ⟨q8, hres⟩ := am_ck_some hres
  obtain ⟨v9, M10, q11, hres⟩ := am_bd_some hres
  refine am_callI0 cx [.inl (2 : Int32), .inr (.inr (.inl (am_R (am_new M4 10 0) r0 4))), .inl (0 : Int32), .inr (.inr (.inl 0))] dX11_putMade_22 ciX11_321 (mt10_init q11) (by rw [show am_K _ _ = 10 from (am_ke q8)]; decide) ⟨rfl, rfl, Nat.le_of_ble_eq_true rfl, Nat.le_of_ble_eq_true rfl⟩ rfl (Nat.le_of_ble_eq_true rfl) ⟨Nat.le_of_ble_eq_true rfl, Nat.le_of_ble_eq_true rfl⟩ ?_
  obtain ⟨q12, hres⟩ := am_ck_some hres
  obtain ⟨v13, M14, q15, hres⟩ := am_bd_some hres
  refine am_callV0 cx [.inr (.inr (.inl (am_n M4 + 1)))] dX11_putMade_25 cvX11_108 (mt9_put q15) (am_ke q12) ⟨rfl, rfl, Nat.le_of_ble_eq_true rfl, Nat.le_of_ble_eq_true rfl⟩ rfl (Nat.le_of_ble_eq_true rfl) ⟨Nat.le_of_ble_eq_true rfl, Nat.le_of_ble_eq_true rfl⟩ ?_
  refine am_aload_n cx 0 dX11_putMade_28 rfl ?_
  refine am_dup cx dX11_putMade_29 rfl ?_
  obtain ⟨q16, hres⟩ := am_ck_some hres
  refine am_getI cx dX11_putMade_30 flX11_91 (am_ke q16) ?_
  refine am_iconst cx (v := (1 : Int32)) dX11_putMade_33 (by decide) ?_
  refine am_iadd cx dX11_putMade_34 ?_
  refine am_putI cx dX11_putMade_35 fpX11_91 (fun h => by cases h) (am_ke q16) ?_
  exact sn11_putMade_b38 cx  hres
set_option maxRecDepth 20000 in
theorem mt11_putMade {l : Launch} {v : Int32} {M M' : am_Mem} {N : Nat} {r0 : Nat} (h : fn11_putMade N M r0 = some (v, M')) : am_Met l yX11_putMade cX11_putMade 1 (some .int) rm11_putMade 4 131 [.inr (.inr (.inl r0))] M (some (.inl v)) M' := am_mk (by decide) (Nat.le_of_ble_eq_true rfl) (fun G cx => (sn11_putMade_b0 cx h))
-- SquareCutsModel.laysMatrix
def fn12_laysMatrix_b158 (N : Nat)  (a0 : Int32) (M : am_Mem) : Option (Int32 × am_Mem) :=
  some (a0, M)
def fn12_laysMatrix_b82 (N : Nat) (k37 : Nat → Int32 → Int32 → Int32 → Int32 → Int32 → am_Mem → Option (Int32 × am_Mem)) (r0 : Nat) (x1 : Int32) (x2 : Int32) (x3 : Int32) (x4 : Int32) (x5 : Int32) (x6 : Int32) (x7 : Int32) (M : am_Mem) : Option (Int32 × am_Mem) :=
  am_ck (am_k M r0 12) (am_bd (fn12_adds M r0 x4 x6 x6 x2 x3 (1 : Int64)) (fun v2 M3 => am_ck (am_k M3 r0 12) (am_bd (fn12_adds M3 r0 x4 x7 x7 x2 x3 (1 : Int64)) (fun v6 M7 => am_ck (am_k M7 r0 12) (am_bd (fn12_adds M7 r0 x4 x6 x7 x2 x3 (-1 : Int64)) (fun v10 M11 => am_ck (am_k M11 r0 12) (am_bd (fn12_adds M11 r0 x4 x7 x6 x2 x3 (-1 : Int64)) (fun v14 M15 => k37 r0 x1 x2 x3 x4 (x5 + (1 : Int32)) M15))))))))
def fn12_laysMatrix_b64 (N : Nat) (k37 : Nat → Int32 → Int32 → Int32 → Int32 → Int32 → am_Mem → Option (Int32 × am_Mem)) (r0 : Nat) (x1 : Int32) (x2 : Int32) (x3 : Int32) (x4 : Int32) (x5 : Int32) (x6 : Int32) (M : am_Mem) : Option (Int32 × am_Mem) :=
  am_ck (am_k M r0 12) (am_ck (am_k M (am_R M r0 26) 14) (am_ck (am_in ((((28 : Int32) * x1) + ((2 : Int32) * x5)) + (1 : Int32)) (am_L M (am_R M r0 26))) (fn12_laysMatrix_b82 N k37 r0 x1 x2 x3 x4 x5 x6 (am_I M (am_R M r0 26) ((((28 : Int32) * x1) + ((2 : Int32) * x5)) + (1 : Int32)).toNatClampNeg) M)))
def fn12_laysMatrix_b37B (N : Nat) (k37 : Nat → Int32 → Int32 → Int32 → Int32 → Int32 → am_Mem → Option (Int32 × am_Mem)) (r0 : Nat) (x1 : Int32) (x2 : Int32) (x3 : Int32) (x4 : Int32) (x5 : Int32) (M : am_Mem) : Option (Int32 × am_Mem) :=
  am_ck (am_k M r0 12) (am_ck (am_k M (am_R M r0 25) 14) (am_ck (am_in x1 (am_L M (am_R M r0 25))) (if (am_I M (am_R M r0 25) x1.toNatClampNeg) ≤ x5 then if x2 = (-1 : Int32) then fn12_laysMatrix_b158 N  x4 M else fn12_laysMatrix_b158 N  (x4 - (1 : Int32)) M else am_ck (am_k M (am_R M r0 26) 14) (am_ck (am_in (((28 : Int32) * x1) + ((2 : Int32) * x5)) (am_L M (am_R M r0 26))) (fn12_laysMatrix_b64 N k37 r0 x1 x2 x3 x4 x5 (am_I M (am_R M r0 26) (((28 : Int32) * x1) + ((2 : Int32) * x5)).toNatClampNeg) M)))))
def fn12_laysMatrix_b37 (N : Nat)  : Nat → Nat → Int32 → Int32 → Int32 → Int32 → Int32 → am_Mem → Option (Int32 × am_Mem)
  | 0 => fun _ _ _ _ _ _ _ => none
  | i + 1 => fn12_laysMatrix_b37B N (fn12_laysMatrix_b37 N  i)
def fn12_laysMatrix_b13B (N : Nat) (k13 : Nat → Int32 → Int32 → Int32 → Int32 → Int32 → am_Mem → Option (Int32 × am_Mem)) (r0 : Nat) (x1 : Int32) (x2 : Int32) (x3 : Int32) (x4 : Int32) (x5 : Int32) (M : am_Mem) : Option (Int32 × am_Mem) :=
  if (64 : Int32) ≤ x5 then fn12_laysMatrix_b37 N  N r0 x1 x2 x3 x4 (0 : Int32) M else am_ck (am_k M r0 12) (am_ck (am_k M (am_R M r0 36) 15) (am_ck (am_in x5 (am_L M (am_R M r0 36))) (k13 r0 x1 x2 x3 x4 (x5 + (1 : Int32)) (am_wJ M (am_R M r0 36) x5.toNatClampNeg (0 : Int64)))))
def fn12_laysMatrix_b13 (N : Nat)  : Nat → Nat → Int32 → Int32 → Int32 → Int32 → Int32 → am_Mem → Option (Int32 × am_Mem)
  | 0 => fun _ _ _ _ _ _ _ => none
  | i + 1 => fn12_laysMatrix_b13B N (fn12_laysMatrix_b13 N  i)
def fn12_laysMatrix_b10 (N : Nat)  (r0 : Nat) (x1 : Int32) (x2 : Int32) (x3 : Int32) (x4 : Int32) (M : am_Mem) : Option (Int32 × am_Mem) :=
  fn12_laysMatrix_b13 N  N r0 x1 x2 x3 x4 (0 : Int32) M
def fn12_laysMatrix_b0 (N : Nat)  (r0 : Nat) (x1 : Int32) (x2 : Int32) (x3 : Int32) (M : am_Mem) : Option (Int32 × am_Mem) :=
  am_ck (am_k M r0 12) (am_ck (am_k M (am_R M r0 24) 14) (am_ck (am_in x1 (am_L M (am_R M r0 24))) (fn12_laysMatrix_b10 N  r0 x1 x2 x3 ((am_I M (am_R M r0 24) x1.toNatClampNeg) - (1 : Int32)) M)))
def fn12_laysMatrix (N : Nat) (M : am_Mem) (r0 : Nat) (x1 : Int32) (x2 : Int32) (x3 : Int32) : Option (Int32 × am_Mem) := fn12_laysMatrix_b0 N r0 x1 x2 x3 M
def rm12_laysMatrix : Room := { frames := 1, cells := 0, slots := 0, locals := 29 }
set_option maxRecDepth 20000 in
theorem sn12_laysMatrix_b158 {l : Launch} {G : am_G} {v : Int32} {M' : am_Mem} {N : Nat}  (cx : am_Ctx l rm12_laysMatrix yX12_laysMatrix cX12_laysMatrix 8 (some .int) (some (.inl v)) M' 0 0 G)  {a0 : Int32} {M : am_Mem} (hres : fn12_laysMatrix_b158 N  a0 M = some (v, M')) : G 158 [] [.inl a0] M 0 0 := by
  unfold fn12_laysMatrix_b158 at hres
  obtain ⟨rfl, rfl⟩ := am_fin hres
  exact am_iret cx dX12_laysMatrix_158
set_option maxRecDepth 20000 in
theorem sn12_laysMatrix_b82 {l : Launch} {G : am_G} {v : Int32} {M' : am_Mem} {N : Nat} {k37 : Nat → Int32 → Int32 → Int32 → Int32 → Int32 → am_Mem → Option (Int32 × am_Mem)} (cx : am_Ctx l rm12_laysMatrix yX12_laysMatrix cX12_laysMatrix 8 (some .int) (some (.inl v)) M' 0 0 G) (hk37 : ∀ (r0 : Nat) (x1 : Int32) (x2 : Int32) (x3 : Int32) (x4 : Int32) (x5 : Int32) (M : am_Mem), k37 r0 x1 x2 x3 x4 x5 M = some (v, M') → G 37 [(0, .inr (.inr (.inl r0))), (1, .inl x1), (2, .inl x2), (3, .inl x3), (4, .inl x4), (5, .inl x5)] [] M 0 0) {r0 : Nat} {x1 : Int32} {x2 : Int32} {x3 : Int32} {x4 : Int32} {x5 : Int32} {x6 : Int32} {x7 : Int32} {M : am_Mem} (hres : fn12_laysMatrix_b82 N k37 r0 x1 x2 x3 x4 x5 x6 x7 M = some (v, M')) : G 82 [(0, .inr (.inr (.inl r0))), (1, .inl x1), (2, .inl x2), (3, .inl x3), (4, .inl x4), (5, .inl x5), (6, .inl x6), (7, .inl x7)] [] M 0 0 := by
  unfold fn12_laysMatrix_b82 at hres
  refine am_aload_n cx 0 dX12_laysMatrix_82 rfl ?_
  refine am_iload cx 4 dX12_laysMatrix_83 rfl ?_
  refine am_iload cx 6 dX12_laysMatrix_85 rfl ?_
  refine am_iload cx 6 dX12_laysMatrix_87 rfl ?_
  refine am_iload_n cx 2 dX12_laysMatrix_89 rfl ?_
  refine am_iload_n cx 3 dX12_laysMatrix_90 rfl ?_
  refine am_lconst cx (v := (1 : Int64)) dX12_laysMatrix_91 (by decide) ?_
  obtain ⟨q1, hres⟩ := am_ck_some hres
  obtain ⟨v2, M3, q4, hres⟩ := am_bd_some hres
  refine am_callV0 cx [.inl x4, .inl x6, .inl x6, .inl x2, .inl x3, .inr (.inl (1 : Int64))] dX12_laysMatrix_92 cvX12_246 (mt12_adds q4) (am_ke q1) ⟨rfl, rfl, Nat.le_of_ble_eq_true rfl, Nat.le_of_ble_eq_true rfl⟩ rfl (Nat.le_of_ble_eq_true rfl) ⟨Nat.le_of_ble_eq_true rfl, Nat.le_of_ble_eq_true rfl⟩ ?_
  refine am_aload_n cx 0 dX12_laysMatrix_95 rfl ?_
  refine am_iload cx 4 dX12_laysMatrix_96 rfl ?_
  refine am_iload cx 7 dX12_laysMatrix_98 rfl ?_
  refine am_iload cx 7 dX12_laysMatrix_100 rfl ?_
  refine am_iload_n cx 2 dX12_laysMatrix_102 rfl ?_
  refine am_iload_n cx 3 dX12_laysMatrix_103 rfl ?_
  refine am_lconst cx (v := (1 : Int64)) dX12_laysMatrix_104 (by decide) ?_
  obtain ⟨q5, hres⟩ := am_ck_some hres
  obtain ⟨v6, M7, q8, hres⟩ := am_bd_some hres
  refine am_callV0 cx [.inl x4, .inl x7, .inl x7, .inl x2, .inl x3, .inr (.inl (1 : Int64))] dX12_laysMatrix_105 cvX12_246 (mt12_adds q8) (am_ke q5) ⟨rfl, rfl, Nat.le_of_ble_eq_true rfl, Nat.le_of_ble_eq_true rfl⟩ rfl (Nat.le_of_ble_eq_true rfl) ⟨Nat.le_of_ble_eq_true rfl, Nat.le_of_ble_eq_true rfl⟩ ?_
  refine am_aload_n cx 0 dX12_laysMatrix_108 rfl ?_
  refine am_iload cx 4 dX12_laysMatrix_109 rfl ?_
  refine am_iload cx 6 dX12_laysMatrix_111 rfl ?_
  refine am_iload cx 7 dX12_laysMatrix_113 rfl ?_
  refine am_iload_n cx 2 dX12_laysMatrix_115 rfl ?_
  refine am_iload_n cx 3 dX12_laysMatrix_116 rfl ?_
  refine am_ldc2 cx dX12_laysMatrix_117 aw_6_86 ?_
  obtain ⟨q9, hres⟩ := am_ck_some hres
  obtain ⟨v10, M11, q12, hres⟩ := am_bd_some hres
  refine am_callV0 cx [.inl x4, .inl x6, .inl x7, .inl x2, .inl x3, .inr (.inl (-1 : Int64))] dX12_laysMatrix_120 cvX12_246 (mt12_adds q12) (am_ke q9) ⟨rfl, rfl, Nat.le_of_ble_eq_true rfl, Nat.le_of_ble_eq_true rfl⟩ rfl (Nat.le_of_ble_eq_true rfl) ⟨Nat.le_of_ble_eq_true rfl, Nat.le_of_ble_eq_true rfl⟩ ?_
  refine am_aload_n cx 0 dX12_laysMatrix_123 rfl ?_
  refine am_iload cx 4 dX12_laysMatrix_124 rfl ?_
  refine am_iload cx 7 dX12_laysMatrix_126 rfl ?_
  refine am_iload cx 6 dX12_laysMatrix_128 rfl ?_
  refine am_iload_n cx 2 dX12_laysMatrix_130 rfl ?_
  refine am_iload_n cx 3 dX12_laysMatrix_131 rfl ?_
  refine am_ldc2 cx dX12_laysMatrix_132 aw_6_86 ?_
  obtain ⟨q13, hres⟩ := am_ck_some hres
  obtain ⟨v14, M15, q16, hres⟩ := am_bd_some hres
  refine am_callV0 cx [.inl x4, .inl x7, .inl x6, .inl x2, .inl x3, .inr (.inl (-1 : Int64))] dX12_laysMatrix_135 cvX12_246 (mt12_adds q16) (am_ke q13) ⟨rfl, rfl, Nat.le_of_ble_eq_true rfl, Nat.le_of_ble_eq_true rfl⟩ rfl (Nat.le_of_ble_eq_true rfl) ⟨Nat.le_of_ble_eq_true rfl, Nat.le_of_ble_eq_true rfl⟩ ?_
  refine am_iincw cx (lv' := [(0, .inr (.inr (.inl r0))), (1, .inl x1), (2, .inl x2), (3, .inl x3), (4, .inl x4), (5, .inl (x5 + (1 : Int32))), (6, .inl x6), (7, .inl x7)]) (w := (1 : Int32)) 5 dX12_laysMatrix_138 (by decide) rfl (Nat.le_of_ble_eq_true rfl) rfl ?_
  refine am_goto cx (tgt := 37) dX12_laysMatrix_141 (by decide) ?_
  refine am_sub cx [0, 1, 2, 3, 4, 5] rfl ?_
  exact hk37 _ _ _ _ _ _ _ hres
set_option maxRecDepth 20000 in
theorem sn12_laysMatrix_b64 {l : Launch} {G : am_G} {v : Int32} {M' : am_Mem} {N : Nat} {k37 : Nat → Int32 → Int32 → Int32 → Int32 → Int32 → am_Mem → Option (Int32 × am_Mem)} (cx : am_Ctx l rm12_laysMatrix yX12_laysMatrix cX12_laysMatrix 8 (some .int) (some (.inl v)) M' 0 0 G) (hk37 : ∀ (r0 : Nat) (x1 : Int32) (x2 : Int32) (x3 : Int32) (x4 : Int32) (x5 : Int32) (M : am_Mem), k37 r0 x1 x2 x3 x4 x5 M = some (v, M') → G 37 [(0, .inr (.inr (.inl r0))), (1, .inl x1), (2, .inl x2), (3, .inl x3), (4, .inl x4), (5, .inl x5)] [] M 0 0) {r0 : Nat} {x1 : Int32} {x2 : Int32} {x3 : Int32} {x4 : Int32} {x5 : Int32} {x6 : Int32} {M : am_Mem} (hres : fn12_laysMatrix_b64 N k37 r0 x1 x2 x3 x4 x5 x6 M = some (v, M')) : G 64 [(0, .inr (.inr (.inl r0))), (1, .inl x1), (2, .inl x2), (3, .inl x3), (4, .inl x4), (5, .inl x5), (6, .inl x6)] [] M 0 0 := by
  unfold fn12_laysMatrix_b64 at hres
  refine am_aload_n cx 0 dX12_laysMatrix_64 rfl ?_
  obtain ⟨q1, hres⟩ := am_ck_some hres
  refine am_getR cx dX12_laysMatrix_65 flX12_52 (am_ke q1) ?_
  refine am_bipush cx (v := (28 : Int32)) dX12_laysMatrix_68 (by decide) ?_
  refine am_iload_n cx 1 dX12_laysMatrix_70 rfl ?_
  refine am_imul cx dX12_laysMatrix_71 ?_
  refine am_iconst cx (v := (2 : Int32)) dX12_laysMatrix_72 (by decide) ?_
  refine am_iload cx 5 dX12_laysMatrix_73 rfl ?_
  refine am_imul cx dX12_laysMatrix_75 ?_
  refine am_iadd cx dX12_laysMatrix_76 ?_
  refine am_iconst cx (v := (1 : Int32)) dX12_laysMatrix_77 (by decide) ?_
  refine am_iadd cx dX12_laysMatrix_78 ?_
  obtain ⟨q2, hres⟩ := am_ck_some hres
  obtain ⟨q3, hres⟩ := am_ck_some hres
  refine am_iald cx dX12_laysMatrix_79 (am_ke q2) q3 ?_
  refine am_istore cx (lv' := [(0, .inr (.inr (.inl r0))), (1, .inl x1), (2, .inl x2), (3, .inl x3), (4, .inl x4), (5, .inl x5), (6, .inl x6), (7, .inl (am_I M (am_R M r0 26) ((((28 : Int32) * x1) + ((2 : Int32) * x5)) + (1 : Int32)).toNatClampNeg))]) dX12_laysMatrix_80 (Nat.le_of_ble_eq_true rfl) rfl ?_
  exact sn12_laysMatrix_b82 cx hk37 hres
set_option maxRecDepth 20000 in
theorem sn12_laysMatrix_b37B {l : Launch} {G : am_G} {v : Int32} {M' : am_Mem} {N : Nat} {k37 : Nat → Int32 → Int32 → Int32 → Int32 → Int32 → am_Mem → Option (Int32 × am_Mem)} (cx : am_Ctx l rm12_laysMatrix yX12_laysMatrix cX12_laysMatrix 8 (some .int) (some (.inl v)) M' 0 0 G) (hk37 : ∀ (r0 : Nat) (x1 : Int32) (x2 : Int32) (x3 : Int32) (x4 : Int32) (x5 : Int32) (M : am_Mem), k37 r0 x1 x2 x3 x4 x5 M = some (v, M') → G 37 [(0, .inr (.inr (.inl r0))), (1, .inl x1), (2, .inl x2), (3, .inl x3), (4, .inl x4), (5, .inl x5)] [] M 0 0) {r0 : Nat} {x1 : Int32} {x2 : Int32} {x3 : Int32} {x4 : Int32} {x5 : Int32} {M : am_Mem} (hres : fn12_laysMatrix_b37B N k37 r0 x1 x2 x3 x4 x5 M = some (v, M')) : G 37 [(0, .inr (.inr (.inl r0))), (1, .inl x1), (2, .inl x2), (3, .inl x3), (4, .inl x4), (5, .inl x5)] [] M 0 0 := by
  unfold fn12_laysMatrix_b37B at hres
  refine am_iload cx 5 dX12_laysMatrix_37 rfl ?_
  refine am_aload_n cx 0 dX12_laysMatrix_39 rfl ?_
  obtain ⟨q1, hres⟩ := am_ck_some hres
  refine am_getR cx dX12_laysMatrix_40 flX12_49 (am_ke q1) ?_
  refine am_iload_n cx 1 dX12_laysMatrix_43 rfl ?_
  obtain ⟨q2, hres⟩ := am_ck_some hres
  obtain ⟨q3, hres⟩ := am_ck_some hres
  refine am_iald cx dX12_laysMatrix_44 (am_ke q2) q3 ?_
  refine am_icmp_ge cx (tgt := 144) dX12_laysMatrix_45 (by decide) (fun h => ?_) (fun h => ?_)
  · have hres := am_ifp h hres
    refine am_iload_n cx 2 dX12_laysMatrix_144 rfl ?_
    refine am_iconst cx (v := (-1 : Int32)) dX12_laysMatrix_145 (by decide) ?_
    refine am_icmp_ne cx (tgt := 154) dX12_laysMatrix_146 (by decide) (fun h => ?_) (fun h => ?_)
    · have hres := am_ifn h hres
      refine am_iload cx 4 dX12_laysMatrix_154 rfl ?_
      refine am_iconst cx (v := (1 : Int32)) dX12_laysMatrix_156 (by decide) ?_
      refine am_isub cx dX12_laysMatrix_157 ?_
      refine am_sub cx [] rfl ?_
      exact sn12_laysMatrix_b158 cx  hres
    · have hres := am_ifp h hres
      refine am_iload cx 4 dX12_laysMatrix_149 rfl ?_
      refine am_goto cx (tgt := 158) dX12_laysMatrix_151 (by decide) ?_
      refine am_sub cx [] rfl ?_
      exact sn12_laysMatrix_b158 cx  hres
  · have hres := am_ifn h hres
    refine am_aload_n cx 0 dX12_laysMatrix_48 rfl ?_
    refine am_getR cx dX12_laysMatrix_49 flX12_52 (am_ke q1) ?_
    refine am_bipush cx (v := (28 : Int32)) dX12_laysMatrix_52 (by decide) ?_
    refine am_iload_n cx 1 dX12_laysMatrix_54 rfl ?_
    refine am_imul cx dX12_laysMatrix_55 ?_
    refine am_iconst cx (v := (2 : Int32)) dX12_laysMatrix_56 (by decide) ?_
    refine am_iload cx 5 dX12_laysMatrix_57 rfl ?_
    refine am_imul cx dX12_laysMatrix_59 ?_
    refine am_iadd cx dX12_laysMatrix_60 ?_
    obtain ⟨q4, hres⟩ := am_ck_some hres
    obtain ⟨q5, hres⟩ := am_ck_some hres
    refine am_iald cx dX12_laysMatrix_61 (am_ke q4) q5 ?_
    refine am_istore cx (lv' := [(0, .inr (.inr (.inl r0))), (1, .inl x1), (2, .inl x2), (3, .inl x3), (4, .inl x4), (5, .inl x5), (6, .inl (am_I M (am_R M r0 26) (((28 : Int32) * x1) + ((2 : Int32) * x5)).toNatClampNeg))]) dX12_laysMatrix_62 (Nat.le_of_ble_eq_true rfl) rfl ?_
    exact sn12_laysMatrix_b64 cx hk37 hres
set_option maxRecDepth 20000 in
theorem sn12_laysMatrix_b37 {l : Launch} {G : am_G} {v : Int32} {M' : am_Mem} {N : Nat}  (cx : am_Ctx l rm12_laysMatrix yX12_laysMatrix cX12_laysMatrix 8 (some .int) (some (.inl v)) M' 0 0 G)  (i : Nat) : ∀ (r0 : Nat) (x1 : Int32) (x2 : Int32) (x3 : Int32) (x4 : Int32) (x5 : Int32) (M : am_Mem), fn12_laysMatrix_b37 N  i r0 x1 x2 x3 x4 x5 M = some (v, M') → G 37 [(0, .inr (.inr (.inl r0))), (1, .inl x1), (2, .inl x2), (3, .inl x3), (4, .inl x4), (5, .inl x5)] [] M 0 0 := by
  induction i with
  | zero => intro r0 x1 x2 x3 x4 x5 M hres; exact am_no hres
  | succ i ih => intro r0 x1 x2 x3 x4 x5 M hres; exact sn12_laysMatrix_b37B cx ih hres
set_option maxRecDepth 20000 in
theorem sn12_laysMatrix_b13B {l : Launch} {G : am_G} {v : Int32} {M' : am_Mem} {N : Nat} {k13 : Nat → Int32 → Int32 → Int32 → Int32 → Int32 → am_Mem → Option (Int32 × am_Mem)} (cx : am_Ctx l rm12_laysMatrix yX12_laysMatrix cX12_laysMatrix 8 (some .int) (some (.inl v)) M' 0 0 G) (hk13 : ∀ (r0 : Nat) (x1 : Int32) (x2 : Int32) (x3 : Int32) (x4 : Int32) (x5 : Int32) (M : am_Mem), k13 r0 x1 x2 x3 x4 x5 M = some (v, M') → G 13 [(0, .inr (.inr (.inl r0))), (1, .inl x1), (2, .inl x2), (3, .inl x3), (4, .inl x4), (5, .inl x5)] [] M 0 0) {r0 : Nat} {x1 : Int32} {x2 : Int32} {x3 : Int32} {x4 : Int32} {x5 : Int32} {M : am_Mem} (hres : fn12_laysMatrix_b13B N k13 r0 x1 x2 x3 x4 x5 M = some (v, M')) : G 13 [(0, .inr (.inr (.inl r0))), (1, .inl x1), (2, .inl x2), (3, .inl x3), (4, .inl x4), (5, .inl x5)] [] M 0 0 := by
  unfold fn12_laysMatrix_b13B at hres
  refine am_iload cx 5 dX12_laysMatrix_13 rfl ?_
  refine am_bipush cx (v := (64 : Int32)) dX12_laysMatrix_15 (by decide) ?_
  refine am_icmp_ge cx (tgt := 34) dX12_laysMatrix_17 (by decide) (fun h => ?_) (fun h => ?_)
  · have hres := am_ifp h hres
    refine am_iconst cx (v := (0 : Int32)) dX12_laysMatrix_34 (by decide) ?_
    refine am_istore cx (lv' := [(0, .inr (.inr (.inl r0))), (1, .inl x1), (2, .inl x2), (3, .inl x3), (4, .inl x4), (5, .inl (0 : Int32))]) dX12_laysMatrix_35 (Nat.le_of_ble_eq_true rfl) rfl ?_
    exact sn12_laysMatrix_b37 cx  N _ _ _ _ _ _ _ hres
  · have hres := am_ifn h hres
    refine am_aload_n cx 0 dX12_laysMatrix_20 rfl ?_
    obtain ⟨q1, hres⟩ := am_ck_some hres
    refine am_getR cx dX12_laysMatrix_21 flX12_79 (am_ke q1) ?_
    refine am_iload cx 5 dX12_laysMatrix_24 rfl ?_
    refine am_lconst cx (v := (0 : Int64)) dX12_laysMatrix_26 (by decide) ?_
    obtain ⟨q2, hres⟩ := am_ck_some hres
    obtain ⟨q3, hres⟩ := am_ck_some hres
    refine am_last cx dX12_laysMatrix_27 (am_ke q2) q3  ?_
    refine am_iincw cx (lv' := [(0, .inr (.inr (.inl r0))), (1, .inl x1), (2, .inl x2), (3, .inl x3), (4, .inl x4), (5, .inl (x5 + (1 : Int32)))]) (w := (1 : Int32)) 5 dX12_laysMatrix_28 (by decide) rfl (Nat.le_of_ble_eq_true rfl) rfl ?_
    refine am_goto cx (tgt := 13) dX12_laysMatrix_31 (by decide) ?_
    exact hk13 _ _ _ _ _ _ _ hres
set_option maxRecDepth 20000 in
theorem sn12_laysMatrix_b13 {l : Launch} {G : am_G} {v : Int32} {M' : am_Mem} {N : Nat}  (cx : am_Ctx l rm12_laysMatrix yX12_laysMatrix cX12_laysMatrix 8 (some .int) (some (.inl v)) M' 0 0 G)  (i : Nat) : ∀ (r0 : Nat) (x1 : Int32) (x2 : Int32) (x3 : Int32) (x4 : Int32) (x5 : Int32) (M : am_Mem), fn12_laysMatrix_b13 N  i r0 x1 x2 x3 x4 x5 M = some (v, M') → G 13 [(0, .inr (.inr (.inl r0))), (1, .inl x1), (2, .inl x2), (3, .inl x3), (4, .inl x4), (5, .inl x5)] [] M 0 0 := by
  induction i with
  | zero => intro r0 x1 x2 x3 x4 x5 M hres; exact am_no hres
  | succ i ih => intro r0 x1 x2 x3 x4 x5 M hres; exact sn12_laysMatrix_b13B cx ih hres
set_option maxRecDepth 20000 in
theorem sn12_laysMatrix_b10 {l : Launch} {G : am_G} {v : Int32} {M' : am_Mem} {N : Nat}  (cx : am_Ctx l rm12_laysMatrix yX12_laysMatrix cX12_laysMatrix 8 (some .int) (some (.inl v)) M' 0 0 G)  {r0 : Nat} {x1 : Int32} {x2 : Int32} {x3 : Int32} {x4 : Int32} {M : am_Mem} (hres : fn12_laysMatrix_b10 N  r0 x1 x2 x3 x4 M = some (v, M')) : G 10 [(0, .inr (.inr (.inl r0))), (1, .inl x1), (2, .inl x2), (3, .inl x3), (4, .inl x4)] [] M 0 0 := by
  unfold fn12_laysMatrix_b10 at hres
  refine am_iconst cx (v := (0 : Int32)) dX12_laysMatrix_10 (by decide) ?_
  refine am_istore cx (lv' := [(0, .inr (.inr (.inl r0))), (1, .inl x1), (2, .inl x2), (3, .inl x3), (4, .inl x4), (5, .inl (0 : Int32))]) dX12_laysMatrix_11 (Nat.le_of_ble_eq_true rfl) rfl ?_
  exact sn12_laysMatrix_b13 cx  N _ _ _ _ _ _ _ hres
set_option maxRecDepth 20000 in
theorem sn12_laysMatrix_b0 {l : Launch} {G : am_G} {v : Int32} {M' : am_Mem} {N : Nat}  (cx : am_Ctx l rm12_laysMatrix yX12_laysMatrix cX12_laysMatrix 8 (some .int) (some (.inl v)) M' 0 0 G)  {r0 : Nat} {x1 : Int32} {x2 : Int32} {x3 : Int32} {M : am_Mem} (hres : fn12_laysMatrix_b0 N  r0 x1 x2 x3 M = some (v, M')) : G 0 [(0, .inr (.inr (.inl r0))), (1, .inl x1), (2, .inl x2), (3, .inl x3)] [] M 0 0 := by
  unfold fn12_laysMatrix_b0 at hres
  refine am_aload_n cx 0 dX12_laysMatrix_0 rfl ?_
  obtain ⟨q1, hres⟩ := am_ck_some hres
  refine am_getR cx dX12_laysMatrix_1 flX12_46 (am_ke q1) ?_
  refine am_iload_n cx 1 dX12_laysMatrix_4 rfl ?_
  obtain ⟨q2, hres⟩ := am_ck_some hres
  obtain ⟨q3, hres⟩ := am_ck_some hres
  refine am_iald cx dX12_laysMatrix_5 (am_ke q2) q3 ?_
  refine am_iconst cx (v := (1 : Int32)) dX12_laysMatrix_6 (by decide) ?_
  refine am_isub cx dX12_laysMatrix_7 ?_
  refine am_istore cx (lv' := [(0, .inr (.inr (.inl r0))), (1, .inl x1), (2, .inl x2), (3, .inl x3), (4, .inl ((am_I M (am_R M r0 24) x1.toNatClampNeg) - (1 : Int32)))]) dX12_laysMatrix_8 (Nat.le_of_ble_eq_true rfl) rfl ?_
  exact sn12_laysMatrix_b10 cx  hres
set_option maxRecDepth 20000 in
theorem mt12_laysMatrix {l : Launch} {v : Int32} {M M' : am_Mem} {N : Nat} {r0 : Nat} {x1 : Int32} {x2 : Int32} {x3 : Int32} (h : fn12_laysMatrix N M r0 x1 x2 x3 = some (v, M')) : am_Met l yX12_laysMatrix cX12_laysMatrix 8 (some .int) rm12_laysMatrix 0 0 [.inr (.inr (.inl r0)), .inl x1, .inl x2, .inl x3] M (some (.inl v)) M' := am_mk (by decide) (Nat.le_of_ble_eq_true rfl) (fun G cx => (sn12_laysMatrix_b0 cx h))
-- SquareCutsModel.flows
def fn12_flows_b277B (N : Nat) (k277 : Nat → Int32 → Int64 → Int32 → am_Mem → Option (Unit × am_Mem)) (r0 : Nat) (x1 : Int32) (j2 : Int64) (x4 : Int32) (M : am_Mem) : Option (Unit × am_Mem) :=
  am_ck (am_k M r0 12) (am_ck (am_k M (am_R M r0 24) 14) (am_ck (am_in x1 (am_L M (am_R M r0 24))) (if (am_I M (am_R M r0 24) x1.toNatClampNeg) ≤ x4 then am_ck (am_k M (am_R M r0 29) 15) (am_ck (am_in x1 (am_L M (am_R M r0 29))) (am_ck (decide (¬ j2 = 0)) (am_bd (fn12_laysOutline M r0 (((am_J M (am_R M r0 29) x1.toNatClampNeg) / j2).toInt32)) (fun v7 M8 => some ((), M8))))) else am_ck (am_k M (am_R M r0 30) 15) (am_ck (am_in (((9 : Int32) * x1) + x4) (am_L M (am_R M r0 30))) (am_ck (decide (¬ j2 = 0)) (am_ck (am_in (((9 : Int32) * x1) + x4) (am_L M (am_R M r0 30))) (k277 r0 x1 j2 (x4 + (1 : Int32)) (am_wJ M (am_R M r0 30) (((9 : Int32) * x1) + x4).toNatClampNeg ((am_J M (am_R M r0 30) (((9 : Int32) * x1) + x4).toNatClampNeg) / j2)))))))))
def fn12_flows_b277 (N : Nat)  : Nat → Nat → Int32 → Int64 → Int32 → am_Mem → Option (Unit × am_Mem)
  | 0 => fun _ _ _ _ _ => none
  | i + 1 => fn12_flows_b277B N (fn12_flows_b277 N  i)
def fn12_flows_b241B (N : Nat) (k241 : Nat → Int32 → Int64 → Int32 → am_Mem → Option (Unit × am_Mem)) (r0 : Nat) (x1 : Int32) (j2 : Int64) (x4 : Int32) (M : am_Mem) : Option (Unit × am_Mem) :=
  am_ck (am_k M r0 12) (am_ck (am_k M (am_R M r0 25) 14) (am_ck (am_in x1 (am_L M (am_R M r0 25))) (if (am_I M (am_R M r0 25) x1.toNatClampNeg) ≤ x4 then fn12_flows_b277 N  N r0 x1 j2 (0 : Int32) M else am_ck (am_k M (am_R M r0 31) 15) (am_ck (am_in (((14 : Int32) * x1) + x4) (am_L M (am_R M r0 31))) (am_ck (decide (¬ j2 = 0)) (am_ck (am_in (((14 : Int32) * x1) + x4) (am_L M (am_R M r0 31))) (k241 r0 x1 j2 (x4 + (1 : Int32)) (am_wJ M (am_R M r0 31) (((14 : Int32) * x1) + x4).toNatClampNeg ((am_J M (am_R M r0 31) (((14 : Int32) * x1) + x4).toNatClampNeg) / j2)))))))))
def fn12_flows_b241 (N : Nat)  : Nat → Nat → Int32 → Int64 → Int32 → am_Mem → Option (Unit × am_Mem)
  | 0 => fun _ _ _ _ _ => none
  | i + 1 => fn12_flows_b241B N (fn12_flows_b241 N  i)
def fn12_flows_b141B (N : Nat) (k141 : Nat → Int32 → Int64 → Int32 → am_Mem → Option (Unit × am_Mem)) (r0 : Nat) (x1 : Int32) (j2 : Int64) (x4 : Int32) (M : am_Mem) : Option (Unit × am_Mem) :=
  am_ck (am_k M r0 12) (am_ck (am_k M (am_R M r0 25) 14) (am_ck (am_in x1 (am_L M (am_R M r0 25))) (if (am_I M (am_R M r0 25) x1.toNatClampNeg) ≤ x4 then fn12_flows_b241 N  N r0 x1 j2 (0 : Int32) M else am_ck (am_k M (am_R M r0 26) 14) (am_ck (am_in (((28 : Int32) * x1) + ((2 : Int32) * x4)) (am_L M (am_R M r0 26))) (am_ck (am_k M (am_R M r0 30) 15) (am_ck (am_in (((9 : Int32) * x1) + (am_I M (am_R M r0 26) (((28 : Int32) * x1) + ((2 : Int32) * x4)).toNatClampNeg)) (am_L M (am_R M r0 30))) (am_ck (am_in ((((28 : Int32) * x1) + ((2 : Int32) * x4)) + (1 : Int32)) (am_L M (am_R M r0 26))) (am_ck (am_in (((9 : Int32) * x1) + (am_I M (am_R M r0 26) ((((28 : Int32) * x1) + ((2 : Int32) * x4)) + (1 : Int32)).toNatClampNeg)) (am_L M (am_R M r0 30))) (am_ck (am_k M (am_R M r0 31) 15) (am_ck (am_in (((14 : Int32) * x1) + x4) (am_L M (am_R M r0 31))) (am_ck (am_in (((14 : Int32) * x1) + x4) (am_L M (am_R M r0 31))) (am_bd (fn12_common N (am_wJ M (am_R M r0 31) (((14 : Int32) * x1) + x4).toNatClampNeg ((am_J M (am_R M r0 30) (((9 : Int32) * x1) + (am_I M (am_R M r0 26) (((28 : Int32) * x1) + ((2 : Int32) * x4)).toNatClampNeg)).toNatClampNeg) - (am_J M (am_R M r0 30) (((9 : Int32) * x1) + (am_I M (am_R M r0 26) ((((28 : Int32) * x1) + ((2 : Int32) * x4)) + (1 : Int32)).toNatClampNeg)).toNatClampNeg))) j2 (am_J (am_wJ M (am_R M r0 31) (((14 : Int32) * x1) + x4).toNatClampNeg ((am_J M (am_R M r0 30) (((9 : Int32) * x1) + (am_I M (am_R M r0 26) (((28 : Int32) * x1) + ((2 : Int32) * x4)).toNatClampNeg)).toNatClampNeg) - (am_J M (am_R M r0 30) (((9 : Int32) * x1) + (am_I M (am_R M r0 26) ((((28 : Int32) * x1) + ((2 : Int32) * x4)) + (1 : Int32)).toNatClampNeg)).toNatClampNeg))) (am_R M r0 31) (((14 : Int32) * x1) + x4).toNatClampNeg)) (fun v13 M14 => k141 r0 x1 v13 (x4 + (1 : Int32)) M14)))))))))))))
def fn12_flows_b141 (N : Nat)  : Nat → Nat → Int32 → Int64 → Int32 → am_Mem → Option (Unit × am_Mem)
  | 0 => fun _ _ _ _ _ => none
  | i + 1 => fn12_flows_b141B N (fn12_flows_b141 N  i)
def fn12_flows_b129 (N : Nat) (k83 : Nat → Int32 → Int32 → am_Mem → Option (Unit × am_Mem)) (c0 : Nat) (a1 : Int32) (b2 : Int64) (r0 : Nat) (x1 : Int32) (x2 : Int32) (M : am_Mem) : Option (Unit × am_Mem) :=
  am_ck (am_k M c0 15) (am_ck (am_in a1 (am_L M c0)) (k83 r0 x1 (x2 + (1 : Int32)) (am_wJ M c0 a1.toNatClampNeg b2)))
def fn12_flows_b83B (N : Nat) (k83 : Nat → Int32 → Int32 → am_Mem → Option (Unit × am_Mem)) (r0 : Nat) (x1 : Int32) (x2 : Int32) (M : am_Mem) : Option (Unit × am_Mem) :=
  am_ck (am_k M r0 12) (am_ck (am_k M (am_R M r0 24) 14) (am_ck (am_in x1 (am_L M (am_R M r0 24))) (if ((am_I M (am_R M r0 24) x1.toNatClampNeg) - (1 : Int32)) ≤ x2 then fn12_flows_b141 N  N r0 x1 (0 : Int64) (0 : Int32) M else am_bd (fn12_laysMatrix N M r0 x1 (0 : Int32) x2) (fun v4 M5 => am_ck (am_k M5 r0 12) (am_bd (fn12_determinant N M5 r0 v4) (fun v8 M9 => am_ck (am_k M9 r0 12) (if (x2 - x2 / (2 : Int32) * (2 : Int32)) = 0 then fn12_flows_b129 N k83 (am_R M9 r0 30) (((9 : Int32) * x1) + x2) v8 r0 x1 x2 M9 else fn12_flows_b129 N k83 (am_R M9 r0 30) (((9 : Int32) * x1) + x2) (-v8) r0 x1 x2 M9)))))))
def fn12_flows_b83 (N : Nat)  : Nat → Nat → Int32 → Int32 → am_Mem → Option (Unit × am_Mem)
  | 0 => fun _ _ _ _ => none
  | i + 1 => fn12_flows_b83B N (fn12_flows_b83 N  i)
def fn12_flows_b45B (N : Nat) (k45 : Nat → Int32 → Int32 → am_Mem → Option (Unit × am_Mem)) (r0 : Nat) (x1 : Int32) (x2 : Int32) (M : am_Mem) : Option (Unit × am_Mem) :=
  if (14 : Int32) ≤ x2 then am_ck (am_k M r0 12) (am_ck (am_k M (am_R M r0 29) 15) (am_ck (am_in x1 (am_L M (am_R M r0 29))) (if (lg_cmp (am_J M (am_R M r0 29) x1.toNatClampNeg) (0 : Int64)) = 0 then some ((), M) else fn12_flows_b83 N  N r0 x1 (0 : Int32) M))) else am_ck (am_k M r0 12) (am_ck (am_k M (am_R M r0 31) 15) (am_ck (am_in (((14 : Int32) * x1) + x2) (am_L M (am_R M r0 31))) (k45 r0 x1 (x2 + (1 : Int32)) (am_wJ M (am_R M r0 31) (((14 : Int32) * x1) + x2).toNatClampNeg (0 : Int64)))))
def fn12_flows_b45 (N : Nat)  : Nat → Nat → Int32 → Int32 → am_Mem → Option (Unit × am_Mem)
  | 0 => fun _ _ _ _ => none
  | i + 1 => fn12_flows_b45B N (fn12_flows_b45 N  i)
def fn12_flows_b19B (N : Nat) (k19 : Nat → Int32 → Int32 → am_Mem → Option (Unit × am_Mem)) (r0 : Nat) (x1 : Int32) (x2 : Int32) (M : am_Mem) : Option (Unit × am_Mem) :=
  if (9 : Int32) ≤ x2 then fn12_flows_b45 N  N r0 x1 (0 : Int32) M else am_ck (am_k M r0 12) (am_ck (am_k M (am_R M r0 30) 15) (am_ck (am_in (((9 : Int32) * x1) + x2) (am_L M (am_R M r0 30))) (k19 r0 x1 (x2 + (1 : Int32)) (am_wJ M (am_R M r0 30) (((9 : Int32) * x1) + x2).toNatClampNeg (0 : Int64)))))
def fn12_flows_b19 (N : Nat)  : Nat → Nat → Int32 → Int32 → am_Mem → Option (Unit × am_Mem)
  | 0 => fun _ _ _ _ => none
  | i + 1 => fn12_flows_b19B N (fn12_flows_b19 N  i)
def fn12_flows_b0 (N : Nat)  (r0 : Nat) (x1 : Int32) (M : am_Mem) : Option (Unit × am_Mem) :=
  am_ck (am_k M r0 12) (am_bd (fn12_laysMatrix N M r0 x1 (-1 : Int32) (-1 : Int32)) (fun v2 M3 => am_ck (am_k M3 r0 12) (am_bd (fn12_determinant N M3 r0 v2) (fun v6 M7 => am_ck (am_k M7 (am_R M r0 29) 15) (am_ck (am_in x1 (am_L M7 (am_R M r0 29))) (fn12_flows_b19 N  N r0 x1 (0 : Int32) (am_wJ M7 (am_R M r0 29) x1.toNatClampNeg v6)))))))
def fn12_flows (N : Nat) (M : am_Mem) (r0 : Nat) (x1 : Int32) : Option (Unit × am_Mem) := fn12_flows_b0 N r0 x1 M
def rm12_flows : Room := { frames := 2, cells := 0, slots := 0, locals := 56 }
set_option maxRecDepth 20000 in
theorem sn12_flows_b277B {l : Launch} {G : am_G} {M' : am_Mem} {N : Nat} {k277 : Nat → Int32 → Int64 → Int32 → am_Mem → Option (Unit × am_Mem)} (cx : am_Ctx l rm12_flows yX12_flows cX12_flows 5 none none M' 0 0 G) (hk277 : ∀ (r0 : Nat) (x1 : Int32) (j2 : Int64) (x4 : Int32) (M : am_Mem), k277 r0 x1 j2 x4 M = some ((), M') → G 277 [(0, .inr (.inr (.inl r0))), (1, .inl x1), (2, .inr (.inl j2)), (4, .inl x4)] [] M 0 0) {r0 : Nat} {x1 : Int32} {j2 : Int64} {x4 : Int32} {M : am_Mem} (hres : fn12_flows_b277B N k277 r0 x1 j2 x4 M = some ((), M')) : G 277 [(0, .inr (.inr (.inl r0))), (1, .inl x1), (2, .inr (.inl j2)), (4, .inl x4)] [] M 0 0 := by
  unfold fn12_flows_b277B at hres
  refine am_iload cx 3 dX12_flows_277 rfl ?_
  refine am_aload_n cx 0 dX12_flows_279 rfl ?_
  obtain ⟨q1, hres⟩ := am_ck_some hres
  refine am_getR cx dX12_flows_280 flX12_46 (am_ke q1) ?_
  refine am_iload_n cx 1 dX12_flows_283 rfl ?_
  obtain ⟨q2, hres⟩ := am_ck_some hres
  obtain ⟨q3, hres⟩ := am_ck_some hres
  refine am_iald cx dX12_flows_284 (am_ke q2) q3 ?_
  refine am_icmp_ge cx (tgt := 310) dX12_flows_285 (by decide) (fun h => ?_) (fun h => ?_)
  · have hres := am_ifp h hres
    refine am_aload_n cx 0 dX12_flows_310 rfl ?_
    refine am_aload_n cx 0 dX12_flows_311 rfl ?_
    refine am_getR cx dX12_flows_312 flX12_61 (am_ke q1) ?_
    refine am_iload_n cx 1 dX12_flows_315 rfl ?_
    obtain ⟨q4, hres⟩ := am_ck_some hres
    obtain ⟨q5, hres⟩ := am_ck_some hres
    refine am_lald cx dX12_flows_316 (am_ke q4) q5 ?_
    refine am_lload_n cx 2 dX12_flows_317 rfl ?_
    obtain ⟨q6, hres⟩ := am_ck_some hres
    refine am_ldiv cx dX12_flows_318 (of_decide_eq_true q6) ?_
    refine am_l2i cx dX12_flows_319 ?_
    obtain ⟨v7, M8, q9, hres⟩ := am_bd_some hres
    refine am_callV0 cx [.inl ((am_J M (am_R M r0 29) x1.toNatClampNeg) / j2).toInt32] dX12_flows_320 cvX12_232 (mt12_laysOutline q9) (am_ke q1) ⟨rfl, rfl, Nat.le_of_ble_eq_true rfl, Nat.le_of_ble_eq_true rfl⟩ rfl (Nat.le_of_ble_eq_true rfl) ⟨Nat.le_of_ble_eq_true rfl, Nat.le_of_ble_eq_true rfl⟩ ?_
    obtain ⟨-, rfl⟩ := am_fin hres
    exact am_vret cx dX12_flows_323
  · have hres := am_ifn h hres
    refine am_aload_n cx 0 dX12_flows_288 rfl ?_
    refine am_getR cx dX12_flows_289 flX12_64 (am_ke q1) ?_
    refine am_bipush cx (v := (9 : Int32)) dX12_flows_292 (by decide) ?_
    refine am_iload_n cx 1 dX12_flows_294 rfl ?_
    refine am_imul cx dX12_flows_295 ?_
    refine am_iload cx 3 dX12_flows_296 rfl ?_
    refine am_iadd cx dX12_flows_298 ?_
    refine am_dup2 cx dX12_flows_299 rfl rfl ?_
    obtain ⟨q10, hres⟩ := am_ck_some hres
    obtain ⟨q11, hres⟩ := am_ck_some hres
    refine am_lald cx dX12_flows_300 (am_ke q10) q11 ?_
    refine am_lload_n cx 2 dX12_flows_301 rfl ?_
    obtain ⟨q12, hres⟩ := am_ck_some hres
    refine am_ldiv cx dX12_flows_302 (of_decide_eq_true q12) ?_
    obtain ⟨q13, hres⟩ := am_ck_some hres
    refine am_last cx dX12_flows_303 (am_ke q10) q13  ?_
    refine am_iincw cx (lv' := [(0, .inr (.inr (.inl r0))), (1, .inl x1), (2, .inr (.inl j2)), (4, .inl (x4 + (1 : Int32)))]) (w := (1 : Int32)) 3 dX12_flows_304 (by decide) rfl (Nat.le_of_ble_eq_true rfl) rfl ?_
    refine am_goto cx (tgt := 277) dX12_flows_307 (by decide) ?_
    exact hk277 _ _ _ _ _ hres
set_option maxRecDepth 20000 in
theorem sn12_flows_b277 {l : Launch} {G : am_G} {M' : am_Mem} {N : Nat}  (cx : am_Ctx l rm12_flows yX12_flows cX12_flows 5 none none M' 0 0 G)  (i : Nat) : ∀ (r0 : Nat) (x1 : Int32) (j2 : Int64) (x4 : Int32) (M : am_Mem), fn12_flows_b277 N  i r0 x1 j2 x4 M = some ((), M') → G 277 [(0, .inr (.inr (.inl r0))), (1, .inl x1), (2, .inr (.inl j2)), (4, .inl x4)] [] M 0 0 := by
  induction i with
  | zero => intro r0 x1 j2 x4 M hres; exact am_no hres
  | succ i ih => intro r0 x1 j2 x4 M hres; exact sn12_flows_b277B cx ih hres
set_option maxRecDepth 20000 in
theorem sn12_flows_b241B {l : Launch} {G : am_G} {M' : am_Mem} {N : Nat} {k241 : Nat → Int32 → Int64 → Int32 → am_Mem → Option (Unit × am_Mem)} (cx : am_Ctx l rm12_flows yX12_flows cX12_flows 5 none none M' 0 0 G) (hk241 : ∀ (r0 : Nat) (x1 : Int32) (j2 : Int64) (x4 : Int32) (M : am_Mem), k241 r0 x1 j2 x4 M = some ((), M') → G 241 [(0, .inr (.inr (.inl r0))), (1, .inl x1), (2, .inr (.inl j2)), (4, .inl x4)] [] M 0 0) {r0 : Nat} {x1 : Int32} {j2 : Int64} {x4 : Int32} {M : am_Mem} (hres : fn12_flows_b241B N k241 r0 x1 j2 x4 M = some ((), M')) : G 241 [(0, .inr (.inr (.inl r0))), (1, .inl x1), (2, .inr (.inl j2)), (4, .inl x4)] [] M 0 0 := by
  unfold fn12_flows_b241B at hres
  refine am_iload cx 3 dX12_flows_241 rfl ?_
  refine am_aload_n cx 0 dX12_flows_243 rfl ?_
  obtain ⟨q1, hres⟩ := am_ck_some hres
  refine am_getR cx dX12_flows_244 flX12_49 (am_ke q1) ?_
  refine am_iload_n cx 1 dX12_flows_247 rfl ?_
  obtain ⟨q2, hres⟩ := am_ck_some hres
  obtain ⟨q3, hres⟩ := am_ck_some hres
  refine am_iald cx dX12_flows_248 (am_ke q2) q3 ?_
  refine am_icmp_ge cx (tgt := 274) dX12_flows_249 (by decide) (fun h => ?_) (fun h => ?_)
  · have hres := am_ifp h hres
    refine am_iconst cx (v := (0 : Int32)) dX12_flows_274 (by decide) ?_
    refine am_istore cx (lv' := [(0, .inr (.inr (.inl r0))), (1, .inl x1), (2, .inr (.inl j2)), (4, .inl (0 : Int32))]) dX12_flows_275 (Nat.le_of_ble_eq_true rfl) rfl ?_
    exact sn12_flows_b277 cx  N _ _ _ _ _ hres
  · have hres := am_ifn h hres
    refine am_aload_n cx 0 dX12_flows_252 rfl ?_
    refine am_getR cx dX12_flows_253 flX12_67 (am_ke q1) ?_
    refine am_bipush cx (v := (14 : Int32)) dX12_flows_256 (by decide) ?_
    refine am_iload_n cx 1 dX12_flows_258 rfl ?_
    refine am_imul cx dX12_flows_259 ?_
    refine am_iload cx 3 dX12_flows_260 rfl ?_
    refine am_iadd cx dX12_flows_262 ?_
    refine am_dup2 cx dX12_flows_263 rfl rfl ?_
    obtain ⟨q4, hres⟩ := am_ck_some hres
    obtain ⟨q5, hres⟩ := am_ck_some hres
    refine am_lald cx dX12_flows_264 (am_ke q4) q5 ?_
    refine am_lload_n cx 2 dX12_flows_265 rfl ?_
    obtain ⟨q6, hres⟩ := am_ck_some hres
    refine am_ldiv cx dX12_flows_266 (of_decide_eq_true q6) ?_
    obtain ⟨q7, hres⟩ := am_ck_some hres
    refine am_last cx dX12_flows_267 (am_ke q4) q7  ?_
    refine am_iincw cx (lv' := [(0, .inr (.inr (.inl r0))), (1, .inl x1), (2, .inr (.inl j2)), (4, .inl (x4 + (1 : Int32)))]) (w := (1 : Int32)) 3 dX12_flows_268 (by decide) rfl (Nat.le_of_ble_eq_true rfl) rfl ?_
    refine am_goto cx (tgt := 241) dX12_flows_271 (by decide) ?_
    exact hk241 _ _ _ _ _ hres
set_option maxRecDepth 20000 in
theorem sn12_flows_b241 {l : Launch} {G : am_G} {M' : am_Mem} {N : Nat}  (cx : am_Ctx l rm12_flows yX12_flows cX12_flows 5 none none M' 0 0 G)  (i : Nat) : ∀ (r0 : Nat) (x1 : Int32) (j2 : Int64) (x4 : Int32) (M : am_Mem), fn12_flows_b241 N  i r0 x1 j2 x4 M = some ((), M') → G 241 [(0, .inr (.inr (.inl r0))), (1, .inl x1), (2, .inr (.inl j2)), (4, .inl x4)] [] M 0 0 := by
  induction i with
  | zero => intro r0 x1 j2 x4 M hres; exact am_no hres
  | succ i ih => intro r0 x1 j2 x4 M hres; exact sn12_flows_b241B cx ih hres
set_option maxRecDepth 20000 in
theorem sn12_flows_b141B {l : Launch} {G : am_G} {M' : am_Mem} {N : Nat} {k141 : Nat → Int32 → Int64 → Int32 → am_Mem → Option (Unit × am_Mem)} (cx : am_Ctx l rm12_flows yX12_flows cX12_flows 5 none none M' 0 0 G) (hk141 : ∀ (r0 : Nat) (x1 : Int32) (j2 : Int64) (x4 : Int32) (M : am_Mem), k141 r0 x1 j2 x4 M = some ((), M') → G 141 [(0, .inr (.inr (.inl r0))), (1, .inl x1), (2, .inr (.inl j2)), (4, .inl x4)] [] M 0 0) {r0 : Nat} {x1 : Int32} {j2 : Int64} {x4 : Int32} {M : am_Mem} (hres : fn12_flows_b141B N k141 r0 x1 j2 x4 M = some ((), M')) : G 141 [(0, .inr (.inr (.inl r0))), (1, .inl x1), (2, .inr (.inl j2)), (4, .inl x4)] [] M 0 0 := by
  unfold fn12_flows_b141B at hres
  refine am_iload cx 3 dX12_flows_141 rfl ?_
  refine am_aload_n cx 0 dX12_flows_143 rfl ?_
  obtain ⟨q1, hres⟩ := am_ck_some hres
  refine am_getR cx dX12_flows_144 flX12_49 (am_ke q1) ?_
  refine am_iload_n cx 1 dX12_flows_147 rfl ?_
  obtain ⟨q2, hres⟩ := am_ck_some hres
  obtain ⟨q3, hres⟩ := am_ck_some hres
  refine am_iald cx dX12_flows_148 (am_ke q2) q3 ?_
  refine am_icmp_ge cx (tgt := 238) dX12_flows_149 (by decide) (fun h => ?_) (fun h => ?_)
  · have hres := am_ifp h hres
    refine am_iconst cx (v := (0 : Int32)) dX12_flows_238 (by decide) ?_
    refine am_istore cx (lv' := [(0, .inr (.inr (.inl r0))), (1, .inl x1), (2, .inr (.inl j2)), (4, .inl (0 : Int32))]) dX12_flows_239 (Nat.le_of_ble_eq_true rfl) rfl ?_
    exact sn12_flows_b241 cx  N _ _ _ _ _ hres
  · have hres := am_ifn h hres
    refine am_aload_n cx 0 dX12_flows_152 rfl ?_
    refine am_getR cx dX12_flows_153 flX12_67 (am_ke q1) ?_
    refine am_bipush cx (v := (14 : Int32)) dX12_flows_156 (by decide) ?_
    refine am_iload_n cx 1 dX12_flows_158 rfl ?_
    refine am_imul cx dX12_flows_159 ?_
    refine am_iload cx 3 dX12_flows_160 rfl ?_
    refine am_iadd cx dX12_flows_162 ?_
    refine am_aload_n cx 0 dX12_flows_163 rfl ?_
    refine am_getR cx dX12_flows_164 flX12_64 (am_ke q1) ?_
    refine am_bipush cx (v := (9 : Int32)) dX12_flows_167 (by decide) ?_
    refine am_iload_n cx 1 dX12_flows_169 rfl ?_
    refine am_imul cx dX12_flows_170 ?_
    refine am_aload_n cx 0 dX12_flows_171 rfl ?_
    refine am_getR cx dX12_flows_172 flX12_52 (am_ke q1) ?_
    refine am_bipush cx (v := (28 : Int32)) dX12_flows_175 (by decide) ?_
    refine am_iload_n cx 1 dX12_flows_177 rfl ?_
    refine am_imul cx dX12_flows_178 ?_
    refine am_iconst cx (v := (2 : Int32)) dX12_flows_179 (by decide) ?_
    refine am_iload cx 3 dX12_flows_180 rfl ?_
    refine am_imul cx dX12_flows_182 ?_
    refine am_iadd cx dX12_flows_183 ?_
    obtain ⟨q4, hres⟩ := am_ck_some hres
    obtain ⟨q5, hres⟩ := am_ck_some hres
    refine am_iald cx dX12_flows_184 (am_ke q4) q5 ?_
    refine am_iadd cx dX12_flows_185 ?_
    obtain ⟨q6, hres⟩ := am_ck_some hres
    obtain ⟨q7, hres⟩ := am_ck_some hres
    refine am_lald cx dX12_flows_186 (am_ke q6) q7 ?_
    refine am_aload_n cx 0 dX12_flows_187 rfl ?_
    refine am_getR cx dX12_flows_188 flX12_64 (am_ke q1) ?_
    refine am_bipush cx (v := (9 : Int32)) dX12_flows_191 (by decide) ?_
    refine am_iload_n cx 1 dX12_flows_193 rfl ?_
    refine am_imul cx dX12_flows_194 ?_
    refine am_aload_n cx 0 dX12_flows_195 rfl ?_
    refine am_getR cx dX12_flows_196 flX12_52 (am_ke q1) ?_
    refine am_bipush cx (v := (28 : Int32)) dX12_flows_199 (by decide) ?_
    refine am_iload_n cx 1 dX12_flows_201 rfl ?_
    refine am_imul cx dX12_flows_202 ?_
    refine am_iconst cx (v := (2 : Int32)) dX12_flows_203 (by decide) ?_
    refine am_iload cx 3 dX12_flows_204 rfl ?_
    refine am_imul cx dX12_flows_206 ?_
    refine am_iadd cx dX12_flows_207 ?_
    refine am_iconst cx (v := (1 : Int32)) dX12_flows_208 (by decide) ?_
    refine am_iadd cx dX12_flows_209 ?_
    obtain ⟨q8, hres⟩ := am_ck_some hres
    refine am_iald cx dX12_flows_210 (am_ke q4) q8 ?_
    refine am_iadd cx dX12_flows_211 ?_
    obtain ⟨q9, hres⟩ := am_ck_some hres
    refine am_lald cx dX12_flows_212 (am_ke q6) q9 ?_
    refine am_lsub cx dX12_flows_213 ?_
    obtain ⟨q10, hres⟩ := am_ck_some hres
    obtain ⟨q11, hres⟩ := am_ck_some hres
    refine am_last cx dX12_flows_214 (am_ke q10) q11  ?_
    refine am_lload_n cx 2 dX12_flows_215 rfl ?_
    refine am_aload_n cx 0 dX12_flows_216 rfl ?_
    refine am_getR cx dX12_flows_217 flX12_67 (am_ke q1) ?_
    refine am_bipush cx (v := (14 : Int32)) dX12_flows_220 (by decide) ?_
    refine am_iload_n cx 1 dX12_flows_222 rfl ?_
    refine am_imul cx dX12_flows_223 ?_
    refine am_iload cx 3 dX12_flows_224 rfl ?_
    refine am_iadd cx dX12_flows_226 ?_
    obtain ⟨q12, hres⟩ := am_ck_some hres
    refine am_lald cx dX12_flows_227 (am_ke q10) q12 ?_
    obtain ⟨v13, M14, q15, hres⟩ := am_bd_some hres
    refine am_callS1 cx [.inr (.inl j2), .inr (.inl (am_J (am_wJ M (am_R M r0 31) (((14 : Int32) * x1) + x4).toNatClampNeg ((am_J M (am_R M r0 30) (((9 : Int32) * x1) + (am_I M (am_R M r0 26) (((28 : Int32) * x1) + ((2 : Int32) * x4)).toNatClampNeg)).toNatClampNeg) - (am_J M (am_R M r0 30) (((9 : Int32) * x1) + (am_I M (am_R M r0 26) ((((28 : Int32) * x1) + ((2 : Int32) * x4)) + (1 : Int32)).toNatClampNeg)).toNatClampNeg))) (am_R M r0 31) (((14 : Int32) * x1) + x4).toNatClampNeg))] dX12_flows_228 csX12_260 (mt12_common q15)  ⟨rfl, rfl, Nat.le_of_ble_eq_true rfl, Nat.le_of_ble_eq_true rfl⟩ rfl (Nat.le_of_ble_eq_true rfl) ⟨Nat.le_of_ble_eq_true rfl, Nat.le_of_ble_eq_true rfl⟩ ?_
    refine am_lstore_n cx (lv' := [(0, .inr (.inr (.inl r0))), (1, .inl x1), (2, .inr (.inl v13)), (4, .inl x4)]) dX12_flows_231 (Nat.le_of_ble_eq_true rfl) rfl ?_
    refine am_iincw cx (lv' := [(0, .inr (.inr (.inl r0))), (1, .inl x1), (2, .inr (.inl v13)), (4, .inl (x4 + (1 : Int32)))]) (w := (1 : Int32)) 3 dX12_flows_232 (by decide) rfl (Nat.le_of_ble_eq_true rfl) rfl ?_
    refine am_goto cx (tgt := 141) dX12_flows_235 (by decide) ?_
    exact hk141 _ _ _ _ _ hres
set_option maxRecDepth 20000 in
theorem sn12_flows_b141 {l : Launch} {G : am_G} {M' : am_Mem} {N : Nat}  (cx : am_Ctx l rm12_flows yX12_flows cX12_flows 5 none none M' 0 0 G)  (i : Nat) : ∀ (r0 : Nat) (x1 : Int32) (j2 : Int64) (x4 : Int32) (M : am_Mem), fn12_flows_b141 N  i r0 x1 j2 x4 M = some ((), M') → G 141 [(0, .inr (.inr (.inl r0))), (1, .inl x1), (2, .inr (.inl j2)), (4, .inl x4)] [] M 0 0 := by
  induction i with
  | zero => intro r0 x1 j2 x4 M hres; exact am_no hres
  | succ i ih => intro r0 x1 j2 x4 M hres; exact sn12_flows_b141B cx ih hres
set_option maxRecDepth 20000 in
theorem sn12_flows_b129 {l : Launch} {G : am_G} {M' : am_Mem} {N : Nat} {k83 : Nat → Int32 → Int32 → am_Mem → Option (Unit × am_Mem)} (cx : am_Ctx l rm12_flows yX12_flows cX12_flows 5 none none M' 0 0 G) (hk83 : ∀ (r0 : Nat) (x1 : Int32) (x2 : Int32) (M : am_Mem), k83 r0 x1 x2 M = some ((), M') → G 83 [(0, .inr (.inr (.inl r0))), (1, .inl x1), (2, .inl x2)] [] M 0 0) {c0 : Nat} {a1 : Int32} {b2 : Int64} {r0 : Nat} {x1 : Int32} {x2 : Int32} {M : am_Mem} (hres : fn12_flows_b129 N k83 c0 a1 b2 r0 x1 x2 M = some ((), M')) : G 129 [(0, .inr (.inr (.inl r0))), (1, .inl x1), (2, .inl x2)] [.inr (.inl b2), .inl a1, .inr (.inr (.inl c0))] M 0 0 := by
  unfold fn12_flows_b129 at hres
  obtain ⟨q1, hres⟩ := am_ck_some hres
  obtain ⟨q2, hres⟩ := am_ck_some hres
  refine am_last cx dX12_flows_129 (am_ke q1) q2  ?_
  refine am_iincw cx (lv' := [(0, .inr (.inr (.inl r0))), (1, .inl x1), (2, .inl (x2 + (1 : Int32)))]) (w := (1 : Int32)) 2 dX12_flows_130 (by decide) rfl (Nat.le_of_ble_eq_true rfl) rfl ?_
  refine am_goto cx (tgt := 83) dX12_flows_133 (by decide) ?_
  exact hk83 _ _ _ _ hres
set_option maxRecDepth 20000 in
theorem sn12_flows_b83B {l : Launch} {G : am_G} {M' : am_Mem} {N : Nat} {k83 : Nat → Int32 → Int32 → am_Mem → Option (Unit × am_Mem)} (cx : am_Ctx l rm12_flows yX12_flows cX12_flows 5 none none M' 0 0 G) (hk83 : ∀ (r0 : Nat) (x1 : Int32) (x2 : Int32) (M : am_Mem), k83 r0 x1 x2 M = some ((), M') → G 83 [(0, .inr (.inr (.inl r0))), (1, .inl x1), (2, .inl x2)] [] M 0 0) {r0 : Nat} {x1 : Int32} {x2 : Int32} {M : am_Mem} (hres : fn12_flows_b83B N k83 r0 x1 x2 M = some ((), M')) : G 83 [(0, .inr (.inr (.inl r0))), (1, .inl x1), (2, .inl x2)] [] M 0 0 := by
  unfold fn12_flows_b83B at hres
  refine am_iload_n cx 2 dX12_flows_83 rfl ?_
  refine am_aload_n cx 0 dX12_flows_84 rfl ?_
  obtain ⟨q1, hres⟩ := am_ck_some hres
  refine am_getR cx dX12_flows_85 flX12_46 (am_ke q1) ?_
  refine am_iload_n cx 1 dX12_flows_88 rfl ?_
  obtain ⟨q2, hres⟩ := am_ck_some hres
  obtain ⟨q3, hres⟩ := am_ck_some hres
  refine am_iald cx dX12_flows_89 (am_ke q2) q3 ?_
  refine am_iconst cx (v := (1 : Int32)) dX12_flows_90 (by decide) ?_
  refine am_isub cx dX12_flows_91 ?_
  refine am_icmp_ge cx (tgt := 136) dX12_flows_92 (by decide) (fun h => ?_) (fun h => ?_)
  · have hres := am_ifp h hres
    refine am_lconst cx (v := (0 : Int64)) dX12_flows_136 (by decide) ?_
    refine am_lstore_n cx (lv' := [(0, .inr (.inr (.inl r0))), (1, .inl x1), (2, .inr (.inl (0 : Int64)))]) dX12_flows_137 (Nat.le_of_ble_eq_true rfl) rfl ?_
    refine am_iconst cx (v := (0 : Int32)) dX12_flows_138 (by decide) ?_
    refine am_istore cx (lv' := [(0, .inr (.inr (.inl r0))), (1, .inl x1), (2, .inr (.inl (0 : Int64))), (4, .inl (0 : Int32))]) dX12_flows_139 (Nat.le_of_ble_eq_true rfl) rfl ?_
    exact sn12_flows_b141 cx  N _ _ _ _ _ hres
  · have hres := am_ifn h hres
    refine am_aload_n cx 0 dX12_flows_95 rfl ?_
    refine am_aload_n cx 0 dX12_flows_96 rfl ?_
    refine am_iload_n cx 1 dX12_flows_97 rfl ?_
    refine am_iconst cx (v := (0 : Int32)) dX12_flows_98 (by decide) ?_
    refine am_iload_n cx 2 dX12_flows_99 rfl ?_
    obtain ⟨v4, M5, q6, hres⟩ := am_bd_some hres
    refine am_callV1 cx [.inl x1, .inl (0 : Int32), .inl x2] dX12_flows_100 cvX12_252 (mt12_laysMatrix q6) (am_ke q1) ⟨rfl, rfl, Nat.le_of_ble_eq_true rfl, Nat.le_of_ble_eq_true rfl⟩ rfl (Nat.le_of_ble_eq_true rfl) ⟨Nat.le_of_ble_eq_true rfl, Nat.le_of_ble_eq_true rfl⟩ ?_
    obtain ⟨q7, hres⟩ := am_ck_some hres
    obtain ⟨v8, M9, q10, hres⟩ := am_bd_some hres
    refine am_callV1 cx [.inl v4] dX12_flows_103 cvX12_256 (mt12_determinant q10) (am_ke q7) ⟨rfl, rfl, Nat.le_of_ble_eq_true rfl, Nat.le_of_ble_eq_true rfl⟩ rfl (Nat.le_of_ble_eq_true rfl) ⟨Nat.le_of_ble_eq_true rfl, Nat.le_of_ble_eq_true rfl⟩ ?_
    refine am_lstore_n cx (lv' := [(0, .inr (.inr (.inl r0))), (1, .inl x1), (2, .inl x2), (3, .inr (.inl v8))]) dX12_flows_106 (Nat.le_of_ble_eq_true rfl) rfl ?_
    refine am_aload_n cx 0 dX12_flows_107 rfl ?_
    obtain ⟨q11, hres⟩ := am_ck_some hres
    refine am_getR cx dX12_flows_108 flX12_64 (am_ke q11) ?_
    refine am_bipush cx (v := (9 : Int32)) dX12_flows_111 (by decide) ?_
    refine am_iload_n cx 1 dX12_flows_113 rfl ?_
    refine am_imul cx dX12_flows_114 ?_
    refine am_iload_n cx 2 dX12_flows_115 rfl ?_
    refine am_iadd cx dX12_flows_116 ?_
    refine am_iload_n cx 2 dX12_flows_117 rfl ?_
    refine am_iconst cx (v := (2 : Int32)) dX12_flows_118 (by decide) ?_
    refine am_irem cx dX12_flows_119 (by decide) ?_
    refine am_if_ne cx (tgt := 127) dX12_flows_120 (by decide) (fun h => ?_) (fun h => ?_)
    · have hres := am_ifn h hres
      refine am_lload_n cx 3 dX12_flows_127 rfl ?_
      refine am_lneg cx dX12_flows_128 ?_
      refine am_sub cx [0, 1, 2] rfl ?_
      exact sn12_flows_b129 cx hk83 hres
    · have hres := am_ifp h hres
      refine am_lload_n cx 3 dX12_flows_123 rfl ?_
      refine am_goto cx (tgt := 129) dX12_flows_124 (by decide) ?_
      refine am_sub cx [0, 1, 2] rfl ?_
      exact sn12_flows_b129 cx hk83 hres
set_option maxRecDepth 20000 in
theorem sn12_flows_b83 {l : Launch} {G : am_G} {M' : am_Mem} {N : Nat}  (cx : am_Ctx l rm12_flows yX12_flows cX12_flows 5 none none M' 0 0 G)  (i : Nat) : ∀ (r0 : Nat) (x1 : Int32) (x2 : Int32) (M : am_Mem), fn12_flows_b83 N  i r0 x1 x2 M = some ((), M') → G 83 [(0, .inr (.inr (.inl r0))), (1, .inl x1), (2, .inl x2)] [] M 0 0 := by
  induction i with
  | zero => intro r0 x1 x2 M hres; exact am_no hres
  | succ i ih => intro r0 x1 x2 M hres; exact sn12_flows_b83B cx ih hres
set_option maxRecDepth 20000 in
theorem sn12_flows_b45B {l : Launch} {G : am_G} {M' : am_Mem} {N : Nat} {k45 : Nat → Int32 → Int32 → am_Mem → Option (Unit × am_Mem)} (cx : am_Ctx l rm12_flows yX12_flows cX12_flows 5 none none M' 0 0 G) (hk45 : ∀ (r0 : Nat) (x1 : Int32) (x2 : Int32) (M : am_Mem), k45 r0 x1 x2 M = some ((), M') → G 45 [(0, .inr (.inr (.inl r0))), (1, .inl x1), (2, .inl x2)] [] M 0 0) {r0 : Nat} {x1 : Int32} {x2 : Int32} {M : am_Mem} (hres : fn12_flows_b45B N k45 r0 x1 x2 M = some ((), M')) : G 45 [(0, .inr (.inr (.inl r0))), (1, .inl x1), (2, .inl x2)] [] M 0 0 := by
  unfold fn12_flows_b45B at hres
  refine am_iload_n cx 2 dX12_flows_45 rfl ?_
  refine am_bipush cx (v := (14 : Int32)) dX12_flows_46 (by decide) ?_
  refine am_icmp_ge cx (tgt := 69) dX12_flows_48 (by decide) (fun h => ?_) (fun h => ?_)
  · have hres := am_ifp h hres
    refine am_aload_n cx 0 dX12_flows_69 rfl ?_
    obtain ⟨q1, hres⟩ := am_ck_some hres
    refine am_getR cx dX12_flows_70 flX12_61 (am_ke q1) ?_
    refine am_iload_n cx 1 dX12_flows_73 rfl ?_
    obtain ⟨q2, hres⟩ := am_ck_some hres
    obtain ⟨q3, hres⟩ := am_ck_some hres
    refine am_lald cx dX12_flows_74 (am_ke q2) q3 ?_
    refine am_lconst cx (v := (0 : Int64)) dX12_flows_75 (by decide) ?_
    refine am_lcmp cx dX12_flows_76 ?_
    refine am_if_ne cx (tgt := 81) dX12_flows_77 (by decide) (fun h => ?_) (fun h => ?_)
    · have hres := am_ifn h hres
      refine am_iconst cx (v := (0 : Int32)) dX12_flows_81 (by decide) ?_
      refine am_istore_n cx (lv' := [(0, .inr (.inr (.inl r0))), (1, .inl x1), (2, .inl (0 : Int32))]) dX12_flows_82 (Nat.le_of_ble_eq_true rfl) rfl ?_
      exact sn12_flows_b83 cx  N _ _ _ _ hres
    · have hres := am_ifp h hres
      obtain ⟨-, rfl⟩ := am_fin hres
      exact am_vret cx dX12_flows_80
  · have hres := am_ifn h hres
    refine am_aload_n cx 0 dX12_flows_51 rfl ?_
    obtain ⟨q4, hres⟩ := am_ck_some hres
    refine am_getR cx dX12_flows_52 flX12_67 (am_ke q4) ?_
    refine am_bipush cx (v := (14 : Int32)) dX12_flows_55 (by decide) ?_
    refine am_iload_n cx 1 dX12_flows_57 rfl ?_
    refine am_imul cx dX12_flows_58 ?_
    refine am_iload_n cx 2 dX12_flows_59 rfl ?_
    refine am_iadd cx dX12_flows_60 ?_
    refine am_lconst cx (v := (0 : Int64)) dX12_flows_61 (by decide) ?_
    obtain ⟨q5, hres⟩ := am_ck_some hres
    obtain ⟨q6, hres⟩ := am_ck_some hres
    refine am_last cx dX12_flows_62 (am_ke q5) q6  ?_
    refine am_iincw cx (lv' := [(0, .inr (.inr (.inl r0))), (1, .inl x1), (2, .inl (x2 + (1 : Int32)))]) (w := (1 : Int32)) 2 dX12_flows_63 (by decide) rfl (Nat.le_of_ble_eq_true rfl) rfl ?_
    refine am_goto cx (tgt := 45) dX12_flows_66 (by decide) ?_
    exact hk45 _ _ _ _ hres
set_option maxRecDepth 20000 in
theorem sn12_flows_b45 {l : Launch} {G : am_G} {M' : am_Mem} {N : Nat}  (cx : am_Ctx l rm12_flows yX12_flows cX12_flows 5 none none M' 0 0 G)  (i : Nat) : ∀ (r0 : Nat) (x1 : Int32) (x2 : Int32) (M : am_Mem), fn12_flows_b45 N  i r0 x1 x2 M = some ((), M') → G 45 [(0, .inr (.inr (.inl r0))), (1, .inl x1), (2, .inl x2)] [] M 0 0 := by
  induction i with
  | zero => intro r0 x1 x2 M hres; exact am_no hres
  | succ i ih => intro r0 x1 x2 M hres; exact sn12_flows_b45B cx ih hres
set_option maxRecDepth 20000 in
theorem sn12_flows_b19B {l : Launch} {G : am_G} {M' : am_Mem} {N : Nat} {k19 : Nat → Int32 → Int32 → am_Mem → Option (Unit × am_Mem)} (cx : am_Ctx l rm12_flows yX12_flows cX12_flows 5 none none M' 0 0 G) (hk19 : ∀ (r0 : Nat) (x1 : Int32) (x2 : Int32) (M : am_Mem), k19 r0 x1 x2 M = some ((), M') → G 19 [(0, .inr (.inr (.inl r0))), (1, .inl x1), (2, .inl x2)] [] M 0 0) {r0 : Nat} {x1 : Int32} {x2 : Int32} {M : am_Mem} (hres : fn12_flows_b19B N k19 r0 x1 x2 M = some ((), M')) : G 19 [(0, .inr (.inr (.inl r0))), (1, .inl x1), (2, .inl x2)] [] M 0 0 := by
  unfold fn12_flows_b19B at hres
  refine am_iload_n cx 2 dX12_flows_19 rfl ?_
  refine am_bipush cx (v := (9 : Int32)) dX12_flows_20 (by decide) ?_
  refine am_icmp_ge cx (tgt := 43) dX12_flows_22 (by decide) (fun h => ?_) (fun h => ?_)
  · have hres := am_ifp h hres
    refine am_iconst cx (v := (0 : Int32)) dX12_flows_43 (by decide) ?_
    refine am_istore_n cx (lv' := [(0, .inr (.inr (.inl r0))), (1, .inl x1), (2, .inl (0 : Int32))]) dX12_flows_44 (Nat.le_of_ble_eq_true rfl) rfl ?_
    exact sn12_flows_b45 cx  N _ _ _ _ hres
  · have hres := am_ifn h hres
    refine am_aload_n cx 0 dX12_flows_25 rfl ?_
    obtain ⟨q1, hres⟩ := am_ck_some hres
    refine am_getR cx dX12_flows_26 flX12_64 (am_ke q1) ?_
    refine am_bipush cx (v := (9 : Int32)) dX12_flows_29 (by decide) ?_
    refine am_iload_n cx 1 dX12_flows_31 rfl ?_
    refine am_imul cx dX12_flows_32 ?_
    refine am_iload_n cx 2 dX12_flows_33 rfl ?_
    refine am_iadd cx dX12_flows_34 ?_
    refine am_lconst cx (v := (0 : Int64)) dX12_flows_35 (by decide) ?_
    obtain ⟨q2, hres⟩ := am_ck_some hres
    obtain ⟨q3, hres⟩ := am_ck_some hres
    refine am_last cx dX12_flows_36 (am_ke q2) q3  ?_
    refine am_iincw cx (lv' := [(0, .inr (.inr (.inl r0))), (1, .inl x1), (2, .inl (x2 + (1 : Int32)))]) (w := (1 : Int32)) 2 dX12_flows_37 (by decide) rfl (Nat.le_of_ble_eq_true rfl) rfl ?_
    refine am_goto cx (tgt := 19) dX12_flows_40 (by decide) ?_
    exact hk19 _ _ _ _ hres
set_option maxRecDepth 20000 in
theorem sn12_flows_b19 {l : Launch} {G : am_G} {M' : am_Mem} {N : Nat}  (cx : am_Ctx l rm12_flows yX12_flows cX12_flows 5 none none M' 0 0 G)  (i : Nat) : ∀ (r0 : Nat) (x1 : Int32) (x2 : Int32) (M : am_Mem), fn12_flows_b19 N  i r0 x1 x2 M = some ((), M') → G 19 [(0, .inr (.inr (.inl r0))), (1, .inl x1), (2, .inl x2)] [] M 0 0 := by
  induction i with
  | zero => intro r0 x1 x2 M hres; exact am_no hres
  | succ i ih => intro r0 x1 x2 M hres; exact sn12_flows_b19B cx ih hres
set_option maxRecDepth 20000 in
theorem sn12_flows_b0 {l : Launch} {G : am_G} {M' : am_Mem} {N : Nat}  (cx : am_Ctx l rm12_flows yX12_flows cX12_flows 5 none none M' 0 0 G)  {r0 : Nat} {x1 : Int32} {M : am_Mem} (hres : fn12_flows_b0 N  r0 x1 M = some ((), M')) : G 0 [(0, .inr (.inr (.inl r0))), (1, .inl x1)] [] M 0 0 := by
  unfold fn12_flows_b0 at hres
  refine am_aload_n cx 0 dX12_flows_0 rfl ?_
  obtain ⟨q1, hres⟩ := am_ck_some hres
  refine am_getR cx dX12_flows_1 flX12_61 (am_ke q1) ?_
  refine am_iload_n cx 1 dX12_flows_4 rfl ?_
  refine am_aload_n cx 0 dX12_flows_5 rfl ?_
  refine am_aload_n cx 0 dX12_flows_6 rfl ?_
  refine am_iload_n cx 1 dX12_flows_7 rfl ?_
  refine am_iconst cx (v := (-1 : Int32)) dX12_flows_8 (by decide) ?_
  refine am_iconst cx (v := (-1 : Int32)) dX12_flows_9 (by decide) ?_
  obtain ⟨v2, M3, q4, hres⟩ := am_bd_some hres
  refine am_callV1 cx [.inl x1, .inl (-1 : Int32), .inl (-1 : Int32)] dX12_flows_10 cvX12_252 (mt12_laysMatrix q4) (am_ke q1) ⟨rfl, rfl, Nat.le_of_ble_eq_true rfl, Nat.le_of_ble_eq_true rfl⟩ rfl (Nat.le_of_ble_eq_true rfl) ⟨Nat.le_of_ble_eq_true rfl, Nat.le_of_ble_eq_true rfl⟩ ?_
  obtain ⟨q5, hres⟩ := am_ck_some hres
  obtain ⟨v6, M7, q8, hres⟩ := am_bd_some hres
  refine am_callV1 cx [.inl v2] dX12_flows_13 cvX12_256 (mt12_determinant q8) (am_ke q5) ⟨rfl, rfl, Nat.le_of_ble_eq_true rfl, Nat.le_of_ble_eq_true rfl⟩ rfl (Nat.le_of_ble_eq_true rfl) ⟨Nat.le_of_ble_eq_true rfl, Nat.le_of_ble_eq_true rfl⟩ ?_
  obtain ⟨q9, hres⟩ := am_ck_some hres
  obtain ⟨q10, hres⟩ := am_ck_some hres
  refine am_last cx dX12_flows_16 (am_ke q9) q10  ?_
  refine am_iconst cx (v := (0 : Int32)) dX12_flows_17 (by decide) ?_
  refine am_istore_n cx (lv' := [(0, .inr (.inr (.inl r0))), (1, .inl x1), (2, .inl (0 : Int32))]) dX12_flows_18 (Nat.le_of_ble_eq_true rfl) rfl ?_
  exact sn12_flows_b19 cx  N _ _ _ _ hres
set_option maxRecDepth 20000 in
theorem mt12_flows {l : Launch} {M M' : am_Mem} {N : Nat} {r0 : Nat} {x1 : Int32} (h : fn12_flows N M r0 x1 = some ((), M')) : am_Met l yX12_flows cX12_flows 5 none rm12_flows 0 0 [.inr (.inr (.inl r0)), .inl x1] M none M' := am_mk (by decide) (Nat.le_of_ble_eq_true rfl) (fun G cx => (sn12_flows_b0 cx h))
-- SquareCutsModel.nets
def fn12_nets_b111 (N : Nat)  (r0 : Nat) (x1 : Int32) (M : am_Mem) : Option (Unit × am_Mem) :=
  am_ck (am_k M r0 12) (am_bd (fn12_fails N M r0 x1) (fun v2 M3 => some ((), M3)))
def fn12_nets_b81 (N : Nat) (k45 : Nat → Int32 → Int32 → am_Mem → Option (Unit × am_Mem)) (c0 : Nat) (a1 : Int32) (a2 : Int32) (r0 : Nat) (x1 : Int32) (x2 : Int32) (M : am_Mem) : Option (Unit × am_Mem) :=
  am_ck (am_k M c0 12) (k45 r0 x1 (x2 + (1 : Int32)) (am_wI M c0 38 (a1 + a2)))
def fn12_nets_b45B (N : Nat) (k45 : Nat → Int32 → Int32 → am_Mem → Option (Unit × am_Mem)) (r0 : Nat) (x1 : Int32) (x2 : Int32) (M : am_Mem) : Option (Unit × am_Mem) :=
  am_ck (am_k M r0 12) (am_ck (am_k M (am_R M r0 25) 14) (am_ck (am_in x1 (am_L M (am_R M r0 25))) (if (am_I M (am_R M r0 25) x1.toNatClampNeg) ≤ x2 then am_ck (am_k M (am_R M r0 29) 15) (am_ck (am_in x1 (am_L M (am_R M r0 29))) (if (lg_cmp (am_J M (am_R M r0 29) x1.toNatClampNeg) (0 : Int64)) = 0 then fn12_nets_b111 N  r0 x1 M else am_bd (fn12_goes N 20 M r0 x1 (0 : Int32)) (fun v6 M7 => if v6 = 0 then fn12_nets_b111 N  r0 x1 M7 else am_ck (am_k M7 r0 12) (am_bd (fn12_put M7 r0 x1 (0 : Int32) (am_I M7 r0 38)) (fun v10 M11 => am_ck (am_k M11 r0 12) (am_bd (fn12_put M11 r0 x1 (1 : Int32) (am_I M11 r0 35)) (fun v14 M15 => am_ck (am_k M15 r0 12) (am_ck (am_k M15 (am_R M15 r0 30) 15) (am_ck (am_in ((9 : Int32) * x1) (am_L M15 (am_R M15 r0 30))) (am_bd (fn12_put M15 r0 x1 (2 : Int32) ((am_J M15 (am_R M15 r0 30) ((9 : Int32) * x1).toNatClampNeg).toInt32)) (fun v20 M21 => some ((), M21)))))))))))) else am_ck (am_k M (am_R M r0 31) 15) (am_ck (am_in (((14 : Int32) * x1) + x2) (am_L M (am_R M r0 31))) (if (lg_cmp (am_J M (am_R M r0 31) (((14 : Int32) * x1) + x2).toNatClampNeg) (0 : Int64)) = 0 then fn12_nets_b81 N k45 r0 (am_I M r0 38) (0 : Int32) r0 x1 x2 M else fn12_nets_b81 N k45 r0 (am_I M r0 38) (1 : Int32) r0 x1 x2 M)))))
def fn12_nets_b45 (N : Nat)  : Nat → Nat → Int32 → Int32 → am_Mem → Option (Unit × am_Mem)
  | 0 => fun _ _ _ _ => none
  | i + 1 => fn12_nets_b45B N (fn12_nets_b45 N  i)
def fn12_nets_b24B (N : Nat) (k24 : Nat → Int32 → Int32 → am_Mem → Option (Unit × am_Mem)) (r0 : Nat) (x1 : Int32) (x2 : Int32) (M : am_Mem) : Option (Unit × am_Mem) :=
  if (14 : Int32) ≤ x2 then fn12_nets_b45 N  N r0 x1 (0 : Int32) M else am_ck (am_k M r0 12) (am_ck (am_k M (am_R M r0 37) 16) (am_ck (am_in x2 (am_L M (am_R M r0 37))) (k24 r0 x1 (x2 + (1 : Int32)) (am_wI M (am_R M r0 37) x2.toNatClampNeg ((0 : Int32) &&& 1)))))
def fn12_nets_b24 (N : Nat)  : Nat → Nat → Int32 → Int32 → am_Mem → Option (Unit × am_Mem)
  | 0 => fun _ _ _ _ => none
  | i + 1 => fn12_nets_b24B N (fn12_nets_b24 N  i)
def fn12_nets_b0 (N : Nat)  (r0 : Nat) (x1 : Int32) (M : am_Mem) : Option (Unit × am_Mem) :=
  am_ck (am_k M r0 12) (am_bd (fn12_flows N M r0 x1) (fun v2 M3 => am_ck (am_k M3 r0 12) (am_ck (am_k M3 (am_R M3 r0 28) 14) (am_ck (am_in x1 (am_L M3 (am_R M3 r0 28))) (fn12_nets_b24 N  N r0 x1 (0 : Int32) (am_wI (am_wI (am_wI M3 (am_R M3 r0 28) x1.toNatClampNeg (0 : Int32)) r0 39 (0 : Int32)) r0 38 (0 : Int32)))))))
def fn12_nets (N : Nat) (M : am_Mem) (r0 : Nat) (x1 : Int32) : Option (Unit × am_Mem) := fn12_nets_b0 N r0 x1 M
def rm12_nets : Room := { frames := 24, cells := 0, slots := 0, locals := 636 }
set_option maxRecDepth 20000 in
theorem sn12_nets_b111 {l : Launch} {G : am_G} {M' : am_Mem} {N : Nat}  (cx : am_Ctx l rm12_nets yX12_nets cX12_nets 3 none none M' 0 0 G)  {r0 : Nat} {x1 : Int32} {M : am_Mem} (hres : fn12_nets_b111 N  r0 x1 M = some ((), M')) : G 111 [(0, .inr (.inr (.inl r0))), (1, .inl x1)] [] M 0 0 := by
  unfold fn12_nets_b111 at hres
  refine am_aload_n cx 0 dX12_nets_111 rfl ?_
  refine am_iload_n cx 1 dX12_nets_112 rfl ?_
  obtain ⟨q1, hres⟩ := am_ck_some hres
  obtain ⟨v2, M3, q4, hres⟩ := am_bd_some hres
  refine am_callV0 cx [.inl x1] dX12_nets_113 cvX12_235 (mt12_fails q4) (am_ke q1) ⟨rfl, rfl, Nat.le_of_ble_eq_true rfl, Nat.le_of_ble_eq_true rfl⟩ rfl (Nat.le_of_ble_eq_true rfl) ⟨Nat.le_of_ble_eq_true rfl, Nat.le_of_ble_eq_true rfl⟩ ?_
  obtain ⟨-, rfl⟩ := am_fin hres
  exact am_vret cx dX12_nets_116
set_option maxRecDepth 20000 in
theorem sn12_nets_b81 {l : Launch} {G : am_G} {M' : am_Mem} {N : Nat} {k45 : Nat → Int32 → Int32 → am_Mem → Option (Unit × am_Mem)} (cx : am_Ctx l rm12_nets yX12_nets cX12_nets 3 none none M' 0 0 G) (hk45 : ∀ (r0 : Nat) (x1 : Int32) (x2 : Int32) (M : am_Mem), k45 r0 x1 x2 M = some ((), M') → G 45 [(0, .inr (.inr (.inl r0))), (1, .inl x1), (2, .inl x2)] [] M 0 0) {c0 : Nat} {a1 : Int32} {a2 : Int32} {r0 : Nat} {x1 : Int32} {x2 : Int32} {M : am_Mem} (hres : fn12_nets_b81 N k45 c0 a1 a2 r0 x1 x2 M = some ((), M')) : G 81 [(0, .inr (.inr (.inl r0))), (1, .inl x1), (2, .inl x2)] [.inl a2, .inl a1, .inr (.inr (.inl c0))] M 0 0 := by
  unfold fn12_nets_b81 at hres
  refine am_iadd cx dX12_nets_81 ?_
  obtain ⟨q1, hres⟩ := am_ck_some hres
  refine am_putI cx dX12_nets_82 fpX12_264 (fun h => by cases h) (am_ke q1) ?_
  refine am_iincw cx (lv' := [(0, .inr (.inr (.inl r0))), (1, .inl x1), (2, .inl (x2 + (1 : Int32)))]) (w := (1 : Int32)) 2 dX12_nets_85 (by decide) rfl (Nat.le_of_ble_eq_true rfl) rfl ?_
  refine am_goto cx (tgt := 45) dX12_nets_88 (by decide) ?_
  exact hk45 _ _ _ _ hres
set_option maxRecDepth 20000 in
theorem sn12_nets_b45B {l : Launch} {G : am_G} {M' : am_Mem} {N : Nat} {k45 : Nat → Int32 → Int32 → am_Mem → Option (Unit × am_Mem)} (cx : am_Ctx l rm12_nets yX12_nets cX12_nets 3 none none M' 0 0 G) (hk45 : ∀ (r0 : Nat) (x1 : Int32) (x2 : Int32) (M : am_Mem), k45 r0 x1 x2 M = some ((), M') → G 45 [(0, .inr (.inr (.inl r0))), (1, .inl x1), (2, .inl x2)] [] M 0 0) {r0 : Nat} {x1 : Int32} {x2 : Int32} {M : am_Mem} (hres : fn12_nets_b45B N k45 r0 x1 x2 M = some ((), M')) : G 45 [(0, .inr (.inr (.inl r0))), (1, .inl x1), (2, .inl x2)] [] M 0 0 := by
  unfold fn12_nets_b45B at hres
  refine am_iload_n cx 2 dX12_nets_45 rfl ?_
  refine am_aload_n cx 0 dX12_nets_46 rfl ?_
  obtain ⟨q1, hres⟩ := am_ck_some hres
  refine am_getR cx dX12_nets_47 flX12_49 (am_ke q1) ?_
  refine am_iload_n cx 1 dX12_nets_50 rfl ?_
  obtain ⟨q2, hres⟩ := am_ck_some hres
  obtain ⟨q3, hres⟩ := am_ck_some hres
  refine am_iald cx dX12_nets_51 (am_ke q2) q3 ?_
  refine am_icmp_ge cx (tgt := 91) dX12_nets_52 (by decide) (fun h => ?_) (fun h => ?_)
  · have hres := am_ifp h hres
    refine am_aload_n cx 0 dX12_nets_91 rfl ?_
    refine am_getR cx dX12_nets_92 flX12_61 (am_ke q1) ?_
    refine am_iload_n cx 1 dX12_nets_95 rfl ?_
    obtain ⟨q4, hres⟩ := am_ck_some hres
    obtain ⟨q5, hres⟩ := am_ck_some hres
    refine am_lald cx dX12_nets_96 (am_ke q4) q5 ?_
    refine am_lconst cx (v := (0 : Int64)) dX12_nets_97 (by decide) ?_
    refine am_lcmp cx dX12_nets_98 ?_
    refine am_if_eq cx (tgt := 111) dX12_nets_99 (by decide) (fun h => ?_) (fun h => ?_)
    · have hres := am_ifp h hres
      refine am_sub cx [0, 1] rfl ?_
      exact sn12_nets_b111 cx  hres
    · have hres := am_ifn h hres
      refine am_aload_n cx 0 dX12_nets_102 rfl ?_
      refine am_iload_n cx 1 dX12_nets_103 rfl ?_
      refine am_iconst cx (v := (0 : Int32)) dX12_nets_104 (by decide) ?_
      obtain ⟨v6, M7, q8, hres⟩ := am_bd_some hres
      refine am_callV1 cx [.inl x1, .inl (0 : Int32)] dX12_nets_105 cvX12_278 (mt12_goes 20 q8) (am_ke q1) ⟨rfl, rfl, Nat.le_of_ble_eq_true rfl, Nat.le_of_ble_eq_true rfl⟩ rfl (Nat.le_of_ble_eq_true rfl) ⟨Nat.le_of_ble_eq_true rfl, Nat.le_of_ble_eq_true rfl⟩ ?_
      refine am_if_ne cx (tgt := 117) dX12_nets_108 (by decide) (fun h => ?_) (fun h => ?_)
      · have hres := am_ifn h hres
        refine am_aload_n cx 0 dX12_nets_117 rfl ?_
        refine am_iload_n cx 1 dX12_nets_118 rfl ?_
        refine am_iconst cx (v := (0 : Int32)) dX12_nets_119 (by decide) ?_
        refine am_aload_n cx 0 dX12_nets_120 rfl ?_
        obtain ⟨q9, hres⟩ := am_ck_some hres
        refine am_getI cx dX12_nets_121 flX12_264 (am_ke q9) ?_
        obtain ⟨v10, M11, q12, hres⟩ := am_bd_some hres
        refine am_callV0 cx [.inl x1, .inl (0 : Int32), .inl (am_I M7 r0 38)] dX12_nets_124 cvX12_226 (mt12_put q12) (am_ke q9) ⟨rfl, rfl, Nat.le_of_ble_eq_true rfl, Nat.le_of_ble_eq_true rfl⟩ rfl (Nat.le_of_ble_eq_true rfl) ⟨Nat.le_of_ble_eq_true rfl, Nat.le_of_ble_eq_true rfl⟩ ?_
        refine am_aload_n cx 0 dX12_nets_127 rfl ?_
        refine am_iload_n cx 1 dX12_nets_128 rfl ?_
        refine am_iconst cx (v := (1 : Int32)) dX12_nets_129 (by decide) ?_
        refine am_aload_n cx 0 dX12_nets_130 rfl ?_
        obtain ⟨q13, hres⟩ := am_ck_some hres
        refine am_getI cx dX12_nets_131 flX12_209 (am_ke q13) ?_
        obtain ⟨v14, M15, q16, hres⟩ := am_bd_some hres
        refine am_callV0 cx [.inl x1, .inl (1 : Int32), .inl (am_I M11 r0 35)] dX12_nets_134 cvX12_226 (mt12_put q16) (am_ke q13) ⟨rfl, rfl, Nat.le_of_ble_eq_true rfl, Nat.le_of_ble_eq_true rfl⟩ rfl (Nat.le_of_ble_eq_true rfl) ⟨Nat.le_of_ble_eq_true rfl, Nat.le_of_ble_eq_true rfl⟩ ?_
        refine am_aload_n cx 0 dX12_nets_137 rfl ?_
        refine am_iload_n cx 1 dX12_nets_138 rfl ?_
        refine am_iconst cx (v := (2 : Int32)) dX12_nets_139 (by decide) ?_
        refine am_aload_n cx 0 dX12_nets_140 rfl ?_
        obtain ⟨q17, hres⟩ := am_ck_some hres
        refine am_getR cx dX12_nets_141 flX12_64 (am_ke q17) ?_
        refine am_bipush cx (v := (9 : Int32)) dX12_nets_144 (by decide) ?_
        refine am_iload_n cx 1 dX12_nets_146 rfl ?_
        refine am_imul cx dX12_nets_147 ?_
        obtain ⟨q18, hres⟩ := am_ck_some hres
        obtain ⟨q19, hres⟩ := am_ck_some hres
        refine am_lald cx dX12_nets_148 (am_ke q18) q19 ?_
        refine am_l2i cx dX12_nets_149 ?_
        obtain ⟨v20, M21, q22, hres⟩ := am_bd_some hres
        refine am_callV0 cx [.inl x1, .inl (2 : Int32), .inl (am_J M15 (am_R M15 r0 30) ((9 : Int32) * x1).toNatClampNeg).toInt32] dX12_nets_150 cvX12_226 (mt12_put q22) (am_ke q17) ⟨rfl, rfl, Nat.le_of_ble_eq_true rfl, Nat.le_of_ble_eq_true rfl⟩ rfl (Nat.le_of_ble_eq_true rfl) ⟨Nat.le_of_ble_eq_true rfl, Nat.le_of_ble_eq_true rfl⟩ ?_
        obtain ⟨-, rfl⟩ := am_fin hres
        exact am_vret cx dX12_nets_153
      · have hres := am_ifp h hres
        refine am_sub cx [0, 1] rfl ?_
        exact sn12_nets_b111 cx  hres
  · have hres := am_ifn h hres
    refine am_aload_n cx 0 dX12_nets_55 rfl ?_
    refine am_dup cx dX12_nets_56 rfl ?_
    refine am_getI cx dX12_nets_57 flX12_264 (am_ke q1) ?_
    refine am_aload_n cx 0 dX12_nets_60 rfl ?_
    refine am_getR cx dX12_nets_61 flX12_67 (am_ke q1) ?_
    refine am_bipush cx (v := (14 : Int32)) dX12_nets_64 (by decide) ?_
    refine am_iload_n cx 1 dX12_nets_66 rfl ?_
    refine am_imul cx dX12_nets_67 ?_
    refine am_iload_n cx 2 dX12_nets_68 rfl ?_
    refine am_iadd cx dX12_nets_69 ?_
    obtain ⟨q23, hres⟩ := am_ck_some hres
    obtain ⟨q24, hres⟩ := am_ck_some hres
    refine am_lald cx dX12_nets_70 (am_ke q23) q24 ?_
    refine am_lconst cx (v := (0 : Int64)) dX12_nets_71 (by decide) ?_
    refine am_lcmp cx dX12_nets_72 ?_
    refine am_if_eq cx (tgt := 80) dX12_nets_73 (by decide) (fun h => ?_) (fun h => ?_)
    · have hres := am_ifp h hres
      refine am_iconst cx (v := (0 : Int32)) dX12_nets_80 (by decide) ?_
      exact sn12_nets_b81 cx hk45 hres
    · have hres := am_ifn h hres
      refine am_iconst cx (v := (1 : Int32)) dX12_nets_76 (by decide) ?_
      refine am_goto cx (tgt := 81) dX12_nets_77 (by decide) ?_
      exact sn12_nets_b81 cx hk45 hres
set_option maxRecDepth 20000 in
theorem sn12_nets_b45 {l : Launch} {G : am_G} {M' : am_Mem} {N : Nat}  (cx : am_Ctx l rm12_nets yX12_nets cX12_nets 3 none none M' 0 0 G)  (i : Nat) : ∀ (r0 : Nat) (x1 : Int32) (x2 : Int32) (M : am_Mem), fn12_nets_b45 N  i r0 x1 x2 M = some ((), M') → G 45 [(0, .inr (.inr (.inl r0))), (1, .inl x1), (2, .inl x2)] [] M 0 0 := by
  induction i with
  | zero => intro r0 x1 x2 M hres; exact am_no hres
  | succ i ih => intro r0 x1 x2 M hres; exact sn12_nets_b45B cx ih hres
set_option maxRecDepth 20000 in
theorem sn12_nets_b24B {l : Launch} {G : am_G} {M' : am_Mem} {N : Nat} {k24 : Nat → Int32 → Int32 → am_Mem → Option (Unit × am_Mem)} (cx : am_Ctx l rm12_nets yX12_nets cX12_nets 3 none none M' 0 0 G) (hk24 : ∀ (r0 : Nat) (x1 : Int32) (x2 : Int32) (M : am_Mem), k24 r0 x1 x2 M = some ((), M') → G 24 [(0, .inr (.inr (.inl r0))), (1, .inl x1), (2, .inl x2)] [] M 0 0) {r0 : Nat} {x1 : Int32} {x2 : Int32} {M : am_Mem} (hres : fn12_nets_b24B N k24 r0 x1 x2 M = some ((), M')) : G 24 [(0, .inr (.inr (.inl r0))), (1, .inl x1), (2, .inl x2)] [] M 0 0 := by
  unfold fn12_nets_b24B at hres
  refine am_iload_n cx 2 dX12_nets_24 rfl ?_
  refine am_bipush cx (v := (14 : Int32)) dX12_nets_25 (by decide) ?_
  refine am_icmp_ge cx (tgt := 43) dX12_nets_27 (by decide) (fun h => ?_) (fun h => ?_)
  · have hres := am_ifp h hres
    refine am_iconst cx (v := (0 : Int32)) dX12_nets_43 (by decide) ?_
    refine am_istore_n cx (lv' := [(0, .inr (.inr (.inl r0))), (1, .inl x1), (2, .inl (0 : Int32))]) dX12_nets_44 (Nat.le_of_ble_eq_true rfl) rfl ?_
    exact sn12_nets_b45 cx  N _ _ _ _ hres
  · have hres := am_ifn h hres
    refine am_aload_n cx 0 dX12_nets_30 rfl ?_
    obtain ⟨q1, hres⟩ := am_ck_some hres
    refine am_getR cx dX12_nets_31 flX12_82 (am_ke q1) ?_
    refine am_iload_n cx 2 dX12_nets_34 rfl ?_
    refine am_iconst cx (v := (0 : Int32)) dX12_nets_35 (by decide) ?_
    obtain ⟨q2, hres⟩ := am_ck_some hres
    obtain ⟨q3, hres⟩ := am_ck_some hres
    refine am_zast cx dX12_nets_36 (am_ke q2) q3  ?_
    refine am_iincw cx (lv' := [(0, .inr (.inr (.inl r0))), (1, .inl x1), (2, .inl (x2 + (1 : Int32)))]) (w := (1 : Int32)) 2 dX12_nets_37 (by decide) rfl (Nat.le_of_ble_eq_true rfl) rfl ?_
    refine am_goto cx (tgt := 24) dX12_nets_40 (by decide) ?_
    exact hk24 _ _ _ _ hres
set_option maxRecDepth 20000 in
theorem sn12_nets_b24 {l : Launch} {G : am_G} {M' : am_Mem} {N : Nat}  (cx : am_Ctx l rm12_nets yX12_nets cX12_nets 3 none none M' 0 0 G)  (i : Nat) : ∀ (r0 : Nat) (x1 : Int32) (x2 : Int32) (M : am_Mem), fn12_nets_b24 N  i r0 x1 x2 M = some ((), M') → G 24 [(0, .inr (.inr (.inl r0))), (1, .inl x1), (2, .inl x2)] [] M 0 0 := by
  induction i with
  | zero => intro r0 x1 x2 M hres; exact am_no hres
  | succ i ih => intro r0 x1 x2 M hres; exact sn12_nets_b24B cx ih hres
set_option maxRecDepth 20000 in
theorem sn12_nets_b0 {l : Launch} {G : am_G} {M' : am_Mem} {N : Nat}  (cx : am_Ctx l rm12_nets yX12_nets cX12_nets 3 none none M' 0 0 G)  {r0 : Nat} {x1 : Int32} {M : am_Mem} (hres : fn12_nets_b0 N  r0 x1 M = some ((), M')) : G 0 [(0, .inr (.inr (.inl r0))), (1, .inl x1)] [] M 0 0 := by
  unfold fn12_nets_b0 at hres
  refine am_aload_n cx 0 dX12_nets_0 rfl ?_
  refine am_iload_n cx 1 dX12_nets_1 rfl ?_
  obtain ⟨q1, hres⟩ := am_ck_some hres
  obtain ⟨v2, M3, q4, hres⟩ := am_bd_some hres
  refine am_callV0 cx [.inl x1] dX12_nets_2 cvX12_282 (mt12_flows q4) (am_ke q1) ⟨rfl, rfl, Nat.le_of_ble_eq_true rfl, Nat.le_of_ble_eq_true rfl⟩ rfl (Nat.le_of_ble_eq_true rfl) ⟨Nat.le_of_ble_eq_true rfl, Nat.le_of_ble_eq_true rfl⟩ ?_
  refine am_aload_n cx 0 dX12_nets_5 rfl ?_
  obtain ⟨q5, hres⟩ := am_ck_some hres
  refine am_getR cx dX12_nets_6 flX12_58 (am_ke q5) ?_
  refine am_iload_n cx 1 dX12_nets_9 rfl ?_
  refine am_iconst cx (v := (0 : Int32)) dX12_nets_10 (by decide) ?_
  obtain ⟨q6, hres⟩ := am_ck_some hres
  obtain ⟨q7, hres⟩ := am_ck_some hres
  refine am_iast cx dX12_nets_11 (am_ke q6) q7  ?_
  refine am_aload_n cx 0 dX12_nets_12 rfl ?_
  refine am_iconst cx (v := (0 : Int32)) dX12_nets_13 (by decide) ?_
  refine am_putZ cx dX12_nets_14 fpX12_267 (fun h => by cases h) rfl (am_ke q5) ?_
  refine am_aload_n cx 0 dX12_nets_17 rfl ?_
  refine am_iconst cx (v := (0 : Int32)) dX12_nets_18 (by decide) ?_
  refine am_putI cx dX12_nets_19 fpX12_264 (fun h => by cases h) (am_ke q5) ?_
  refine am_iconst cx (v := (0 : Int32)) dX12_nets_22 (by decide) ?_
  refine am_istore_n cx (lv' := [(0, .inr (.inr (.inl r0))), (1, .inl x1), (2, .inl (0 : Int32))]) dX12_nets_23 (Nat.le_of_ble_eq_true rfl) rfl ?_
  exact sn12_nets_b24 cx  N _ _ _ _ hres
set_option maxRecDepth 20000 in
theorem mt12_nets {l : Launch} {M M' : am_Mem} {N : Nat} {r0 : Nat} {x1 : Int32} (h : fn12_nets N M r0 x1 = some ((), M')) : am_Met l yX12_nets cX12_nets 3 none rm12_nets 0 0 [.inr (.inr (.inl r0)), .inl x1] M none M' := am_mk (by decide) (Nat.le_of_ble_eq_true rfl) (fun G cx => (sn12_nets_b0 cx h))
-- SquareCutsModel.takesOver
def fn12_takesOver_b192 (N : Nat) (k18 : Nat → Int32 → am_Mem → Option (Unit × am_Mem)) (r0 : Nat) (x1 : Int32) (M : am_Mem) : Option (Unit × am_Mem) :=
  k18 r0 (x1 + (1 : Int32)) M
def fn12_takesOver_b115B (N : Nat) (k18 : Nat → Int32 → am_Mem → Option (Unit × am_Mem)) (k115 : Nat → Int32 → Int32 → am_Mem → Option (Unit × am_Mem)) (r0 : Nat) (x1 : Int32) (x2 : Int32) (M : am_Mem) : Option (Unit × am_Mem) :=
  if (28 : Int32) ≤ x2 then am_ck (am_k M r0 12) (am_ck (am_k M (am_R M r0 27) 14) (am_ck (am_in x1 (am_L M (am_R M r0 27))) (am_ck (am_k M (am_R M r0 28) 14) (am_ck (am_in x1 (am_L M (am_R M r0 28))) (am_ck (am_k M (am_R M r0 29) 15) (am_ck (am_in x1 (am_L M (am_R M r0 29))) (am_ck (am_k M (am_R M r0 23) 14) (am_ck (am_in x1 (am_L M (am_R M r0 23))) (if (am_I (am_wI (am_wI M (am_R M r0 27) x1.toNatClampNeg (0 : Int32)) (am_R M r0 28) x1.toNatClampNeg (0 : Int32)) (am_R M r0 23) x1.toNatClampNeg) = 0 then am_bd (fn12_draws N (am_wJ (am_wI (am_wI M (am_R M r0 27) x1.toNatClampNeg (0 : Int32)) (am_R M r0 28) x1.toNatClampNeg (0 : Int32)) (am_R M r0 29) x1.toNatClampNeg (0 : Int64)) r0 x1) (fun v13 M14 => fn12_takesOver_b192 N k18 r0 x1 M14) else am_bd (fn12_nets N (am_wJ (am_wI (am_wI M (am_R M r0 27) x1.toNatClampNeg (0 : Int32)) (am_R M r0 28) x1.toNatClampNeg (0 : Int32)) (am_R M r0 29) x1.toNatClampNeg (0 : Int64)) r0 x1) (fun v10 M11 => fn12_takesOver_b192 N k18 r0 x1 M11)))))))))) else am_ck (am_k M r0 12) (am_ck (am_k M (am_R M r0 16) 14) (am_ck (am_in (((29 : Int32) * x1) + x2) (am_L M (am_R M r0 16))) (am_ck (am_k M (am_R M r0 26) 14) (am_ck (am_in (((28 : Int32) * x1) + x2) (am_L M (am_R M r0 26))) (k115 r0 x1 (x2 + (1 : Int32)) (am_wI M (am_R M r0 26) (((28 : Int32) * x1) + x2).toNatClampNeg (am_I M (am_R M r0 16) (((29 : Int32) * x1) + x2).toNatClampNeg)))))))
def fn12_takesOver_b115 (N : Nat) (k18 : Nat → Int32 → am_Mem → Option (Unit × am_Mem)) : Nat → Nat → Int32 → Int32 → am_Mem → Option (Unit × am_Mem)
  | 0 => fun _ _ _ _ => none
  | i + 1 => fn12_takesOver_b115B N k18 (fn12_takesOver_b115 N k18 i)
def fn12_takesOver_b112 (N : Nat) (k18 : Nat → Int32 → am_Mem → Option (Unit × am_Mem)) (c0 : Nat) (a1 : Int32) (a2 : Int32) (r0 : Nat) (x1 : Int32) (M : am_Mem) : Option (Unit × am_Mem) :=
  am_ck (am_k M c0 14) (am_ck (am_in a1 (am_L M c0)) (fn12_takesOver_b115 N k18 N r0 x1 (0 : Int32) (am_wI M c0 a1.toNatClampNeg a2)))
def fn12_takesOver_b84 (N : Nat) (k18 : Nat → Int32 → am_Mem → Option (Unit × am_Mem)) (c0 : Nat) (a1 : Int32) (a2 : Int32) (r0 : Nat) (x1 : Int32) (M : am_Mem) : Option (Unit × am_Mem) :=
  am_ck (am_k M c0 14) (am_ck (am_in a1 (am_L M c0)) (am_ck (am_k M r0 12) (am_ck (am_k M (am_R M r0 13) 14) (am_ck (am_in x1 (am_L M (am_R M r0 13))) (if (am_I (am_wI M c0 a1.toNatClampNeg a2) (am_R M r0 13) x1.toNatClampNeg) = (1 : Int32) then am_ck (am_k M (am_R M r0 14) 14) (am_ck (am_in x1 (am_L M (am_R M r0 14))) (fn12_takesOver_b112 N k18 (am_R M r0 25) x1 ((am_I (am_wI M c0 a1.toNatClampNeg a2) (am_R M r0 14) x1.toNatClampNeg) / (2 : Int32)) r0 x1 (am_wI M c0 a1.toNatClampNeg a2))) else fn12_takesOver_b112 N k18 (am_R M r0 25) x1 (0 : Int32) r0 x1 (am_wI M c0 a1.toNatClampNeg a2))))))
def fn12_takesOver_b28B (N : Nat) (k18 : Nat → Int32 → am_Mem → Option (Unit × am_Mem)) (k28 : Nat → Int32 → Int32 → am_Mem → Option (Unit × am_Mem)) (r0 : Nat) (x1 : Int32) (x2 : Int32) (M : am_Mem) : Option (Unit × am_Mem) :=
  if (124 : Int32) ≤ x2 then am_ck (am_k M r0 12) (am_ck (am_k M (am_R M r0 13) 14) (am_ck (am_in x1 (am_L M (am_R M r0 13))) (am_ck (am_k M (am_R M r0 23) 14) (am_ck (am_in x1 (am_L M (am_R M r0 23))) (am_ck (am_in x1 (am_L M (am_R M r0 13))) (if (am_I (am_wI M (am_R M r0 23) x1.toNatClampNeg (am_I M (am_R M r0 13) x1.toNatClampNeg)) (am_R M r0 13) x1.toNatClampNeg) = (1 : Int32) then am_ck (am_k M (am_R M r0 15) 14) (am_ck (am_in x1 (am_L M (am_R M r0 15))) (fn12_takesOver_b84 N k18 (am_R M r0 24) x1 (am_I (am_wI M (am_R M r0 23) x1.toNatClampNeg (am_I M (am_R M r0 13) x1.toNatClampNeg)) (am_R M r0 15) x1.toNatClampNeg) r0 x1 (am_wI M (am_R M r0 23) x1.toNatClampNeg (am_I M (am_R M r0 13) x1.toNatClampNeg)))) else fn12_takesOver_b84 N k18 (am_R M r0 24) x1 (0 : Int32) r0 x1 (am_wI M (am_R M r0 23) x1.toNatClampNeg (am_I M (am_R M r0 13) x1.toNatClampNeg)))))))) else am_ck (am_k M r0 12) (am_bd (fn12_put M r0 x1 x2 (0 : Int32)) (fun v10 M11 => k28 r0 x1 (x2 + (1 : Int32)) M11))
def fn12_takesOver_b28 (N : Nat) (k18 : Nat → Int32 → am_Mem → Option (Unit × am_Mem)) : Nat → Nat → Int32 → Int32 → am_Mem → Option (Unit × am_Mem)
  | 0 => fun _ _ _ _ => none
  | i + 1 => fn12_takesOver_b28B N k18 (fn12_takesOver_b28 N k18 i)
def fn12_takesOver_b18B (N : Nat) (k18 : Nat → Int32 → am_Mem → Option (Unit × am_Mem)) (r0 : Nat) (x1 : Int32) (M : am_Mem) : Option (Unit × am_Mem) :=
  am_ck (am_k M r0 12) (if (am_I M r0 18) ≤ x1 then am_ck (am_k M (am_R M r0 22) 16) (am_ck (am_in (0 : Int32) (am_L M (am_R M r0 22))) (am_ck (am_in (1 : Int32) (am_L M (am_R M r0 22))) (some ((), (am_wI (am_wI (am_wI M r0 19 (0 : Int32)) (am_R M r0 22) (0 : Int32).toNatClampNeg ((0 : Int32) &&& 1)) (am_R M r0 22) (1 : Int32).toNatClampNeg ((0 : Int32) &&& 1)))))) else fn12_takesOver_b28 N k18 N r0 x1 (0 : Int32) M)
def fn12_takesOver_b18 (N : Nat)  : Nat → Nat → Int32 → am_Mem → Option (Unit × am_Mem)
  | 0 => fun _ _ _ => none
  | i + 1 => fn12_takesOver_b18B N (fn12_takesOver_b18 N  i)
def fn12_takesOver_b0 (N : Nat)  (r0 : Nat) (M : am_Mem) : Option (Unit × am_Mem) :=
  am_ck (am_k M r0 12) (fn12_takesOver_b18 N  N r0 (0 : Int32) (am_wI (am_wI M r0 18 (am_I M r0 11)) r0 40 (am_I (am_wI M r0 18 (am_I M r0 11)) r0 11)))
def fn12_takesOver (N : Nat) (M : am_Mem) (r0 : Nat) : Option (Unit × am_Mem) := fn12_takesOver_b0 N r0 M
def rm12_takesOver : Room := { frames := 25, cells := 0, slots := 0, locals := 658 }
set_option maxRecDepth 20000 in
theorem sn12_takesOver_b192 {l : Launch} {G : am_G} {M' : am_Mem} {N : Nat} {k18 : Nat → Int32 → am_Mem → Option (Unit × am_Mem)} (cx : am_Ctx l rm12_takesOver yX12_takesOver cX12_takesOver 3 none none M' 0 0 G) (hk18 : ∀ (r0 : Nat) (x1 : Int32) (M : am_Mem), k18 r0 x1 M = some ((), M') → G 18 [(0, .inr (.inr (.inl r0))), (1, .inl x1)] [] M 0 0) {r0 : Nat} {x1 : Int32} {M : am_Mem} (hres : fn12_takesOver_b192 N k18 r0 x1 M = some ((), M')) : G 192 [(0, .inr (.inr (.inl r0))), (1, .inl x1)] [] M 0 0 := by
  unfold fn12_takesOver_b192 at hres
  refine am_iincw cx (lv' := [(0, .inr (.inr (.inl r0))), (1, .inl (x1 + (1 : Int32)))]) (w := (1 : Int32)) 1 dX12_takesOver_192 (by decide) rfl (Nat.le_of_ble_eq_true rfl) rfl ?_
  refine am_goto cx (tgt := 18) dX12_takesOver_195 (by decide) ?_
  exact hk18 _ _ _ hres
set_option maxRecDepth 20000 in
theorem sn12_takesOver_b115B {l : Launch} {G : am_G} {M' : am_Mem} {N : Nat} {k18 : Nat → Int32 → am_Mem → Option (Unit × am_Mem)} {k115 : Nat → Int32 → Int32 → am_Mem → Option (Unit × am_Mem)} (cx : am_Ctx l rm12_takesOver yX12_takesOver cX12_takesOver 3 none none M' 0 0 G) (hk18 : ∀ (r0 : Nat) (x1 : Int32) (M : am_Mem), k18 r0 x1 M = some ((), M') → G 18 [(0, .inr (.inr (.inl r0))), (1, .inl x1)] [] M 0 0) (hk115 : ∀ (r0 : Nat) (x1 : Int32) (x2 : Int32) (M : am_Mem), k115 r0 x1 x2 M = some ((), M') → G 115 [(0, .inr (.inr (.inl r0))), (1, .inl x1), (2, .inl x2)] [] M 0 0) {r0 : Nat} {x1 : Int32} {x2 : Int32} {M : am_Mem} (hres : fn12_takesOver_b115B N k18 k115 r0 x1 x2 M = some ((), M')) : G 115 [(0, .inr (.inr (.inl r0))), (1, .inl x1), (2, .inl x2)] [] M 0 0 := by
  unfold fn12_takesOver_b115B at hres
  refine am_iload_n cx 2 dX12_takesOver_115 rfl ?_
  refine am_bipush cx (v := (28 : Int32)) dX12_takesOver_116 (by decide) ?_
  refine am_icmp_ge cx (tgt := 149) dX12_takesOver_118 (by decide) (fun h => ?_) (fun h => ?_)
  · have hres := am_ifp h hres
    refine am_aload_n cx 0 dX12_takesOver_149 rfl ?_
    obtain ⟨q1, hres⟩ := am_ck_some hres
    refine am_getR cx dX12_takesOver_150 flX12_55 (am_ke q1) ?_
    refine am_iload_n cx 1 dX12_takesOver_153 rfl ?_
    refine am_iconst cx (v := (0 : Int32)) dX12_takesOver_154 (by decide) ?_
    obtain ⟨q2, hres⟩ := am_ck_some hres
    obtain ⟨q3, hres⟩ := am_ck_some hres
    refine am_iast cx dX12_takesOver_155 (am_ke q2) q3  ?_
    refine am_aload_n cx 0 dX12_takesOver_156 rfl ?_
    refine am_getR cx dX12_takesOver_157 flX12_58 (am_ke q1) ?_
    refine am_iload_n cx 1 dX12_takesOver_160 rfl ?_
    refine am_iconst cx (v := (0 : Int32)) dX12_takesOver_161 (by decide) ?_
    obtain ⟨q4, hres⟩ := am_ck_some hres
    obtain ⟨q5, hres⟩ := am_ck_some hres
    refine am_iast cx dX12_takesOver_162 (am_ke q4) q5  ?_
    refine am_aload_n cx 0 dX12_takesOver_163 rfl ?_
    refine am_getR cx dX12_takesOver_164 flX12_61 (am_ke q1) ?_
    refine am_iload_n cx 1 dX12_takesOver_167 rfl ?_
    refine am_lconst cx (v := (0 : Int64)) dX12_takesOver_168 (by decide) ?_
    obtain ⟨q6, hres⟩ := am_ck_some hres
    obtain ⟨q7, hres⟩ := am_ck_some hres
    refine am_last cx dX12_takesOver_169 (am_ke q6) q7  ?_
    refine am_aload_n cx 0 dX12_takesOver_170 rfl ?_
    refine am_getR cx dX12_takesOver_171 flX12_43 (am_ke q1) ?_
    refine am_iload_n cx 1 dX12_takesOver_174 rfl ?_
    obtain ⟨q8, hres⟩ := am_ck_some hres
    obtain ⟨q9, hres⟩ := am_ck_some hres
    refine am_iald cx dX12_takesOver_175 (am_ke q8) q9 ?_
    refine am_if_ne cx (tgt := 187) dX12_takesOver_176 (by decide) (fun h => ?_) (fun h => ?_)
    · have hres := am_ifn h hres
      refine am_aload_n cx 0 dX12_takesOver_187 rfl ?_
      refine am_iload_n cx 1 dX12_takesOver_188 rfl ?_
      obtain ⟨v10, M11, q12, hres⟩ := am_bd_some hres
      refine am_callV0 cx [.inl x1] dX12_takesOver_189 cvX12_294 (mt12_nets q12) (am_ke q1) ⟨rfl, rfl, Nat.le_of_ble_eq_true rfl, Nat.le_of_ble_eq_true rfl⟩ rfl (Nat.le_of_ble_eq_true rfl) ⟨Nat.le_of_ble_eq_true rfl, Nat.le_of_ble_eq_true rfl⟩ ?_
      refine am_sub cx [0, 1] rfl ?_
      exact sn12_takesOver_b192 cx hk18 hres
    · have hres := am_ifp h hres
      refine am_aload_n cx 0 dX12_takesOver_179 rfl ?_
      refine am_iload_n cx 1 dX12_takesOver_180 rfl ?_
      obtain ⟨v13, M14, q15, hres⟩ := am_bd_some hres
      refine am_callV0 cx [.inl x1] dX12_takesOver_181 cvX12_291 (mt12_draws q15) (am_ke q1) ⟨rfl, rfl, Nat.le_of_ble_eq_true rfl, Nat.le_of_ble_eq_true rfl⟩ rfl (Nat.le_of_ble_eq_true rfl) ⟨Nat.le_of_ble_eq_true rfl, Nat.le_of_ble_eq_true rfl⟩ ?_
      refine am_goto cx (tgt := 192) dX12_takesOver_184 (by decide) ?_
      refine am_sub cx [0, 1] rfl ?_
      exact sn12_takesOver_b192 cx hk18 hres
  · have hres := am_ifn h hres
    refine am_aload_n cx 0 dX12_takesOver_121 rfl ?_
    obtain ⟨q16, hres⟩ := am_ck_some hres
    refine am_getR cx dX12_takesOver_122 flX12_52 (am_ke q16) ?_
    refine am_bipush cx (v := (28 : Int32)) dX12_takesOver_125 (by decide) ?_
    refine am_iload_n cx 1 dX12_takesOver_127 rfl ?_
    refine am_imul cx dX12_takesOver_128 ?_
    refine am_iload_n cx 2 dX12_takesOver_129 rfl ?_
    refine am_iadd cx dX12_takesOver_130 ?_
    refine am_aload_n cx 0 dX12_takesOver_131 rfl ?_
    refine am_getR cx dX12_takesOver_132 flX12_27 (am_ke q16) ?_
    refine am_bipush cx (v := (29 : Int32)) dX12_takesOver_135 (by decide) ?_
    refine am_iload_n cx 1 dX12_takesOver_137 rfl ?_
    refine am_imul cx dX12_takesOver_138 ?_
    refine am_iload_n cx 2 dX12_takesOver_139 rfl ?_
    refine am_iadd cx dX12_takesOver_140 ?_
    obtain ⟨q17, hres⟩ := am_ck_some hres
    obtain ⟨q18, hres⟩ := am_ck_some hres
    refine am_iald cx dX12_takesOver_141 (am_ke q17) q18 ?_
    obtain ⟨q19, hres⟩ := am_ck_some hres
    obtain ⟨q20, hres⟩ := am_ck_some hres
    refine am_iast cx dX12_takesOver_142 (am_ke q19) q20  ?_
    refine am_iincw cx (lv' := [(0, .inr (.inr (.inl r0))), (1, .inl x1), (2, .inl (x2 + (1 : Int32)))]) (w := (1 : Int32)) 2 dX12_takesOver_143 (by decide) rfl (Nat.le_of_ble_eq_true rfl) rfl ?_
    refine am_goto cx (tgt := 115) dX12_takesOver_146 (by decide) ?_
    exact hk115 _ _ _ _ hres
set_option maxRecDepth 20000 in
theorem sn12_takesOver_b115 {l : Launch} {G : am_G} {M' : am_Mem} {N : Nat} {k18 : Nat → Int32 → am_Mem → Option (Unit × am_Mem)} (cx : am_Ctx l rm12_takesOver yX12_takesOver cX12_takesOver 3 none none M' 0 0 G) (hk18 : ∀ (r0 : Nat) (x1 : Int32) (M : am_Mem), k18 r0 x1 M = some ((), M') → G 18 [(0, .inr (.inr (.inl r0))), (1, .inl x1)] [] M 0 0) (i : Nat) : ∀ (r0 : Nat) (x1 : Int32) (x2 : Int32) (M : am_Mem), fn12_takesOver_b115 N k18 i r0 x1 x2 M = some ((), M') → G 115 [(0, .inr (.inr (.inl r0))), (1, .inl x1), (2, .inl x2)] [] M 0 0 := by
  induction i with
  | zero => intro r0 x1 x2 M hres; exact am_no hres
  | succ i ih => intro r0 x1 x2 M hres; exact sn12_takesOver_b115B cx hk18 ih hres
set_option maxRecDepth 20000 in
theorem sn12_takesOver_b112 {l : Launch} {G : am_G} {M' : am_Mem} {N : Nat} {k18 : Nat → Int32 → am_Mem → Option (Unit × am_Mem)} (cx : am_Ctx l rm12_takesOver yX12_takesOver cX12_takesOver 3 none none M' 0 0 G) (hk18 : ∀ (r0 : Nat) (x1 : Int32) (M : am_Mem), k18 r0 x1 M = some ((), M') → G 18 [(0, .inr (.inr (.inl r0))), (1, .inl x1)] [] M 0 0) {c0 : Nat} {a1 : Int32} {a2 : Int32} {r0 : Nat} {x1 : Int32} {M : am_Mem} (hres : fn12_takesOver_b112 N k18 c0 a1 a2 r0 x1 M = some ((), M')) : G 112 [(0, .inr (.inr (.inl r0))), (1, .inl x1)] [.inl a2, .inl a1, .inr (.inr (.inl c0))] M 0 0 := by
  unfold fn12_takesOver_b112 at hres
  obtain ⟨q1, hres⟩ := am_ck_some hres
  obtain ⟨q2, hres⟩ := am_ck_some hres
  refine am_iast cx dX12_takesOver_112 (am_ke q1) q2  ?_
  refine am_iconst cx (v := (0 : Int32)) dX12_takesOver_113 (by decide) ?_
  refine am_istore_n cx (lv' := [(0, .inr (.inr (.inl r0))), (1, .inl x1), (2, .inl (0 : Int32))]) dX12_takesOver_114 (Nat.le_of_ble_eq_true rfl) rfl ?_
  exact sn12_takesOver_b115 cx hk18 N _ _ _ _ hres
set_option maxRecDepth 20000 in
theorem sn12_takesOver_b84 {l : Launch} {G : am_G} {M' : am_Mem} {N : Nat} {k18 : Nat → Int32 → am_Mem → Option (Unit × am_Mem)} (cx : am_Ctx l rm12_takesOver yX12_takesOver cX12_takesOver 3 none none M' 0 0 G) (hk18 : ∀ (r0 : Nat) (x1 : Int32) (M : am_Mem), k18 r0 x1 M = some ((), M') → G 18 [(0, .inr (.inr (.inl r0))), (1, .inl x1)] [] M 0 0) {c0 : Nat} {a1 : Int32} {a2 : Int32} {r0 : Nat} {x1 : Int32} {M : am_Mem} (hres : fn12_takesOver_b84 N k18 c0 a1 a2 r0 x1 M = some ((), M')) : G 84 [(0, .inr (.inr (.inl r0))), (1, .inl x1)] [.inl a2, .inl a1, .inr (.inr (.inl c0))] M 0 0 := by
  unfold fn12_takesOver_b84 at hres
  obtain ⟨q1, hres⟩ := am_ck_some hres
  obtain ⟨q2, hres⟩ := am_ck_some hres
  refine am_iast cx dX12_takesOver_84 (am_ke q1) q2  ?_
  refine am_aload_n cx 0 dX12_takesOver_85 rfl ?_
  obtain ⟨q3, hres⟩ := am_ck_some hres
  refine am_getR cx dX12_takesOver_86 flX12_49 (am_ke q3) ?_
  refine am_iload_n cx 1 dX12_takesOver_89 rfl ?_
  refine am_aload_n cx 0 dX12_takesOver_90 rfl ?_
  refine am_getR cx dX12_takesOver_91 flX12_17 (am_ke q3) ?_
  refine am_iload_n cx 1 dX12_takesOver_94 rfl ?_
  obtain ⟨q4, hres⟩ := am_ck_some hres
  obtain ⟨q5, hres⟩ := am_ck_some hres
  refine am_iald cx dX12_takesOver_95 (am_ke q4) q5 ?_
  refine am_iconst cx (v := (1 : Int32)) dX12_takesOver_96 (by decide) ?_
  refine am_icmp_ne cx (tgt := 111) dX12_takesOver_97 (by decide) (fun h => ?_) (fun h => ?_)
  · have hres := am_ifn h hres
    refine am_iconst cx (v := (0 : Int32)) dX12_takesOver_111 (by decide) ?_
    exact sn12_takesOver_b112 cx hk18 hres
  · have hres := am_ifp h hres
    refine am_aload_n cx 0 dX12_takesOver_100 rfl ?_
    refine am_getR cx dX12_takesOver_101 flX12_21 (am_ke q3) ?_
    refine am_iload_n cx 1 dX12_takesOver_104 rfl ?_
    obtain ⟨q6, hres⟩ := am_ck_some hres
    obtain ⟨q7, hres⟩ := am_ck_some hres
    refine am_iald cx dX12_takesOver_105 (am_ke q6) q7 ?_
    refine am_iconst cx (v := (2 : Int32)) dX12_takesOver_106 (by decide) ?_
    refine am_idiv cx dX12_takesOver_107 (by decide) ?_
    refine am_goto cx (tgt := 112) dX12_takesOver_108 (by decide) ?_
    exact sn12_takesOver_b112 cx hk18 hres
set_option maxRecDepth 20000 in
theorem sn12_takesOver_b28B {l : Launch} {G : am_G} {M' : am_Mem} {N : Nat} {k18 : Nat → Int32 → am_Mem → Option (Unit × am_Mem)} {k28 : Nat → Int32 → Int32 → am_Mem → Option (Unit × am_Mem)} (cx : am_Ctx l rm12_takesOver yX12_takesOver cX12_takesOver 3 none none M' 0 0 G) (hk18 : ∀ (r0 : Nat) (x1 : Int32) (M : am_Mem), k18 r0 x1 M = some ((), M') → G 18 [(0, .inr (.inr (.inl r0))), (1, .inl x1)] [] M 0 0) (hk28 : ∀ (r0 : Nat) (x1 : Int32) (x2 : Int32) (M : am_Mem), k28 r0 x1 x2 M = some ((), M') → G 28 [(0, .inr (.inr (.inl r0))), (1, .inl x1), (2, .inl x2)] [] M 0 0) {r0 : Nat} {x1 : Int32} {x2 : Int32} {M : am_Mem} (hres : fn12_takesOver_b28B N k18 k28 r0 x1 x2 M = some ((), M')) : G 28 [(0, .inr (.inr (.inl r0))), (1, .inl x1), (2, .inl x2)] [] M 0 0 := by
  unfold fn12_takesOver_b28B at hres
  refine am_iload_n cx 2 dX12_takesOver_28 rfl ?_
  refine am_bipush cx (v := (124 : Int32)) dX12_takesOver_29 (by decide) ?_
  refine am_icmp_ge cx (tgt := 47) dX12_takesOver_31 (by decide) (fun h => ?_) (fun h => ?_)
  · have hres := am_ifp h hres
    refine am_aload_n cx 0 dX12_takesOver_47 rfl ?_
    obtain ⟨q1, hres⟩ := am_ck_some hres
    refine am_getR cx dX12_takesOver_48 flX12_43 (am_ke q1) ?_
    refine am_iload_n cx 1 dX12_takesOver_51 rfl ?_
    refine am_aload_n cx 0 dX12_takesOver_52 rfl ?_
    refine am_getR cx dX12_takesOver_53 flX12_17 (am_ke q1) ?_
    refine am_iload_n cx 1 dX12_takesOver_56 rfl ?_
    obtain ⟨q2, hres⟩ := am_ck_some hres
    obtain ⟨q3, hres⟩ := am_ck_some hres
    refine am_iald cx dX12_takesOver_57 (am_ke q2) q3 ?_
    obtain ⟨q4, hres⟩ := am_ck_some hres
    obtain ⟨q5, hres⟩ := am_ck_some hres
    refine am_iast cx dX12_takesOver_58 (am_ke q4) q5  ?_
    refine am_aload_n cx 0 dX12_takesOver_59 rfl ?_
    refine am_getR cx dX12_takesOver_60 flX12_46 (am_ke q1) ?_
    refine am_iload_n cx 1 dX12_takesOver_63 rfl ?_
    refine am_aload_n cx 0 dX12_takesOver_64 rfl ?_
    refine am_getR cx dX12_takesOver_65 flX12_17 (am_ke q1) ?_
    refine am_iload_n cx 1 dX12_takesOver_68 rfl ?_
    obtain ⟨q6, hres⟩ := am_ck_some hres
    refine am_iald cx dX12_takesOver_69 (am_ke q2) q6 ?_
    refine am_iconst cx (v := (1 : Int32)) dX12_takesOver_70 (by decide) ?_
    refine am_icmp_ne cx (tgt := 83) dX12_takesOver_71 (by decide) (fun h => ?_) (fun h => ?_)
    · have hres := am_ifn h hres
      refine am_iconst cx (v := (0 : Int32)) dX12_takesOver_83 (by decide) ?_
      refine am_sub cx [0, 1] rfl ?_
      exact sn12_takesOver_b84 cx hk18 hres
    · have hres := am_ifp h hres
      refine am_aload_n cx 0 dX12_takesOver_74 rfl ?_
      refine am_getR cx dX12_takesOver_75 flX12_24 (am_ke q1) ?_
      refine am_iload_n cx 1 dX12_takesOver_78 rfl ?_
      obtain ⟨q7, hres⟩ := am_ck_some hres
      obtain ⟨q8, hres⟩ := am_ck_some hres
      refine am_iald cx dX12_takesOver_79 (am_ke q7) q8 ?_
      refine am_goto cx (tgt := 84) dX12_takesOver_80 (by decide) ?_
      refine am_sub cx [0, 1] rfl ?_
      exact sn12_takesOver_b84 cx hk18 hres
  · have hres := am_ifn h hres
    refine am_aload_n cx 0 dX12_takesOver_34 rfl ?_
    refine am_iload_n cx 1 dX12_takesOver_35 rfl ?_
    refine am_iload_n cx 2 dX12_takesOver_36 rfl ?_
    refine am_iconst cx (v := (0 : Int32)) dX12_takesOver_37 (by decide) ?_
    obtain ⟨q9, hres⟩ := am_ck_some hres
    obtain ⟨v10, M11, q12, hres⟩ := am_bd_some hres
    refine am_callV0 cx [.inl x1, .inl x2, .inl (0 : Int32)] dX12_takesOver_38 cvX12_226 (mt12_put q12) (am_ke q9) ⟨rfl, rfl, Nat.le_of_ble_eq_true rfl, Nat.le_of_ble_eq_true rfl⟩ rfl (Nat.le_of_ble_eq_true rfl) ⟨Nat.le_of_ble_eq_true rfl, Nat.le_of_ble_eq_true rfl⟩ ?_
    refine am_iincw cx (lv' := [(0, .inr (.inr (.inl r0))), (1, .inl x1), (2, .inl (x2 + (1 : Int32)))]) (w := (1 : Int32)) 2 dX12_takesOver_41 (by decide) rfl (Nat.le_of_ble_eq_true rfl) rfl ?_
    refine am_goto cx (tgt := 28) dX12_takesOver_44 (by decide) ?_
    exact hk28 _ _ _ _ hres
set_option maxRecDepth 20000 in
theorem sn12_takesOver_b28 {l : Launch} {G : am_G} {M' : am_Mem} {N : Nat} {k18 : Nat → Int32 → am_Mem → Option (Unit × am_Mem)} (cx : am_Ctx l rm12_takesOver yX12_takesOver cX12_takesOver 3 none none M' 0 0 G) (hk18 : ∀ (r0 : Nat) (x1 : Int32) (M : am_Mem), k18 r0 x1 M = some ((), M') → G 18 [(0, .inr (.inr (.inl r0))), (1, .inl x1)] [] M 0 0) (i : Nat) : ∀ (r0 : Nat) (x1 : Int32) (x2 : Int32) (M : am_Mem), fn12_takesOver_b28 N k18 i r0 x1 x2 M = some ((), M') → G 28 [(0, .inr (.inr (.inl r0))), (1, .inl x1), (2, .inl x2)] [] M 0 0 := by
  induction i with
  | zero => intro r0 x1 x2 M hres; exact am_no hres
  | succ i ih => intro r0 x1 x2 M hres; exact sn12_takesOver_b28B cx hk18 ih hres
set_option maxRecDepth 20000 in
theorem sn12_takesOver_b18B {l : Launch} {G : am_G} {M' : am_Mem} {N : Nat} {k18 : Nat → Int32 → am_Mem → Option (Unit × am_Mem)} (cx : am_Ctx l rm12_takesOver yX12_takesOver cX12_takesOver 3 none none M' 0 0 G) (hk18 : ∀ (r0 : Nat) (x1 : Int32) (M : am_Mem), k18 r0 x1 M = some ((), M') → G 18 [(0, .inr (.inr (.inl r0))), (1, .inl x1)] [] M 0 0) {r0 : Nat} {x1 : Int32} {M : am_Mem} (hres : fn12_takesOver_b18B N k18 r0 x1 M = some ((), M')) : G 18 [(0, .inr (.inr (.inl r0))), (1, .inl x1)] [] M 0 0 := by
  unfold fn12_takesOver_b18B at hres
  refine am_iload_n cx 1 dX12_takesOver_18 rfl ?_
  refine am_aload_n cx 0 dX12_takesOver_19 rfl ?_
  obtain ⟨q1, hres⟩ := am_ck_some hres
  refine am_getI cx dX12_takesOver_20 flX12_285 (am_ke q1) ?_
  refine am_icmp_ge cx (tgt := 198) dX12_takesOver_23 (by decide) (fun h => ?_) (fun h => ?_)
  · have hres := am_ifp h hres
    refine am_aload_n cx 0 dX12_takesOver_198 rfl ?_
    refine am_iconst cx (v := (0 : Int32)) dX12_takesOver_199 (by decide) ?_
    refine am_putI cx dX12_takesOver_200 fpX12_297 (fun h => by cases h) (am_ke q1) ?_
    refine am_aload_n cx 0 dX12_takesOver_203 rfl ?_
    refine am_getR cx dX12_takesOver_204 flX12_39 (am_ke q1) ?_
    refine am_iconst cx (v := (0 : Int32)) dX12_takesOver_207 (by decide) ?_
    refine am_iconst cx (v := (0 : Int32)) dX12_takesOver_208 (by decide) ?_
    obtain ⟨q2, hres⟩ := am_ck_some hres
    obtain ⟨q3, hres⟩ := am_ck_some hres
    refine am_zast cx dX12_takesOver_209 (am_ke q2) q3  ?_
    refine am_aload_n cx 0 dX12_takesOver_210 rfl ?_
    refine am_getR cx dX12_takesOver_211 flX12_39 (am_ke q1) ?_
    refine am_iconst cx (v := (1 : Int32)) dX12_takesOver_214 (by decide) ?_
    refine am_iconst cx (v := (0 : Int32)) dX12_takesOver_215 (by decide) ?_
    obtain ⟨q4, hres⟩ := am_ck_some hres
    refine am_zast cx dX12_takesOver_216 (am_ke q2) q4  ?_
    obtain ⟨-, rfl⟩ := am_fin hres
    exact am_vret cx dX12_takesOver_217
  · have hres := am_ifn h hres
    refine am_iconst cx (v := (0 : Int32)) dX12_takesOver_26 (by decide) ?_
    refine am_istore_n cx (lv' := [(0, .inr (.inr (.inl r0))), (1, .inl x1), (2, .inl (0 : Int32))]) dX12_takesOver_27 (Nat.le_of_ble_eq_true rfl) rfl ?_
    exact sn12_takesOver_b28 cx hk18 N _ _ _ _ hres
set_option maxRecDepth 20000 in
theorem sn12_takesOver_b18 {l : Launch} {G : am_G} {M' : am_Mem} {N : Nat}  (cx : am_Ctx l rm12_takesOver yX12_takesOver cX12_takesOver 3 none none M' 0 0 G)  (i : Nat) : ∀ (r0 : Nat) (x1 : Int32) (M : am_Mem), fn12_takesOver_b18 N  i r0 x1 M = some ((), M') → G 18 [(0, .inr (.inr (.inl r0))), (1, .inl x1)] [] M 0 0 := by
  induction i with
  | zero => intro r0 x1 M hres; exact am_no hres
  | succ i ih => intro r0 x1 M hres; exact sn12_takesOver_b18B cx ih hres
set_option maxRecDepth 20000 in
theorem sn12_takesOver_b0 {l : Launch} {G : am_G} {M' : am_Mem} {N : Nat}  (cx : am_Ctx l rm12_takesOver yX12_takesOver cX12_takesOver 3 none none M' 0 0 G)  {r0 : Nat} {M : am_Mem} (hres : fn12_takesOver_b0 N  r0 M = some ((), M')) : G 0 [(0, .inr (.inr (.inl r0)))] [] M 0 0 := by
  unfold fn12_takesOver_b0 at hres
  refine am_aload_n cx 0 dX12_takesOver_0 rfl ?_
  refine am_aload_n cx 0 dX12_takesOver_1 rfl ?_
  obtain ⟨q1, hres⟩ := am_ck_some hres
  refine am_getI cx dX12_takesOver_2 flX12_179 (am_ke q1) ?_
  refine am_putI cx dX12_takesOver_5 fpX12_285 (fun h => by cases h) (am_ke q1) ?_
  refine am_aload_n cx 0 dX12_takesOver_8 rfl ?_
  refine am_aload_n cx 0 dX12_takesOver_9 rfl ?_
  refine am_getI cx dX12_takesOver_10 flX12_179 (am_ke q1) ?_
  refine am_putI cx dX12_takesOver_13 fpX12_288 (fun h => by cases h) (am_ke q1) ?_
  refine am_iconst cx (v := (0 : Int32)) dX12_takesOver_16 (by decide) ?_
  refine am_istore_n cx (lv' := [(0, .inr (.inr (.inl r0))), (1, .inl (0 : Int32))]) dX12_takesOver_17 (Nat.le_of_ble_eq_true rfl) rfl ?_
  exact sn12_takesOver_b18 cx  N _ _ _ hres
set_option maxRecDepth 20000 in
theorem mt12_takesOver {l : Launch} {M M' : am_Mem} {N : Nat} {r0 : Nat} (h : fn12_takesOver N M r0 = some ((), M')) : am_Met l yX12_takesOver cX12_takesOver 3 none rm12_takesOver 0 0 [.inr (.inr (.inl r0))] M none M' := am_mk (by decide) (Nat.le_of_ble_eq_true rfl) (fun G cx => (sn12_takesOver_b0 cx h))
